/-! java/util/Arrays.fill([II)V, height 0 -/
def o_J7_fill_53178_5 (Q : Mm → Prop) (a0 : Nat) : Nat → Mm → Int32 → Int32 → Int32 → Prop
  | 0, _, _, _, _ => False
  | n5 + 1, g, x1, x2, x3 => ((x3 ≤ x2) → Q g) ∧ ((¬ x3 ≤ x2) → vp_in x2 (ln a0) ∧ (∀ g_2 : Mm, g_2 = mset g a0 x2.toNatClampNeg x1 → (∀ x_3 : Int32, x_3 = x2 + 1 → (o_J7_fill_53178_5 Q a0 n5 g_2 x1 x_3 x3))))
set_option maxHeartbeats 4000000 in
set_option maxRecDepth 100000 in
theorem o_J7_fill_53178_5_w {p : Program} {l : Launch} {e : Env} {s : State} {m : MethodId} {args : Array Value} {below : List Frame} {meth : Method} {c : Code} {dC : Nat → ClassId} {dI : Nat → Nat → Nat} {cy : Nat → ClassId} {ad tz : Nat → Nat} {Q : Mm → Prop} {a0 : Nat} (C : CX p s m args meth c dC dI cy ad tz cJ7_fill_53178 4 none RJ7 wsJ7_fill_53178) (ha0 : ly a0 = 9) : ∀ (n : Nat) (g : Mm) (x1 : Int32) (x2 : Int32) (x3 : Int32) (H : Heap) (locs : List Loc) (ls : Array Slot), St dC dI cy ad s g H locs → lv_has ls 4 [(0, .ref (ad a0)), (1, .int x1), (2, .int x2), (3, .int x3)] → o_J7_fill_53178_5 Q a0 n g x1 x2 x3 → W p l e (rmD 0) s m args below meth c H locs 0 0 (QV dC dI cy ad below args s Q) (F0 m 5 ls []) := by
  have hx := C.1.1
  have hb := C.1.2.1
  intro n5
  induction n5 with
  | zero => intro g x1 x2 x3 H locs ls S hl h; exact h.elim
  | succ n5 ih =>
    intro g x1 x2 x3 H locs ls S hl h
    have h : ((x3 ≤ x2) → Q g) ∧ ((¬ x3 ≤ x2) → vp_in x2 (ln a0) ∧ (∀ g_2 : Mm, g_2 = mset g a0 x2.toNatClampNeg x1 → (∀ x_3 : Int32, x_3 = x2 + 1 → (o_J7_fill_53178_5 Q a0 n5 g_2 x1 x_3 x3)))) := h
    refine lv_iload_n hx hb dJ7_fill_53178_5 rfl (lv_at hl 2 rfl) ?_
    refine lv_iload_n hx hb dJ7_fill_53178_6 rfl (lv_at hl 3 rfl) ?_
    refine lv_icmp_ge (tgt := 20) hx hb dJ7_fill_53178_7 (by decide) (fun c1 => ?_) (fun c1 => ?_)
    · have h := h.1 c1
      exact kRv C S h dJ7_fill_53178_20
    · have h := h.2 c1
      refine lv_aload_n hx hb dJ7_fill_53178_10 rfl (lv_at hl 0 rfl) ?_
      refine lv_iload_n hx hb dJ7_fill_53178_11 rfl (lv_at hl 2 rfl) ?_
      refine lv_iload_n hx hb dJ7_fill_53178_12 rfl (lv_at hl 1 rfl) ?_
      obtain ⟨hi, h⟩ := h
      refine kSi C S ha0 rfl hi dJ7_fill_53178_13 (fun g_2 H locs eg_2 S => ?_)
      have h := h g_2 eg_2
      obtain ⟨x_3, ex_3⟩ : ∃ y : Int32, y = x2 + 1 := ⟨_, rfl⟩
      have h := h x_3 ex_3
      refine lv_iinc (v := x_3) (lv' := [(2, .int x_3), (0, .ref (ad a0)), (1, .int x1), (3, .int x3)]) hx hb dJ7_fill_53178_14 hl (k := 2) rfl (by rw [ex_3]; rfl) (by decide) rfl (fun ls hl => ?_)
      refine lv_goto (tgt := 5) hx hb dJ7_fill_53178_17 (by decide) ?_
      exact ih g_2 x1 x_3 x3 _ _ _ S (lv_sub hl [1, 2, 0, 3] rfl) h
def o_J7_fill_53178 (Q : Mm → Prop) (a0 : Nat) (g : Mm) (x1 : Int32) : Prop := ∀ x_1 : Int32, x_1 = (Int32.ofNat (ln a0)) → (∃ n5, o_J7_fill_53178_5 Q a0 n5 g x1 0 x_1)
set_option maxHeartbeats 4000000 in
set_option maxRecDepth 100000 in
theorem o_J7_fill_53178_c {l : Launch} {dC : Nat → ClassId} {dI : Nat → Nat → Nat} {cy : Nat → ClassId} {ad tz : Nat → Nat} {Q : Mm → Prop} {a0 : Nat} {g : Mm} {x1 : Int32} (ha0 : ly a0 = 9) (h : o_J7_fill_53178 Q a0 g x1) : CV l dC dI cy ad tz yJ7_fill_53178 wsJ7_fill_53178 (rmD 0) [.ref (ad a0), .int x1] g Q := by
  refine CV.of (by decide) rfl rfl (Nat.le_of_ble_eq_true rfl) ?_
  intro p e s m args below meth c ls C hl S
  have hl : lv_has ls 4 [(0, .ref (ad a0)), (1, .int x1)] := hl
  have hx := C.1.1
  have hb := C.1.2.1
  unfold o_J7_fill_53178 at h
  refine lv_iconst (v := 0) hx hb dJ7_fill_53178_0 (by decide) ?_
  refine lv_istore_n (lv' := [(2, .int 0), (0, .ref (ad a0)), (1, .int x1)]) hx hb dJ7_fill_53178_1 rfl hl (by decide) rfl (fun ls hl => ?_)
  refine lv_aload_n hx hb dJ7_fill_53178_2 rfl (lv_at hl 1 rfl) ?_
  refine kLen (n := 0) C S ha0 rfl dJ7_fill_53178_3 ?_
  refine lv_topi (fun x_1 ex_1 => ?_)
  have h := h x_1 ex_1
  refine lv_istore_n (lv' := [(3, .int x_1), (2, .int 0), (0, .ref (ad a0)), (1, .int x1)]) hx hb dJ7_fill_53178_4 rfl hl (by decide) rfl (fun ls hl => ?_)
  obtain ⟨n5, h⟩ := h
  refine o_J7_fill_53178_5_w C ha0 n5 g x1 0 x_1 _ _ _ S (lv_sub hl [2, 3, 1, 0] rfl) h
/-! ClawCase$Acts.begin()LClawCase$Before;, height 1 -/
theorem m_X0_begin_1 : Cond.fieldLink RX0 11 "ClawCase$Acts" "ring" "[LClawCase$Before;" ∈ wsX0_begin := List.mem_of_getElem? (i := 1) (by decide +kernel)
theorem n_X0_begin_X0 : ∀ w ∈ wsX00, w ∈ wsX0_begin := mem_by [8, 9, 10] (by decide +kernel)
theorem m_X0_begin_2 : Cond.fieldLink RX0 17 "ClawCase$Acts" "free" "I" ∈ wsX0_begin := List.mem_of_getElem? (i := 2) (by decide +kernel)
theorem m_X0_begin_3 : Cond.fieldLink RX0 21 "ClawCase$Acts" "kept" "I" ∈ wsX0_begin := List.mem_of_getElem? (i := 3) (by decide +kernel)
theorem m_X0_begin_4 : Cond.methodLink RX0 25 Lib.Math.min.name ∈ wsX0_begin := List.mem_of_getElem? (i := 4) (by decide +kernel)
theorem m_X0_begin_5 : Cond.static Lib.Math.min.name ∈ wsX0_begin := List.mem_of_getElem? (i := 5) (by decide +kernel)
theorem m_X0_begin_6 : Cond.initialized "java/lang/Math" ∈ wsX0_begin := List.mem_of_getElem? (i := 6) (by decide +kernel)
theorem m_X0_begin_7 : Cond.code Lib.Math.min.name Lib.Math.min.code 2 (some .int) ∈ wsX0_begin := List.mem_of_getElem? (i := 7) (by decide +kernel)
def o_X0_begin (Q : Nat → Mm → Prop) (g : Mm) : Prop := vp_in (g.1 14 1) 24 ∧ (¬ (24 : Int32) = 0 ∧ (∀ g_2 : Mm, g_2 = mset g 14 1 (((g.1 14 1) + 1) - ((g.1 14 1) + 1) / 24 * 24) → (∀ g_3 : Mm, g_3 = mset g_2 14 2 (if (24 : Int32) < ((g_2.1 14 2) + 1) then 24 else ((g_2.1 14 2) + 1)) → (Q (15 + 1 + (g.1 14 1 : Int32).toNatClampNeg) g_3))))
set_option maxHeartbeats 4000000 in
set_option maxRecDepth 100000 in
theorem o_X0_begin_c {l : Launch} {dC : Nat → ClassId} {dI : Nat → Nat → Nat} {cy : Nat → ClassId} {ad tz : Nat → Nat} {Q : Nat → Mm → Prop} {g : Mm} (h : o_X0_begin Q g) : CR l dC dI cy ad tz yX0_begin wsX0_begin (rmD 1) [.ref (ad 14)] g Q := by
  refine CR.of (by decide) rfl rfl (Nat.le_of_ble_eq_true rfl) ?_
  intro p e s m args below meth c ls C hl S
  have hl : lv_has ls 2 [(0, .ref (ad 14))] := hl
  have hx := C.1.1
  have hb := C.1.2.1
  unfold o_X0_begin at h
  refine lv_aload_n hx hb dX0_begin_0 rfl (lv_at hl 0 rfl) ?_
  refine kg0 (k := 0) (v := .ref (ad 15)) C S rfl (by decide) n_X0_begin_X0 m_X0_begin_1 rfl dX0_begin_1 ?_
  refine lv_aload_n hx hb dX0_begin_4 rfl (lv_at hl 0 rfl) ?_
  refine kg0 (k := 1) (v := .int (g.1 14 1)) C S rfl (by decide) n_X0_begin_X0 m_X0_begin_2 rfl dX0_begin_5 ?_
  obtain ⟨hi_1, h⟩ := h
  refine kAb C S rfl rfl hi_1 dX0_begin_8 ?_
  refine lv_astore_n (lv' := [(1, .ref (ad (15 + 1 + (g.1 14 1 : Int32).toNatClampNeg))), (0, .ref (ad 14))]) hx hb dX0_begin_9 rfl hl (by decide) rfl (fun ls hl => ?_)
  refine lv_aload_n hx hb dX0_begin_10 rfl (lv_at hl 1 rfl) ?_
  refine lv_aload_n hx hb dX0_begin_11 rfl (lv_at hl 1 rfl) ?_
  refine kg0 (k := 1) (v := .int (g.1 14 1)) C S rfl (by decide) n_X0_begin_X0 m_X0_begin_2 rfl dX0_begin_12 ?_
  refine lv_iconst (v := 1) hx hb dX0_begin_15 (by decide) ?_
  refine lv_iadd hx hb dX0_begin_16 ?_
  refine lv_bipush (v := 24) hx hb dX0_begin_17 (by decide) ?_
  obtain ⟨h0, h⟩ := h
  refine lv_irem hx hb dX0_begin_19 h0 ?_
  refine kp0_1 C S rfl n_X0_begin_X0 m_X0_begin_2 dX0_begin_20 (fun g_2 H locs eg_2 S => ?_)
  have h := h g_2 eg_2
  refine lv_aload_n hx hb dX0_begin_23 rfl (lv_at hl 1 rfl) ?_
  refine lv_aload_n hx hb dX0_begin_24 rfl (lv_at hl 1 rfl) ?_
  refine kg0 (k := 2) (v := .int (g_2.1 14 2)) C S rfl (by decide) n_X0_begin_X0 m_X0_begin_3 rfl dX0_begin_25 ?_
  refine lv_iconst (v := 1) hx hb dX0_begin_28 (by decide) ?_
  refine lv_iadd hx hb dX0_begin_29 ?_
  refine lv_bipush (v := 24) hx hb dX0_begin_30 (by decide) ?_
  refine kMin C hl.1 m_X0_begin_4 m_X0_begin_5 m_X0_begin_6 m_X0_begin_7 (Nat.le_of_ble_eq_true rfl) (Nat.le_of_ble_eq_true rfl) dX0_begin_32 ?_
  refine kp0_2 C S rfl n_X0_begin_X0 m_X0_begin_3 dX0_begin_35 (fun g_3 H locs eg_3 S => ?_)
  have h := h g_3 eg_3
  refine lv_aload_n hx hb dX0_begin_38 rfl (lv_at hl 0 rfl) ?_
  exact kRr C S h dX0_begin_39
/-! ClawCase$Acts.forget()V, height 0 -/
theorem m_X0_forget_1 : Cond.fieldLink RX0 21 "ClawCase$Acts" "kept" "I" ∈ wsX0_forget := List.mem_of_getElem? (i := 1) (by decide +kernel)
theorem n_X0_forget_X0 : ∀ w ∈ wsX00, w ∈ wsX0_forget := mem_by [2, 3, 4] (by decide +kernel)
def o_X0_forget (Q : Mm → Prop) (g : Mm) : Prop := ∀ g_1 : Mm, g_1 = mset g 14 2 0 → (Q g_1)
set_option maxHeartbeats 4000000 in
set_option maxRecDepth 100000 in
theorem o_X0_forget_c {l : Launch} {dC : Nat → ClassId} {dI : Nat → Nat → Nat} {cy : Nat → ClassId} {ad tz : Nat → Nat} {Q : Mm → Prop} {g : Mm} (h : o_X0_forget Q g) : CV l dC dI cy ad tz yX0_forget wsX0_forget (rmD 0) [.ref (ad 14)] g Q := by
  refine CV.of (by decide) rfl rfl (Nat.le_of_ble_eq_true rfl) ?_
  intro p e s m args below meth c ls C hl S
  have hl : lv_has ls 1 [(0, .ref (ad 14))] := hl
  have hx := C.1.1
  have hb := C.1.2.1
  unfold o_X0_forget at h
  refine lv_aload_n hx hb dX0_forget_0 rfl (lv_at hl 0 rfl) ?_
  refine lv_iconst (v := 0) hx hb dX0_forget_1 (by decide) ?_
  refine kp0_2 C S rfl n_X0_forget_X0 m_X0_forget_1 dX0_forget_2 (fun g_1 H locs eg_1 S => ?_)
  have h := h g_1 eg_1
  exact kRv C S h dX0_forget_5
/-! ClawCase$Before.giveBack(LClawCase$Box;)V, height 0 -/
theorem m_X2_giveBack_1 : Cond.fieldLink RX2 9 "ClawCase$Before" "plays" "I" ∈ wsX2_giveBack := List.mem_of_getElem? (i := 1) (by decide +kernel)
theorem n_X2_giveBack_X2 : ∀ w ∈ wsX20, w ∈ wsX2_giveBack := mem_by [13, 14, 15, 16, 17, 18] (by decide +kernel)
theorem m_X2_giveBack_2 : Cond.fieldLink RX2 31 "ClawCase$Box" "plays" "I" ∈ wsX2_giveBack := List.mem_of_getElem? (i := 2) (by decide +kernel)
theorem n_X2_giveBack_X3 : ∀ w ∈ wsX30, w ∈ wsX2_giveBack := mem_by [19, 20, 21, 22, 23, 24, 25, 26, 27] (by decide +kernel)
theorem m_X2_giveBack_3 : Cond.fieldLink RX2 15 "ClawCase$Before" "low" "I" ∈ wsX2_giveBack := List.mem_of_getElem? (i := 3) (by decide +kernel)
theorem m_X2_giveBack_4 : Cond.fieldLink RX2 34 "ClawCase$Box" "low" "I" ∈ wsX2_giveBack := List.mem_of_getElem? (i := 4) (by decide +kernel)
theorem m_X2_giveBack_5 : Cond.fieldLink RX2 18 "ClawCase$Before" "high" "I" ∈ wsX2_giveBack := List.mem_of_getElem? (i := 5) (by decide +kernel)
theorem m_X2_giveBack_6 : Cond.fieldLink RX2 35 "ClawCase$Box" "high" "I" ∈ wsX2_giveBack := List.mem_of_getElem? (i := 6) (by decide +kernel)
theorem m_X2_giveBack_7 : Cond.fieldLink RX2 22 "ClawCase$Before" "toy" "I" ∈ wsX2_giveBack := List.mem_of_getElem? (i := 7) (by decide +kernel)
theorem m_X2_giveBack_8 : Cond.constant RX2 21 (-1000000) ∈ wsX2_giveBack := List.mem_of_getElem? (i := 8) (by decide +kernel)
theorem m_X2_giveBack_9 : Cond.fieldLink RX2 36 "ClawCase$Box" "places" "[I" ∈ wsX2_giveBack := List.mem_of_getElem? (i := 9) (by decide +kernel)
theorem m_X2_giveBack_10 : Cond.fieldLink RX2 25 "ClawCase$Before" "place" "I" ∈ wsX2_giveBack := List.mem_of_getElem? (i := 10) (by decide +kernel)
theorem m_X2_giveBack_11 : Cond.fieldLink RX2 40 "ClawCase$Box" "under" "[I" ∈ wsX2_giveBack := List.mem_of_getElem? (i := 11) (by decide +kernel)
theorem m_X2_giveBack_12 : Cond.fieldLink RX2 28 "ClawCase$Before" "under" "I" ∈ wsX2_giveBack := List.mem_of_getElem? (i := 12) (by decide +kernel)
def o_X2_giveBack (Q : Mm → Prop) (j0 : Nat) (j1 : Nat) (g : Mm) : Prop := ∀ g_1 : Mm, g_1 = mset g j1 8 (g.1 j0 0) → (∀ g_2 : Mm, g_2 = mset g_1 j1 5 (g_1.1 j0 1) → (∀ g_3 : Mm, g_3 = mset g_2 j1 6 (g_2.1 j0 2) → ((((g_3.1 j0 3) = (-1000000)) → Q g_3) ∧ ((¬ (g_3.1 j0 3) = (-1000000)) → vp_in (g_3.1 j0 3) 7 ∧ (∀ g_4 : Mm, g_4 = mset g_3 (j1 + 3) (g_3.1 j0 3 : Int32).toNatClampNeg (g_3.1 j0 4) → (vp_in (g_4.1 j0 3) 7 ∧ (∀ g_5 : Mm, g_5 = mset g_4 (j1 + 4) (g_4.1 j0 3 : Int32).toNatClampNeg (g_4.1 j0 5) → (Q g_5))))))))
set_option maxHeartbeats 4000000 in
set_option maxRecDepth 100000 in
theorem o_X2_giveBack_c {l : Launch} {dC : Nat → ClassId} {dI : Nat → Nat → Nat} {cy : Nat → ClassId} {ad tz : Nat → Nat} {Q : Mm → Prop} {j0 : Nat} {j1 : Nat} {g : Mm} (hj0 : ly j0 = 2) (hj1 : ly j1 = 3) (h : o_X2_giveBack Q j0 j1 g) : CV l dC dI cy ad tz yX2_giveBack wsX2_giveBack (rmD 0) [.ref (ad j0), .ref (ad j1)] g Q := by
  refine CV.of (by decide) rfl rfl (Nat.le_of_ble_eq_true rfl) ?_
  intro p e s m args below meth c ls C hl S
  have hl : lv_has ls 2 [(0, .ref (ad j0)), (1, .ref (ad j1))] := hl
  have hx := C.1.1
  have hb := C.1.2.1
  unfold o_X2_giveBack at h
  refine lv_aload_n hx hb dX2_giveBack_0 rfl (lv_at hl 1 rfl) ?_
  refine lv_aload_n hx hb dX2_giveBack_1 rfl (lv_at hl 0 rfl) ?_
  refine kg2 (k := 0) (v := .int (g.1 j0 0)) C S hj0 (by decide) n_X2_giveBack_X2 m_X2_giveBack_1 rfl dX2_giveBack_2 ?_
  refine kp3_8 C S hj1 n_X2_giveBack_X3 m_X2_giveBack_2 dX2_giveBack_5 (fun g_1 H locs eg_1 S => ?_)
  have h := h g_1 eg_1
  refine lv_aload_n hx hb dX2_giveBack_8 rfl (lv_at hl 1 rfl) ?_
  refine lv_aload_n hx hb dX2_giveBack_9 rfl (lv_at hl 0 rfl) ?_
  refine kg2 (k := 1) (v := .int (g_1.1 j0 1)) C S hj0 (by decide) n_X2_giveBack_X2 m_X2_giveBack_3 rfl dX2_giveBack_10 ?_
  refine kp3_5 C S hj1 n_X2_giveBack_X3 m_X2_giveBack_4 dX2_giveBack_13 (fun g_2 H locs eg_2 S => ?_)
  have h := h g_2 eg_2
  refine lv_aload_n hx hb dX2_giveBack_16 rfl (lv_at hl 1 rfl) ?_
  refine lv_aload_n hx hb dX2_giveBack_17 rfl (lv_at hl 0 rfl) ?_
  refine kg2 (k := 2) (v := .int (g_2.1 j0 2)) C S hj0 (by decide) n_X2_giveBack_X2 m_X2_giveBack_5 rfl dX2_giveBack_18 ?_
  refine kp3_6 C S hj1 n_X2_giveBack_X3 m_X2_giveBack_6 dX2_giveBack_21 (fun g_3 H locs eg_3 S => ?_)
  have h := h g_3 eg_3
  refine lv_aload_n hx hb dX2_giveBack_24 rfl (lv_at hl 0 rfl) ?_
  refine kg2 (k := 3) (v := .int (g_3.1 j0 3)) C S hj0 (by decide) n_X2_giveBack_X2 m_X2_giveBack_7 rfl dX2_giveBack_25 ?_
  refine kLdc C m_X2_giveBack_8 dX2_giveBack_28 ?_
  refine lv_icmp_eq (tgt := 59) hx hb dX2_giveBack_30 (by decide) (fun c1 => ?_) (fun c1 => ?_)
  · have h := h.1 c1
    exact kRv C S h dX2_giveBack_59
  · have h := h.2 c1
    refine lv_aload_n hx hb dX2_giveBack_33 rfl (lv_at hl 1 rfl) ?_
    refine kg3 (k := 2) (v := .ref (ad (j1 + 3))) C S hj1 (by decide) n_X2_giveBack_X3 m_X2_giveBack_9 rfl dX2_giveBack_34 ?_
    refine lv_aload_n hx hb dX2_giveBack_37 rfl (lv_at hl 0 rfl) ?_
    refine kg2 (k := 3) (v := .int (g_3.1 j0 3)) C S hj0 (by decide) n_X2_giveBack_X2 m_X2_giveBack_7 rfl dX2_giveBack_38 ?_
    refine lv_aload_n hx hb dX2_giveBack_41 rfl (lv_at hl 0 rfl) ?_
    refine kg2 (k := 4) (v := .int (g_3.1 j0 4)) C S hj0 (by decide) n_X2_giveBack_X2 m_X2_giveBack_10 rfl dX2_giveBack_42 ?_
    obtain ⟨hi, h⟩ := h
    refine kSi C S ((lyB hj1).2.2.1.1) ((lyB hj1).2.2.1.2) hi dX2_giveBack_45 (fun g_4 H locs eg_4 S => ?_)
    have h := h g_4 eg_4
    refine lv_aload_n hx hb dX2_giveBack_46 rfl (lv_at hl 1 rfl) ?_
    refine kg3 (k := 3) (v := .ref (ad (j1 + 4))) C S hj1 (by decide) n_X2_giveBack_X3 m_X2_giveBack_11 rfl dX2_giveBack_47 ?_
    refine lv_aload_n hx hb dX2_giveBack_50 rfl (lv_at hl 0 rfl) ?_
    refine kg2 (k := 3) (v := .int (g_4.1 j0 3)) C S hj0 (by decide) n_X2_giveBack_X2 m_X2_giveBack_7 rfl dX2_giveBack_51 ?_
    refine lv_aload_n hx hb dX2_giveBack_54 rfl (lv_at hl 0 rfl) ?_
    refine kg2 (k := 5) (v := .int (g_4.1 j0 5)) C S hj0 (by decide) n_X2_giveBack_X2 m_X2_giveBack_12 rfl dX2_giveBack_55 ?_
    obtain ⟨hi, h⟩ := h
    refine kSi C S ((lyB hj1).2.2.2.1) ((lyB hj1).2.2.2.2) hi dX2_giveBack_58 (fun g_5 H locs eg_5 S => ?_)
    have h := h g_5 eg_5
    exact kRv C S h dX2_giveBack_59
/-! ClawCase$Acts.takeBack(LClawCase$Box;)I, height 1 -/
theorem m_X0_takeBack_1 : Cond.fieldLink RX0 17 "ClawCase$Acts" "free" "I" ∈ wsX0_takeBack := List.mem_of_getElem? (i := 1) (by decide +kernel)
theorem n_X0_takeBack_X0 : ∀ w ∈ wsX00, w ∈ wsX0_takeBack := mem_by [21, 22, 23] (by decide +kernel)
theorem m_X0_takeBack_2 : Cond.fieldLink RX0 21 "ClawCase$Acts" "kept" "I" ∈ wsX0_takeBack := List.mem_of_getElem? (i := 2) (by decide +kernel)
theorem m_X0_takeBack_3 : Cond.fieldLink RX0 11 "ClawCase$Acts" "ring" "[LClawCase$Before;" ∈ wsX0_takeBack := List.mem_of_getElem? (i := 3) (by decide +kernel)
theorem cw_X0_takeBack_X2_giveBack {s : State} {args : Array Value} (ht : ∀ w ∈ wsX0_takeBack, w.before args s = true) : CallW (rmD 1) s args RX0 RX2 31 yX2_giveBack cX2_giveBack 2 none wsX2_giveBack (rmD (0)) 0 0 1 := cwV 1 ht gX0_takeBack_X2_giveBack rfl rfl rfl (by decide +kernel) ⟨Nat.le_of_ble_eq_true rfl, Nat.le_of_ble_eq_true rfl⟩
def o_X0_takeBack (Q : Int32 → Mm → Prop) (j1 : Nat) (g : Mm) : Prop := ¬ (24 : Int32) = 0 ∧ (∀ g_1 : Mm, g_1 = mset g 14 1 ((((g.1 14 1) + 24) - 1) - (((g.1 14 1) + 24) - 1) / 24 * 24) → (∀ g_2 : Mm, g_2 = mset g_1 14 2 ((g_1.1 14 2) - 1) → (vp_in (g_2.1 14 1) 24 ∧ (o_X2_giveBack (fun (g_4 : Mm) => Q (g_4.1 14 2) g_4) (15 + 1 + (g_2.1 14 1 : Int32).toNatClampNeg) j1 g_2))))
set_option maxHeartbeats 4000000 in
set_option maxRecDepth 100000 in
theorem o_X0_takeBack_c {l : Launch} {dC : Nat → ClassId} {dI : Nat → Nat → Nat} {cy : Nat → ClassId} {ad tz : Nat → Nat} {Q : Int32 → Mm → Prop} {j1 : Nat} {g : Mm} (hj1 : ly j1 = 3) (h : o_X0_takeBack Q j1 g) : CI l dC dI cy ad tz yX0_takeBack wsX0_takeBack (rmD 1) [.ref (ad 14), .ref (ad j1)] g Q := by
  refine CI.of (by decide) rfl rfl (Nat.le_of_ble_eq_true rfl) ?_
  intro p e s m args below meth c ls C hl S
  have hl : lv_has ls 2 [(0, .ref (ad 14)), (1, .ref (ad j1))] := hl
  have hx := C.1.1
  have hb := C.1.2.1
  unfold o_X0_takeBack at h
  refine lv_aload_n hx hb dX0_takeBack_0 rfl (lv_at hl 0 rfl) ?_
  refine lv_aload_n hx hb dX0_takeBack_1 rfl (lv_at hl 0 rfl) ?_
  refine kg0 (k := 1) (v := .int (g.1 14 1)) C S rfl (by decide) n_X0_takeBack_X0 m_X0_takeBack_1 rfl dX0_takeBack_2 ?_
  refine lv_bipush (v := 24) hx hb dX0_takeBack_5 (by decide) ?_
  refine lv_iadd hx hb dX0_takeBack_7 ?_
  refine lv_iconst (v := 1) hx hb dX0_takeBack_8 (by decide) ?_
  refine lv_isub hx hb dX0_takeBack_9 ?_
  refine lv_bipush (v := 24) hx hb dX0_takeBack_10 (by decide) ?_
  obtain ⟨h0, h⟩ := h
  refine lv_irem hx hb dX0_takeBack_12 h0 ?_
  refine kp0_1 C S rfl n_X0_takeBack_X0 m_X0_takeBack_1 dX0_takeBack_13 (fun g_1 H locs eg_1 S => ?_)
  have h := h g_1 eg_1
  refine lv_aload_n hx hb dX0_takeBack_16 rfl (lv_at hl 0 rfl) ?_
  refine lv_dup hx hb dX0_takeBack_17 rfl ?_
  refine kg0 (k := 2) (v := .int (g_1.1 14 2)) C S rfl (by decide) n_X0_takeBack_X0 m_X0_takeBack_2 rfl dX0_takeBack_18 ?_
  refine lv_iconst (v := 1) hx hb dX0_takeBack_21 (by decide) ?_
  refine lv_isub hx hb dX0_takeBack_22 ?_
  refine kp0_2 C S rfl n_X0_takeBack_X0 m_X0_takeBack_2 dX0_takeBack_23 (fun g_2 H locs eg_2 S => ?_)
  have h := h g_2 eg_2
  refine lv_aload_n hx hb dX0_takeBack_26 rfl (lv_at hl 0 rfl) ?_
  refine kg0 (k := 0) (v := .ref (ad 15)) C S rfl (by decide) n_X0_takeBack_X0 m_X0_takeBack_3 rfl dX0_takeBack_27 ?_
  refine lv_aload_n hx hb dX0_takeBack_30 rfl (lv_at hl 0 rfl) ?_
  refine kg0 (k := 1) (v := .int (g_2.1 14 1)) C S rfl (by decide) n_X0_takeBack_X0 m_X0_takeBack_1 rfl dX0_takeBack_31 ?_
  obtain ⟨hi_3, h⟩ := h
  refine kAb C S rfl rfl hi_3 dX0_takeBack_34 ?_
  refine lv_aload_n hx hb dX0_takeBack_35 rfl (lv_at hl 1 rfl) ?_
  refine kV_v (As := [.ref (ad j1)]) (rest := []) C S hl.1 (o_X2_giveBack_c (ly_ring _ (in_lt hi_3)) hj1 h) (wd_o2 (ly_ring _ (in_lt hi_3))) rfl (cw_X0_takeBack_X2_giveBack C.1.2.2.2.2) rfl rfl (Nat.le_of_ble_eq_true rfl) dX0_takeBack_36 (fun g_4 H locs h S => ?_)
  refine lv_aload_n hx hb dX0_takeBack_39 rfl (lv_at hl 0 rfl) ?_
  refine kg0 (k := 2) (v := .int (g_4.1 14 2)) C S rfl (by decide) n_X0_takeBack_X0 m_X0_takeBack_2 rfl dX0_takeBack_40 ?_
  exact kRi C S h dX0_takeBack_43
/-! ClawCase$Asked.give(LClawCase$Box;III)I, height 0 -/
theorem m_X1_give_1 : Cond.fieldLink RX1 15 "ClawCase$Asked" "begun" "I" ∈ wsX1_give := List.mem_of_getElem? (i := 1) (by decide +kernel)
theorem n_X1_give_X1 : ∀ w ∈ wsX10, w ∈ wsX1_give := mem_by [12, 13] (by decide +kernel)
theorem m_X1_give_3 : Cond.fieldLink RX1 23 "ClawCase$Box" "kinds" "[I" ∈ wsX1_give := List.mem_of_getElem? (i := 3) (by decide +kernel)
theorem n_X1_give_X3 : ∀ w ∈ wsX30, w ∈ wsX1_give := mem_by [14, 15, 16, 17, 18, 19, 20, 21, 22] (by decide +kernel)
theorem m_X1_give_4 : Cond.fieldLink RX1 28 "ClawCase$Box" "weights" "[I" ∈ wsX1_give := List.mem_of_getElem? (i := 4) (by decide +kernel)
theorem m_X1_give_5 : Cond.fieldLink RX1 31 "ClawCase$Asked" "MARK" "[I" ∈ wsX1_give := List.mem_of_getElem? (i := 5) (by decide +kernel)
theorem cw_X1_give_X1_give {s : State} {args : Array Value} {nr : Nat} (ht : ∀ w ∈ wsX1_give, w.before args s = true) : CallW (rmD (0 + (nr + 1))) s args RX1 RX1 19 yX1_give cX1_give 7 (some .int) wsX1_give (rmD (0 + nr)) 0 0 4 := cwV 4 ht gX1_give_X1_give rfl rfl rfl (by decide +kernel) ⟨by show (0 + nr) + 1 ≤ (0 + (nr + 1)); omega, by show 8 + (7 + 11) + 64 * (0 + nr) ≤ 64 * (0 + (nr + 1)); omega⟩
theorem m_X1_give_6 : Cond.fieldLink RX1 34 "ClawCase$Box" "places" "[I" ∈ wsX1_give := List.mem_of_getElem? (i := 6) (by decide +kernel)
theorem m_X1_give_7 : Cond.fieldLink RX1 37 "ClawCase$Asked" "SIZE" "[I" ∈ wsX1_give := List.mem_of_getElem? (i := 7) (by decide +kernel)
theorem m_X1_give_2 : Cond.fieldLink RX1 9 "ClawCase$Asked" "bodies" "[I" ∈ wsX1_give := List.mem_of_getElem? (i := 2) (by decide +kernel)
def o_X1_give_38 (Q : Int32 → Mm → Prop) (F : (Int32 → Mm → Prop) → Nat → Mm → Int32 → Int32 → Int32 → Prop) (j1 : Nat) (g : Mm) (x2 : Int32) (x3 : Int32) (x4 : Int32) : Prop := ∀ x_1 : Int32, x_1 = (x4 + 1) → (vp_in x2 7 ∧ (∀ x_2 : Int32, x_2 = (g.1 (j1 + 1) x2.toNatClampNeg) → ((x3 = 10 → vp_in x2 7 ∧ (Q (g.1 (j1 + 2) x2.toNatClampNeg) g)) ∧ (x3 = 11 → F (fun (r_4 : Int32) (g_3 : Mm) => vp_in x_2 6 ∧ (F (fun (r_6 : Int32) (g_5 : Mm) => Q (r_4 + r_6) g_5) j1 g_3 x2 (tzM x_2.toNatClampNeg) x_1)) j1 g x2 10 x_1) ∧ (x3 = 12 → F (fun (r_8 : Int32) (g_7 : Mm) => Q (-r_8) g_7) j1 g x2 11 x_1) ∧ (x3 = 13 → F (fun (r_10 : Int32) (g_9 : Mm) => Q (r_10 - 100) g_9) j1 g x2 10 x_1) ∧ (x3 = 14 → F (fun (r_12 : Int32) (g_11 : Mm) => Q (2 * r_12) g_11) j1 g x2 13 x_1) ∧ (x3 = 20 → Q x2 g) ∧ (x3 = 21 → F (fun (r_14 : Int32) (g_13 : Mm) => vp_in x2 7 ∧ (Q (r_14 + (g_13.1 (j1 + 3) x2.toNatClampNeg)) g_13)) j1 g x2 20 x_1) ∧ (x3 = 22 → F (fun (r_16 : Int32) (g_15 : Mm) => Q (r_16 - 1000) g_15) j1 g x2 21 x_1) ∧ (x3 = 23 → F (fun (r_18 : Int32) (g_17 : Mm) => vp_in x_2 6 ∧ (F (fun (r_20 : Int32) (g_19 : Mm) => Q (r_18 - r_20) g_19) j1 g_17 x2 (tzS x_2.toNatClampNeg) x_1)) j1 g x2 20 x_1) ∧ (x3 = 24 → F (fun (r_22 : Int32) (g_21 : Mm) => Q (2 * r_22) g_21) j1 g x2 21 x_1) ∧ ((¬ x3 = 10 ∧ ¬ x3 = 11 ∧ ¬ x3 = 12 ∧ ¬ x3 = 13 ∧ ¬ x3 = 14 ∧ ¬ x3 = 20 ∧ ¬ x3 = 21 ∧ ¬ x3 = 22 ∧ ¬ x3 = 23 ∧ ¬ x3 = 24) → Q 0 g))))
set_option maxHeartbeats 4000000 in
set_option maxRecDepth 100000 in
theorem o_X1_give_38_w {p : Program} {l : Launch} {e : Env} {s : State} {m : MethodId} {args : Array Value} {below : List Frame} {meth : Method} {c : Code} {dC : Nat → ClassId} {dI : Nat → Nat → Nat} {cy : Nat → ClassId} {ad tz : Nat → Nat} {nr : Nat} {F : (Int32 → Mm → Prop) → Nat → Mm → Int32 → Int32 → Int32 → Prop} {Q : Int32 → Mm → Prop} {j1 : Nat} (C : CX p s m args meth c dC dI cy ad tz cX1_give 7 (some .int) RX1 wsX1_give) (ihr : ∀ {Q : Int32 → Mm → Prop} {j1 : Nat} {g : Mm} {x2 : Int32} {x3 : Int32} {x4 : Int32} (hj1 : ly j1 = 3), F Q j1 g x2 x3 x4 → CI l dC dI cy ad tz yX1_give wsX1_give (rmD (0 + nr)) [.ref (ad 58), .ref (ad j1), .int x2, .int x3, .int x4] g Q) (hj1 : ly j1 = 3) : ∀ (g : Mm) (x2 : Int32) (x3 : Int32) (x4 : Int32) (H : Heap) (locs : List Loc) (ls : Array Slot), St dC dI cy ad s g H locs → lv_has ls 7 [(0, .ref (ad 58)), (1, .ref (ad j1)), (2, .int x2), (3, .int x3), (4, .int x4)] → o_X1_give_38 Q F j1 g x2 x3 x4 → W p l e (rmD (0 + (nr + 1))) s m args below meth c H locs 0 0 (QI dC dI cy ad below args s Q) (F0 m 38 ls []) := by
  have hx := C.1.1
  have hb := C.1.2.1
  intro g x2 x3 x4 H locs ls S hl h
  unfold o_X1_give_38 at h
  refine lv_iload hx hb dX1_give_38 (lv_at hl 4 rfl) ?_
  refine lv_iconst (v := 1) hx hb dX1_give_40 (by decide) ?_
  refine lv_iadd hx hb dX1_give_41 ?_
  refine lv_topi (fun x_1 ex_1 => ?_)
  have h := h x_1 ex_1
  refine lv_istore (lv' := [(5, .int x_1), (0, .ref (ad 58)), (1, .ref (ad j1)), (2, .int x2), (3, .int x3), (4, .int x4)]) hx hb dX1_give_42 hl (by decide) rfl (fun ls hl => ?_)
  refine lv_aload_n hx hb dX1_give_44 rfl (lv_at hl 2 rfl) ?_
  refine kg3 (k := 0) (v := .ref (ad (j1 + 1))) C S hj1 (by decide) n_X1_give_X3 m_X1_give_3 rfl dX1_give_45 ?_
  refine lv_iload_n hx hb dX1_give_48 rfl (lv_at hl 3 rfl) ?_
  obtain ⟨hi, h⟩ := h
  refine kLi C S ((lyB hj1).1.1) ((lyB hj1).1.2) hi dX1_give_49 ?_
  refine lv_topi (fun x_2 ex_2 => ?_)
  have h := h x_2 ex_2
  refine lv_istore (lv' := [(6, .int x_2), (5, .int x_1), (0, .ref (ad 58)), (1, .ref (ad j1)), (2, .int x2), (3, .int x3), (4, .int x4)]) hx hb dX1_give_50 hl (by decide) rfl (fun ls hl => ?_)
  refine lv_iload_n hx hb dX1_give_52 rfl (lv_at hl 5 rfl) ?_
  by_cases c10 : x3 = 10
  · have h := h.1 c10
    refine lv_tableIn (off := 75) (tgt := 128) hx hb dX1_give_53 (by rw [c10]; decide) (by rw [c10]; decide) (by rw [c10]; decide) (by decide) ?_
    refine lv_aload_n hx hb dX1_give_128 rfl (lv_at hl 3 rfl) ?_
    refine kg3 (k := 1) (v := .ref (ad (j1 + 2))) C S hj1 (by decide) n_X1_give_X3 m_X1_give_4 rfl dX1_give_129 ?_
    refine lv_iload_n hx hb dX1_give_132 rfl (lv_at hl 4 rfl) ?_
    obtain ⟨hi, h⟩ := h
    refine kLi C S ((lyB hj1).2.1.1) ((lyB hj1).2.1.2) hi dX1_give_133 ?_
    exact kRi C S h dX1_give_134
  by_cases c11 : x3 = 11
  · have h := h.2.1 c11
    refine lv_tableIn (off := 82) (tgt := 135) hx hb dX1_give_53 (by rw [c11]; decide) (by rw [c11]; decide) (by rw [c11]; decide) (by decide) ?_
    refine lv_aload_n hx hb dX1_give_135 rfl (lv_at hl 2 rfl) ?_
    refine lv_aload_n hx hb dX1_give_136 rfl (lv_at hl 3 rfl) ?_
    refine lv_iload_n hx hb dX1_give_137 rfl (lv_at hl 4 rfl) ?_
    refine lv_bipush (v := 10) hx hb dX1_give_138 (by decide) ?_
    refine lv_iload hx hb dX1_give_140 (lv_at hl 1 rfl) ?_
    refine kV_i (As := [.ref (ad j1), .int x2, .int 10, .int x_1]) (rest := []) C S hl.1 (ihr hj1 h) (wd_o1 rfl) rfl (cw_X1_give_X1_give C.1.2.2.2.2) rfl rfl (Nat.le_of_ble_eq_true rfl) dX1_give_142 (fun r_4 g_3 H locs h S => ?_)
    refine lv_aload_n hx hb dX1_give_145 rfl (lv_at hl 2 rfl) ?_
    refine lv_aload_n hx hb dX1_give_146 rfl (lv_at hl 3 rfl) ?_
    refine lv_iload_n hx hb dX1_give_147 rfl (lv_at hl 4 rfl) ?_
    refine kGM C S m_X1_give_5 dX1_give_148 ?_
    refine lv_iload hx hb dX1_give_151 (lv_at hl 0 rfl) ?_
    obtain ⟨hi, h⟩ := h
    refine kTM C S hi dX1_give_153 ?_
    refine lv_iload hx hb dX1_give_154 (lv_at hl 1 rfl) ?_
    refine kV_i (As := [.ref (ad j1), .int x2, .int (tzM x_2.toNatClampNeg), .int x_1]) (rest := [.int r_4]) C S hl.1 (ihr hj1 h) (wd_o1 rfl) rfl (cw_X1_give_X1_give C.1.2.2.2.2) rfl rfl (Nat.le_of_ble_eq_true rfl) dX1_give_156 (fun r_6 g_5 H locs h S => ?_)
    refine lv_iadd hx hb dX1_give_159 ?_
    exact kRi C S h dX1_give_160
  by_cases c12 : x3 = 12
  · have h := h.2.2.1 c12
    refine lv_tableIn (off := 108) (tgt := 161) hx hb dX1_give_53 (by rw [c12]; decide) (by rw [c12]; decide) (by rw [c12]; decide) (by decide) ?_
    refine lv_aload_n hx hb dX1_give_161 rfl (lv_at hl 2 rfl) ?_
    refine lv_aload_n hx hb dX1_give_162 rfl (lv_at hl 3 rfl) ?_
    refine lv_iload_n hx hb dX1_give_163 rfl (lv_at hl 4 rfl) ?_
    refine lv_bipush (v := 11) hx hb dX1_give_164 (by decide) ?_
    refine lv_iload hx hb dX1_give_166 (lv_at hl 1 rfl) ?_
    refine kV_i (As := [.ref (ad j1), .int x2, .int 11, .int x_1]) (rest := []) C S hl.1 (ihr hj1 h) (wd_o1 rfl) rfl (cw_X1_give_X1_give C.1.2.2.2.2) rfl rfl (Nat.le_of_ble_eq_true rfl) dX1_give_168 (fun r_8 g_7 H locs h S => ?_)
    refine lv_ineg hx hb dX1_give_171 ?_
    exact kRi C S h dX1_give_172
  by_cases c13 : x3 = 13
  · have h := h.2.2.2.1 c13
    refine lv_tableIn (off := 120) (tgt := 173) hx hb dX1_give_53 (by rw [c13]; decide) (by rw [c13]; decide) (by rw [c13]; decide) (by decide) ?_
    refine lv_aload_n hx hb dX1_give_173 rfl (lv_at hl 2 rfl) ?_
    refine lv_aload_n hx hb dX1_give_174 rfl (lv_at hl 3 rfl) ?_
    refine lv_iload_n hx hb dX1_give_175 rfl (lv_at hl 4 rfl) ?_
    refine lv_bipush (v := 10) hx hb dX1_give_176 (by decide) ?_
    refine lv_iload hx hb dX1_give_178 (lv_at hl 1 rfl) ?_
    refine kV_i (As := [.ref (ad j1), .int x2, .int 10, .int x_1]) (rest := []) C S hl.1 (ihr hj1 h) (wd_o1 rfl) rfl (cw_X1_give_X1_give C.1.2.2.2.2) rfl rfl (Nat.le_of_ble_eq_true rfl) dX1_give_180 (fun r_10 g_9 H locs h S => ?_)
    refine lv_bipush (v := 100) hx hb dX1_give_183 (by decide) ?_
    refine lv_isub hx hb dX1_give_185 ?_
    exact kRi C S h dX1_give_186
  by_cases c14 : x3 = 14
  · have h := h.2.2.2.2.1 c14
    refine lv_tableIn (off := 134) (tgt := 187) hx hb dX1_give_53 (by rw [c14]; decide) (by rw [c14]; decide) (by rw [c14]; decide) (by decide) ?_
    refine lv_iconst (v := 2) hx hb dX1_give_187 (by decide) ?_
    refine lv_aload_n hx hb dX1_give_188 rfl (lv_at hl 2 rfl) ?_
    refine lv_aload_n hx hb dX1_give_189 rfl (lv_at hl 3 rfl) ?_
    refine lv_iload_n hx hb dX1_give_190 rfl (lv_at hl 4 rfl) ?_
    refine lv_bipush (v := 13) hx hb dX1_give_191 (by decide) ?_
    refine lv_iload hx hb dX1_give_193 (lv_at hl 1 rfl) ?_
    refine kV_i (As := [.ref (ad j1), .int x2, .int 13, .int x_1]) (rest := [.int 2]) C S hl.1 (ihr hj1 h) (wd_o1 rfl) rfl (cw_X1_give_X1_give C.1.2.2.2.2) rfl rfl (Nat.le_of_ble_eq_true rfl) dX1_give_195 (fun r_12 g_11 H locs h S => ?_)
    refine lv_imul hx hb dX1_give_198 ?_
    exact kRi C S h dX1_give_199
  by_cases c20 : x3 = 20
  · have h := h.2.2.2.2.2.1 c20
    refine lv_tableIn (off := 147) (tgt := 200) hx hb dX1_give_53 (by rw [c20]; decide) (by rw [c20]; decide) (by rw [c20]; decide) (by decide) ?_
    refine lv_iload_n hx hb dX1_give_200 rfl (lv_at hl 4 rfl) ?_
    exact kRi C S h dX1_give_201
  by_cases c21 : x3 = 21
  · have h := h.2.2.2.2.2.2.1 c21
    refine lv_tableIn (off := 149) (tgt := 202) hx hb dX1_give_53 (by rw [c21]; decide) (by rw [c21]; decide) (by rw [c21]; decide) (by decide) ?_
    refine lv_aload_n hx hb dX1_give_202 rfl (lv_at hl 2 rfl) ?_
    refine lv_aload_n hx hb dX1_give_203 rfl (lv_at hl 3 rfl) ?_
    refine lv_iload_n hx hb dX1_give_204 rfl (lv_at hl 4 rfl) ?_
    refine lv_bipush (v := 20) hx hb dX1_give_205 (by decide) ?_
    refine lv_iload hx hb dX1_give_207 (lv_at hl 1 rfl) ?_
    refine kV_i (As := [.ref (ad j1), .int x2, .int 20, .int x_1]) (rest := []) C S hl.1 (ihr hj1 h) (wd_o1 rfl) rfl (cw_X1_give_X1_give C.1.2.2.2.2) rfl rfl (Nat.le_of_ble_eq_true rfl) dX1_give_209 (fun r_14 g_13 H locs h S => ?_)
    refine lv_aload_n hx hb dX1_give_212 rfl (lv_at hl 3 rfl) ?_
    refine kg3 (k := 2) (v := .ref (ad (j1 + 3))) C S hj1 (by decide) n_X1_give_X3 m_X1_give_6 rfl dX1_give_213 ?_
    refine lv_iload_n hx hb dX1_give_216 rfl (lv_at hl 4 rfl) ?_
    obtain ⟨hi, h⟩ := h
    refine kLi C S ((lyB hj1).2.2.1.1) ((lyB hj1).2.2.1.2) hi dX1_give_217 ?_
    refine lv_iadd hx hb dX1_give_218 ?_
    exact kRi C S h dX1_give_219
  by_cases c22 : x3 = 22
  · have h := h.2.2.2.2.2.2.2.1 c22
    refine lv_tableIn (off := 167) (tgt := 220) hx hb dX1_give_53 (by rw [c22]; decide) (by rw [c22]; decide) (by rw [c22]; decide) (by decide) ?_
    refine lv_aload_n hx hb dX1_give_220 rfl (lv_at hl 2 rfl) ?_
    refine lv_aload_n hx hb dX1_give_221 rfl (lv_at hl 3 rfl) ?_
    refine lv_iload_n hx hb dX1_give_222 rfl (lv_at hl 4 rfl) ?_
    refine lv_bipush (v := 21) hx hb dX1_give_223 (by decide) ?_
    refine lv_iload hx hb dX1_give_225 (lv_at hl 1 rfl) ?_
    refine kV_i (As := [.ref (ad j1), .int x2, .int 21, .int x_1]) (rest := []) C S hl.1 (ihr hj1 h) (wd_o1 rfl) rfl (cw_X1_give_X1_give C.1.2.2.2.2) rfl rfl (Nat.le_of_ble_eq_true rfl) dX1_give_227 (fun r_16 g_15 H locs h S => ?_)
    refine lv_sipush (v := 1000) hx hb dX1_give_230 (by decide) ?_
    refine lv_isub hx hb dX1_give_233 ?_
    exact kRi C S h dX1_give_234
  by_cases c23 : x3 = 23
  · have h := h.2.2.2.2.2.2.2.2.1 c23
    refine lv_tableIn (off := 182) (tgt := 235) hx hb dX1_give_53 (by rw [c23]; decide) (by rw [c23]; decide) (by rw [c23]; decide) (by decide) ?_
    refine lv_aload_n hx hb dX1_give_235 rfl (lv_at hl 2 rfl) ?_
    refine lv_aload_n hx hb dX1_give_236 rfl (lv_at hl 3 rfl) ?_
    refine lv_iload_n hx hb dX1_give_237 rfl (lv_at hl 4 rfl) ?_
    refine lv_bipush (v := 20) hx hb dX1_give_238 (by decide) ?_
    refine lv_iload hx hb dX1_give_240 (lv_at hl 1 rfl) ?_
    refine kV_i (As := [.ref (ad j1), .int x2, .int 20, .int x_1]) (rest := []) C S hl.1 (ihr hj1 h) (wd_o1 rfl) rfl (cw_X1_give_X1_give C.1.2.2.2.2) rfl rfl (Nat.le_of_ble_eq_true rfl) dX1_give_242 (fun r_18 g_17 H locs h S => ?_)
    refine lv_aload_n hx hb dX1_give_245 rfl (lv_at hl 2 rfl) ?_
    refine lv_aload_n hx hb dX1_give_246 rfl (lv_at hl 3 rfl) ?_
    refine lv_iload_n hx hb dX1_give_247 rfl (lv_at hl 4 rfl) ?_
    refine kGS C S m_X1_give_7 dX1_give_248 ?_
    refine lv_iload hx hb dX1_give_251 (lv_at hl 0 rfl) ?_
    obtain ⟨hi, h⟩ := h
    refine kTS C S hi dX1_give_253 ?_
    refine lv_iload hx hb dX1_give_254 (lv_at hl 1 rfl) ?_
    refine kV_i (As := [.ref (ad j1), .int x2, .int (tzS x_2.toNatClampNeg), .int x_1]) (rest := [.int r_18]) C S hl.1 (ihr hj1 h) (wd_o1 rfl) rfl (cw_X1_give_X1_give C.1.2.2.2.2) rfl rfl (Nat.le_of_ble_eq_true rfl) dX1_give_256 (fun r_20 g_19 H locs h S => ?_)
    refine lv_isub hx hb dX1_give_259 ?_
    exact kRi C S h dX1_give_260
  by_cases c24 : x3 = 24
  · have h := h.2.2.2.2.2.2.2.2.2.1 c24
    refine lv_tableIn (off := 208) (tgt := 261) hx hb dX1_give_53 (by rw [c24]; decide) (by rw [c24]; decide) (by rw [c24]; decide) (by decide) ?_
    refine lv_iconst (v := 2) hx hb dX1_give_261 (by decide) ?_
    refine lv_aload_n hx hb dX1_give_262 rfl (lv_at hl 2 rfl) ?_
    refine lv_aload_n hx hb dX1_give_263 rfl (lv_at hl 3 rfl) ?_
    refine lv_iload_n hx hb dX1_give_264 rfl (lv_at hl 4 rfl) ?_
    refine lv_bipush (v := 21) hx hb dX1_give_265 (by decide) ?_
    refine lv_iload hx hb dX1_give_267 (lv_at hl 1 rfl) ?_
    refine kV_i (As := [.ref (ad j1), .int x2, .int 21, .int x_1]) (rest := [.int 2]) C S hl.1 (ihr hj1 h) (wd_o1 rfl) rfl (cw_X1_give_X1_give C.1.2.2.2.2) rfl rfl (Nat.le_of_ble_eq_true rfl) dX1_give_269 (fun r_22 g_21 H locs h S => ?_)
    refine lv_imul hx hb dX1_give_272 ?_
    exact kRi C S h dX1_give_273
  have h := h.2.2.2.2.2.2.2.2.2.2 ⟨c10, c11, c12, c13, c14, c20, c21, c22, c23, c24⟩
  by_cases c15 : x3 = 15
  · refine lv_tableIn (off := 221) (tgt := 274) hx hb dX1_give_53 (by rw [c15]; decide) (by rw [c15]; decide) (by rw [c15]; decide) (by decide) ?_
    refine lv_iconst (v := 0) hx hb dX1_give_274 (by decide) ?_
    exact kRi C S h dX1_give_275
  by_cases c16 : x3 = 16
  · refine lv_tableIn (off := 221) (tgt := 274) hx hb dX1_give_53 (by rw [c16]; decide) (by rw [c16]; decide) (by rw [c16]; decide) (by decide) ?_
    refine lv_iconst (v := 0) hx hb dX1_give_274 (by decide) ?_
    exact kRi C S h dX1_give_275
  by_cases c17 : x3 = 17
  · refine lv_tableIn (off := 221) (tgt := 274) hx hb dX1_give_53 (by rw [c17]; decide) (by rw [c17]; decide) (by rw [c17]; decide) (by decide) ?_
    refine lv_iconst (v := 0) hx hb dX1_give_274 (by decide) ?_
    exact kRi C S h dX1_give_275
  by_cases c18 : x3 = 18
  · refine lv_tableIn (off := 221) (tgt := 274) hx hb dX1_give_53 (by rw [c18]; decide) (by rw [c18]; decide) (by rw [c18]; decide) (by decide) ?_
    refine lv_iconst (v := 0) hx hb dX1_give_274 (by decide) ?_
    exact kRi C S h dX1_give_275
  by_cases c19 : x3 = 19
  · refine lv_tableIn (off := 221) (tgt := 274) hx hb dX1_give_53 (by rw [c19]; decide) (by rw [c19]; decide) (by rw [c19]; decide) (by decide) ?_
    refine lv_iconst (v := 0) hx hb dX1_give_274 (by decide) ?_
    exact kRi C S h dX1_give_275
  refine lv_tableOut (tgt := 274) hx hb dX1_give_53 (tb_out 10 24 ?_) (by decide) ?_
  · intro k h1 h2
    rcases (show k = 10 ∨ k = 11 ∨ k = 12 ∨ k = 13 ∨ k = 14 ∨ k = 15 ∨ k = 16 ∨ k = 17 ∨ k = 18 ∨ k = 19 ∨ k = 20 ∨ k = 21 ∨ k = 22 ∨ k = 23 ∨ k = 24 by omega) with rfl | rfl | rfl | rfl | rfl | rfl | rfl | rfl | rfl | rfl | rfl | rfl | rfl | rfl | rfl
    · exact lk_ne c10 (by decide)
    · exact lk_ne c11 (by decide)
    · exact lk_ne c12 (by decide)
    · exact lk_ne c13 (by decide)
    · exact lk_ne c14 (by decide)
    · exact lk_ne c15 (by decide)
    · exact lk_ne c16 (by decide)
    · exact lk_ne c17 (by decide)
    · exact lk_ne c18 (by decide)
    · exact lk_ne c19 (by decide)
    · exact lk_ne c20 (by decide)
    · exact lk_ne c21 (by decide)
    · exact lk_ne c22 (by decide)
    · exact lk_ne c23 (by decide)
    · exact lk_ne c24 (by decide)
  refine lv_iconst (v := 0) hx hb dX1_give_274 (by decide) ?_
  exact kRi C S h dX1_give_275
def o_X1_give_0 (F : (Int32 → Mm → Prop) → Nat → Mm → Int32 → Int32 → Int32 → Prop) (Q : Int32 → Mm → Prop) (j1 : Nat) (g : Mm) (x2 : Int32) (x3 : Int32) (x4 : Int32) : Prop := ((x4 < 16) → ((16 ≤ (g.1 58 1)) → o_X1_give_38 Q F j1 g x2 x3 x4) ∧ ((¬ 16 ≤ (g.1 58 1)) → vp_in (g.1 58 1) 16 ∧ (∀ g_23 : Mm, g_23 = mset g 59 (g.1 58 1 : Int32).toNatClampNeg x3 → (∀ g_24 : Mm, g_24 = mset g_23 58 1 ((g_23.1 58 1) + 1) → (o_X1_give_38 Q F j1 g_24 x2 x3 x4))))) ∧ ((¬ x4 < 16) → Q 0 g)
def o_X1_give : Nat → (Int32 → Mm → Prop) → Nat → Mm → Int32 → Int32 → Int32 → Prop
  | 0 => fun _ _ _ _ _ _ => False
  | nr + 1 => fun Q j1 g x2 x3 x4 => o_X1_give_0 (o_X1_give nr) Q j1 g x2 x3 x4
set_option maxHeartbeats 4000000 in
set_option maxRecDepth 100000 in
theorem o_X1_give_0_c {l : Launch} {dC : Nat → ClassId} {dI : Nat → Nat → Nat} {cy : Nat → ClassId} {ad tz : Nat → Nat} {nr : Nat} {F : (Int32 → Mm → Prop) → Nat → Mm → Int32 → Int32 → Int32 → Prop} (ihr : ∀ {Q : Int32 → Mm → Prop} {j1 : Nat} {g : Mm} {x2 : Int32} {x3 : Int32} {x4 : Int32} (hj1 : ly j1 = 3), F Q j1 g x2 x3 x4 → CI l dC dI cy ad tz yX1_give wsX1_give (rmD (0 + nr)) [.ref (ad 58), .ref (ad j1), .int x2, .int x3, .int x4] g Q) {Q : Int32 → Mm → Prop} {j1 : Nat} {g : Mm} {x2 : Int32} {x3 : Int32} {x4 : Int32} (hj1 : ly j1 = 3) (h : o_X1_give_0 F Q j1 g x2 x3 x4) : CI l dC dI cy ad tz yX1_give wsX1_give (rmD (0 + (nr + 1))) [.ref (ad 58), .ref (ad j1), .int x2, .int x3, .int x4] g Q := by
  refine CI.of (by decide) rfl rfl (Nat.le_of_ble_eq_true rfl) ?_
  intro p e s m args below meth c ls C hl S
  have hl : lv_has ls 7 [(0, .ref (ad 58)), (1, .ref (ad j1)), (2, .int x2), (3, .int x3), (4, .int x4)] := hl
  have hx := C.1.1
  have hb := C.1.2.1
  unfold o_X1_give_0 at h
  refine lv_iload hx hb dX1_give_0 (lv_at hl 4 rfl) ?_
  refine lv_bipush (v := 16) hx hb dX1_give_2 (by decide) ?_
  refine lv_icmp_lt (tgt := 9) hx hb dX1_give_4 (by decide) (fun c1 => ?_) (fun c1 => ?_)
  · have h := h.1 c1
    refine lv_aload_n hx hb dX1_give_9 rfl (lv_at hl 0 rfl) ?_
    refine kg1 (k := 1) (v := .int (g.1 58 1)) C S rfl (by decide) n_X1_give_X1 m_X1_give_1 rfl dX1_give_10 ?_
    refine lv_bipush (v := 16) hx hb dX1_give_13 (by decide) ?_
    refine lv_icmp_ge (tgt := 38) hx hb dX1_give_15 (by decide) (fun c1 => ?_) (fun c1 => ?_)
    · have h := h.1 c1
      exact o_X1_give_38_w C ihr hj1 g x2 x3 x4 _ _ _ S (lv_sub hl [0, 1, 2, 3, 4] rfl) h
    · have h := h.2 c1
      refine lv_aload_n hx hb dX1_give_18 rfl (lv_at hl 0 rfl) ?_
      refine kg1 (k := 0) (v := .ref (ad 59)) C S rfl (by decide) n_X1_give_X1 m_X1_give_2 rfl dX1_give_19 ?_
      refine lv_aload_n hx hb dX1_give_22 rfl (lv_at hl 0 rfl) ?_
      refine kg1 (k := 1) (v := .int (g.1 58 1)) C S rfl (by decide) n_X1_give_X1 m_X1_give_1 rfl dX1_give_23 ?_
      refine lv_iload_n hx hb dX1_give_26 rfl (lv_at hl 3 rfl) ?_
      obtain ⟨hi, h⟩ := h
      refine kSi C S rfl rfl hi dX1_give_27 (fun g_23 H locs eg_23 S => ?_)
      have h := h g_23 eg_23
      refine lv_aload_n hx hb dX1_give_28 rfl (lv_at hl 0 rfl) ?_
      refine lv_dup hx hb dX1_give_29 rfl ?_
      refine kg1 (k := 1) (v := .int (g_23.1 58 1)) C S rfl (by decide) n_X1_give_X1 m_X1_give_1 rfl dX1_give_30 ?_
      refine lv_iconst (v := 1) hx hb dX1_give_33 (by decide) ?_
      refine lv_iadd hx hb dX1_give_34 ?_
      refine kp1_1 C S rfl n_X1_give_X1 m_X1_give_1 dX1_give_35 (fun g_24 H locs eg_24 S => ?_)
      have h := h g_24 eg_24
      exact o_X1_give_38_w C ihr hj1 g_24 x2 x3 x4 _ _ _ S (lv_sub hl [0, 1, 2, 3, 4] rfl) h
  · have h := h.2 c1
    refine lv_iconst (v := 0) hx hb dX1_give_7 (by decide) ?_
    exact kRi C S h dX1_give_8
theorem o_X1_give_c {l : Launch} {dC : Nat → ClassId} {dI : Nat → Nat → Nat} {cy : Nat → ClassId} {ad tz : Nat → Nat} : ∀ (nr : Nat) {Q : Int32 → Mm → Prop} {j1 : Nat} {g : Mm} {x2 : Int32} {x3 : Int32} {x4 : Int32} (hj1 : ly j1 = 3), o_X1_give nr Q j1 g x2 x3 x4 → CI l dC dI cy ad tz yX1_give wsX1_give (rmD (0 + nr)) [.ref (ad 58), .ref (ad j1), .int x2, .int x3, .int x4] g Q := by
  intro nr
  induction nr with
  | zero => intro Q j1 g x2 x3 x4 hj1 h; exact absurd h (fun q => q)
  | succ nr ih => intro Q j1 g x2 x3 x4 hj1 h; exact o_X1_give_0_c (F := o_X1_give nr) (fun {Q} {j1} {g} {x2} {x3} {x4} hj1 h => ih hj1 h) hj1 h
/-! ClawCase$Asked.answer(LClawCase$Box;II)I, height 18 -/
theorem m_X1_answer_1 : Cond.fieldLink RX1 15 "ClawCase$Asked" "begun" "I" ∈ wsX1_answer := List.mem_of_getElem? (i := 1) (by decide +kernel)
theorem n_X1_answer_X1 : ∀ w ∈ wsX10, w ∈ wsX1_answer := mem_by [13, 14] (by decide +kernel)
theorem cw_X1_answer_X1_give {s : State} {args : Array Value} (ht : ∀ w ∈ wsX1_answer, w.before args s = true) : CallW (rmD 18) s args RX1 RX1 19 yX1_give cX1_give 7 (some .int) wsX1_give (rmD (0 + 17)) 0 0 4 := cwV 4 ht gX1_answer_X1_give rfl rfl rfl (by decide +kernel) ⟨Nat.le_of_ble_eq_true rfl, Nat.le_of_ble_eq_true rfl⟩
def o_X1_answer (Q : Int32 → Mm → Prop) (j1 : Nat) (g : Mm) (x2 : Int32) (x3 : Int32) : Prop := ∀ g_1 : Mm, g_1 = mset g 58 1 0 → (o_X1_give 17 (fun (r_3 : Int32) (g_2 : Mm) => Q r_3 g_2) j1 g_1 x2 x3 0)
set_option maxHeartbeats 4000000 in
set_option maxRecDepth 100000 in
theorem o_X1_answer_c {l : Launch} {dC : Nat → ClassId} {dI : Nat → Nat → Nat} {cy : Nat → ClassId} {ad tz : Nat → Nat} {Q : Int32 → Mm → Prop} {j1 : Nat} {g : Mm} {x2 : Int32} {x3 : Int32} (hj1 : ly j1 = 3) (h : o_X1_answer Q j1 g x2 x3) : CI l dC dI cy ad tz yX1_answer wsX1_answer (rmD 18) [.ref (ad 58), .ref (ad j1), .int x2, .int x3] g Q := by
  refine CI.of (by decide) rfl rfl (Nat.le_of_ble_eq_true rfl) ?_
  intro p e s m args below meth c ls C hl S
  have hl : lv_has ls 4 [(0, .ref (ad 58)), (1, .ref (ad j1)), (2, .int x2), (3, .int x3)] := hl
  have hx := C.1.1
  have hb := C.1.2.1
  unfold o_X1_answer at h
  refine lv_aload_n hx hb dX1_answer_0 rfl (lv_at hl 0 rfl) ?_
  refine lv_iconst (v := 0) hx hb dX1_answer_1 (by decide) ?_
  refine kp1_1 C S rfl n_X1_answer_X1 m_X1_answer_1 dX1_answer_2 (fun g_1 H locs eg_1 S => ?_)
  have h := h g_1 eg_1
  refine lv_aload_n hx hb dX1_answer_5 rfl (lv_at hl 0 rfl) ?_
  refine lv_aload_n hx hb dX1_answer_6 rfl (lv_at hl 1 rfl) ?_
  refine lv_iload_n hx hb dX1_answer_7 rfl (lv_at hl 2 rfl) ?_
  refine lv_iload_n hx hb dX1_answer_8 rfl (lv_at hl 3 rfl) ?_
  refine lv_iconst (v := 0) hx hb dX1_answer_9 (by decide) ?_
  refine kV_i (As := [.ref (ad j1), .int x2, .int x3, .int 0]) (rest := []) C S hl.1 (o_X1_give_c 17 hj1 h) (wd_o1 rfl) rfl (cw_X1_answer_X1_give C.1.2.2.2.2) rfl rfl (Nat.le_of_ble_eq_true rfl) dX1_answer_10 (fun r_3 g_2 H locs h S => ?_)
  exact kRi C S h dX1_answer_13
/-! ClawCase$Before.keep(LClawCase$Box;I)V, height 0 -/
theorem m_X2_keep_1 : Cond.fieldLink RX2 31 "ClawCase$Box" "plays" "I" ∈ wsX2_keep := List.mem_of_getElem? (i := 1) (by decide +kernel)
theorem n_X2_keep_X3 : ∀ w ∈ wsX30, w ∈ wsX2_keep := mem_by [13, 14, 15, 16, 17, 18, 19, 20, 21] (by decide +kernel)
theorem m_X2_keep_2 : Cond.fieldLink RX2 9 "ClawCase$Before" "plays" "I" ∈ wsX2_keep := List.mem_of_getElem? (i := 2) (by decide +kernel)
theorem n_X2_keep_X2 : ∀ w ∈ wsX20, w ∈ wsX2_keep := mem_by [22, 23, 24, 25, 26, 27] (by decide +kernel)
theorem m_X2_keep_3 : Cond.fieldLink RX2 34 "ClawCase$Box" "low" "I" ∈ wsX2_keep := List.mem_of_getElem? (i := 3) (by decide +kernel)
theorem m_X2_keep_4 : Cond.fieldLink RX2 15 "ClawCase$Before" "low" "I" ∈ wsX2_keep := List.mem_of_getElem? (i := 4) (by decide +kernel)
theorem m_X2_keep_5 : Cond.fieldLink RX2 35 "ClawCase$Box" "high" "I" ∈ wsX2_keep := List.mem_of_getElem? (i := 5) (by decide +kernel)
theorem m_X2_keep_6 : Cond.fieldLink RX2 18 "ClawCase$Before" "high" "I" ∈ wsX2_keep := List.mem_of_getElem? (i := 6) (by decide +kernel)
theorem m_X2_keep_7 : Cond.fieldLink RX2 22 "ClawCase$Before" "toy" "I" ∈ wsX2_keep := List.mem_of_getElem? (i := 7) (by decide +kernel)
theorem m_X2_keep_8 : Cond.constant RX2 21 (-1000000) ∈ wsX2_keep := List.mem_of_getElem? (i := 8) (by decide +kernel)
theorem m_X2_keep_9 : Cond.fieldLink RX2 36 "ClawCase$Box" "places" "[I" ∈ wsX2_keep := List.mem_of_getElem? (i := 9) (by decide +kernel)
theorem m_X2_keep_10 : Cond.fieldLink RX2 25 "ClawCase$Before" "place" "I" ∈ wsX2_keep := List.mem_of_getElem? (i := 10) (by decide +kernel)
theorem m_X2_keep_11 : Cond.fieldLink RX2 40 "ClawCase$Box" "under" "[I" ∈ wsX2_keep := List.mem_of_getElem? (i := 11) (by decide +kernel)
theorem m_X2_keep_12 : Cond.fieldLink RX2 28 "ClawCase$Before" "under" "I" ∈ wsX2_keep := List.mem_of_getElem? (i := 12) (by decide +kernel)
def o_X2_keep (Q : Mm → Prop) (j0 : Nat) (j1 : Nat) (g : Mm) (x2 : Int32) : Prop := ∀ g_1 : Mm, g_1 = mset g j0 0 (g.1 j1 8) → (∀ g_2 : Mm, g_2 = mset g_1 j0 1 (g_1.1 j1 5) → (∀ g_3 : Mm, g_3 = mset g_2 j0 2 (g_2.1 j1 6) → (∀ g_4 : Mm, g_4 = mset g_3 j0 3 x2 → (((x2 = (-1000000)) → Q g_4) ∧ ((¬ x2 = (-1000000)) → vp_in x2 7 ∧ (∀ g_5 : Mm, g_5 = mset g_4 j0 4 (g_4.1 (j1 + 3) x2.toNatClampNeg) → (vp_in x2 7 ∧ (∀ g_6 : Mm, g_6 = mset g_5 j0 5 (g_5.1 (j1 + 4) x2.toNatClampNeg) → (Q g_6)))))))))
set_option maxHeartbeats 4000000 in
set_option maxRecDepth 100000 in
theorem o_X2_keep_c {l : Launch} {dC : Nat → ClassId} {dI : Nat → Nat → Nat} {cy : Nat → ClassId} {ad tz : Nat → Nat} {Q : Mm → Prop} {j0 : Nat} {j1 : Nat} {g : Mm} {x2 : Int32} (hj0 : ly j0 = 2) (hj1 : ly j1 = 3) (h : o_X2_keep Q j0 j1 g x2) : CV l dC dI cy ad tz yX2_keep wsX2_keep (rmD 0) [.ref (ad j0), .ref (ad j1), .int x2] g Q := by
  refine CV.of (by decide) rfl rfl (Nat.le_of_ble_eq_true rfl) ?_
  intro p e s m args below meth c ls C hl S
  have hl : lv_has ls 3 [(0, .ref (ad j0)), (1, .ref (ad j1)), (2, .int x2)] := hl
  have hx := C.1.1
  have hb := C.1.2.1
  unfold o_X2_keep at h
  refine lv_aload_n hx hb dX2_keep_0 rfl (lv_at hl 0 rfl) ?_
  refine lv_aload_n hx hb dX2_keep_1 rfl (lv_at hl 1 rfl) ?_
  refine kg3 (k := 8) (v := .int (g.1 j1 8)) C S hj1 (by decide) n_X2_keep_X3 m_X2_keep_1 rfl dX2_keep_2 ?_
  refine kp2_0 C S hj0 n_X2_keep_X2 m_X2_keep_2 dX2_keep_5 (fun g_1 H locs eg_1 S => ?_)
  have h := h g_1 eg_1
  refine lv_aload_n hx hb dX2_keep_8 rfl (lv_at hl 0 rfl) ?_
  refine lv_aload_n hx hb dX2_keep_9 rfl (lv_at hl 1 rfl) ?_
  refine kg3 (k := 5) (v := .int (g_1.1 j1 5)) C S hj1 (by decide) n_X2_keep_X3 m_X2_keep_3 rfl dX2_keep_10 ?_
  refine kp2_1 C S hj0 n_X2_keep_X2 m_X2_keep_4 dX2_keep_13 (fun g_2 H locs eg_2 S => ?_)
  have h := h g_2 eg_2
  refine lv_aload_n hx hb dX2_keep_16 rfl (lv_at hl 0 rfl) ?_
  refine lv_aload_n hx hb dX2_keep_17 rfl (lv_at hl 1 rfl) ?_
  refine kg3 (k := 6) (v := .int (g_2.1 j1 6)) C S hj1 (by decide) n_X2_keep_X3 m_X2_keep_5 rfl dX2_keep_18 ?_
  refine kp2_2 C S hj0 n_X2_keep_X2 m_X2_keep_6 dX2_keep_21 (fun g_3 H locs eg_3 S => ?_)
  have h := h g_3 eg_3
  refine lv_aload_n hx hb dX2_keep_24 rfl (lv_at hl 0 rfl) ?_
  refine lv_iload_n hx hb dX2_keep_25 rfl (lv_at hl 2 rfl) ?_
  refine kp2_3 C S hj0 n_X2_keep_X2 m_X2_keep_7 dX2_keep_26 (fun g_4 H locs eg_4 S => ?_)
  have h := h g_4 eg_4
  refine lv_iload_n hx hb dX2_keep_29 rfl (lv_at hl 2 rfl) ?_
  refine kLdc C m_X2_keep_8 dX2_keep_30 ?_
  refine lv_icmp_eq (tgt := 55) hx hb dX2_keep_32 (by decide) (fun c1 => ?_) (fun c1 => ?_)
  · have h := h.1 c1
    exact kRv C S h dX2_keep_55
  · have h := h.2 c1
    refine lv_aload_n hx hb dX2_keep_35 rfl (lv_at hl 0 rfl) ?_
    refine lv_aload_n hx hb dX2_keep_36 rfl (lv_at hl 1 rfl) ?_
    refine kg3 (k := 2) (v := .ref (ad (j1 + 3))) C S hj1 (by decide) n_X2_keep_X3 m_X2_keep_9 rfl dX2_keep_37 ?_
    refine lv_iload_n hx hb dX2_keep_40 rfl (lv_at hl 2 rfl) ?_
    obtain ⟨hi, h⟩ := h
    refine kLi C S ((lyB hj1).2.2.1.1) ((lyB hj1).2.2.1.2) hi dX2_keep_41 ?_
    refine kp2_4 C S hj0 n_X2_keep_X2 m_X2_keep_10 dX2_keep_42 (fun g_5 H locs eg_5 S => ?_)
    have h := h g_5 eg_5
    refine lv_aload_n hx hb dX2_keep_45 rfl (lv_at hl 0 rfl) ?_
    refine lv_aload_n hx hb dX2_keep_46 rfl (lv_at hl 1 rfl) ?_
    refine kg3 (k := 3) (v := .ref (ad (j1 + 4))) C S hj1 (by decide) n_X2_keep_X3 m_X2_keep_11 rfl dX2_keep_47 ?_
    refine lv_iload_n hx hb dX2_keep_50 rfl (lv_at hl 2 rfl) ?_
    obtain ⟨hi, h⟩ := h
    refine kLi C S ((lyB hj1).2.2.2.1) ((lyB hj1).2.2.2.2) hi dX2_keep_51 ?_
    refine kp2_5 C S hj0 n_X2_keep_X2 m_X2_keep_12 dX2_keep_52 (fun g_6 H locs eg_6 S => ?_)
    have h := h g_6 eg_6
    exact kRv C S h dX2_keep_55
/-! ClawCase$Box.howMany(I)I, height 0 -/
theorem m_X3_howMany_1 : Cond.fieldLink RX3 24 "ClawCase$Box" "toys" "I" ∈ wsX3_howMany := List.mem_of_getElem? (i := 1) (by decide +kernel)
theorem n_X3_howMany_X3 : ∀ w ∈ wsX30, w ∈ wsX3_howMany := mem_by [3, 4, 5, 6, 7, 8, 9, 10, 11] (by decide +kernel)
theorem m_X3_howMany_2 : Cond.fieldLink RX3 18 "ClawCase$Box" "places" "[I" ∈ wsX3_howMany := List.mem_of_getElem? (i := 2) (by decide +kernel)
def o_X3_howMany_25 (Q : Int32 → Mm → Prop) (K4 : Mm → Int32 → Int32 → Int32 → Prop) (j0 : Nat) (g : Mm) (x1 : Int32) (x2 : Int32) (x3 : Int32) : Prop := ∀ x_1 : Int32, x_1 = x3 + 1 → (K4 g x1 x2 x_1)
def o_X3_howMany_4 (Q : Int32 → Mm → Prop) (j0 : Nat) : Nat → Mm → Int32 → Int32 → Int32 → Prop
  | 0, _, _, _, _ => False
  | n4 + 1, g, x1, x2, x3 => (((g.1 j0 4) ≤ x3) → Q x2 g) ∧ ((¬ (g.1 j0 4) ≤ x3) → vp_in x3 7 ∧ (((¬ (g.1 (j0 + 3) x3.toNatClampNeg) = x1) → o_X3_howMany_25 Q (o_X3_howMany_4 Q j0 n4) j0 g x1 x2 x3) ∧ (((g.1 (j0 + 3) x3.toNatClampNeg) = x1) → ∀ x_2 : Int32, x_2 = x2 + 1 → (o_X3_howMany_25 Q (o_X3_howMany_4 Q j0 n4) j0 g x1 x_2 x3))))
set_option maxHeartbeats 4000000 in
set_option maxRecDepth 100000 in
theorem o_X3_howMany_25_w {p : Program} {l : Launch} {e : Env} {s : State} {m : MethodId} {args : Array Value} {below : List Frame} {meth : Method} {c : Code} {dC : Nat → ClassId} {dI : Nat → Nat → Nat} {cy : Nat → ClassId} {ad tz : Nat → Nat} {Q : Int32 → Mm → Prop} {K4 : Mm → Int32 → Int32 → Int32 → Prop} {j0 : Nat} (C : CX p s m args meth c dC dI cy ad tz cX3_howMany 4 (some .int) RX3 wsX3_howMany) (hj0 : ly j0 = 3) (hK4 : ∀ (g : Mm) (x1 : Int32) (x2 : Int32) (x3 : Int32) (H : Heap) (locs : List Loc) (ls : Array Slot), St dC dI cy ad s g H locs → lv_has ls 4 [(0, .ref (ad j0)), (1, .int x1), (2, .int x2), (3, .int x3)] → K4 g x1 x2 x3 → W p l e (rmD 0) s m args below meth c H locs 0 0 (QI dC dI cy ad below args s Q) (F0 m 4 ls [])) : ∀ (g : Mm) (x1 : Int32) (x2 : Int32) (x3 : Int32) (H : Heap) (locs : List Loc) (ls : Array Slot), St dC dI cy ad s g H locs → lv_has ls 4 [(0, .ref (ad j0)), (1, .int x1), (2, .int x2), (3, .int x3)] → o_X3_howMany_25 Q K4 j0 g x1 x2 x3 → W p l e (rmD 0) s m args below meth c H locs 0 0 (QI dC dI cy ad below args s Q) (F0 m 25 ls []) := by
  have hx := C.1.1
  have hb := C.1.2.1
  intro g x1 x2 x3 H locs ls S hl h
  unfold o_X3_howMany_25 at h
  obtain ⟨x_1, ex_1⟩ : ∃ y : Int32, y = x3 + 1 := ⟨_, rfl⟩
  have h := h x_1 ex_1
  refine lv_iinc (v := x_1) (lv' := [(3, .int x_1), (0, .ref (ad j0)), (1, .int x1), (2, .int x2)]) hx hb dX3_howMany_25 hl (k := 3) rfl (by rw [ex_1]; rfl) (by decide) rfl (fun ls hl => ?_)
  refine lv_goto (tgt := 4) hx hb dX3_howMany_28 (by decide) ?_
  exact hK4 g x1 x2 x_1 _ _ _ S (lv_sub hl [1, 2, 3, 0] rfl) h
set_option maxHeartbeats 4000000 in
set_option maxRecDepth 100000 in
theorem o_X3_howMany_4_w {p : Program} {l : Launch} {e : Env} {s : State} {m : MethodId} {args : Array Value} {below : List Frame} {meth : Method} {c : Code} {dC : Nat → ClassId} {dI : Nat → Nat → Nat} {cy : Nat → ClassId} {ad tz : Nat → Nat} {Q : Int32 → Mm → Prop} {j0 : Nat} (C : CX p s m args meth c dC dI cy ad tz cX3_howMany 4 (some .int) RX3 wsX3_howMany) (hj0 : ly j0 = 3) : ∀ (n : Nat) (g : Mm) (x1 : Int32) (x2 : Int32) (x3 : Int32) (H : Heap) (locs : List Loc) (ls : Array Slot), St dC dI cy ad s g H locs → lv_has ls 4 [(0, .ref (ad j0)), (1, .int x1), (2, .int x2), (3, .int x3)] → o_X3_howMany_4 Q j0 n g x1 x2 x3 → W p l e (rmD 0) s m args below meth c H locs 0 0 (QI dC dI cy ad below args s Q) (F0 m 4 ls []) := by
  have hx := C.1.1
  have hb := C.1.2.1
  intro n4
  induction n4 with
  | zero => intro g x1 x2 x3 H locs ls S hl h; exact h.elim
  | succ n4 ih =>
    intro g x1 x2 x3 H locs ls S hl h
    have h : (((g.1 j0 4) ≤ x3) → Q x2 g) ∧ ((¬ (g.1 j0 4) ≤ x3) → vp_in x3 7 ∧ (((¬ (g.1 (j0 + 3) x3.toNatClampNeg) = x1) → o_X3_howMany_25 Q (o_X3_howMany_4 Q j0 n4) j0 g x1 x2 x3) ∧ (((g.1 (j0 + 3) x3.toNatClampNeg) = x1) → ∀ x_2 : Int32, x_2 = x2 + 1 → (o_X3_howMany_25 Q (o_X3_howMany_4 Q j0 n4) j0 g x1 x_2 x3)))) := h
    refine lv_iload_n hx hb dX3_howMany_4 rfl (lv_at hl 3 rfl) ?_
    refine lv_aload_n hx hb dX3_howMany_5 rfl (lv_at hl 0 rfl) ?_
    refine kg3 (k := 4) (v := .int (g.1 j0 4)) C S hj0 (by decide) n_X3_howMany_X3 m_X3_howMany_1 rfl dX3_howMany_6 ?_
    refine lv_icmp_ge (tgt := 31) hx hb dX3_howMany_9 (by decide) (fun c1 => ?_) (fun c1 => ?_)
    · have h := h.1 c1
      refine lv_iload_n hx hb dX3_howMany_31 rfl (lv_at hl 2 rfl) ?_
      exact kRi C S h dX3_howMany_32
    · have h := h.2 c1
      refine lv_aload_n hx hb dX3_howMany_12 rfl (lv_at hl 0 rfl) ?_
      refine kg3 (k := 2) (v := .ref (ad (j0 + 3))) C S hj0 (by decide) n_X3_howMany_X3 m_X3_howMany_2 rfl dX3_howMany_13 ?_
      refine lv_iload_n hx hb dX3_howMany_16 rfl (lv_at hl 3 rfl) ?_
      obtain ⟨hi, h⟩ := h
      refine kLi C S ((lyB hj0).2.2.1.1) ((lyB hj0).2.2.1.2) hi dX3_howMany_17 ?_
      refine lv_iload_n hx hb dX3_howMany_18 rfl (lv_at hl 1 rfl) ?_
      refine lv_icmp_ne (tgt := 25) hx hb dX3_howMany_19 (by decide) (fun c1 => ?_) (fun c1 => ?_)
      · have h := h.1 c1
        exact o_X3_howMany_25_w C hj0 ih g x1 x2 x3 _ _ _ S (lv_sub hl [0, 1, 2, 3] rfl) h
      · have h := h.2 c1
        obtain ⟨x_2, ex_2⟩ : ∃ y : Int32, y = x2 + 1 := ⟨_, rfl⟩
        have h := h x_2 ex_2
        refine lv_iinc (v := x_2) (lv' := [(2, .int x_2), (0, .ref (ad j0)), (1, .int x1), (3, .int x3)]) hx hb dX3_howMany_22 hl (k := 2) rfl (by rw [ex_2]; rfl) (by decide) rfl (fun ls hl => ?_)
        exact o_X3_howMany_25_w C hj0 ih g x1 x_2 x3 _ _ _ S (lv_sub hl [1, 2, 0, 3] rfl) h
def o_X3_howMany (Q : Int32 → Mm → Prop) (j0 : Nat) (g : Mm) (x1 : Int32) : Prop := ∃ n4, o_X3_howMany_4 Q j0 n4 g x1 0 0
set_option maxHeartbeats 4000000 in
set_option maxRecDepth 100000 in
theorem o_X3_howMany_c {l : Launch} {dC : Nat → ClassId} {dI : Nat → Nat → Nat} {cy : Nat → ClassId} {ad tz : Nat → Nat} {Q : Int32 → Mm → Prop} {j0 : Nat} {g : Mm} {x1 : Int32} (hj0 : ly j0 = 3) (h : o_X3_howMany Q j0 g x1) : CI l dC dI cy ad tz yX3_howMany wsX3_howMany (rmD 0) [.ref (ad j0), .int x1] g Q := by
  refine CI.of (by decide) rfl rfl (Nat.le_of_ble_eq_true rfl) ?_
  intro p e s m args below meth c ls C hl S
  have hl : lv_has ls 4 [(0, .ref (ad j0)), (1, .int x1)] := hl
  have hx := C.1.1
  have hb := C.1.2.1
  unfold o_X3_howMany at h
  refine lv_iconst (v := 0) hx hb dX3_howMany_0 (by decide) ?_
  refine lv_istore_n (lv' := [(2, .int 0), (0, .ref (ad j0)), (1, .int x1)]) hx hb dX3_howMany_1 rfl hl (by decide) rfl (fun ls hl => ?_)
  refine lv_iconst (v := 0) hx hb dX3_howMany_2 (by decide) ?_
  refine lv_istore_n (lv' := [(3, .int 0), (2, .int 0), (0, .ref (ad j0)), (1, .int x1)]) hx hb dX3_howMany_3 rfl hl (by decide) rfl (fun ls hl => ?_)
  obtain ⟨n4, h⟩ := h
  refine o_X3_howMany_4_w C hj0 n4 g x1 0 0 _ _ _ S (lv_sub hl [2, 3, 1, 0] rfl) h
/-! ClawCase.within(III)Z, height 0 -/
def o_X7_within (Q : Int32 → Mm → Prop) (g : Mm) (x0 : Int32) (x1 : Int32) (x2 : Int32) : Prop := ((x0 < x1) → Q 0 g) ∧ ((¬ x0 < x1) → ((x2 < x0) → Q 0 g) ∧ ((¬ x2 < x0) → Q 1 g))
set_option maxHeartbeats 4000000 in
set_option maxRecDepth 100000 in
theorem o_X7_within_c {l : Launch} {dC : Nat → ClassId} {dI : Nat → Nat → Nat} {cy : Nat → ClassId} {ad tz : Nat → Nat} {Q : Int32 → Mm → Prop} {g : Mm} {x0 : Int32} {x1 : Int32} {x2 : Int32} (h : o_X7_within Q g x0 x1 x2) : CI l dC dI cy ad tz yX7_within wsX7_within (rmD 0) [.int x0, .int x1, .int x2] g Q := by
  refine CI.of (by decide) rfl rfl (Nat.le_of_ble_eq_true rfl) ?_
  intro p e s m args below meth c ls C hl S
  have hl : lv_has ls 3 [(0, .int x0), (1, .int x1), (2, .int x2)] := hl
  have hx := C.1.1
  have hb := C.1.2.1
  unfold o_X7_within at h
  refine lv_iload_n hx hb dX7_within_0 rfl (lv_at hl 0 rfl) ?_
  refine lv_iload_n hx hb dX7_within_1 rfl (lv_at hl 1 rfl) ?_
  refine lv_icmp_lt (tgt := 14) hx hb dX7_within_2 (by decide) (fun c1 => ?_) (fun c1 => ?_)
  · have h := h.1 c1
    refine lv_iconst (v := 0) hx hb dX7_within_14 (by decide) ?_
    exact kRz C S rfl h dX7_within_15
  · have h := h.2 c1
    refine lv_iload_n hx hb dX7_within_5 rfl (lv_at hl 0 rfl) ?_
    refine lv_iload_n hx hb dX7_within_6 rfl (lv_at hl 2 rfl) ?_
    refine lv_icmp_gt (tgt := 14) hx hb dX7_within_7 (by decide) (fun c1 => ?_) (fun c1 => ?_)
    · have h := h.1 c1
      refine lv_iconst (v := 0) hx hb dX7_within_14 (by decide) ?_
      exact kRz C S rfl h dX7_within_15
    · have h := h.2 c1
      refine lv_iconst (v := 1) hx hb dX7_within_10 (by decide) ?_
      refine lv_goto (tgt := 15) hx hb dX7_within_11 (by decide) ?_
      exact kRz C S rfl h dX7_within_15
/-! ClawCase.isColumn(I)Z, height 1 -/
theorem cw_X7_isColumn_X7_within {s : State} {args : Array Value} (ht : ∀ w ∈ wsX7_isColumn, w.before args s = true) : CallB (rmD 1) s args RX7 66 yX7_within cX7_within 3 (some .boolean) wsX7_within (rmD (0)) 0 0 3 ∧ (Cond.static yX7_within).before args s = true := va_cwS 3 ht gX7_isColumn_X7_within rfl rfl rfl (by decide +kernel) ⟨Nat.le_of_ble_eq_true rfl, Nat.le_of_ble_eq_true rfl⟩
def o_X7_isColumn (Q : Int32 → Mm → Prop) (g : Mm) (x0 : Int32) : Prop := o_X7_within (fun (r_2 : Int32) (g_1 : Mm) => narrow .boolean (.int r_2) = .int r_2 ∧ (Q r_2 g_1)) g x0 1 5
set_option maxHeartbeats 4000000 in
set_option maxRecDepth 100000 in
theorem o_X7_isColumn_c {l : Launch} {dC : Nat → ClassId} {dI : Nat → Nat → Nat} {cy : Nat → ClassId} {ad tz : Nat → Nat} {Q : Int32 → Mm → Prop} {g : Mm} {x0 : Int32} (h : o_X7_isColumn Q g x0) : CI l dC dI cy ad tz yX7_isColumn wsX7_isColumn (rmD 1) [.int x0] g Q := by
  refine CI.of (by decide) rfl rfl (Nat.le_of_ble_eq_true rfl) ?_
  intro p e s m args below meth c ls C hl S
  have hl : lv_has ls 1 [(0, .int x0)] := hl
  have hx := C.1.1
  have hb := C.1.2.1
  unfold o_X7_isColumn at h
  refine lv_iload_n hx hb dX7_isColumn_0 rfl (lv_at hl 0 rfl) ?_
  refine lv_iconst (v := 1) hx hb dX7_isColumn_1 (by decide) ?_
  refine lv_iconst (v := 5) hx hb dX7_isColumn_2 (by decide) ?_
  refine kS_i (As := [.int x0, .int 1, .int 5]) (rest := []) C S hl.1 (o_X7_within_c h) (cw_X7_isColumn_X7_within C.1.2.2.2.2) rfl rfl (Nat.le_of_ble_eq_true rfl) dX7_isColumn_3 (fun r_2 g_1 H locs h S => ?_)
  obtain ⟨hz, h⟩ := h
  exact kRz C S hz h dX7_isColumn_6
/-! ClawCase$Box.above(I)I, height 2 -/
theorem m_X3_above_1 : Cond.fieldLink RX3 18 "ClawCase$Box" "places" "[I" ∈ wsX3_above := List.mem_of_getElem? (i := 1) (by decide +kernel)
theorem n_X3_above_X3 : ∀ w ∈ wsX30, w ∈ wsX3_above := mem_by [15, 16, 17, 18, 19, 20, 21, 22, 23] (by decide +kernel)
theorem m_X3_above_2 : Cond.fieldLink RX3 21 "ClawCase$Box" "under" "[I" ∈ wsX3_above := List.mem_of_getElem? (i := 2) (by decide +kernel)
theorem cw_X3_above_X3_howMany {s : State} {args : Array Value} (ht : ∀ w ∈ wsX3_above, w.before args s = true) : CallW (rmD 2) s args RX3 RX3 55 yX3_howMany cX3_howMany 4 (some .int) wsX3_howMany (rmD (0)) 0 0 1 := cwV 1 ht gX3_above_X3_howMany rfl rfl rfl (by decide +kernel) ⟨Nat.le_of_ble_eq_true rfl, Nat.le_of_ble_eq_true rfl⟩
theorem m_X3_above_3 : Cond.static yX7_isColumn ∈ wsX3_above := List.mem_of_getElem? (i := 3) (by decide +kernel)
theorem m_X3_above_4 : Cond.initialized RX7 ∈ wsX3_above := List.mem_of_getElem? (i := 4) (by decide +kernel)
theorem cw_X3_above_X7_isColumn {s : State} {args : Array Value} (ht : ∀ w ∈ wsX3_above, w.before args s = true) (hN : NW s) : va_CN (rmD 2) s args RX3 51 yX7_isColumn "ClawCase" cX7_isColumn 1 (some .boolean) wsX7_isColumn (rmD (1)) 0 0 1 ∧ (Cond.static yX7_isColumn).before args s = true ∧ True := ⟨va_cnB 1 ht gX3_above_X7_isColumn_n51 rfl rfl rfl (hN (RX3, 51, yX7_isColumn, "ClawCase") (by decide +kernel)) (ht _ m_X3_above_4) (by decide +kernel) ⟨Nat.le_of_ble_eq_true rfl, Nat.le_of_ble_eq_true rfl⟩, ht _ m_X3_above_3, trivial⟩
def o_X3_above (Q : Int32 → Mm → Prop) (j0 : Nat) (g : Mm) (x1 : Int32) : Prop := vp_in x1 7 ∧ (o_X7_isColumn (fun (r_2 : Int32) (g_1 : Mm) => ((r_2 = 0) → Q 0 g_1) ∧ ((¬ r_2 = 0) → vp_in x1 7 ∧ (o_X3_howMany (fun (r_4 : Int32) (g_3 : Mm) => vp_in x1 7 ∧ (Q ((r_4 - 1) - (g_3.1 (j0 + 4) x1.toNatClampNeg)) g_3)) j0 g_1 (g_1.1 (j0 + 3) x1.toNatClampNeg)))) g (g.1 (j0 + 3) x1.toNatClampNeg))
set_option maxHeartbeats 4000000 in
set_option maxRecDepth 100000 in
theorem o_X3_above_c {l : Launch} {dC : Nat → ClassId} {dI : Nat → Nat → Nat} {cy : Nat → ClassId} {ad tz : Nat → Nat} {Q : Int32 → Mm → Prop} {j0 : Nat} {g : Mm} {x1 : Int32} (hj0 : ly j0 = 3) (h : o_X3_above Q j0 g x1) : CI l dC dI cy ad tz yX3_above wsX3_above (rmD 2) [.ref (ad j0), .int x1] g Q := by
  refine CI.of (by decide) rfl rfl (Nat.le_of_ble_eq_true rfl) ?_
  intro p e s m args below meth c ls C hl S
  have hl : lv_has ls 2 [(0, .ref (ad j0)), (1, .int x1)] := hl
  have hx := C.1.1
  have hb := C.1.2.1
  unfold o_X3_above at h
  refine lv_aload_n hx hb dX3_above_0 rfl (lv_at hl 0 rfl) ?_
  refine kg3 (k := 2) (v := .ref (ad (j0 + 3))) C S hj0 (by decide) n_X3_above_X3 m_X3_above_1 rfl dX3_above_1 ?_
  refine lv_iload_n hx hb dX3_above_4 rfl (lv_at hl 1 rfl) ?_
  obtain ⟨hi, h⟩ := h
  refine kLi C S ((lyB hj0).2.2.1.1) ((lyB hj0).2.2.1.2) hi dX3_above_5 ?_
  refine kN_i (As := [.int (g.1 (j0 + 3) x1.toNatClampNeg)]) (rest := []) C S hl.1 (o_X7_isColumn_c h) (cw_X3_above_X7_isColumn C.1.2.2.2.2 C.2.2.2.1) rfl rfl (Nat.le_of_ble_eq_true rfl) dX3_above_6 (fun r_2 g_1 H locs h S => ?_)
  refine lv_if_eq (tgt := 34) hx hb dX3_above_9 (by decide) (fun c1 => ?_) (fun c1 => ?_)
  · have h := h.1 c1
    refine lv_iconst (v := 0) hx hb dX3_above_34 (by decide) ?_
    exact kRi C S h dX3_above_35
  · have h := h.2 c1
    refine lv_aload_n hx hb dX3_above_12 rfl (lv_at hl 0 rfl) ?_
    refine lv_aload_n hx hb dX3_above_13 rfl (lv_at hl 0 rfl) ?_
    refine kg3 (k := 2) (v := .ref (ad (j0 + 3))) C S hj0 (by decide) n_X3_above_X3 m_X3_above_1 rfl dX3_above_14 ?_
    refine lv_iload_n hx hb dX3_above_17 rfl (lv_at hl 1 rfl) ?_
    obtain ⟨hi, h⟩ := h
    refine kLi C S ((lyB hj0).2.2.1.1) ((lyB hj0).2.2.1.2) hi dX3_above_18 ?_
    refine kV_i (As := [.int (g_1.1 (j0 + 3) x1.toNatClampNeg)]) (rest := []) C S hl.1 (o_X3_howMany_c hj0 h) (wd_o3 hj0) rfl (cw_X3_above_X3_howMany C.1.2.2.2.2) rfl rfl (Nat.le_of_ble_eq_true rfl) dX3_above_19 (fun r_4 g_3 H locs h S => ?_)
    refine lv_iconst (v := 1) hx hb dX3_above_22 (by decide) ?_
    refine lv_isub hx hb dX3_above_23 ?_
    refine lv_aload_n hx hb dX3_above_24 rfl (lv_at hl 0 rfl) ?_
    refine kg3 (k := 3) (v := .ref (ad (j0 + 4))) C S hj0 (by decide) n_X3_above_X3 m_X3_above_2 rfl dX3_above_25 ?_
    refine lv_iload_n hx hb dX3_above_28 rfl (lv_at hl 1 rfl) ?_
    obtain ⟨hi, h⟩ := h
    refine kLi C S ((lyB hj0).2.2.2.1) ((lyB hj0).2.2.2.2) hi dX3_above_29 ?_
    refine lv_isub hx hb dX3_above_30 ?_
    refine lv_goto (tgt := 35) hx hb dX3_above_31 (by decide) ?_
    exact kRi C S h dX3_above_35
/-! ClawCase$Box.lay(II)V, height 2 -/
theorem m_X3_lay_1 : Cond.fieldLink RX3 21 "ClawCase$Box" "under" "[I" ∈ wsX3_lay := List.mem_of_getElem? (i := 1) (by decide +kernel)
theorem n_X3_lay_X3 : ∀ w ∈ wsX30, w ∈ wsX3_lay := mem_by [15, 16, 17, 18, 19, 20, 21, 22, 23] (by decide +kernel)
theorem m_X3_lay_2 : Cond.fieldLink RX3 18 "ClawCase$Box" "places" "[I" ∈ wsX3_lay := List.mem_of_getElem? (i := 2) (by decide +kernel)
theorem cw_X3_lay_X3_howMany {s : State} {args : Array Value} (ht : ∀ w ∈ wsX3_lay, w.before args s = true) : CallW (rmD 2) s args RX3 RX3 55 yX3_howMany cX3_howMany 4 (some .int) wsX3_howMany (rmD (0)) 0 0 1 := cwV 1 ht gX3_lay_X3_howMany rfl rfl rfl (by decide +kernel) ⟨Nat.le_of_ble_eq_true rfl, Nat.le_of_ble_eq_true rfl⟩
theorem m_X3_lay_3 : Cond.static yX7_isColumn ∈ wsX3_lay := List.mem_of_getElem? (i := 3) (by decide +kernel)
theorem m_X3_lay_4 : Cond.initialized RX7 ∈ wsX3_lay := List.mem_of_getElem? (i := 4) (by decide +kernel)
theorem cw_X3_lay_X7_isColumn {s : State} {args : Array Value} (ht : ∀ w ∈ wsX3_lay, w.before args s = true) (hN : NW s) : va_CN (rmD 2) s args RX3 51 yX7_isColumn "ClawCase" cX7_isColumn 1 (some .boolean) wsX7_isColumn (rmD (1)) 0 0 1 ∧ (Cond.static yX7_isColumn).before args s = true ∧ True := ⟨va_cnB 1 ht gX3_lay_X7_isColumn_n51 rfl rfl rfl (hN (RX3, 51, yX7_isColumn, "ClawCase") (by decide +kernel)) (ht _ m_X3_lay_4) (by decide +kernel) ⟨Nat.le_of_ble_eq_true rfl, Nat.le_of_ble_eq_true rfl⟩, ht _ m_X3_lay_3, trivial⟩
def o_X3_lay_21 (Q : Mm → Prop) (j0 : Nat) (g : Mm) (x1 : Int32) (x2 : Int32) (s1 : Int32) (s2 : Int32) : Prop := vp_in s1 7 ∧ (∀ g_3 : Mm, g_3 = mset g (j0 + 4) s1.toNatClampNeg s2 → (vp_in x1 7 ∧ (∀ g_4 : Mm, g_4 = mset g_3 (j0 + 3) x1.toNatClampNeg x2 → (Q g_4))))
set_option maxHeartbeats 4000000 in
set_option maxRecDepth 100000 in
theorem o_X3_lay_21_w {p : Program} {l : Launch} {e : Env} {s : State} {m : MethodId} {args : Array Value} {below : List Frame} {meth : Method} {c : Code} {dC : Nat → ClassId} {dI : Nat → Nat → Nat} {cy : Nat → ClassId} {ad tz : Nat → Nat} {Q : Mm → Prop} {j0 : Nat} (C : CX p s m args meth c dC dI cy ad tz cX3_lay 3 none RX3 wsX3_lay) (hj0 : ly j0 = 3) : ∀ (g : Mm) (x1 : Int32) (x2 : Int32) (s1 : Int32) (s2 : Int32) (H : Heap) (locs : List Loc) (ls : Array Slot), St dC dI cy ad s g H locs → lv_has ls 3 [(0, .ref (ad j0)), (1, .int x1), (2, .int x2)] → o_X3_lay_21 Q j0 g x1 x2 s1 s2 → W p l e (rmD 2) s m args below meth c H locs 0 0 (QV dC dI cy ad below args s Q) (F0 m 21 ls [.int s2, .int s1, .ref (ad (j0 + 4))]) := by
  have hx := C.1.1
  have hb := C.1.2.1
  intro g x1 x2 s1 s2 H locs ls S hl h
  unfold o_X3_lay_21 at h
  obtain ⟨hi, h⟩ := h
  refine kSi C S ((lyB hj0).2.2.2.1) ((lyB hj0).2.2.2.2) hi dX3_lay_21 (fun g_3 H locs eg_3 S => ?_)
  have h := h g_3 eg_3
  refine lv_aload_n hx hb dX3_lay_22 rfl (lv_at hl 0 rfl) ?_
  refine kg3 (k := 2) (v := .ref (ad (j0 + 3))) C S hj0 (by decide) n_X3_lay_X3 m_X3_lay_2 rfl dX3_lay_23 ?_
  refine lv_iload_n hx hb dX3_lay_26 rfl (lv_at hl 1 rfl) ?_
  refine lv_iload_n hx hb dX3_lay_27 rfl (lv_at hl 2 rfl) ?_
  obtain ⟨hi, h⟩ := h
  refine kSi C S ((lyB hj0).2.2.1.1) ((lyB hj0).2.2.1.2) hi dX3_lay_28 (fun g_4 H locs eg_4 S => ?_)
  have h := h g_4 eg_4
  exact kRv C S h dX3_lay_29
def o_X3_lay (Q : Mm → Prop) (j0 : Nat) (g : Mm) (x1 : Int32) (x2 : Int32) : Prop := o_X7_isColumn (fun (r_2 : Int32) (g_1 : Mm) => ((r_2 = 0) → o_X3_lay_21 Q j0 g_1 x1 x2 x1 0) ∧ ((¬ r_2 = 0) → o_X3_howMany (fun (r_6 : Int32) (g_5 : Mm) => o_X3_lay_21 Q j0 g_5 x1 x2 x1 r_6) j0 g_1 x2)) g x2
set_option maxHeartbeats 4000000 in
set_option maxRecDepth 100000 in
theorem o_X3_lay_c {l : Launch} {dC : Nat → ClassId} {dI : Nat → Nat → Nat} {cy : Nat → ClassId} {ad tz : Nat → Nat} {Q : Mm → Prop} {j0 : Nat} {g : Mm} {x1 : Int32} {x2 : Int32} (hj0 : ly j0 = 3) (h : o_X3_lay Q j0 g x1 x2) : CV l dC dI cy ad tz yX3_lay wsX3_lay (rmD 2) [.ref (ad j0), .int x1, .int x2] g Q := by
  refine CV.of (by decide) rfl rfl (Nat.le_of_ble_eq_true rfl) ?_
  intro p e s m args below meth c ls C hl S
  have hl : lv_has ls 3 [(0, .ref (ad j0)), (1, .int x1), (2, .int x2)] := hl
  have hx := C.1.1
  have hb := C.1.2.1
  unfold o_X3_lay at h
  refine lv_aload_n hx hb dX3_lay_0 rfl (lv_at hl 0 rfl) ?_
  refine kg3 (k := 3) (v := .ref (ad (j0 + 4))) C S hj0 (by decide) n_X3_lay_X3 m_X3_lay_1 rfl dX3_lay_1 ?_
  refine lv_iload_n hx hb dX3_lay_4 rfl (lv_at hl 1 rfl) ?_
  refine lv_iload_n hx hb dX3_lay_5 rfl (lv_at hl 2 rfl) ?_
  refine kN_i (As := [.int x2]) (rest := [.int x1, .ref (ad (j0 + 4))]) C S hl.1 (o_X7_isColumn_c h) (cw_X3_lay_X7_isColumn C.1.2.2.2.2 C.2.2.2.1) rfl rfl (Nat.le_of_ble_eq_true rfl) dX3_lay_6 (fun r_2 g_1 H locs h S => ?_)
  refine lv_if_eq (tgt := 20) hx hb dX3_lay_9 (by decide) (fun c1 => ?_) (fun c1 => ?_)
  · have h := h.1 c1
    refine lv_iconst (v := 0) hx hb dX3_lay_20 (by decide) ?_
    exact o_X3_lay_21_w C hj0 g_1 x1 x2 x1 0 _ _ _ S (lv_sub hl [0, 1, 2] rfl) h
  · have h := h.2 c1
    refine lv_aload_n hx hb dX3_lay_12 rfl (lv_at hl 0 rfl) ?_
    refine lv_iload_n hx hb dX3_lay_13 rfl (lv_at hl 2 rfl) ?_
    refine kV_i (As := [.int x2]) (rest := [.int x1, .ref (ad (j0 + 4))]) C S hl.1 (o_X3_howMany_c hj0 h) (wd_o3 hj0) rfl (cw_X3_lay_X3_howMany C.1.2.2.2.2) rfl rfl (Nat.le_of_ble_eq_true rfl) dX3_lay_14 (fun r_6 g_5 H locs h S => ?_)
    refine lv_goto (tgt := 21) hx hb dX3_lay_17 (by decide) ?_
    exact o_X3_lay_21_w C hj0 g_5 x1 x2 x1 r_6 _ _ _ S (lv_sub hl [0, 1, 2] rfl) h
/-! ClawCase$Box.add(III)V, height 3 -/
theorem m_X3_add_1 : Cond.fieldLink RX3 9 "ClawCase$Box" "kinds" "[I" ∈ wsX3_add := List.mem_of_getElem? (i := 1) (by decide +kernel)
theorem n_X3_add_X3 : ∀ w ∈ wsX30, w ∈ wsX3_add := mem_by [21, 22, 23, 24, 25, 26, 27, 28, 29] (by decide +kernel)
theorem m_X3_add_2 : Cond.fieldLink RX3 24 "ClawCase$Box" "toys" "I" ∈ wsX3_add := List.mem_of_getElem? (i := 2) (by decide +kernel)
theorem m_X3_add_3 : Cond.fieldLink RX3 15 "ClawCase$Box" "weights" "[I" ∈ wsX3_add := List.mem_of_getElem? (i := 3) (by decide +kernel)
theorem cw_X3_add_X3_lay {s : State} {args : Array Value} (ht : ∀ w ∈ wsX3_add, w.before args s = true) : CallW (rmD 3) s args RX3 RX3 40 yX3_lay cX3_lay 3 none wsX3_lay (rmD (2)) 0 0 2 := cwV 2 ht gX3_add_X3_lay rfl rfl rfl (by decide +kernel) ⟨Nat.le_of_ble_eq_true rfl, Nat.le_of_ble_eq_true rfl⟩
def o_X3_add (Q : Mm → Prop) (j0 : Nat) (g : Mm) (x1 : Int32) (x2 : Int32) (x3 : Int32) : Prop := vp_in (g.1 j0 4) 7 ∧ (∀ g_1 : Mm, g_1 = mset g (j0 + 1) (g.1 j0 4 : Int32).toNatClampNeg x1 → (vp_in (g_1.1 j0 4) 7 ∧ (∀ g_2 : Mm, g_2 = mset g_1 (j0 + 2) (g_1.1 j0 4 : Int32).toNatClampNeg x2 → (o_X3_lay (fun (g_3 : Mm) => ∀ g_5 : Mm, g_5 = mset g_3 j0 4 ((g_3.1 j0 4) + 1) → (Q g_5)) j0 g_2 (g_2.1 j0 4) x3))))
set_option maxHeartbeats 4000000 in
set_option maxRecDepth 100000 in
theorem o_X3_add_c {l : Launch} {dC : Nat → ClassId} {dI : Nat → Nat → Nat} {cy : Nat → ClassId} {ad tz : Nat → Nat} {Q : Mm → Prop} {j0 : Nat} {g : Mm} {x1 : Int32} {x2 : Int32} {x3 : Int32} (hj0 : ly j0 = 3) (h : o_X3_add Q j0 g x1 x2 x3) : CV l dC dI cy ad tz yX3_add wsX3_add (rmD 3) [.ref (ad j0), .int x1, .int x2, .int x3] g Q := by
  refine CV.of (by decide) rfl rfl (Nat.le_of_ble_eq_true rfl) ?_
  intro p e s m args below meth c ls C hl S
  have hl : lv_has ls 4 [(0, .ref (ad j0)), (1, .int x1), (2, .int x2), (3, .int x3)] := hl
  have hx := C.1.1
  have hb := C.1.2.1
  unfold o_X3_add at h
  refine lv_aload_n hx hb dX3_add_0 rfl (lv_at hl 0 rfl) ?_
  refine kg3 (k := 0) (v := .ref (ad (j0 + 1))) C S hj0 (by decide) n_X3_add_X3 m_X3_add_1 rfl dX3_add_1 ?_
  refine lv_aload_n hx hb dX3_add_4 rfl (lv_at hl 0 rfl) ?_
  refine kg3 (k := 4) (v := .int (g.1 j0 4)) C S hj0 (by decide) n_X3_add_X3 m_X3_add_2 rfl dX3_add_5 ?_
  refine lv_iload_n hx hb dX3_add_8 rfl (lv_at hl 1 rfl) ?_
  obtain ⟨hi, h⟩ := h
  refine kSi C S ((lyB hj0).1.1) ((lyB hj0).1.2) hi dX3_add_9 (fun g_1 H locs eg_1 S => ?_)
  have h := h g_1 eg_1
  refine lv_aload_n hx hb dX3_add_10 rfl (lv_at hl 0 rfl) ?_
  refine kg3 (k := 1) (v := .ref (ad (j0 + 2))) C S hj0 (by decide) n_X3_add_X3 m_X3_add_3 rfl dX3_add_11 ?_
  refine lv_aload_n hx hb dX3_add_14 rfl (lv_at hl 0 rfl) ?_
  refine kg3 (k := 4) (v := .int (g_1.1 j0 4)) C S hj0 (by decide) n_X3_add_X3 m_X3_add_2 rfl dX3_add_15 ?_
  refine lv_iload_n hx hb dX3_add_18 rfl (lv_at hl 2 rfl) ?_
  obtain ⟨hi, h⟩ := h
  refine kSi C S ((lyB hj0).2.1.1) ((lyB hj0).2.1.2) hi dX3_add_19 (fun g_2 H locs eg_2 S => ?_)
  have h := h g_2 eg_2
  refine lv_aload_n hx hb dX3_add_20 rfl (lv_at hl 0 rfl) ?_
  refine lv_aload_n hx hb dX3_add_21 rfl (lv_at hl 0 rfl) ?_
  refine kg3 (k := 4) (v := .int (g_2.1 j0 4)) C S hj0 (by decide) n_X3_add_X3 m_X3_add_2 rfl dX3_add_22 ?_
  refine lv_iload_n hx hb dX3_add_25 rfl (lv_at hl 3 rfl) ?_
  refine kV_v (As := [.int (g_2.1 j0 4), .int x3]) (rest := []) C S hl.1 (o_X3_lay_c hj0 h) (wd_o3 hj0) rfl (cw_X3_add_X3_lay C.1.2.2.2.2) rfl rfl (Nat.le_of_ble_eq_true rfl) dX3_add_26 (fun g_3 H locs h S => ?_)
  refine lv_aload_n hx hb dX3_add_29 rfl (lv_at hl 0 rfl) ?_
  refine lv_dup hx hb dX3_add_30 rfl ?_
  refine kg3 (k := 4) (v := .int (g_3.1 j0 4)) C S hj0 (by decide) n_X3_add_X3 m_X3_add_2 rfl dX3_add_31 ?_
  refine lv_iconst (v := 1) hx hb dX3_add_34 (by decide) ?_
  refine lv_iadd hx hb dX3_add_35 ?_
  refine kp3_4 C S hj0 n_X3_add_X3 m_X3_add_2 dX3_add_36 (fun g_5 H locs eg_5 S => ?_)
  have h := h g_5 eg_5
  exact kRv C S h dX3_add_39
/-! ClawCase$Box.become(LClawCase$Box;)V, height 1 -/
theorem m_X3_become_1 : Cond.fieldLink RX3 9 "ClawCase$Box" "kinds" "[I" ∈ wsX3_become := List.mem_of_getElem? (i := 1) (by decide +kernel)
theorem n_X3_become_X3 : ∀ w ∈ wsX30, w ∈ wsX3_become := mem_by [14, 15, 16, 17, 18, 19, 20, 21, 22] (by decide +kernel)
theorem m_X3_become_2 : Cond.methodLink RX3 44 arraycopyName ∈ wsX3_become := List.mem_of_getElem? (i := 2) (by decide +kernel)
theorem m_X3_become_4 : Cond.static arraycopyName ∈ wsX3_become := List.mem_of_getElem? (i := 4) (by decide +kernel)
theorem m_X3_become_5 : Cond.initialized "java/lang/System" ∈ wsX3_become := List.mem_of_getElem? (i := 5) (by decide +kernel)
theorem m_X3_become_3 : Cond.native arraycopyName ∈ wsX3_become := List.mem_of_getElem? (i := 3) (by decide +kernel)
theorem m_X3_become_6 : Cond.fieldLink RX3 15 "ClawCase$Box" "weights" "[I" ∈ wsX3_become := List.mem_of_getElem? (i := 6) (by decide +kernel)
theorem m_X3_become_7 : Cond.fieldLink RX3 18 "ClawCase$Box" "places" "[I" ∈ wsX3_become := List.mem_of_getElem? (i := 7) (by decide +kernel)
theorem m_X3_become_8 : Cond.fieldLink RX3 21 "ClawCase$Box" "under" "[I" ∈ wsX3_become := List.mem_of_getElem? (i := 8) (by decide +kernel)
theorem m_X3_become_9 : Cond.fieldLink RX3 24 "ClawCase$Box" "toys" "I" ∈ wsX3_become := List.mem_of_getElem? (i := 9) (by decide +kernel)
theorem m_X3_become_10 : Cond.fieldLink RX3 28 "ClawCase$Box" "low" "I" ∈ wsX3_become := List.mem_of_getElem? (i := 10) (by decide +kernel)
theorem m_X3_become_11 : Cond.fieldLink RX3 31 "ClawCase$Box" "high" "I" ∈ wsX3_become := List.mem_of_getElem? (i := 11) (by decide +kernel)
theorem m_X3_become_12 : Cond.fieldLink RX3 34 "ClawCase$Box" "every" "I" ∈ wsX3_become := List.mem_of_getElem? (i := 12) (by decide +kernel)
theorem m_X3_become_13 : Cond.fieldLink RX3 37 "ClawCase$Box" "plays" "I" ∈ wsX3_become := List.mem_of_getElem? (i := 13) (by decide +kernel)
def o_X3_become (Q : Mm → Prop) (j0 : Nat) (j1 : Nat) (g : Mm) : Prop := ((¬ (0 : Int32) < 0 ∧ ¬ (0 : Int32) < 0 ∧ ¬ (7 : Int32) < 0) ∧ (0 : Int32).toNatClampNeg + (7 : Int32).toNatClampNeg ≤ 7 ∧ (0 : Int32).toNatClampNeg + (7 : Int32).toNatClampNeg ≤ 7) ∧ (∀ g_1 : Mm, g_1 = mcpy g (j1 + 1) (0 : Int32).toNatClampNeg (j0 + 1) (0 : Int32).toNatClampNeg (7 : Int32).toNatClampNeg → (((¬ (0 : Int32) < 0 ∧ ¬ (0 : Int32) < 0 ∧ ¬ (7 : Int32) < 0) ∧ (0 : Int32).toNatClampNeg + (7 : Int32).toNatClampNeg ≤ 7 ∧ (0 : Int32).toNatClampNeg + (7 : Int32).toNatClampNeg ≤ 7) ∧ (∀ g_2 : Mm, g_2 = mcpy g_1 (j1 + 2) (0 : Int32).toNatClampNeg (j0 + 2) (0 : Int32).toNatClampNeg (7 : Int32).toNatClampNeg → (((¬ (0 : Int32) < 0 ∧ ¬ (0 : Int32) < 0 ∧ ¬ (7 : Int32) < 0) ∧ (0 : Int32).toNatClampNeg + (7 : Int32).toNatClampNeg ≤ 7 ∧ (0 : Int32).toNatClampNeg + (7 : Int32).toNatClampNeg ≤ 7) ∧ (∀ g_3 : Mm, g_3 = mcpy g_2 (j1 + 3) (0 : Int32).toNatClampNeg (j0 + 3) (0 : Int32).toNatClampNeg (7 : Int32).toNatClampNeg → (((¬ (0 : Int32) < 0 ∧ ¬ (0 : Int32) < 0 ∧ ¬ (7 : Int32) < 0) ∧ (0 : Int32).toNatClampNeg + (7 : Int32).toNatClampNeg ≤ 7 ∧ (0 : Int32).toNatClampNeg + (7 : Int32).toNatClampNeg ≤ 7) ∧ (∀ g_4 : Mm, g_4 = mcpy g_3 (j1 + 4) (0 : Int32).toNatClampNeg (j0 + 4) (0 : Int32).toNatClampNeg (7 : Int32).toNatClampNeg → (∀ g_5 : Mm, g_5 = mset g_4 j0 4 (g_4.1 j1 4) → (∀ g_6 : Mm, g_6 = mset g_5 j0 5 (g_5.1 j1 5) → (∀ g_7 : Mm, g_7 = mset g_6 j0 6 (g_6.1 j1 6) → (∀ g_8 : Mm, g_8 = mset g_7 j0 7 (g_7.1 j1 7) → (∀ g_9 : Mm, g_9 = mset g_8 j0 8 (g_8.1 j1 8) → (Q g_9)))))))))))))
set_option maxHeartbeats 4000000 in
set_option maxRecDepth 100000 in
theorem o_X3_become_c {l : Launch} {dC : Nat → ClassId} {dI : Nat → Nat → Nat} {cy : Nat → ClassId} {ad tz : Nat → Nat} {Q : Mm → Prop} {j0 : Nat} {j1 : Nat} {g : Mm} (hj0 : ly j0 = 3) (hj1 : ly j1 = 3) (h : o_X3_become Q j0 j1 g) : CV l dC dI cy ad tz yX3_become wsX3_become (rmD 1) [.ref (ad j0), .ref (ad j1)] g Q := by
  refine CV.of (by decide) rfl rfl (Nat.le_of_ble_eq_true rfl) ?_
  intro p e s m args below meth c ls C hl S
  have hl : lv_has ls 2 [(0, .ref (ad j0)), (1, .ref (ad j1))] := hl
  have hx := C.1.1
  have hb := C.1.2.1
  unfold o_X3_become at h
  refine lv_aload_n hx hb dX3_become_0 rfl (lv_at hl 1 rfl) ?_
  refine kg3 (k := 0) (v := .ref (ad (j1 + 1))) C S hj1 (by decide) n_X3_become_X3 m_X3_become_1 rfl dX3_become_1 ?_
  refine lv_iconst (v := 0) hx hb dX3_become_4 (by decide) ?_
  refine lv_aload_n hx hb dX3_become_5 rfl (lv_at hl 0 rfl) ?_
  refine kg3 (k := 0) (v := .ref (ad (j0 + 1))) C S hj0 (by decide) n_X3_become_X3 m_X3_become_1 rfl dX3_become_6 ?_
  refine lv_iconst (v := 0) hx hb dX3_become_9 (by decide) ?_
  refine lv_bipush (v := 7) hx hb dX3_become_10 (by decide) ?_
  obtain ⟨hi, h⟩ := h
  refine kCpy C S hl.1 ((lyB hj1).1.1) ((lyB hj1).1.2) ((lyB hj0).1.1) ((lyB hj0).1.2) hi m_X3_become_2 m_X3_become_3 m_X3_become_4 m_X3_become_5 (Nat.le_of_ble_eq_true rfl) (Nat.le_of_ble_eq_true rfl) dX3_become_12 (fun g_1 H locs eg_1 S => ?_)
  have h := h g_1 eg_1
  refine lv_aload_n hx hb dX3_become_15 rfl (lv_at hl 1 rfl) ?_
  refine kg3 (k := 1) (v := .ref (ad (j1 + 2))) C S hj1 (by decide) n_X3_become_X3 m_X3_become_6 rfl dX3_become_16 ?_
  refine lv_iconst (v := 0) hx hb dX3_become_19 (by decide) ?_
  refine lv_aload_n hx hb dX3_become_20 rfl (lv_at hl 0 rfl) ?_
  refine kg3 (k := 1) (v := .ref (ad (j0 + 2))) C S hj0 (by decide) n_X3_become_X3 m_X3_become_6 rfl dX3_become_21 ?_
  refine lv_iconst (v := 0) hx hb dX3_become_24 (by decide) ?_
  refine lv_bipush (v := 7) hx hb dX3_become_25 (by decide) ?_
  obtain ⟨hi, h⟩ := h
  refine kCpy C S hl.1 ((lyB hj1).2.1.1) ((lyB hj1).2.1.2) ((lyB hj0).2.1.1) ((lyB hj0).2.1.2) hi m_X3_become_2 m_X3_become_3 m_X3_become_4 m_X3_become_5 (Nat.le_of_ble_eq_true rfl) (Nat.le_of_ble_eq_true rfl) dX3_become_27 (fun g_2 H locs eg_2 S => ?_)
  have h := h g_2 eg_2
  refine lv_aload_n hx hb dX3_become_30 rfl (lv_at hl 1 rfl) ?_
  refine kg3 (k := 2) (v := .ref (ad (j1 + 3))) C S hj1 (by decide) n_X3_become_X3 m_X3_become_7 rfl dX3_become_31 ?_
  refine lv_iconst (v := 0) hx hb dX3_become_34 (by decide) ?_
  refine lv_aload_n hx hb dX3_become_35 rfl (lv_at hl 0 rfl) ?_
  refine kg3 (k := 2) (v := .ref (ad (j0 + 3))) C S hj0 (by decide) n_X3_become_X3 m_X3_become_7 rfl dX3_become_36 ?_
  refine lv_iconst (v := 0) hx hb dX3_become_39 (by decide) ?_
  refine lv_bipush (v := 7) hx hb dX3_become_40 (by decide) ?_
  obtain ⟨hi, h⟩ := h
  refine kCpy C S hl.1 ((lyB hj1).2.2.1.1) ((lyB hj1).2.2.1.2) ((lyB hj0).2.2.1.1) ((lyB hj0).2.2.1.2) hi m_X3_become_2 m_X3_become_3 m_X3_become_4 m_X3_become_5 (Nat.le_of_ble_eq_true rfl) (Nat.le_of_ble_eq_true rfl) dX3_become_42 (fun g_3 H locs eg_3 S => ?_)
  have h := h g_3 eg_3
  refine lv_aload_n hx hb dX3_become_45 rfl (lv_at hl 1 rfl) ?_
  refine kg3 (k := 3) (v := .ref (ad (j1 + 4))) C S hj1 (by decide) n_X3_become_X3 m_X3_become_8 rfl dX3_become_46 ?_
  refine lv_iconst (v := 0) hx hb dX3_become_49 (by decide) ?_
  refine lv_aload_n hx hb dX3_become_50 rfl (lv_at hl 0 rfl) ?_
  refine kg3 (k := 3) (v := .ref (ad (j0 + 4))) C S hj0 (by decide) n_X3_become_X3 m_X3_become_8 rfl dX3_become_51 ?_
  refine lv_iconst (v := 0) hx hb dX3_become_54 (by decide) ?_
  refine lv_bipush (v := 7) hx hb dX3_become_55 (by decide) ?_
  obtain ⟨hi, h⟩ := h
  refine kCpy C S hl.1 ((lyB hj1).2.2.2.1) ((lyB hj1).2.2.2.2) ((lyB hj0).2.2.2.1) ((lyB hj0).2.2.2.2) hi m_X3_become_2 m_X3_become_3 m_X3_become_4 m_X3_become_5 (Nat.le_of_ble_eq_true rfl) (Nat.le_of_ble_eq_true rfl) dX3_become_57 (fun g_4 H locs eg_4 S => ?_)
  have h := h g_4 eg_4
  refine lv_aload_n hx hb dX3_become_60 rfl (lv_at hl 0 rfl) ?_
  refine lv_aload_n hx hb dX3_become_61 rfl (lv_at hl 1 rfl) ?_
  refine kg3 (k := 4) (v := .int (g_4.1 j1 4)) C S hj1 (by decide) n_X3_become_X3 m_X3_become_9 rfl dX3_become_62 ?_
  refine kp3_4 C S hj0 n_X3_become_X3 m_X3_become_9 dX3_become_65 (fun g_5 H locs eg_5 S => ?_)
  have h := h g_5 eg_5
  refine lv_aload_n hx hb dX3_become_68 rfl (lv_at hl 0 rfl) ?_
  refine lv_aload_n hx hb dX3_become_69 rfl (lv_at hl 1 rfl) ?_
  refine kg3 (k := 5) (v := .int (g_5.1 j1 5)) C S hj1 (by decide) n_X3_become_X3 m_X3_become_10 rfl dX3_become_70 ?_
  refine kp3_5 C S hj0 n_X3_become_X3 m_X3_become_10 dX3_become_73 (fun g_6 H locs eg_6 S => ?_)
  have h := h g_6 eg_6
  refine lv_aload_n hx hb dX3_become_76 rfl (lv_at hl 0 rfl) ?_
  refine lv_aload_n hx hb dX3_become_77 rfl (lv_at hl 1 rfl) ?_
  refine kg3 (k := 6) (v := .int (g_6.1 j1 6)) C S hj1 (by decide) n_X3_become_X3 m_X3_become_11 rfl dX3_become_78 ?_
  refine kp3_6 C S hj0 n_X3_become_X3 m_X3_become_11 dX3_become_81 (fun g_7 H locs eg_7 S => ?_)
  have h := h g_7 eg_7
  refine lv_aload_n hx hb dX3_become_84 rfl (lv_at hl 0 rfl) ?_
  refine lv_aload_n hx hb dX3_become_85 rfl (lv_at hl 1 rfl) ?_
  refine kg3 (k := 7) (v := .int (g_7.1 j1 7)) C S hj1 (by decide) n_X3_become_X3 m_X3_become_12 rfl dX3_become_86 ?_
  refine kp3_7 C S hj0 n_X3_become_X3 m_X3_become_12 dX3_become_89 (fun g_8 H locs eg_8 S => ?_)
  have h := h g_8 eg_8
  refine lv_aload_n hx hb dX3_become_92 rfl (lv_at hl 0 rfl) ?_
  refine lv_aload_n hx hb dX3_become_93 rfl (lv_at hl 1 rfl) ?_
  refine kg3 (k := 8) (v := .int (g_8.1 j1 8)) C S hj1 (by decide) n_X3_become_X3 m_X3_become_13 rfl dX3_become_94 ?_
  refine kp3_8 C S hj0 n_X3_become_X3 m_X3_become_13 dX3_become_97 (fun g_9 H locs eg_9 S => ?_)
  have h := h g_9 eg_9
  exact kRv C S h dX3_become_100
/-! ClawCase$Box.begin(III)V, height 0 -/
theorem m_X3_begin_1 : Cond.fieldLink RX3 24 "ClawCase$Box" "toys" "I" ∈ wsX3_begin := List.mem_of_getElem? (i := 1) (by decide +kernel)
theorem n_X3_begin_X3 : ∀ w ∈ wsX30, w ∈ wsX3_begin := mem_by [6, 7, 8, 9, 10, 11, 12, 13, 14] (by decide +kernel)
theorem m_X3_begin_2 : Cond.fieldLink RX3 37 "ClawCase$Box" "plays" "I" ∈ wsX3_begin := List.mem_of_getElem? (i := 2) (by decide +kernel)
theorem m_X3_begin_3 : Cond.fieldLink RX3 28 "ClawCase$Box" "low" "I" ∈ wsX3_begin := List.mem_of_getElem? (i := 3) (by decide +kernel)
theorem m_X3_begin_4 : Cond.fieldLink RX3 31 "ClawCase$Box" "high" "I" ∈ wsX3_begin := List.mem_of_getElem? (i := 4) (by decide +kernel)
theorem m_X3_begin_5 : Cond.fieldLink RX3 34 "ClawCase$Box" "every" "I" ∈ wsX3_begin := List.mem_of_getElem? (i := 5) (by decide +kernel)
def o_X3_begin (Q : Mm → Prop) (j0 : Nat) (g : Mm) (x1 : Int32) (x2 : Int32) (x3 : Int32) : Prop := ∀ g_1 : Mm, g_1 = mset g j0 4 0 → (∀ g_2 : Mm, g_2 = mset g_1 j0 8 0 → (∀ g_3 : Mm, g_3 = mset g_2 j0 5 x1 → (∀ g_4 : Mm, g_4 = mset g_3 j0 6 x2 → (∀ g_5 : Mm, g_5 = mset g_4 j0 7 x3 → (Q g_5)))))
set_option maxHeartbeats 4000000 in
set_option maxRecDepth 100000 in
theorem o_X3_begin_c {l : Launch} {dC : Nat → ClassId} {dI : Nat → Nat → Nat} {cy : Nat → ClassId} {ad tz : Nat → Nat} {Q : Mm → Prop} {j0 : Nat} {g : Mm} {x1 : Int32} {x2 : Int32} {x3 : Int32} (hj0 : ly j0 = 3) (h : o_X3_begin Q j0 g x1 x2 x3) : CV l dC dI cy ad tz yX3_begin wsX3_begin (rmD 0) [.ref (ad j0), .int x1, .int x2, .int x3] g Q := by
  refine CV.of (by decide) rfl rfl (Nat.le_of_ble_eq_true rfl) ?_
  intro p e s m args below meth c ls C hl S
  have hl : lv_has ls 4 [(0, .ref (ad j0)), (1, .int x1), (2, .int x2), (3, .int x3)] := hl
  have hx := C.1.1
  have hb := C.1.2.1
  unfold o_X3_begin at h
  refine lv_aload_n hx hb dX3_begin_0 rfl (lv_at hl 0 rfl) ?_
  refine lv_iconst (v := 0) hx hb dX3_begin_1 (by decide) ?_
  refine kp3_4 C S hj0 n_X3_begin_X3 m_X3_begin_1 dX3_begin_2 (fun g_1 H locs eg_1 S => ?_)
  have h := h g_1 eg_1
  refine lv_aload_n hx hb dX3_begin_5 rfl (lv_at hl 0 rfl) ?_
  refine lv_iconst (v := 0) hx hb dX3_begin_6 (by decide) ?_
  refine kp3_8 C S hj0 n_X3_begin_X3 m_X3_begin_2 dX3_begin_7 (fun g_2 H locs eg_2 S => ?_)
  have h := h g_2 eg_2
  refine lv_aload_n hx hb dX3_begin_10 rfl (lv_at hl 0 rfl) ?_
  refine lv_iload_n hx hb dX3_begin_11 rfl (lv_at hl 1 rfl) ?_
  refine kp3_5 C S hj0 n_X3_begin_X3 m_X3_begin_3 dX3_begin_12 (fun g_3 H locs eg_3 S => ?_)
  have h := h g_3 eg_3
  refine lv_aload_n hx hb dX3_begin_15 rfl (lv_at hl 0 rfl) ?_
  refine lv_iload_n hx hb dX3_begin_16 rfl (lv_at hl 2 rfl) ?_
  refine kp3_6 C S hj0 n_X3_begin_X3 m_X3_begin_4 dX3_begin_17 (fun g_4 H locs eg_4 S => ?_)
  have h := h g_4 eg_4
  refine lv_aload_n hx hb dX3_begin_20 rfl (lv_at hl 0 rfl) ?_
  refine lv_iload_n hx hb dX3_begin_21 rfl (lv_at hl 3 rfl) ?_
  refine kp3_7 C S hj0 n_X3_begin_X3 m_X3_begin_5 dX3_begin_22 (fun g_5 H locs eg_5 S => ?_)
  have h := h g_5 eg_5
  exact kRv C S h dX3_begin_25
/-! ClawCase$Box.gripAhead(I)I, height 0 -/
theorem m_X3_gripAhead_1 : Cond.fieldLink RX3 34 "ClawCase$Box" "every" "I" ∈ wsX3_gripAhead := List.mem_of_getElem? (i := 1) (by decide +kernel)
theorem n_X3_gripAhead_X3 : ∀ w ∈ wsX30, w ∈ wsX3_gripAhead := mem_by [5, 6, 7, 8, 9, 10, 11, 12, 13] (by decide +kernel)
theorem m_X3_gripAhead_4 : Cond.fieldLink RX3 28 "ClawCase$Box" "low" "I" ∈ wsX3_gripAhead := List.mem_of_getElem? (i := 4) (by decide +kernel)
theorem m_X3_gripAhead_2 : Cond.fieldLink RX3 37 "ClawCase$Box" "plays" "I" ∈ wsX3_gripAhead := List.mem_of_getElem? (i := 2) (by decide +kernel)
theorem m_X3_gripAhead_3 : Cond.fieldLink RX3 31 "ClawCase$Box" "high" "I" ∈ wsX3_gripAhead := List.mem_of_getElem? (i := 3) (by decide +kernel)
def o_X3_gripAhead (Q : Int32 → Mm → Prop) (j0 : Nat) (g : Mm) (x1 : Int32) : Prop := (((g.1 j0 7) ≤ 0) → Q (g.1 j0 5) g) ∧ ((¬ (g.1 j0 7) ≤ 0) → ¬ (g.1 j0 7 : Int32) = 0 ∧ (((¬ ((((g.1 j0 8) + 1) + x1) - (((g.1 j0 8) + 1) + x1) / (g.1 j0 7) * (g.1 j0 7)) = 0) → Q (g.1 j0 5) g) ∧ ((((((g.1 j0 8) + 1) + x1) - (((g.1 j0 8) + 1) + x1) / (g.1 j0 7) * (g.1 j0 7)) = 0) → Q (g.1 j0 6) g)))
set_option maxHeartbeats 4000000 in
set_option maxRecDepth 100000 in
theorem o_X3_gripAhead_c {l : Launch} {dC : Nat → ClassId} {dI : Nat → Nat → Nat} {cy : Nat → ClassId} {ad tz : Nat → Nat} {Q : Int32 → Mm → Prop} {j0 : Nat} {g : Mm} {x1 : Int32} (hj0 : ly j0 = 3) (h : o_X3_gripAhead Q j0 g x1) : CI l dC dI cy ad tz yX3_gripAhead wsX3_gripAhead (rmD 0) [.ref (ad j0), .int x1] g Q := by
  refine CI.of (by decide) rfl rfl (Nat.le_of_ble_eq_true rfl) ?_
  intro p e s m args below meth c ls C hl S
  have hl : lv_has ls 2 [(0, .ref (ad j0)), (1, .int x1)] := hl
  have hx := C.1.1
  have hb := C.1.2.1
  unfold o_X3_gripAhead at h
  refine lv_aload_n hx hb dX3_gripAhead_0 rfl (lv_at hl 0 rfl) ?_
  refine kg3 (k := 7) (v := .int (g.1 j0 7)) C S hj0 (by decide) n_X3_gripAhead_X3 m_X3_gripAhead_1 rfl dX3_gripAhead_1 ?_
  refine lv_if_le (tgt := 30) hx hb dX3_gripAhead_4 (by decide) (fun c1 => ?_) (fun c1 => ?_)
  · have h := h.1 c1
    refine lv_aload_n hx hb dX3_gripAhead_30 rfl (lv_at hl 0 rfl) ?_
    refine kg3 (k := 5) (v := .int (g.1 j0 5)) C S hj0 (by decide) n_X3_gripAhead_X3 m_X3_gripAhead_4 rfl dX3_gripAhead_31 ?_
    exact kRi C S h dX3_gripAhead_34
  · have h := h.2 c1
    refine lv_aload_n hx hb dX3_gripAhead_7 rfl (lv_at hl 0 rfl) ?_
    refine kg3 (k := 8) (v := .int (g.1 j0 8)) C S hj0 (by decide) n_X3_gripAhead_X3 m_X3_gripAhead_2 rfl dX3_gripAhead_8 ?_
    refine lv_iconst (v := 1) hx hb dX3_gripAhead_11 (by decide) ?_
    refine lv_iadd hx hb dX3_gripAhead_12 ?_
    refine lv_iload_n hx hb dX3_gripAhead_13 rfl (lv_at hl 1 rfl) ?_
    refine lv_iadd hx hb dX3_gripAhead_14 ?_
    refine lv_aload_n hx hb dX3_gripAhead_15 rfl (lv_at hl 0 rfl) ?_
    refine kg3 (k := 7) (v := .int (g.1 j0 7)) C S hj0 (by decide) n_X3_gripAhead_X3 m_X3_gripAhead_1 rfl dX3_gripAhead_16 ?_
    obtain ⟨h0, h⟩ := h
    refine lv_irem hx hb dX3_gripAhead_19 h0 ?_
    refine lv_if_ne (tgt := 30) hx hb dX3_gripAhead_20 (by decide) (fun c1 => ?_) (fun c1 => ?_)
    · have h := h.1 c1
      refine lv_aload_n hx hb dX3_gripAhead_30 rfl (lv_at hl 0 rfl) ?_
      refine kg3 (k := 5) (v := .int (g.1 j0 5)) C S hj0 (by decide) n_X3_gripAhead_X3 m_X3_gripAhead_4 rfl dX3_gripAhead_31 ?_
      exact kRi C S h dX3_gripAhead_34
    · have h := h.2 c1
      refine lv_aload_n hx hb dX3_gripAhead_23 rfl (lv_at hl 0 rfl) ?_
      refine kg3 (k := 6) (v := .int (g.1 j0 6)) C S hj0 (by decide) n_X3_gripAhead_X3 m_X3_gripAhead_3 rfl dX3_gripAhead_24 ?_
      refine lv_goto (tgt := 34) hx hb dX3_gripAhead_27 (by decide) ?_
      exact kRi C S h dX3_gripAhead_34
/-! ClawCase$Box.need(I)I, height 0 -/
theorem m_X3_need_1 : Cond.fieldLink RX3 9 "ClawCase$Box" "kinds" "[I" ∈ wsX3_need := List.mem_of_getElem? (i := 1) (by decide +kernel)
theorem n_X3_need_X3 : ∀ w ∈ wsX30, w ∈ wsX3_need := mem_by [3, 4, 5, 6, 7, 8, 9, 10, 11] (by decide +kernel)
theorem m_X3_need_2 : Cond.fieldLink RX3 15 "ClawCase$Box" "weights" "[I" ∈ wsX3_need := List.mem_of_getElem? (i := 2) (by decide +kernel)
def o_X3_need (Q : Int32 → Mm → Prop) (j0 : Nat) (g : Mm) (x1 : Int32) : Prop := vp_in x1 7 ∧ (((g.1 (j0 + 1) x1.toNatClampNeg) = 2 → vp_in x1 7 ∧ (Q ((g.1 (j0 + 2) x1.toNatClampNeg) + 2) g)) ∧ ((g.1 (j0 + 1) x1.toNatClampNeg) = 3 → vp_in x1 7 ∧ (¬ (2 : Int32) = 0 ∧ (Q (((g.1 (j0 + 2) x1.toNatClampNeg) / 2) + 1) g))) ∧ ((¬ (g.1 (j0 + 1) x1.toNatClampNeg) = 2 ∧ ¬ (g.1 (j0 + 1) x1.toNatClampNeg) = 3) → vp_in x1 7 ∧ (Q (g.1 (j0 + 2) x1.toNatClampNeg) g)))
set_option maxHeartbeats 4000000 in
set_option maxRecDepth 100000 in
theorem o_X3_need_c {l : Launch} {dC : Nat → ClassId} {dI : Nat → Nat → Nat} {cy : Nat → ClassId} {ad tz : Nat → Nat} {Q : Int32 → Mm → Prop} {j0 : Nat} {g : Mm} {x1 : Int32} (hj0 : ly j0 = 3) (h : o_X3_need Q j0 g x1) : CI l dC dI cy ad tz yX3_need wsX3_need (rmD 0) [.ref (ad j0), .int x1] g Q := by
  refine CI.of (by decide) rfl rfl (Nat.le_of_ble_eq_true rfl) ?_
  intro p e s m args below meth c ls C hl S
  have hl : lv_has ls 2 [(0, .ref (ad j0)), (1, .int x1)] := hl
  have hx := C.1.1
  have hb := C.1.2.1
  unfold o_X3_need at h
  refine lv_aload_n hx hb dX3_need_0 rfl (lv_at hl 0 rfl) ?_
  refine kg3 (k := 0) (v := .ref (ad (j0 + 1))) C S hj0 (by decide) n_X3_need_X3 m_X3_need_1 rfl dX3_need_1 ?_
  refine lv_iload_n hx hb dX3_need_4 rfl (lv_at hl 1 rfl) ?_
  obtain ⟨hi, h⟩ := h
  refine kLi C S ((lyB hj0).1.1) ((lyB hj0).1.2) hi dX3_need_5 ?_
  by_cases c2 : (g.1 (j0 + 1) x1.toNatClampNeg) = 2
  · have h := h.1 c2
    refine lv_lookup (off := 26) (tgt := 32) hx hb dX3_need_6 (by decide) (by rw [c2]; decide) (by decide) ?_
    refine lv_aload_n hx hb dX3_need_32 rfl (lv_at hl 0 rfl) ?_
    refine kg3 (k := 1) (v := .ref (ad (j0 + 2))) C S hj0 (by decide) n_X3_need_X3 m_X3_need_2 rfl dX3_need_33 ?_
    refine lv_iload_n hx hb dX3_need_36 rfl (lv_at hl 1 rfl) ?_
    obtain ⟨hi, h⟩ := h
    refine kLi C S ((lyB hj0).2.1.1) ((lyB hj0).2.1.2) hi dX3_need_37 ?_
    refine lv_iconst (v := 2) hx hb dX3_need_38 (by decide) ?_
    refine lv_iadd hx hb dX3_need_39 ?_
    exact kRi C S h dX3_need_40
  by_cases c3 : (g.1 (j0 + 1) x1.toNatClampNeg) = 3
  · have h := h.2.1 c3
    refine lv_lookup (off := 35) (tgt := 41) hx hb dX3_need_6 (by decide) (by rw [c3]; decide) (by decide) ?_
    refine lv_aload_n hx hb dX3_need_41 rfl (lv_at hl 0 rfl) ?_
    refine kg3 (k := 1) (v := .ref (ad (j0 + 2))) C S hj0 (by decide) n_X3_need_X3 m_X3_need_2 rfl dX3_need_42 ?_
    refine lv_iload_n hx hb dX3_need_45 rfl (lv_at hl 1 rfl) ?_
    obtain ⟨hi, h⟩ := h
    refine kLi C S ((lyB hj0).2.1.1) ((lyB hj0).2.1.2) hi dX3_need_46 ?_
    refine lv_iconst (v := 2) hx hb dX3_need_47 (by decide) ?_
    obtain ⟨h0, h⟩ := h
    refine lv_idiv hx hb dX3_need_48 h0 ?_
    refine lv_iconst (v := 1) hx hb dX3_need_49 (by decide) ?_
    refine lv_iadd hx hb dX3_need_50 ?_
    exact kRi C S h dX3_need_51
  have h := h.2.2 ⟨c2, c3⟩
  refine lv_lookup (off := 46) (tgt := 52) hx hb dX3_need_6 (by decide) ?_ (by decide) ?_
  · show Op.lookupswitch.offset [(2, 26), (3, 35)] 46 _ = 46
    rw [Op.lookupswitch.offset_cons, if_neg (fun q => lk_ne c2 (by decide) q.symm), Op.lookupswitch.offset_cons, if_neg (fun q => lk_ne c3 (by decide) q.symm), Op.lookupswitch.offset_nil]
  refine lv_aload_n hx hb dX3_need_52 rfl (lv_at hl 0 rfl) ?_
  refine kg3 (k := 1) (v := .ref (ad (j0 + 2))) C S hj0 (by decide) n_X3_need_X3 m_X3_need_2 rfl dX3_need_53 ?_
  refine lv_iload_n hx hb dX3_need_56 rfl (lv_at hl 1 rfl) ?_
  obtain ⟨hi, h⟩ := h
  refine kLi C S ((lyB hj0).2.1.1) ((lyB hj0).2.1.2) hi dX3_need_57 ?_
  exact kRi C S h dX3_need_58
/-! ClawCase$Box.rolling(I)I, height 1 -/
theorem cw_X3_rolling_X3_howMany {s : State} {args : Array Value} (ht : ∀ w ∈ wsX3_rolling, w.before args s = true) : CallW (rmD 1) s args RX3 RX3 55 yX3_howMany cX3_howMany 4 (some .int) wsX3_howMany (rmD (0)) 0 0 1 := cwV 1 ht gX3_rolling_X3_howMany rfl rfl rfl (by decide +kernel) ⟨Nat.le_of_ble_eq_true rfl, Nat.le_of_ble_eq_true rfl⟩
def o_X3_rolling_28 (Q : Int32 → Mm → Prop) (j0 : Nat) (g : Mm) (x1 : Int32) (x2 : Int32) : Prop := ((5 ≤ x1) → Q x1 g) ∧ ((¬ 5 ≤ x1) → o_X3_howMany (fun (r_5 : Int32) (g_4 : Mm) => ((x2 < r_5) → Q x1 g_4) ∧ ((¬ x2 < r_5) → Q (x1 + 1) g_4)) j0 g (x1 + 1))
set_option maxHeartbeats 4000000 in
set_option maxRecDepth 100000 in
theorem o_X3_rolling_28_w {p : Program} {l : Launch} {e : Env} {s : State} {m : MethodId} {args : Array Value} {below : List Frame} {meth : Method} {c : Code} {dC : Nat → ClassId} {dI : Nat → Nat → Nat} {cy : Nat → ClassId} {ad tz : Nat → Nat} {Q : Int32 → Mm → Prop} {j0 : Nat} (C : CX p s m args meth c dC dI cy ad tz cX3_rolling 3 (some .int) RX3 wsX3_rolling) (hj0 : ly j0 = 3) : ∀ (g : Mm) (x1 : Int32) (x2 : Int32) (H : Heap) (locs : List Loc) (ls : Array Slot), St dC dI cy ad s g H locs → lv_has ls 3 [(0, .ref (ad j0)), (1, .int x1), (2, .int x2)] → o_X3_rolling_28 Q j0 g x1 x2 → W p l e (rmD 1) s m args below meth c H locs 0 0 (QI dC dI cy ad below args s Q) (F0 m 28 ls []) := by
  have hx := C.1.1
  have hb := C.1.2.1
  intro g x1 x2 H locs ls S hl h
  unfold o_X3_rolling_28 at h
  refine lv_iload_n hx hb dX3_rolling_28 rfl (lv_at hl 1 rfl) ?_
  refine lv_iconst (v := 5) hx hb dX3_rolling_29 (by decide) ?_
  refine lv_icmp_ge (tgt := 48) hx hb dX3_rolling_30 (by decide) (fun c1 => ?_) (fun c1 => ?_)
  · have h := h.1 c1
    refine lv_iload_n hx hb dX3_rolling_48 rfl (lv_at hl 1 rfl) ?_
    exact kRi C S h dX3_rolling_49
  · have h := h.2 c1
    refine lv_aload_n hx hb dX3_rolling_33 rfl (lv_at hl 0 rfl) ?_
    refine lv_iload_n hx hb dX3_rolling_34 rfl (lv_at hl 1 rfl) ?_
    refine lv_iconst (v := 1) hx hb dX3_rolling_35 (by decide) ?_
    refine lv_iadd hx hb dX3_rolling_36 ?_
    refine kV_i (As := [.int (x1 + 1)]) (rest := []) C S hl.1 (o_X3_howMany_c hj0 h) (wd_o3 hj0) rfl (cw_X3_rolling_X3_howMany C.1.2.2.2.2) rfl rfl (Nat.le_of_ble_eq_true rfl) dX3_rolling_37 (fun r_5 g_4 H locs h S => ?_)
    refine lv_iload_n hx hb dX3_rolling_40 rfl (lv_at hl 2 rfl) ?_
    refine lv_icmp_gt (tgt := 48) hx hb dX3_rolling_41 (by decide) (fun c1 => ?_) (fun c1 => ?_)
    · have h := h.1 c1
      refine lv_iload_n hx hb dX3_rolling_48 rfl (lv_at hl 1 rfl) ?_
      exact kRi C S h dX3_rolling_49
    · have h := h.2 c1
      refine lv_iload_n hx hb dX3_rolling_44 rfl (lv_at hl 1 rfl) ?_
      refine lv_iconst (v := 1) hx hb dX3_rolling_45 (by decide) ?_
      refine lv_iadd hx hb dX3_rolling_46 ?_
      exact kRi C S h dX3_rolling_47
def o_X3_rolling (Q : Int32 → Mm → Prop) (j0 : Nat) (g : Mm) (x1 : Int32) : Prop := o_X3_howMany (fun (r_2 : Int32) (g_1 : Mm) => ∀ x_3 : Int32, x_3 = (r_2 - 2) → (((x1 ≤ 1) → o_X3_rolling_28 Q j0 g_1 x1 x_3) ∧ ((¬ x1 ≤ 1) → o_X3_howMany (fun (r_7 : Int32) (g_6 : Mm) => ((x_3 < r_7) → o_X3_rolling_28 Q j0 g_6 x1 x_3) ∧ ((¬ x_3 < r_7) → Q (x1 - 1) g_6)) j0 g_1 (x1 - 1)))) j0 g x1
set_option maxHeartbeats 4000000 in
set_option maxRecDepth 100000 in
theorem o_X3_rolling_c {l : Launch} {dC : Nat → ClassId} {dI : Nat → Nat → Nat} {cy : Nat → ClassId} {ad tz : Nat → Nat} {Q : Int32 → Mm → Prop} {j0 : Nat} {g : Mm} {x1 : Int32} (hj0 : ly j0 = 3) (h : o_X3_rolling Q j0 g x1) : CI l dC dI cy ad tz yX3_rolling wsX3_rolling (rmD 1) [.ref (ad j0), .int x1] g Q := by
  refine CI.of (by decide) rfl rfl (Nat.le_of_ble_eq_true rfl) ?_
  intro p e s m args below meth c ls C hl S
  have hl : lv_has ls 3 [(0, .ref (ad j0)), (1, .int x1)] := hl
  have hx := C.1.1
  have hb := C.1.2.1
  unfold o_X3_rolling at h
  refine lv_aload_n hx hb dX3_rolling_0 rfl (lv_at hl 0 rfl) ?_
  refine lv_iload_n hx hb dX3_rolling_1 rfl (lv_at hl 1 rfl) ?_
  refine kV_i (As := [.int x1]) (rest := []) C S hl.1 (o_X3_howMany_c hj0 h) (wd_o3 hj0) rfl (cw_X3_rolling_X3_howMany C.1.2.2.2.2) rfl rfl (Nat.le_of_ble_eq_true rfl) dX3_rolling_2 (fun r_2 g_1 H locs h S => ?_)
  refine lv_iconst (v := 2) hx hb dX3_rolling_5 (by decide) ?_
  refine lv_isub hx hb dX3_rolling_6 ?_
  refine lv_topi (fun x_3 ex_3 => ?_)
  have h := h x_3 ex_3
  refine lv_istore_n (lv' := [(2, .int x_3), (0, .ref (ad j0)), (1, .int x1)]) hx hb dX3_rolling_7 rfl hl (by decide) rfl (fun ls hl => ?_)
  refine lv_iload_n hx hb dX3_rolling_8 rfl (lv_at hl 2 rfl) ?_
  refine lv_iconst (v := 1) hx hb dX3_rolling_9 (by decide) ?_
  refine lv_icmp_le (tgt := 28) hx hb dX3_rolling_10 (by decide) (fun c1 => ?_) (fun c1 => ?_)
  · have h := h.1 c1
    exact o_X3_rolling_28_w C hj0 g_1 x1 x_3 _ _ _ S (lv_sub hl [1, 2, 0] rfl) h
  · have h := h.2 c1
    refine lv_aload_n hx hb dX3_rolling_13 rfl (lv_at hl 1 rfl) ?_
    refine lv_iload_n hx hb dX3_rolling_14 rfl (lv_at hl 2 rfl) ?_
    refine lv_iconst (v := 1) hx hb dX3_rolling_15 (by decide) ?_
    refine lv_isub hx hb dX3_rolling_16 ?_
    refine kV_i (As := [.int (x1 - 1)]) (rest := []) C S hl.1 (o_X3_howMany_c hj0 h) (wd_o3 hj0) rfl (cw_X3_rolling_X3_howMany C.1.2.2.2.2) rfl rfl (Nat.le_of_ble_eq_true rfl) dX3_rolling_17 (fun r_7 g_6 H locs h S => ?_)
    refine lv_iload_n hx hb dX3_rolling_20 rfl (lv_at hl 0 rfl) ?_
    refine lv_icmp_gt (tgt := 28) hx hb dX3_rolling_21 (by decide) (fun c1 => ?_) (fun c1 => ?_)
    · have h := h.1 c1
      exact o_X3_rolling_28_w C hj0 g_6 x1 x_3 _ _ _ S (lv_sub hl [1, 2, 0] rfl) h
    · have h := h.2 c1
      refine lv_iload_n hx hb dX3_rolling_24 rfl (lv_at hl 2 rfl) ?_
      refine lv_iconst (v := 1) hx hb dX3_rolling_25 (by decide) ?_
      refine lv_isub hx hb dX3_rolling_26 ?_
      exact kRi C S h dX3_rolling_27
/-! ClawCase.isOfKind(II)Z, height 0 -/
theorem m_X7_isOfKind_1 : Cond.fieldLink RX7 286 "ClawCase" "WIDER" "[I" ∈ wsX7_isOfKind := List.mem_of_getElem? (i := 1) (by decide +kernel)
def o_X7_isOfKind_4 (Q : Int32 → Mm → Prop) (K33 : Mm → Int32 → Int32 → Prop) : Nat → Mm → Int32 → Int32 → Int32 → Prop
  | 0, _, _, _, _ => False
  | n4 + 1, g, x1, x2, x3 => ((6 ≤ x3) → K33 g x1 x2) ∧ ((¬ 6 ≤ x3) → ((x2 ≤ 0) → K33 g x1 x2) ∧ ((¬ x2 ≤ 0) → ((x2 = x1) → K33 g x1 x2) ∧ ((¬ x2 = x1) → vp_in x2 6 ∧ (∀ x_1 : Int32, x_1 = (tzW x2.toNatClampNeg) → (∀ x_2 : Int32, x_2 = x3 + 1 → (o_X7_isOfKind_4 Q K33 n4 g x1 x_1 x_2))))))
def o_X7_isOfKind_33 (Q : Int32 → Mm → Prop) (g : Mm) (x1 : Int32) (x2 : Int32) : Prop := ((¬ x2 = x1) → Q 0 g) ∧ ((x2 = x1) → Q 1 g)
set_option maxHeartbeats 4000000 in
set_option maxRecDepth 100000 in
theorem o_X7_isOfKind_4_w {p : Program} {l : Launch} {e : Env} {s : State} {m : MethodId} {args : Array Value} {below : List Frame} {meth : Method} {c : Code} {dC : Nat → ClassId} {dI : Nat → Nat → Nat} {cy : Nat → ClassId} {ad tz : Nat → Nat} {Q : Int32 → Mm → Prop} {K33 : Mm → Int32 → Int32 → Prop} (C : CX p s m args meth c dC dI cy ad tz cX7_isOfKind 4 (some .boolean) RX7 wsX7_isOfKind) (hK33 : ∀ (g : Mm) (x1 : Int32) (x2 : Int32) (H : Heap) (locs : List Loc) (ls : Array Slot), St dC dI cy ad s g H locs → lv_has ls 4 [(1, .int x1), (2, .int x2)] → K33 g x1 x2 → W p l e (rmD 0) s m args below meth c H locs 0 0 (QI dC dI cy ad below args s Q) (F0 m 33 ls [])) : ∀ (n : Nat) (g : Mm) (x1 : Int32) (x2 : Int32) (x3 : Int32) (H : Heap) (locs : List Loc) (ls : Array Slot), St dC dI cy ad s g H locs → lv_has ls 4 [(1, .int x1), (2, .int x2), (3, .int x3)] → o_X7_isOfKind_4 Q K33 n g x1 x2 x3 → W p l e (rmD 0) s m args below meth c H locs 0 0 (QI dC dI cy ad below args s Q) (F0 m 4 ls []) := by
  have hx := C.1.1
  have hb := C.1.2.1
  intro n4
  induction n4 with
  | zero => intro g x1 x2 x3 H locs ls S hl h; exact h.elim
  | succ n4 ih =>
    intro g x1 x2 x3 H locs ls S hl h
    have h : ((6 ≤ x3) → K33 g x1 x2) ∧ ((¬ 6 ≤ x3) → ((x2 ≤ 0) → K33 g x1 x2) ∧ ((¬ x2 ≤ 0) → ((x2 = x1) → K33 g x1 x2) ∧ ((¬ x2 = x1) → vp_in x2 6 ∧ (∀ x_1 : Int32, x_1 = (tzW x2.toNatClampNeg) → (∀ x_2 : Int32, x_2 = x3 + 1 → (o_X7_isOfKind_4 Q K33 n4 g x1 x_1 x_2)))))) := h
    refine lv_iload_n hx hb dX7_isOfKind_4 rfl (lv_at hl 2 rfl) ?_
    refine kGW C S m_X7_isOfKind_1 dX7_isOfKind_5 ?_
    refine kNW C S dX7_isOfKind_8 ?_
    refine lv_icmp_ge (tgt := 33) hx hb dX7_isOfKind_9 (by decide) (fun c1 => ?_) (fun c1 => ?_)
    · have h := h.1 c1
      exact hK33 g x1 x2 _ _ _ S (lv_sub hl [0, 1] rfl) h
    · have h := h.2 c1
      refine lv_iload_n hx hb dX7_isOfKind_12 rfl (lv_at hl 1 rfl) ?_
      refine lv_if_le (tgt := 33) hx hb dX7_isOfKind_13 (by decide) (fun c1 => ?_) (fun c1 => ?_)
      · have h := h.1 c1
        exact hK33 g x1 x2 _ _ _ S (lv_sub hl [0, 1] rfl) h
      · have h := h.2 c1
        refine lv_iload_n hx hb dX7_isOfKind_16 rfl (lv_at hl 1 rfl) ?_
        refine lv_iload_n hx hb dX7_isOfKind_17 rfl (lv_at hl 0 rfl) ?_
        refine lv_icmp_eq (tgt := 33) hx hb dX7_isOfKind_18 (by decide) (fun c1 => ?_) (fun c1 => ?_)
        · have h := h.1 c1
          exact hK33 g x1 x2 _ _ _ S (lv_sub hl [0, 1] rfl) h
        · have h := h.2 c1
          refine kGW C S m_X7_isOfKind_1 dX7_isOfKind_21 ?_
          refine lv_iload_n hx hb dX7_isOfKind_24 rfl (lv_at hl 1 rfl) ?_
          obtain ⟨hi, h⟩ := h
          refine kTW C S hi dX7_isOfKind_25 ?_
          refine lv_topi (fun x_1 ex_1 => ?_)
          have h := h x_1 ex_1
          refine lv_istore_n (lv' := [(2, .int x_1), (1, .int x1), (3, .int x3)]) hx hb dX7_isOfKind_26 rfl hl (by decide) rfl (fun ls hl => ?_)
          obtain ⟨x_2, ex_2⟩ : ∃ y : Int32, y = x3 + 1 := ⟨_, rfl⟩
          have h := h x_2 ex_2
          refine lv_iinc (v := x_2) (lv' := [(3, .int x_2), (2, .int x_1), (1, .int x1)]) hx hb dX7_isOfKind_27 hl (k := 2) rfl (by rw [ex_2]; rfl) (by decide) rfl (fun ls hl => ?_)
          refine lv_goto (tgt := 4) hx hb dX7_isOfKind_30 (by decide) ?_
          exact ih g x1 x_1 x_2 _ _ _ S (lv_sub hl [2, 1, 0] rfl) h
set_option maxHeartbeats 4000000 in
set_option maxRecDepth 100000 in
theorem o_X7_isOfKind_33_w {p : Program} {l : Launch} {e : Env} {s : State} {m : MethodId} {args : Array Value} {below : List Frame} {meth : Method} {c : Code} {dC : Nat → ClassId} {dI : Nat → Nat → Nat} {cy : Nat → ClassId} {ad tz : Nat → Nat} {Q : Int32 → Mm → Prop} (C : CX p s m args meth c dC dI cy ad tz cX7_isOfKind 4 (some .boolean) RX7 wsX7_isOfKind) : ∀ (g : Mm) (x1 : Int32) (x2 : Int32) (H : Heap) (locs : List Loc) (ls : Array Slot), St dC dI cy ad s g H locs → lv_has ls 4 [(1, .int x1), (2, .int x2)] → o_X7_isOfKind_33 Q g x1 x2 → W p l e (rmD 0) s m args below meth c H locs 0 0 (QI dC dI cy ad below args s Q) (F0 m 33 ls []) := by
  have hx := C.1.1
  have hb := C.1.2.1
  intro g x1 x2 H locs ls S hl h
  unfold o_X7_isOfKind_33 at h
  refine lv_iload_n hx hb dX7_isOfKind_33 rfl (lv_at hl 1 rfl) ?_
  refine lv_iload_n hx hb dX7_isOfKind_34 rfl (lv_at hl 0 rfl) ?_
  refine lv_icmp_ne (tgt := 42) hx hb dX7_isOfKind_35 (by decide) (fun c1 => ?_) (fun c1 => ?_)
  · have h := h.1 c1
    refine lv_iconst (v := 0) hx hb dX7_isOfKind_42 (by decide) ?_
    exact kRz C S rfl h dX7_isOfKind_43
  · have h := h.2 c1
    refine lv_iconst (v := 1) hx hb dX7_isOfKind_38 (by decide) ?_
    refine lv_goto (tgt := 43) hx hb dX7_isOfKind_39 (by decide) ?_
    exact kRz C S rfl h dX7_isOfKind_43
def o_X7_isOfKind (Q : Int32 → Mm → Prop) (g : Mm) (x0 : Int32) (x1 : Int32) : Prop := ∃ n4, o_X7_isOfKind_4 Q (fun (g : Mm) (x1 : Int32) (x2 : Int32) => o_X7_isOfKind_33 Q g x1 x2) n4 g x1 x0 0
set_option maxHeartbeats 4000000 in
set_option maxRecDepth 100000 in
theorem o_X7_isOfKind_c {l : Launch} {dC : Nat → ClassId} {dI : Nat → Nat → Nat} {cy : Nat → ClassId} {ad tz : Nat → Nat} {Q : Int32 → Mm → Prop} {g : Mm} {x0 : Int32} {x1 : Int32} (h : o_X7_isOfKind Q g x0 x1) : CI l dC dI cy ad tz yX7_isOfKind wsX7_isOfKind (rmD 0) [.int x0, .int x1] g Q := by
  refine CI.of (by decide) rfl rfl (Nat.le_of_ble_eq_true rfl) ?_
  intro p e s m args below meth c ls C hl S
  have hl : lv_has ls 4 [(0, .int x0), (1, .int x1)] := hl
  have hx := C.1.1
  have hb := C.1.2.1
  unfold o_X7_isOfKind at h
  refine lv_iload_n hx hb dX7_isOfKind_0 rfl (lv_at hl 0 rfl) ?_
  refine lv_istore_n (lv' := [(2, .int x0), (0, .int x0), (1, .int x1)]) hx hb dX7_isOfKind_1 rfl hl (by decide) rfl (fun ls hl => ?_)
  refine lv_iconst (v := 0) hx hb dX7_isOfKind_2 (by decide) ?_
  refine lv_istore_n (lv' := [(3, .int 0), (2, .int x0), (0, .int x0), (1, .int x1)]) hx hb dX7_isOfKind_3 rfl hl (by decide) rfl (fun ls hl => ?_)
  obtain ⟨n4, h⟩ := h
  refine o_X7_isOfKind_4_w C ?_ n4 g x1 x0 0 _ _ _ S (lv_sub hl [3, 1, 0] rfl) h
  · intro g x1 x2 H locs ls S hl h
    exact o_X7_isOfKind_33_w C g x1 x2 _ _ _ S (lv_sub hl [0, 1] rfl) h
/-! ClawCase$Box.landing(III)I, height 2 -/
theorem m_X3_landing_1 : Cond.fieldLink RX3 9 "ClawCase$Box" "kinds" "[I" ∈ wsX3_landing := List.mem_of_getElem? (i := 1) (by decide +kernel)
theorem n_X3_landing_X3 : ∀ w ∈ wsX30, w ∈ wsX3_landing := mem_by [22, 23, 24, 25, 26, 27, 28, 29, 30] (by decide +kernel)
theorem cw_X3_landing_X3_howMany {s : State} {args : Array Value} (ht : ∀ w ∈ wsX3_landing, w.before args s = true) : CallW (rmD 2) s args RX3 RX3 55 yX3_howMany cX3_howMany 4 (some .int) wsX3_howMany (rmD (0)) 0 0 1 := cwV 1 ht gX3_landing_X3_howMany rfl rfl rfl (by decide +kernel) ⟨Nat.le_of_ble_eq_true rfl, Nat.le_of_ble_eq_true rfl⟩
theorem cw_X3_landing_X3_rolling {s : State} {args : Array Value} (ht : ∀ w ∈ wsX3_landing, w.before args s = true) : CallW (rmD 2) s args RX3 RX3 79 yX3_rolling cX3_rolling 3 (some .int) wsX3_rolling (rmD (1)) 0 0 1 := cwV 1 ht gX3_landing_X3_rolling rfl rfl rfl (by decide +kernel) ⟨Nat.le_of_ble_eq_true rfl, Nat.le_of_ble_eq_true rfl⟩
theorem m_X3_landing_8 : Cond.static yX7_isOfKind ∈ wsX3_landing := List.mem_of_getElem? (i := 8) (by decide +kernel)
theorem m_X3_landing_9 : Cond.initialized RX7 ∈ wsX3_landing := List.mem_of_getElem? (i := 9) (by decide +kernel)
theorem cw_X3_landing_X7_isOfKind {s : State} {args : Array Value} (ht : ∀ w ∈ wsX3_landing, w.before args s = true) (hN : NW s) : va_CN (rmD 2) s args RX3 75 yX7_isOfKind "ClawCase" cX7_isOfKind 4 (some .boolean) wsX7_isOfKind (rmD (0)) 0 0 2 ∧ (Cond.static yX7_isOfKind).before args s = true ∧ True := ⟨va_cnB 2 ht gX3_landing_X7_isOfKind_n75 rfl rfl rfl (hN (RX3, 75, yX7_isOfKind, "ClawCase") (by decide +kernel)) (ht _ m_X3_landing_9) (by decide +kernel) ⟨Nat.le_of_ble_eq_true rfl, Nat.le_of_ble_eq_true rfl⟩, ht _ m_X3_landing_8, trivial⟩
theorem cw_X3_landing_X3_need {s : State} {args : Array Value} (ht : ∀ w ∈ wsX3_landing, w.before args s = true) : CallW (rmD 2) s args RX3 RX3 72 yX3_need cX3_need 2 (some .int) wsX3_need (rmD (0)) 0 0 1 := cwV 1 ht gX3_landing_X3_need rfl rfl rfl (by decide +kernel) ⟨Nat.le_of_ble_eq_true rfl, Nat.le_of_ble_eq_true rfl⟩
def o_X3_landing_44 (Q : Int32 → Mm → Prop) (K60 : Mm → Int32 → Int32 → Prop) (j0 : Nat) : Nat → Mm → Int32 → Int32 → Int32 → Int32 → Prop
  | 0, _, _, _, _, _ => False
  | n44 + 1, g, x1, x4, x5, x6 => ((x6 < 1) → Q 0 g) ∧ ((¬ x6 < 1) → ∀ x_4 : Int32, x_4 = x5 + (-1) → (((x4 ≤ x_4) → ∀ x_5 : Int32, x_5 = x6 + (-1) → (o_X3_landing_44 Q K60 j0 n44 g x1 x4 x_4 x_5)) ∧ ((¬ x4 ≤ x_4) → K60 g x1 x6)))
set_option maxHeartbeats 4000000 in
set_option maxRecDepth 100000 in
theorem o_X3_landing_44_w {p : Program} {l : Launch} {e : Env} {s : State} {m : MethodId} {args : Array Value} {below : List Frame} {meth : Method} {c : Code} {dC : Nat → ClassId} {dI : Nat → Nat → Nat} {cy : Nat → ClassId} {ad tz : Nat → Nat} {Q : Int32 → Mm → Prop} {K60 : Mm → Int32 → Int32 → Prop} {j0 : Nat} (C : CX p s m args meth c dC dI cy ad tz cX3_landing 7 (some .int) RX3 wsX3_landing) (hj0 : ly j0 = 3) (hK60 : ∀ (g : Mm) (x1 : Int32) (x6 : Int32) (H : Heap) (locs : List Loc) (ls : Array Slot), St dC dI cy ad s g H locs → lv_has ls 7 [(0, .ref (ad j0)), (1, .int x1), (6, .int x6)] → K60 g x1 x6 → W p l e (rmD 2) s m args below meth c H locs 0 0 (QI dC dI cy ad below args s Q) (F0 m 60 ls [])) : ∀ (n : Nat) (g : Mm) (x1 : Int32) (x4 : Int32) (x5 : Int32) (x6 : Int32) (H : Heap) (locs : List Loc) (ls : Array Slot), St dC dI cy ad s g H locs → lv_has ls 7 [(0, .ref (ad j0)), (1, .int x1), (4, .int x4), (5, .int x5), (6, .int x6)] → o_X3_landing_44 Q K60 j0 n g x1 x4 x5 x6 → W p l e (rmD 2) s m args below meth c H locs 0 0 (QI dC dI cy ad below args s Q) (F0 m 44 ls []) := by
  have hx := C.1.1
  have hb := C.1.2.1
  intro n44
  induction n44 with
  | zero => intro g x1 x4 x5 x6 H locs ls S hl h; exact h.elim
  | succ n44 ih =>
    intro g x1 x4 x5 x6 H locs ls S hl h
    have h : ((x6 < 1) → Q 0 g) ∧ ((¬ x6 < 1) → ∀ x_4 : Int32, x_4 = x5 + (-1) → (((x4 ≤ x_4) → ∀ x_5 : Int32, x_5 = x6 + (-1) → (o_X3_landing_44 Q K60 j0 n44 g x1 x4 x_4 x_5)) ∧ ((¬ x4 ≤ x_4) → K60 g x1 x6))) := h
    refine lv_iload hx hb dX3_landing_44 (lv_at hl 4 rfl) ?_
    refine lv_iconst (v := 1) hx hb dX3_landing_46 (by decide) ?_
    refine lv_icmp_lt (tgt := 93) hx hb dX3_landing_47 (by decide) (fun c1 => ?_) (fun c1 => ?_)
    · have h := h.1 c1
      refine lv_iconst (v := 0) hx hb dX3_landing_93 (by decide) ?_
      exact kRi C S h dX3_landing_94
    · have h := h.2 c1
      obtain ⟨x_4, ex_4⟩ : ∃ y : Int32, y = x5 + (-1) := ⟨_, rfl⟩
      have h := h x_4 ex_4
      refine lv_iinc (v := x_4) (lv' := [(5, .int x_4), (0, .ref (ad j0)), (1, .int x1), (4, .int x4), (6, .int x6)]) hx hb dX3_landing_50 hl (k := 3) rfl (by rw [ex_4]; rfl) (by decide) rfl (fun ls hl => ?_)
      refine lv_iload hx hb dX3_landing_53 (lv_at hl 0 rfl) ?_
      refine lv_iload hx hb dX3_landing_55 (lv_at hl 3 rfl) ?_
      refine lv_icmp_ge (tgt := 87) hx hb dX3_landing_57 (by decide) (fun c1 => ?_) (fun c1 => ?_)
      · have h := h.1 c1
        obtain ⟨x_5, ex_5⟩ : ∃ y : Int32, y = x6 + (-1) := ⟨_, rfl⟩
        have h := h x_5 ex_5
        refine lv_iinc (v := x_5) (lv' := [(6, .int x_5), (5, .int x_4), (0, .ref (ad j0)), (1, .int x1), (4, .int x4)]) hx hb dX3_landing_87 hl (k := 4) rfl (by rw [ex_5]; rfl) (by decide) rfl (fun ls hl => ?_)
        refine lv_goto (tgt := 44) hx hb dX3_landing_90 (by decide) ?_
        exact ih g x1 x4 x_4 x_5 _ _ _ S (lv_sub hl [2, 3, 4, 1, 0] rfl) h
      · have h := h.2 c1
        exact hK60 g x1 x6 _ _ _ S (lv_sub hl [1, 2, 4] rfl) h
def o_X3_landing (Q : Int32 → Mm → Prop) (j0 : Nat) (g : Mm) (x1 : Int32) (x2 : Int32) (x3 : Int32) : Prop := o_X3_need (fun (r_2 : Int32) (g_1 : Mm) => ((r_2 ≤ x3) → ∀ x_3 : Int32, x_3 = (x2 - 1) → (∃ n44, o_X3_landing_44 Q (fun (g : Mm) (x1 : Int32) (x6 : Int32) => vp_in x1 7 ∧ (((¬ (g.1 (j0 + 1) x1.toNatClampNeg) = 5) → Q x6 g) ∧ (((g.1 (j0 + 1) x1.toNatClampNeg) = 5) → o_X3_howMany (fun (r_7 : Int32) (g_6 : Mm) => ((¬ r_7 = 0) → Q x6 g_6) ∧ ((r_7 = 0) → Q 9 g_6)) j0 g x6))) j0 n44 g_1 x1 r_2 x3 x_3)) ∧ ((¬ r_2 ≤ x3) → vp_in x1 7 ∧ (o_X7_isOfKind (fun (r_9 : Int32) (g_8 : Mm) => ((r_9 = 0) → Q x2 g_8) ∧ ((¬ r_9 = 0) → o_X3_rolling (fun (r_11 : Int32) (g_10 : Mm) => Q r_11 g_10) j0 g_8 x2)) g_1 (g_1.1 (j0 + 1) x1.toNatClampNeg) 4))) j0 g x1
set_option maxHeartbeats 4000000 in
set_option maxRecDepth 100000 in
theorem o_X3_landing_c {l : Launch} {dC : Nat → ClassId} {dI : Nat → Nat → Nat} {cy : Nat → ClassId} {ad tz : Nat → Nat} {Q : Int32 → Mm → Prop} {j0 : Nat} {g : Mm} {x1 : Int32} {x2 : Int32} {x3 : Int32} (hj0 : ly j0 = 3) (h : o_X3_landing Q j0 g x1 x2 x3) : CI l dC dI cy ad tz yX3_landing wsX3_landing (rmD 2) [.ref (ad j0), .int x1, .int x2, .int x3] g Q := by
  refine CI.of (by decide) rfl rfl (Nat.le_of_ble_eq_true rfl) ?_
  intro p e s m args below meth c ls C hl S
  have hl : lv_has ls 7 [(0, .ref (ad j0)), (1, .int x1), (2, .int x2), (3, .int x3)] := hl
  have hx := C.1.1
  have hb := C.1.2.1
  unfold o_X3_landing at h
  refine lv_aload_n hx hb dX3_landing_0 rfl (lv_at hl 0 rfl) ?_
  refine lv_iload_n hx hb dX3_landing_1 rfl (lv_at hl 1 rfl) ?_
  refine kV_i (As := [.int x1]) (rest := []) C S hl.1 (o_X3_need_c hj0 h) (wd_o3 hj0) rfl (cw_X3_landing_X3_need C.1.2.2.2.2) rfl rfl (Nat.le_of_ble_eq_true rfl) dX3_landing_2 (fun r_2 g_1 H locs h S => ?_)
  refine lv_istore (lv' := [(4, .int r_2), (0, .ref (ad j0)), (1, .int x1), (2, .int x2), (3, .int x3)]) hx hb dX3_landing_5 hl (by decide) rfl (fun ls hl => ?_)
  refine lv_iload_n hx hb dX3_landing_7 rfl (lv_at hl 4 rfl) ?_
  refine lv_iload hx hb dX3_landing_8 (lv_at hl 0 rfl) ?_
  refine lv_icmp_ge (tgt := 36) hx hb dX3_landing_10 (by decide) (fun c1 => ?_) (fun c1 => ?_)
  · have h := h.1 c1
    refine lv_iload_n hx hb dX3_landing_36 rfl (lv_at hl 4 rfl) ?_
    refine lv_istore (lv' := [(5, .int x3), (4, .int r_2), (0, .ref (ad j0)), (1, .int x1), (2, .int x2), (3, .int x3)]) hx hb dX3_landing_37 hl (by decide) rfl (fun ls hl => ?_)
    refine lv_iload_n hx hb dX3_landing_39 rfl (lv_at hl 4 rfl) ?_
    refine lv_iconst (v := 1) hx hb dX3_landing_40 (by decide) ?_
    refine lv_isub hx hb dX3_landing_41 ?_
    refine lv_topi (fun x_3 ex_3 => ?_)
    have h := h x_3 ex_3
    refine lv_istore (lv' := [(6, .int x_3), (5, .int x3), (4, .int r_2), (0, .ref (ad j0)), (1, .int x1), (2, .int x2), (3, .int x3)]) hx hb dX3_landing_42 hl (by decide) rfl (fun ls hl => ?_)
    obtain ⟨n44, h⟩ := h
    refine o_X3_landing_44_w C hj0 ?_ n44 g_1 x1 r_2 x3 x_3 _ _ _ S (lv_sub hl [3, 4, 2, 1, 0] rfl) h
    · intro g x1 x6 H locs ls S hl h
      refine lv_aload_n hx hb dX3_landing_60 rfl (lv_at hl 0 rfl) ?_
      refine kg3 (k := 0) (v := .ref (ad (j0 + 1))) C S hj0 (by decide) n_X3_landing_X3 m_X3_landing_1 rfl dX3_landing_61 ?_
      refine lv_iload_n hx hb dX3_landing_64 rfl (lv_at hl 1 rfl) ?_
      obtain ⟨hi, h⟩ := h
      refine kLi C S ((lyB hj0).1.1) ((lyB hj0).1.2) hi dX3_landing_65 ?_
      refine lv_iconst (v := 5) hx hb dX3_landing_66 (by decide) ?_
      refine lv_icmp_ne (tgt := 84) hx hb dX3_landing_67 (by decide) (fun c1 => ?_) (fun c1 => ?_)
      · have h := h.1 c1
        refine lv_iload hx hb dX3_landing_84 (lv_at hl 2 rfl) ?_
        exact kRi C S h dX3_landing_86
      · have h := h.2 c1
        refine lv_aload_n hx hb dX3_landing_70 rfl (lv_at hl 0 rfl) ?_
        refine lv_iload hx hb dX3_landing_71 (lv_at hl 2 rfl) ?_
        refine kV_i (As := [.int x6]) (rest := []) C S hl.1 (o_X3_howMany_c hj0 h) (wd_o3 hj0) rfl (cw_X3_landing_X3_howMany C.1.2.2.2.2) rfl rfl (Nat.le_of_ble_eq_true rfl) dX3_landing_73 (fun r_7 g_6 H locs h S => ?_)
        refine lv_if_ne (tgt := 84) hx hb dX3_landing_76 (by decide) (fun c1 => ?_) (fun c1 => ?_)
        · have h := h.1 c1
          refine lv_iload hx hb dX3_landing_84 (lv_at hl 2 rfl) ?_
          exact kRi C S h dX3_landing_86
        · have h := h.2 c1
          refine lv_bipush (v := 9) hx hb dX3_landing_79 (by decide) ?_
          refine lv_goto (tgt := 86) hx hb dX3_landing_81 (by decide) ?_
          exact kRi C S h dX3_landing_86
  · have h := h.2 c1
    refine lv_aload_n hx hb dX3_landing_13 rfl (lv_at hl 1 rfl) ?_
    refine kg3 (k := 0) (v := .ref (ad (j0 + 1))) C S hj0 (by decide) n_X3_landing_X3 m_X3_landing_1 rfl dX3_landing_14 ?_
    refine lv_iload_n hx hb dX3_landing_17 rfl (lv_at hl 2 rfl) ?_
    obtain ⟨hi, h⟩ := h
    refine kLi C S ((lyB hj0).1.1) ((lyB hj0).1.2) hi dX3_landing_18 ?_
    refine lv_iconst (v := 4) hx hb dX3_landing_19 (by decide) ?_
    refine kN_i (As := [.int (g_1.1 (j0 + 1) x1.toNatClampNeg), .int 4]) (rest := []) C S hl.1 (o_X7_isOfKind_c h) (cw_X3_landing_X7_isOfKind C.1.2.2.2.2 C.2.2.2.1) rfl rfl (Nat.le_of_ble_eq_true rfl) dX3_landing_20 (fun r_9 g_8 H locs h S => ?_)
    refine lv_if_eq (tgt := 34) hx hb dX3_landing_23 (by decide) (fun c1 => ?_) (fun c1 => ?_)
    · have h := h.1 c1
      refine lv_iload_n hx hb dX3_landing_34 rfl (lv_at hl 3 rfl) ?_
      exact kRi C S h dX3_landing_35
    · have h := h.2 c1
      refine lv_aload_n hx hb dX3_landing_26 rfl (lv_at hl 1 rfl) ?_
      refine lv_iload_n hx hb dX3_landing_27 rfl (lv_at hl 3 rfl) ?_
      refine kV_i (As := [.int x2]) (rest := []) C S hl.1 (o_X3_rolling_c hj0 h) (wd_o3 hj0) rfl (cw_X3_landing_X3_rolling C.1.2.2.2.2) rfl rfl (Nat.le_of_ble_eq_true rfl) dX3_landing_28 (fun r_11 g_10 H locs h S => ?_)
      refine lv_goto (tgt := 35) hx hb dX3_landing_31 (by decide) ?_
      exact kRi C S h dX3_landing_35
/-! ClawCase$Box.uppermost(I)I, height 0 -/
theorem m_X3_uppermost_1 : Cond.constant RX3 50 (-1000000) ∈ wsX3_uppermost := List.mem_of_getElem? (i := 1) (by decide +kernel)
theorem m_X3_uppermost_2 : Cond.fieldLink RX3 24 "ClawCase$Box" "toys" "I" ∈ wsX3_uppermost := List.mem_of_getElem? (i := 2) (by decide +kernel)
theorem n_X3_uppermost_X3 : ∀ w ∈ wsX30, w ∈ wsX3_uppermost := mem_by [5, 6, 7, 8, 9, 10, 11, 12, 13] (by decide +kernel)
theorem m_X3_uppermost_3 : Cond.fieldLink RX3 18 "ClawCase$Box" "places" "[I" ∈ wsX3_uppermost := List.mem_of_getElem? (i := 3) (by decide +kernel)
theorem m_X3_uppermost_4 : Cond.fieldLink RX3 21 "ClawCase$Box" "under" "[I" ∈ wsX3_uppermost := List.mem_of_getElem? (i := 4) (by decide +kernel)
def o_X3_uppermost_46 (Q : Int32 → Mm → Prop) (K5 : Mm → Int32 → Int32 → Int32 → Prop) (j0 : Nat) (g : Mm) (x1 : Int32) (x2 : Int32) (x3 : Int32) : Prop := ∀ x_1 : Int32, x_1 = x3 + 1 → (K5 g x1 x2 x_1)
def o_X3_uppermost_44 (Q : Int32 → Mm → Prop) (K5 : Mm → Int32 → Int32 → Int32 → Prop) (j0 : Nat) (g : Mm) (x1 : Int32) (x3 : Int32) : Prop := o_X3_uppermost_46 Q K5 j0 g x1 x3 x3
def o_X3_uppermost_5 (Q : Int32 → Mm → Prop) (j0 : Nat) : Nat → Mm → Int32 → Int32 → Int32 → Prop
  | 0, _, _, _, _ => False
  | n5 + 1, g, x1, x2, x3 => (((g.1 j0 4) ≤ x3) → Q x2 g) ∧ ((¬ (g.1 j0 4) ≤ x3) → vp_in x3 7 ∧ (((¬ (g.1 (j0 + 3) x3.toNatClampNeg) = x1) → o_X3_uppermost_46 Q (o_X3_uppermost_5 Q j0 n5) j0 g x1 x2 x3) ∧ (((g.1 (j0 + 3) x3.toNatClampNeg) = x1) → ((x2 = (-1000000)) → o_X3_uppermost_44 Q (o_X3_uppermost_5 Q j0 n5) j0 g x1 x3) ∧ ((¬ x2 = (-1000000)) → vp_in x3 7 ∧ (vp_in x2 7 ∧ ((((g.1 (j0 + 4) x3.toNatClampNeg) ≤ (g.1 (j0 + 4) x2.toNatClampNeg)) → o_X3_uppermost_46 Q (o_X3_uppermost_5 Q j0 n5) j0 g x1 x2 x3) ∧ ((¬ (g.1 (j0 + 4) x3.toNatClampNeg) ≤ (g.1 (j0 + 4) x2.toNatClampNeg)) → o_X3_uppermost_44 Q (o_X3_uppermost_5 Q j0 n5) j0 g x1 x3)))))))
set_option maxHeartbeats 4000000 in
set_option maxRecDepth 100000 in
theorem o_X3_uppermost_46_w {p : Program} {l : Launch} {e : Env} {s : State} {m : MethodId} {args : Array Value} {below : List Frame} {meth : Method} {c : Code} {dC : Nat → ClassId} {dI : Nat → Nat → Nat} {cy : Nat → ClassId} {ad tz : Nat → Nat} {Q : Int32 → Mm → Prop} {K5 : Mm → Int32 → Int32 → Int32 → Prop} {j0 : Nat} (C : CX p s m args meth c dC dI cy ad tz cX3_uppermost 4 (some .int) RX3 wsX3_uppermost) (hj0 : ly j0 = 3) (hK5 : ∀ (g : Mm) (x1 : Int32) (x2 : Int32) (x3 : Int32) (H : Heap) (locs : List Loc) (ls : Array Slot), St dC dI cy ad s g H locs → lv_has ls 4 [(0, .ref (ad j0)), (1, .int x1), (2, .int x2), (3, .int x3)] → K5 g x1 x2 x3 → W p l e (rmD 0) s m args below meth c H locs 0 0 (QI dC dI cy ad below args s Q) (F0 m 5 ls [])) : ∀ (g : Mm) (x1 : Int32) (x2 : Int32) (x3 : Int32) (H : Heap) (locs : List Loc) (ls : Array Slot), St dC dI cy ad s g H locs → lv_has ls 4 [(0, .ref (ad j0)), (1, .int x1), (2, .int x2), (3, .int x3)] → o_X3_uppermost_46 Q K5 j0 g x1 x2 x3 → W p l e (rmD 0) s m args below meth c H locs 0 0 (QI dC dI cy ad below args s Q) (F0 m 46 ls []) := by
  have hx := C.1.1
  have hb := C.1.2.1
  intro g x1 x2 x3 H locs ls S hl h
  unfold o_X3_uppermost_46 at h
  obtain ⟨x_1, ex_1⟩ : ∃ y : Int32, y = x3 + 1 := ⟨_, rfl⟩
  have h := h x_1 ex_1
  refine lv_iinc (v := x_1) (lv' := [(3, .int x_1), (0, .ref (ad j0)), (1, .int x1), (2, .int x2)]) hx hb dX3_uppermost_46 hl (k := 3) rfl (by rw [ex_1]; rfl) (by decide) rfl (fun ls hl => ?_)
  refine lv_goto (tgt := 5) hx hb dX3_uppermost_49 (by decide) ?_
  exact hK5 g x1 x2 x_1 _ _ _ S (lv_sub hl [1, 2, 3, 0] rfl) h
set_option maxHeartbeats 4000000 in
set_option maxRecDepth 100000 in
theorem o_X3_uppermost_44_w {p : Program} {l : Launch} {e : Env} {s : State} {m : MethodId} {args : Array Value} {below : List Frame} {meth : Method} {c : Code} {dC : Nat → ClassId} {dI : Nat → Nat → Nat} {cy : Nat → ClassId} {ad tz : Nat → Nat} {Q : Int32 → Mm → Prop} {K5 : Mm → Int32 → Int32 → Int32 → Prop} {j0 : Nat} (C : CX p s m args meth c dC dI cy ad tz cX3_uppermost 4 (some .int) RX3 wsX3_uppermost) (hj0 : ly j0 = 3) (hK5 : ∀ (g : Mm) (x1 : Int32) (x2 : Int32) (x3 : Int32) (H : Heap) (locs : List Loc) (ls : Array Slot), St dC dI cy ad s g H locs → lv_has ls 4 [(0, .ref (ad j0)), (1, .int x1), (2, .int x2), (3, .int x3)] → K5 g x1 x2 x3 → W p l e (rmD 0) s m args below meth c H locs 0 0 (QI dC dI cy ad below args s Q) (F0 m 5 ls [])) : ∀ (g : Mm) (x1 : Int32) (x3 : Int32) (H : Heap) (locs : List Loc) (ls : Array Slot), St dC dI cy ad s g H locs → lv_has ls 4 [(0, .ref (ad j0)), (1, .int x1), (3, .int x3)] → o_X3_uppermost_44 Q K5 j0 g x1 x3 → W p l e (rmD 0) s m args below meth c H locs 0 0 (QI dC dI cy ad below args s Q) (F0 m 44 ls []) := by
  have hx := C.1.1
  have hb := C.1.2.1
  intro g x1 x3 H locs ls S hl h
  unfold o_X3_uppermost_44 at h
  refine lv_iload_n hx hb dX3_uppermost_44 rfl (lv_at hl 2 rfl) ?_
  refine lv_istore_n (lv' := [(2, .int x3), (0, .ref (ad j0)), (1, .int x1), (3, .int x3)]) hx hb dX3_uppermost_45 rfl hl (by decide) rfl (fun ls hl => ?_)
  exact o_X3_uppermost_46_w C hj0 hK5 g x1 x3 x3 _ _ _ S (lv_sub hl [1, 2, 0, 3] rfl) h
set_option maxHeartbeats 4000000 in
set_option maxRecDepth 100000 in
theorem o_X3_uppermost_5_w {p : Program} {l : Launch} {e : Env} {s : State} {m : MethodId} {args : Array Value} {below : List Frame} {meth : Method} {c : Code} {dC : Nat → ClassId} {dI : Nat → Nat → Nat} {cy : Nat → ClassId} {ad tz : Nat → Nat} {Q : Int32 → Mm → Prop} {j0 : Nat} (C : CX p s m args meth c dC dI cy ad tz cX3_uppermost 4 (some .int) RX3 wsX3_uppermost) (hj0 : ly j0 = 3) : ∀ (n : Nat) (g : Mm) (x1 : Int32) (x2 : Int32) (x3 : Int32) (H : Heap) (locs : List Loc) (ls : Array Slot), St dC dI cy ad s g H locs → lv_has ls 4 [(0, .ref (ad j0)), (1, .int x1), (2, .int x2), (3, .int x3)] → o_X3_uppermost_5 Q j0 n g x1 x2 x3 → W p l e (rmD 0) s m args below meth c H locs 0 0 (QI dC dI cy ad below args s Q) (F0 m 5 ls []) := by
  have hx := C.1.1
  have hb := C.1.2.1
  intro n5
  induction n5 with
  | zero => intro g x1 x2 x3 H locs ls S hl h; exact h.elim
  | succ n5 ih =>
    intro g x1 x2 x3 H locs ls S hl h
    have h : (((g.1 j0 4) ≤ x3) → Q x2 g) ∧ ((¬ (g.1 j0 4) ≤ x3) → vp_in x3 7 ∧ (((¬ (g.1 (j0 + 3) x3.toNatClampNeg) = x1) → o_X3_uppermost_46 Q (o_X3_uppermost_5 Q j0 n5) j0 g x1 x2 x3) ∧ (((g.1 (j0 + 3) x3.toNatClampNeg) = x1) → ((x2 = (-1000000)) → o_X3_uppermost_44 Q (o_X3_uppermost_5 Q j0 n5) j0 g x1 x3) ∧ ((¬ x2 = (-1000000)) → vp_in x3 7 ∧ (vp_in x2 7 ∧ ((((g.1 (j0 + 4) x3.toNatClampNeg) ≤ (g.1 (j0 + 4) x2.toNatClampNeg)) → o_X3_uppermost_46 Q (o_X3_uppermost_5 Q j0 n5) j0 g x1 x2 x3) ∧ ((¬ (g.1 (j0 + 4) x3.toNatClampNeg) ≤ (g.1 (j0 + 4) x2.toNatClampNeg)) → o_X3_uppermost_44 Q (o_X3_uppermost_5 Q j0 n5) j0 g x1 x3))))))) := h
    refine lv_iload_n hx hb dX3_uppermost_5 rfl (lv_at hl 3 rfl) ?_
    refine lv_aload_n hx hb dX3_uppermost_6 rfl (lv_at hl 0 rfl) ?_
    refine kg3 (k := 4) (v := .int (g.1 j0 4)) C S hj0 (by decide) n_X3_uppermost_X3 m_X3_uppermost_2 rfl dX3_uppermost_7 ?_
    refine lv_icmp_ge (tgt := 52) hx hb dX3_uppermost_10 (by decide) (fun c1 => ?_) (fun c1 => ?_)
    · have h := h.1 c1
      refine lv_iload_n hx hb dX3_uppermost_52 rfl (lv_at hl 2 rfl) ?_
      exact kRi C S h dX3_uppermost_53
    · have h := h.2 c1
      refine lv_aload_n hx hb dX3_uppermost_13 rfl (lv_at hl 0 rfl) ?_
      refine kg3 (k := 2) (v := .ref (ad (j0 + 3))) C S hj0 (by decide) n_X3_uppermost_X3 m_X3_uppermost_3 rfl dX3_uppermost_14 ?_
      refine lv_iload_n hx hb dX3_uppermost_17 rfl (lv_at hl 3 rfl) ?_
      obtain ⟨hi, h⟩ := h
      refine kLi C S ((lyB hj0).2.2.1.1) ((lyB hj0).2.2.1.2) hi dX3_uppermost_18 ?_
      refine lv_iload_n hx hb dX3_uppermost_19 rfl (lv_at hl 1 rfl) ?_
      refine lv_icmp_ne (tgt := 46) hx hb dX3_uppermost_20 (by decide) (fun c1 => ?_) (fun c1 => ?_)
      · have h := h.1 c1
        exact o_X3_uppermost_46_w C hj0 ih g x1 x2 x3 _ _ _ S (lv_sub hl [0, 1, 2, 3] rfl) h
      · have h := h.2 c1
        refine lv_iload_n hx hb dX3_uppermost_23 rfl (lv_at hl 2 rfl) ?_
        refine kLdc C m_X3_uppermost_1 dX3_uppermost_24 ?_
        refine lv_icmp_eq (tgt := 44) hx hb dX3_uppermost_26 (by decide) (fun c1 => ?_) (fun c1 => ?_)
        · have h := h.1 c1
          exact o_X3_uppermost_44_w C hj0 ih g x1 x3 _ _ _ S (lv_sub hl [0, 1, 3] rfl) h
        · have h := h.2 c1
          refine lv_aload_n hx hb dX3_uppermost_29 rfl (lv_at hl 0 rfl) ?_
          refine kg3 (k := 3) (v := .ref (ad (j0 + 4))) C S hj0 (by decide) n_X3_uppermost_X3 m_X3_uppermost_4 rfl dX3_uppermost_30 ?_
          refine lv_iload_n hx hb dX3_uppermost_33 rfl (lv_at hl 3 rfl) ?_
          obtain ⟨hi, h⟩ := h
          refine kLi C S ((lyB hj0).2.2.2.1) ((lyB hj0).2.2.2.2) hi dX3_uppermost_34 ?_
          refine lv_aload_n hx hb dX3_uppermost_35 rfl (lv_at hl 0 rfl) ?_
          refine kg3 (k := 3) (v := .ref (ad (j0 + 4))) C S hj0 (by decide) n_X3_uppermost_X3 m_X3_uppermost_4 rfl dX3_uppermost_36 ?_
          refine lv_iload_n hx hb dX3_uppermost_39 rfl (lv_at hl 2 rfl) ?_
          obtain ⟨hi, h⟩ := h
          refine kLi C S ((lyB hj0).2.2.2.1) ((lyB hj0).2.2.2.2) hi dX3_uppermost_40 ?_
          refine lv_icmp_le (tgt := 46) hx hb dX3_uppermost_41 (by decide) (fun c1 => ?_) (fun c1 => ?_)
          · have h := h.1 c1
            exact o_X3_uppermost_46_w C hj0 ih g x1 x2 x3 _ _ _ S (lv_sub hl [0, 1, 2, 3] rfl) h
          · have h := h.2 c1
            exact o_X3_uppermost_44_w C hj0 ih g x1 x3 _ _ _ S (lv_sub hl [0, 1, 3] rfl) h
def o_X3_uppermost (Q : Int32 → Mm → Prop) (j0 : Nat) (g : Mm) (x1 : Int32) : Prop := ∃ n5, o_X3_uppermost_5 Q j0 n5 g x1 (-1000000) 0
set_option maxHeartbeats 4000000 in
set_option maxRecDepth 100000 in
theorem o_X3_uppermost_c {l : Launch} {dC : Nat → ClassId} {dI : Nat → Nat → Nat} {cy : Nat → ClassId} {ad tz : Nat → Nat} {Q : Int32 → Mm → Prop} {j0 : Nat} {g : Mm} {x1 : Int32} (hj0 : ly j0 = 3) (h : o_X3_uppermost Q j0 g x1) : CI l dC dI cy ad tz yX3_uppermost wsX3_uppermost (rmD 0) [.ref (ad j0), .int x1] g Q := by
  refine CI.of (by decide) rfl rfl (Nat.le_of_ble_eq_true rfl) ?_
  intro p e s m args below meth c ls C hl S
  have hl : lv_has ls 4 [(0, .ref (ad j0)), (1, .int x1)] := hl
  have hx := C.1.1
  have hb := C.1.2.1
  unfold o_X3_uppermost at h
  refine kLdc C m_X3_uppermost_1 dX3_uppermost_0 ?_
  refine lv_istore_n (lv' := [(2, .int (-1000000)), (0, .ref (ad j0)), (1, .int x1)]) hx hb dX3_uppermost_2 rfl hl (by decide) rfl (fun ls hl => ?_)
  refine lv_iconst (v := 0) hx hb dX3_uppermost_3 (by decide) ?_
  refine lv_istore_n (lv' := [(3, .int 0), (2, .int (-1000000)), (0, .ref (ad j0)), (1, .int x1)]) hx hb dX3_uppermost_4 rfl hl (by decide) rfl (fun ls hl => ?_)
  obtain ⟨n5, h⟩ := h
  refine o_X3_uppermost_5_w C hj0 n5 g x1 (-1000000) 0 _ _ _ S (lv_sub hl [2, 3, 1, 0] rfl) h
/-! ClawCase$Box.playAt(IILClawCase$Before;)I, height 3 -/
theorem m_X3_playAt_1 : Cond.fieldLink RX3 37 "ClawCase$Box" "plays" "I" ∈ wsX3_playAt := List.mem_of_getElem? (i := 1) (by decide +kernel)
theorem n_X3_playAt_X3 : ∀ w ∈ wsX30, w ∈ wsX3_playAt := mem_by [59, 60, 61, 62, 63, 64, 65, 66, 67] (by decide +kernel)
theorem m_X3_playAt_2 : Cond.constant RX3 50 (-1000000) ∈ wsX3_playAt := List.mem_of_getElem? (i := 2) (by decide +kernel)
theorem cw_X3_playAt_X3_lay {s : State} {args : Array Value} (ht : ∀ w ∈ wsX3_playAt, w.before args s = true) : CallW (rmD 3) s args RX3 RX3 40 yX3_lay cX3_lay 3 none wsX3_lay (rmD (2)) 0 0 2 := cwV 2 ht gX3_playAt_X3_lay rfl rfl rfl (by decide +kernel) ⟨Nat.le_of_ble_eq_true rfl, Nat.le_of_ble_eq_true rfl⟩
theorem cw_X3_playAt_X3_landing {s : State} {args : Array Value} (ht : ∀ w ∈ wsX3_playAt, w.before args s = true) : CallW (rmD 3) s args RX3 RX3 68 yX3_landing cX3_landing 7 (some .int) wsX3_landing (rmD (2)) 0 0 3 := cwV 3 ht gX3_playAt_X3_landing rfl rfl rfl (by decide +kernel) ⟨Nat.le_of_ble_eq_true rfl, Nat.le_of_ble_eq_true rfl⟩
theorem cw_X3_playAt_X2_keep {s : State} {args : Array Value} (ht : ∀ w ∈ wsX3_playAt, w.before args s = true) : CallW (rmD 3) s args RX3 RX2 62 yX2_keep cX2_keep 3 none wsX2_keep (rmD (0)) 0 0 2 := cwV 2 ht gX3_playAt_X2_keep rfl rfl rfl (by decide +kernel) ⟨Nat.le_of_ble_eq_true rfl, Nat.le_of_ble_eq_true rfl⟩
theorem cw_X3_playAt_X3_uppermost {s : State} {args : Array Value} (ht : ∀ w ∈ wsX3_playAt, w.before args s = true) : CallW (rmD 3) s args RX3 RX3 59 yX3_uppermost cX3_uppermost 4 (some .int) wsX3_uppermost (rmD (0)) 0 0 1 := cwV 1 ht gX3_playAt_X3_uppermost rfl rfl rfl (by decide +kernel) ⟨Nat.le_of_ble_eq_true rfl, Nat.le_of_ble_eq_true rfl⟩
def o_X3_playAt (Q : Int32 → Mm → Prop) (j0 : Nat) (j3 : Nat) (g : Mm) (x1 : Int32) (x2 : Int32) : Prop := o_X3_uppermost (fun (r_2 : Int32) (g_1 : Mm) => o_X2_keep (fun (g_3 : Mm) => ∀ g_5 : Mm, g_5 = mset g_3 j0 8 ((g_3.1 j0 8) + 1) → (((¬ r_2 = (-1000000)) → o_X3_landing (fun (r_7 : Int32) (g_6 : Mm) => ((r_7 = x1) → Q r_7 g_6) ∧ ((¬ r_7 = x1) → o_X3_lay (fun (g_8 : Mm) => Q r_7 g_8) j0 g_6 r_2 r_7)) j0 g_5 r_2 x1 x2) ∧ ((r_2 = (-1000000)) → Q (-1000000) g_5))) j3 j0 g_1 r_2) j0 g x1
set_option maxHeartbeats 4000000 in
set_option maxRecDepth 100000 in
theorem o_X3_playAt_c {l : Launch} {dC : Nat → ClassId} {dI : Nat → Nat → Nat} {cy : Nat → ClassId} {ad tz : Nat → Nat} {Q : Int32 → Mm → Prop} {j0 : Nat} {j3 : Nat} {g : Mm} {x1 : Int32} {x2 : Int32} (hj0 : ly j0 = 3) (hj3 : ly j3 = 2) (h : o_X3_playAt Q j0 j3 g x1 x2) : CI l dC dI cy ad tz yX3_playAt wsX3_playAt (rmD 3) [.ref (ad j0), .int x1, .int x2, .ref (ad j3)] g Q := by
  refine CI.of (by decide) rfl rfl (Nat.le_of_ble_eq_true rfl) ?_
  intro p e s m args below meth c ls C hl S
  have hl : lv_has ls 6 [(0, .ref (ad j0)), (1, .int x1), (2, .int x2), (3, .ref (ad j3))] := hl
  have hx := C.1.1
  have hb := C.1.2.1
  unfold o_X3_playAt at h
  refine lv_aload_n hx hb dX3_playAt_0 rfl (lv_at hl 0 rfl) ?_
  refine lv_iload_n hx hb dX3_playAt_1 rfl (lv_at hl 1 rfl) ?_
  refine kV_i (As := [.int x1]) (rest := []) C S hl.1 (o_X3_uppermost_c hj0 h) (wd_o3 hj0) rfl (cw_X3_playAt_X3_uppermost C.1.2.2.2.2) rfl rfl (Nat.le_of_ble_eq_true rfl) dX3_playAt_2 (fun r_2 g_1 H locs h S => ?_)
  refine lv_istore (lv' := [(4, .int r_2), (0, .ref (ad j0)), (1, .int x1), (2, .int x2), (3, .ref (ad j3))]) hx hb dX3_playAt_5 hl (by decide) rfl (fun ls hl => ?_)
  refine lv_aload_n hx hb dX3_playAt_7 rfl (lv_at hl 4 rfl) ?_
  refine lv_aload_n hx hb dX3_playAt_8 rfl (lv_at hl 1 rfl) ?_
  refine lv_iload hx hb dX3_playAt_9 (lv_at hl 0 rfl) ?_
  refine kV_v (As := [.ref (ad j0), .int r_2]) (rest := []) C S hl.1 (o_X2_keep_c hj3 hj0 h) (wd_o2 hj3) rfl (cw_X3_playAt_X2_keep C.1.2.2.2.2) rfl rfl (Nat.le_of_ble_eq_true rfl) dX3_playAt_11 (fun g_3 H locs h S => ?_)
  refine lv_aload_n hx hb dX3_playAt_14 rfl (lv_at hl 1 rfl) ?_
  refine lv_dup hx hb dX3_playAt_15 rfl ?_
  refine kg3 (k := 8) (v := .int (g_3.1 j0 8)) C S hj0 (by decide) n_X3_playAt_X3 m_X3_playAt_1 rfl dX3_playAt_16 ?_
  refine lv_iconst (v := 1) hx hb dX3_playAt_19 (by decide) ?_
  refine lv_iadd hx hb dX3_playAt_20 ?_
  refine kp3_8 C S hj0 n_X3_playAt_X3 m_X3_playAt_1 dX3_playAt_21 (fun g_5 H locs eg_5 S => ?_)
  have h := h g_5 eg_5
  refine lv_iload hx hb dX3_playAt_24 (lv_at hl 0 rfl) ?_
  refine kLdc C m_X3_playAt_2 dX3_playAt_26 ?_
  refine lv_icmp_ne (tgt := 34) hx hb dX3_playAt_28 (by decide) (fun c1 => ?_) (fun c1 => ?_)
  · have h := h.1 c1
    refine lv_aload_n hx hb dX3_playAt_34 rfl (lv_at hl 1 rfl) ?_
    refine lv_iload hx hb dX3_playAt_35 (lv_at hl 0 rfl) ?_
    refine lv_iload_n hx hb dX3_playAt_37 rfl (lv_at hl 2 rfl) ?_
    refine lv_iload_n hx hb dX3_playAt_38 rfl (lv_at hl 3 rfl) ?_
    refine kV_i (As := [.int r_2, .int x1, .int x2]) (rest := []) C S hl.1 (o_X3_landing_c hj0 h) (wd_o3 hj0) rfl (cw_X3_playAt_X3_landing C.1.2.2.2.2) rfl rfl (Nat.le_of_ble_eq_true rfl) dX3_playAt_39 (fun r_7 g_6 H locs h S => ?_)
    refine lv_istore (lv' := [(5, .int r_7), (4, .int r_2), (0, .ref (ad j0)), (1, .int x1), (2, .int x2), (3, .ref (ad j3))]) hx hb dX3_playAt_42 hl (by decide) rfl (fun ls hl => ?_)
    refine lv_iload hx hb dX3_playAt_44 (lv_at hl 0 rfl) ?_
    refine lv_iload_n hx hb dX3_playAt_46 rfl (lv_at hl 3 rfl) ?_
    refine lv_icmp_eq (tgt := 58) hx hb dX3_playAt_47 (by decide) (fun c1 => ?_) (fun c1 => ?_)
    · have h := h.1 c1
      refine lv_iload hx hb dX3_playAt_58 (lv_at hl 0 rfl) ?_
      exact kRi C S h dX3_playAt_60
    · have h := h.2 c1
      refine lv_aload_n hx hb dX3_playAt_50 rfl (lv_at hl 2 rfl) ?_
      refine lv_iload hx hb dX3_playAt_51 (lv_at hl 1 rfl) ?_
      refine lv_iload hx hb dX3_playAt_53 (lv_at hl 0 rfl) ?_
      refine kV_v (As := [.int r_2, .int r_7]) (rest := []) C S hl.1 (o_X3_lay_c hj0 h) (wd_o3 hj0) rfl (cw_X3_playAt_X3_lay C.1.2.2.2.2) rfl rfl (Nat.le_of_ble_eq_true rfl) dX3_playAt_55 (fun g_8 H locs h S => ?_)
      refine lv_iload hx hb dX3_playAt_58 (lv_at hl 0 rfl) ?_
      exact kRi C S h dX3_playAt_60
  · have h := h.2 c1
    refine kLdc C m_X3_playAt_2 dX3_playAt_31 ?_
    exact kRi C S h dX3_playAt_33
/-! ClawCase$Box.wonWeight()I, height 0 -/
theorem m_X3_wonWeight_1 : Cond.fieldLink RX3 24 "ClawCase$Box" "toys" "I" ∈ wsX3_wonWeight := List.mem_of_getElem? (i := 1) (by decide +kernel)
theorem n_X3_wonWeight_X3 : ∀ w ∈ wsX30, w ∈ wsX3_wonWeight := mem_by [4, 5, 6, 7, 8, 9, 10, 11, 12] (by decide +kernel)
theorem m_X3_wonWeight_2 : Cond.fieldLink RX3 18 "ClawCase$Box" "places" "[I" ∈ wsX3_wonWeight := List.mem_of_getElem? (i := 2) (by decide +kernel)
theorem m_X3_wonWeight_3 : Cond.fieldLink RX3 15 "ClawCase$Box" "weights" "[I" ∈ wsX3_wonWeight := List.mem_of_getElem? (i := 3) (by decide +kernel)
def o_X3_wonWeight_30 (Q : Int32 → Mm → Prop) (K4 : Mm → Int32 → Int32 → Prop) (j0 : Nat) (g : Mm) (x1 : Int32) (x2 : Int32) : Prop := ∀ x_1 : Int32, x_1 = x2 + 1 → (K4 g x1 x_1)
def o_X3_wonWeight_4 (Q : Int32 → Mm → Prop) (j0 : Nat) : Nat → Mm → Int32 → Int32 → Prop
  | 0, _, _, _ => False
  | n4 + 1, g, x1, x2 => (((g.1 j0 4) ≤ x2) → Q x1 g) ∧ ((¬ (g.1 j0 4) ≤ x2) → vp_in x2 7 ∧ (((¬ (g.1 (j0 + 3) x2.toNatClampNeg) = 0) → o_X3_wonWeight_30 Q (o_X3_wonWeight_4 Q j0 n4) j0 g x1 x2) ∧ (((g.1 (j0 + 3) x2.toNatClampNeg) = 0) → vp_in x2 7 ∧ (∀ x_2 : Int32, x_2 = (x1 + (g.1 (j0 + 2) x2.toNatClampNeg)) → (o_X3_wonWeight_30 Q (o_X3_wonWeight_4 Q j0 n4) j0 g x_2 x2)))))
set_option maxHeartbeats 4000000 in
set_option maxRecDepth 100000 in
theorem o_X3_wonWeight_30_w {p : Program} {l : Launch} {e : Env} {s : State} {m : MethodId} {args : Array Value} {below : List Frame} {meth : Method} {c : Code} {dC : Nat → ClassId} {dI : Nat → Nat → Nat} {cy : Nat → ClassId} {ad tz : Nat → Nat} {Q : Int32 → Mm → Prop} {K4 : Mm → Int32 → Int32 → Prop} {j0 : Nat} (C : CX p s m args meth c dC dI cy ad tz cX3_wonWeight 3 (some .int) RX3 wsX3_wonWeight) (hj0 : ly j0 = 3) (hK4 : ∀ (g : Mm) (x1 : Int32) (x2 : Int32) (H : Heap) (locs : List Loc) (ls : Array Slot), St dC dI cy ad s g H locs → lv_has ls 3 [(0, .ref (ad j0)), (1, .int x1), (2, .int x2)] → K4 g x1 x2 → W p l e (rmD 0) s m args below meth c H locs 0 0 (QI dC dI cy ad below args s Q) (F0 m 4 ls [])) : ∀ (g : Mm) (x1 : Int32) (x2 : Int32) (H : Heap) (locs : List Loc) (ls : Array Slot), St dC dI cy ad s g H locs → lv_has ls 3 [(0, .ref (ad j0)), (1, .int x1), (2, .int x2)] → o_X3_wonWeight_30 Q K4 j0 g x1 x2 → W p l e (rmD 0) s m args below meth c H locs 0 0 (QI dC dI cy ad below args s Q) (F0 m 30 ls []) := by
  have hx := C.1.1
  have hb := C.1.2.1
  intro g x1 x2 H locs ls S hl h
  unfold o_X3_wonWeight_30 at h
  obtain ⟨x_1, ex_1⟩ : ∃ y : Int32, y = x2 + 1 := ⟨_, rfl⟩
  have h := h x_1 ex_1
  refine lv_iinc (v := x_1) (lv' := [(2, .int x_1), (0, .ref (ad j0)), (1, .int x1)]) hx hb dX3_wonWeight_30 hl (k := 2) rfl (by rw [ex_1]; rfl) (by decide) rfl (fun ls hl => ?_)
  refine lv_goto (tgt := 4) hx hb dX3_wonWeight_33 (by decide) ?_
  exact hK4 g x1 x_1 _ _ _ S (lv_sub hl [1, 2, 0] rfl) h
set_option maxHeartbeats 4000000 in
set_option maxRecDepth 100000 in
theorem o_X3_wonWeight_4_w {p : Program} {l : Launch} {e : Env} {s : State} {m : MethodId} {args : Array Value} {below : List Frame} {meth : Method} {c : Code} {dC : Nat → ClassId} {dI : Nat → Nat → Nat} {cy : Nat → ClassId} {ad tz : Nat → Nat} {Q : Int32 → Mm → Prop} {j0 : Nat} (C : CX p s m args meth c dC dI cy ad tz cX3_wonWeight 3 (some .int) RX3 wsX3_wonWeight) (hj0 : ly j0 = 3) : ∀ (n : Nat) (g : Mm) (x1 : Int32) (x2 : Int32) (H : Heap) (locs : List Loc) (ls : Array Slot), St dC dI cy ad s g H locs → lv_has ls 3 [(0, .ref (ad j0)), (1, .int x1), (2, .int x2)] → o_X3_wonWeight_4 Q j0 n g x1 x2 → W p l e (rmD 0) s m args below meth c H locs 0 0 (QI dC dI cy ad below args s Q) (F0 m 4 ls []) := by
  have hx := C.1.1
  have hb := C.1.2.1
  intro n4
  induction n4 with
  | zero => intro g x1 x2 H locs ls S hl h; exact h.elim
  | succ n4 ih =>
    intro g x1 x2 H locs ls S hl h
    have h : (((g.1 j0 4) ≤ x2) → Q x1 g) ∧ ((¬ (g.1 j0 4) ≤ x2) → vp_in x2 7 ∧ (((¬ (g.1 (j0 + 3) x2.toNatClampNeg) = 0) → o_X3_wonWeight_30 Q (o_X3_wonWeight_4 Q j0 n4) j0 g x1 x2) ∧ (((g.1 (j0 + 3) x2.toNatClampNeg) = 0) → vp_in x2 7 ∧ (∀ x_2 : Int32, x_2 = (x1 + (g.1 (j0 + 2) x2.toNatClampNeg)) → (o_X3_wonWeight_30 Q (o_X3_wonWeight_4 Q j0 n4) j0 g x_2 x2))))) := h
    refine lv_iload_n hx hb dX3_wonWeight_4 rfl (lv_at hl 2 rfl) ?_
    refine lv_aload_n hx hb dX3_wonWeight_5 rfl (lv_at hl 0 rfl) ?_
    refine kg3 (k := 4) (v := .int (g.1 j0 4)) C S hj0 (by decide) n_X3_wonWeight_X3 m_X3_wonWeight_1 rfl dX3_wonWeight_6 ?_
    refine lv_icmp_ge (tgt := 36) hx hb dX3_wonWeight_9 (by decide) (fun c1 => ?_) (fun c1 => ?_)
    · have h := h.1 c1
      refine lv_iload_n hx hb dX3_wonWeight_36 rfl (lv_at hl 1 rfl) ?_
      exact kRi C S h dX3_wonWeight_37
    · have h := h.2 c1
      refine lv_aload_n hx hb dX3_wonWeight_12 rfl (lv_at hl 0 rfl) ?_
      refine kg3 (k := 2) (v := .ref (ad (j0 + 3))) C S hj0 (by decide) n_X3_wonWeight_X3 m_X3_wonWeight_2 rfl dX3_wonWeight_13 ?_
      refine lv_iload_n hx hb dX3_wonWeight_16 rfl (lv_at hl 2 rfl) ?_
      obtain ⟨hi, h⟩ := h
      refine kLi C S ((lyB hj0).2.2.1.1) ((lyB hj0).2.2.1.2) hi dX3_wonWeight_17 ?_
      refine lv_if_ne (tgt := 30) hx hb dX3_wonWeight_18 (by decide) (fun c1 => ?_) (fun c1 => ?_)
      · have h := h.1 c1
        exact o_X3_wonWeight_30_w C hj0 ih g x1 x2 _ _ _ S (lv_sub hl [0, 1, 2] rfl) h
      · have h := h.2 c1
        refine lv_iload_n hx hb dX3_wonWeight_21 rfl (lv_at hl 1 rfl) ?_
        refine lv_aload_n hx hb dX3_wonWeight_22 rfl (lv_at hl 0 rfl) ?_
        refine kg3 (k := 1) (v := .ref (ad (j0 + 2))) C S hj0 (by decide) n_X3_wonWeight_X3 m_X3_wonWeight_3 rfl dX3_wonWeight_23 ?_
        refine lv_iload_n hx hb dX3_wonWeight_26 rfl (lv_at hl 2 rfl) ?_
        obtain ⟨hi, h⟩ := h
        refine kLi C S ((lyB hj0).2.1.1) ((lyB hj0).2.1.2) hi dX3_wonWeight_27 ?_
        refine lv_iadd hx hb dX3_wonWeight_28 ?_
        refine lv_topi (fun x_2 ex_2 => ?_)
        have h := h x_2 ex_2
        refine lv_istore_n (lv' := [(1, .int x_2), (0, .ref (ad j0)), (2, .int x2)]) hx hb dX3_wonWeight_29 rfl hl (by decide) rfl (fun ls hl => ?_)
        exact o_X3_wonWeight_30_w C hj0 ih g x_2 x2 _ _ _ S (lv_sub hl [1, 0, 2] rfl) h
def o_X3_wonWeight (Q : Int32 → Mm → Prop) (j0 : Nat) (g : Mm) : Prop := ∃ n4, o_X3_wonWeight_4 Q j0 n4 g 0 0
set_option maxHeartbeats 4000000 in
set_option maxRecDepth 100000 in
theorem o_X3_wonWeight_c {l : Launch} {dC : Nat → ClassId} {dI : Nat → Nat → Nat} {cy : Nat → ClassId} {ad tz : Nat → Nat} {Q : Int32 → Mm → Prop} {j0 : Nat} {g : Mm} (hj0 : ly j0 = 3) (h : o_X3_wonWeight Q j0 g) : CI l dC dI cy ad tz yX3_wonWeight wsX3_wonWeight (rmD 0) [.ref (ad j0)] g Q := by
  refine CI.of (by decide) rfl rfl (Nat.le_of_ble_eq_true rfl) ?_
  intro p e s m args below meth c ls C hl S
  have hl : lv_has ls 3 [(0, .ref (ad j0))] := hl
  have hx := C.1.1
  have hb := C.1.2.1
  unfold o_X3_wonWeight at h
  refine lv_iconst (v := 0) hx hb dX3_wonWeight_0 (by decide) ?_
  refine lv_istore_n (lv' := [(1, .int 0), (0, .ref (ad j0))]) hx hb dX3_wonWeight_1 rfl hl (by decide) rfl (fun ls hl => ?_)
  refine lv_iconst (v := 0) hx hb dX3_wonWeight_2 (by decide) ?_
  refine lv_istore_n (lv' := [(2, .int 0), (1, .int 0), (0, .ref (ad j0))]) hx hb dX3_wonWeight_3 rfl hl (by decide) rfl (fun ls hl => ?_)
  obtain ⟨n4, h⟩ := h
  refine o_X3_wonWeight_4_w C hj0 n4 g 0 0 _ _ _ S (lv_sub hl [2, 1, 0] rfl) h
/-! ClawCase$Box.shareOf(II)I, height 1 -/
theorem m_X3_shareOf_1 : Cond.methodLink RX3 86 Lib.Math.max.name ∈ wsX3_shareOf := List.mem_of_getElem? (i := 1) (by decide +kernel)
theorem m_X3_shareOf_2 : Cond.static Lib.Math.max.name ∈ wsX3_shareOf := List.mem_of_getElem? (i := 2) (by decide +kernel)
theorem m_X3_shareOf_3 : Cond.initialized "java/lang/Math" ∈ wsX3_shareOf := List.mem_of_getElem? (i := 3) (by decide +kernel)
theorem m_X3_shareOf_4 : Cond.code Lib.Math.max.name Lib.Math.max.code 2 (some .int) ∈ wsX3_shareOf := List.mem_of_getElem? (i := 4) (by decide +kernel)
theorem m_X3_shareOf_5 : Cond.fieldLink RX3 24 "ClawCase$Box" "toys" "I" ∈ wsX3_shareOf := List.mem_of_getElem? (i := 5) (by decide +kernel)
theorem n_X3_shareOf_X3 : ∀ w ∈ wsX30, w ∈ wsX3_shareOf := mem_by [13, 14, 15, 16, 17, 18, 19, 20, 21] (by decide +kernel)
theorem m_X3_shareOf_6 : Cond.fieldLink RX3 18 "ClawCase$Box" "places" "[I" ∈ wsX3_shareOf := List.mem_of_getElem? (i := 6) (by decide +kernel)
theorem m_X3_shareOf_7 : Cond.fieldLink RX3 15 "ClawCase$Box" "weights" "[I" ∈ wsX3_shareOf := List.mem_of_getElem? (i := 7) (by decide +kernel)
theorem cw_X3_shareOf_X3_wonWeight {s : State} {args : Array Value} (ht : ∀ w ∈ wsX3_shareOf, w.before args s = true) : CallW (rmD 1) s args RX3 RX3 82 yX3_wonWeight cX3_wonWeight 3 (some .int) wsX3_wonWeight (rmD (0)) 0 0 0 := cwV 0 ht gX3_shareOf_X3_wonWeight rfl rfl rfl (by decide +kernel) ⟨Nat.le_of_ble_eq_true rfl, Nat.le_of_ble_eq_true rfl⟩
def o_X3_shareOf_69 (Q : Int32 → Mm → Prop) (K18 : Mm → Int32 → Int32 → Int32 → Int32 → Int32 → Int32 → Prop) (K75 : Mm → Int32 → Int32 → Int32 → Int32 → Int32 → Prop) (j0 : Nat) (g : Mm) (x1 : Int32) (x2 : Int32) (x3 : Int32) (x4 : Int32) (x5 : Int32) (x6 : Int32) : Prop := ∀ x_4 : Int32, x_4 = x6 + 1 → (K18 g x1 x2 x3 x4 x5 x_4)
def o_X3_shareOf_66 (Q : Int32 → Mm → Prop) (K18 : Mm → Int32 → Int32 → Int32 → Int32 → Int32 → Int32 → Prop) (K75 : Mm → Int32 → Int32 → Int32 → Int32 → Int32 → Prop) (j0 : Nat) (g : Mm) (x1 : Int32) (x2 : Int32) (x3 : Int32) (x4 : Int32) (x6 : Int32) (s0 : Int32) (s1 : Int32) : Prop := ∀ x_6 : Int32, x_6 = (s0 + s1) → (o_X3_shareOf_69 Q K18 K75 j0 g x1 x2 x3 x4 x_6 x6)
def o_X3_shareOf_18 (Q : Int32 → Mm → Prop) (K75 : Mm → Int32 → Int32 → Int32 → Int32 → Int32 → Prop) (j0 : Nat) : Nat → Mm → Int32 → Int32 → Int32 → Int32 → Int32 → Int32 → Prop
  | 0, _, _, _, _, _, _, _ => False
  | n18 + 1, g, x1, x2, x3, x4, x5, x6 => (((g.1 j0 4) ≤ x6) → K75 g x1 x2 x3 x4 x5) ∧ ((¬ (g.1 j0 4) ≤ x6) → vp_in x6 7 ∧ (((¬ (g.1 (j0 + 3) x6.toNatClampNeg) = 0) → o_X3_shareOf_69 Q (o_X3_shareOf_18 Q K75 j0 n18) K75 j0 g x1 x2 x3 x4 x5 x6) ∧ (((g.1 (j0 + 3) x6.toNatClampNeg) = 0) → vp_in x6 7 ∧ (¬ (x3 : Int32) = 0 ∧ (∀ x_5 : Int32, x_5 = (x4 - ((x2 * (g.1 (j0 + 2) x6.toNatClampNeg)) / x3)) → (((x1 ≤ x6) → o_X3_shareOf_66 Q (o_X3_shareOf_18 Q K75 j0 n18) K75 j0 g x1 x2 x3 x_5 x6 x5 0) ∧ ((¬ x1 ≤ x6) → o_X3_shareOf_66 Q (o_X3_shareOf_18 Q K75 j0 n18) K75 j0 g x1 x2 x3 x_5 x6 x5 1)))))))
set_option maxHeartbeats 4000000 in
set_option maxRecDepth 100000 in
theorem o_X3_shareOf_69_w {p : Program} {l : Launch} {e : Env} {s : State} {m : MethodId} {args : Array Value} {below : List Frame} {meth : Method} {c : Code} {dC : Nat → ClassId} {dI : Nat → Nat → Nat} {cy : Nat → ClassId} {ad tz : Nat → Nat} {Q : Int32 → Mm → Prop} {K18 : Mm → Int32 → Int32 → Int32 → Int32 → Int32 → Int32 → Prop} {K75 : Mm → Int32 → Int32 → Int32 → Int32 → Int32 → Prop} {j0 : Nat} (C : CX p s m args meth c dC dI cy ad tz cX3_shareOf 7 (some .int) RX3 wsX3_shareOf) (hj0 : ly j0 = 3) (hK18 : ∀ (g : Mm) (x1 : Int32) (x2 : Int32) (x3 : Int32) (x4 : Int32) (x5 : Int32) (x6 : Int32) (H : Heap) (locs : List Loc) (ls : Array Slot), St dC dI cy ad s g H locs → lv_has ls 7 [(0, .ref (ad j0)), (1, .int x1), (2, .int x2), (3, .int x3), (4, .int x4), (5, .int x5), (6, .int x6)] → K18 g x1 x2 x3 x4 x5 x6 → W p l e (rmD 1) s m args below meth c H locs 0 0 (QI dC dI cy ad below args s Q) (F0 m 18 ls [])) (hK75 : ∀ (g : Mm) (x1 : Int32) (x2 : Int32) (x3 : Int32) (x4 : Int32) (x5 : Int32) (H : Heap) (locs : List Loc) (ls : Array Slot), St dC dI cy ad s g H locs → lv_has ls 7 [(0, .ref (ad j0)), (1, .int x1), (2, .int x2), (3, .int x3), (4, .int x4), (5, .int x5)] → K75 g x1 x2 x3 x4 x5 → W p l e (rmD 1) s m args below meth c H locs 0 0 (QI dC dI cy ad below args s Q) (F0 m 75 ls [])) : ∀ (g : Mm) (x1 : Int32) (x2 : Int32) (x3 : Int32) (x4 : Int32) (x5 : Int32) (x6 : Int32) (H : Heap) (locs : List Loc) (ls : Array Slot), St dC dI cy ad s g H locs → lv_has ls 7 [(0, .ref (ad j0)), (1, .int x1), (2, .int x2), (3, .int x3), (4, .int x4), (5, .int x5), (6, .int x6)] → o_X3_shareOf_69 Q K18 K75 j0 g x1 x2 x3 x4 x5 x6 → W p l e (rmD 1) s m args below meth c H locs 0 0 (QI dC dI cy ad below args s Q) (F0 m 69 ls []) := by
  have hx := C.1.1
  have hb := C.1.2.1
  intro g x1 x2 x3 x4 x5 x6 H locs ls S hl h
  unfold o_X3_shareOf_69 at h
  obtain ⟨x_4, ex_4⟩ : ∃ y : Int32, y = x6 + 1 := ⟨_, rfl⟩
  have h := h x_4 ex_4
  refine lv_iinc (v := x_4) (lv' := [(6, .int x_4), (0, .ref (ad j0)), (1, .int x1), (2, .int x2), (3, .int x3), (4, .int x4), (5, .int x5)]) hx hb dX3_shareOf_69 hl (k := 6) rfl (by rw [ex_4]; rfl) (by decide) rfl (fun ls hl => ?_)
  refine lv_goto (tgt := 18) hx hb dX3_shareOf_72 (by decide) ?_
  exact hK18 g x1 x2 x3 x4 x5 x_4 _ _ _ S (lv_sub hl [1, 2, 3, 4, 5, 6, 0] rfl) h
set_option maxHeartbeats 4000000 in
set_option maxRecDepth 100000 in
theorem o_X3_shareOf_66_w {p : Program} {l : Launch} {e : Env} {s : State} {m : MethodId} {args : Array Value} {below : List Frame} {meth : Method} {c : Code} {dC : Nat → ClassId} {dI : Nat → Nat → Nat} {cy : Nat → ClassId} {ad tz : Nat → Nat} {Q : Int32 → Mm → Prop} {K18 : Mm → Int32 → Int32 → Int32 → Int32 → Int32 → Int32 → Prop} {K75 : Mm → Int32 → Int32 → Int32 → Int32 → Int32 → Prop} {j0 : Nat} (C : CX p s m args meth c dC dI cy ad tz cX3_shareOf 7 (some .int) RX3 wsX3_shareOf) (hj0 : ly j0 = 3) (hK18 : ∀ (g : Mm) (x1 : Int32) (x2 : Int32) (x3 : Int32) (x4 : Int32) (x5 : Int32) (x6 : Int32) (H : Heap) (locs : List Loc) (ls : Array Slot), St dC dI cy ad s g H locs → lv_has ls 7 [(0, .ref (ad j0)), (1, .int x1), (2, .int x2), (3, .int x3), (4, .int x4), (5, .int x5), (6, .int x6)] → K18 g x1 x2 x3 x4 x5 x6 → W p l e (rmD 1) s m args below meth c H locs 0 0 (QI dC dI cy ad below args s Q) (F0 m 18 ls [])) (hK75 : ∀ (g : Mm) (x1 : Int32) (x2 : Int32) (x3 : Int32) (x4 : Int32) (x5 : Int32) (H : Heap) (locs : List Loc) (ls : Array Slot), St dC dI cy ad s g H locs → lv_has ls 7 [(0, .ref (ad j0)), (1, .int x1), (2, .int x2), (3, .int x3), (4, .int x4), (5, .int x5)] → K75 g x1 x2 x3 x4 x5 → W p l e (rmD 1) s m args below meth c H locs 0 0 (QI dC dI cy ad below args s Q) (F0 m 75 ls [])) : ∀ (g : Mm) (x1 : Int32) (x2 : Int32) (x3 : Int32) (x4 : Int32) (x6 : Int32) (s0 : Int32) (s1 : Int32) (H : Heap) (locs : List Loc) (ls : Array Slot), St dC dI cy ad s g H locs → lv_has ls 7 [(0, .ref (ad j0)), (1, .int x1), (2, .int x2), (3, .int x3), (4, .int x4), (6, .int x6)] → o_X3_shareOf_66 Q K18 K75 j0 g x1 x2 x3 x4 x6 s0 s1 → W p l e (rmD 1) s m args below meth c H locs 0 0 (QI dC dI cy ad below args s Q) (F0 m 66 ls [.int s1, .int s0]) := by
  have hx := C.1.1
  have hb := C.1.2.1
  intro g x1 x2 x3 x4 x6 s0 s1 H locs ls S hl h
  unfold o_X3_shareOf_66 at h
  refine lv_iadd hx hb dX3_shareOf_66 ?_
  refine lv_topi (fun x_6 ex_6 => ?_)
  have h := h x_6 ex_6
  refine lv_istore (lv' := [(5, .int x_6), (0, .ref (ad j0)), (1, .int x1), (2, .int x2), (3, .int x3), (4, .int x4), (6, .int x6)]) hx hb dX3_shareOf_67 hl (by decide) rfl (fun ls hl => ?_)
  exact o_X3_shareOf_69_w C hj0 hK18 hK75 g x1 x2 x3 x4 x_6 x6 _ _ _ S (lv_sub hl [1, 2, 3, 4, 5, 0, 6] rfl) h
set_option maxHeartbeats 4000000 in
set_option maxRecDepth 100000 in
theorem o_X3_shareOf_18_w {p : Program} {l : Launch} {e : Env} {s : State} {m : MethodId} {args : Array Value} {below : List Frame} {meth : Method} {c : Code} {dC : Nat → ClassId} {dI : Nat → Nat → Nat} {cy : Nat → ClassId} {ad tz : Nat → Nat} {Q : Int32 → Mm → Prop} {K75 : Mm → Int32 → Int32 → Int32 → Int32 → Int32 → Prop} {j0 : Nat} (C : CX p s m args meth c dC dI cy ad tz cX3_shareOf 7 (some .int) RX3 wsX3_shareOf) (hj0 : ly j0 = 3) (hK75 : ∀ (g : Mm) (x1 : Int32) (x2 : Int32) (x3 : Int32) (x4 : Int32) (x5 : Int32) (H : Heap) (locs : List Loc) (ls : Array Slot), St dC dI cy ad s g H locs → lv_has ls 7 [(0, .ref (ad j0)), (1, .int x1), (2, .int x2), (3, .int x3), (4, .int x4), (5, .int x5)] → K75 g x1 x2 x3 x4 x5 → W p l e (rmD 1) s m args below meth c H locs 0 0 (QI dC dI cy ad below args s Q) (F0 m 75 ls [])) : ∀ (n : Nat) (g : Mm) (x1 : Int32) (x2 : Int32) (x3 : Int32) (x4 : Int32) (x5 : Int32) (x6 : Int32) (H : Heap) (locs : List Loc) (ls : Array Slot), St dC dI cy ad s g H locs → lv_has ls 7 [(0, .ref (ad j0)), (1, .int x1), (2, .int x2), (3, .int x3), (4, .int x4), (5, .int x5), (6, .int x6)] → o_X3_shareOf_18 Q K75 j0 n g x1 x2 x3 x4 x5 x6 → W p l e (rmD 1) s m args below meth c H locs 0 0 (QI dC dI cy ad below args s Q) (F0 m 18 ls []) := by
  have hx := C.1.1
  have hb := C.1.2.1
  intro n18
  induction n18 with
  | zero => intro g x1 x2 x3 x4 x5 x6 H locs ls S hl h; exact h.elim
  | succ n18 ih =>
    intro g x1 x2 x3 x4 x5 x6 H locs ls S hl h
    have h : (((g.1 j0 4) ≤ x6) → K75 g x1 x2 x3 x4 x5) ∧ ((¬ (g.1 j0 4) ≤ x6) → vp_in x6 7 ∧ (((¬ (g.1 (j0 + 3) x6.toNatClampNeg) = 0) → o_X3_shareOf_69 Q (o_X3_shareOf_18 Q K75 j0 n18) K75 j0 g x1 x2 x3 x4 x5 x6) ∧ (((g.1 (j0 + 3) x6.toNatClampNeg) = 0) → vp_in x6 7 ∧ (¬ (x3 : Int32) = 0 ∧ (∀ x_5 : Int32, x_5 = (x4 - ((x2 * (g.1 (j0 + 2) x6.toNatClampNeg)) / x3)) → (((x1 ≤ x6) → o_X3_shareOf_66 Q (o_X3_shareOf_18 Q K75 j0 n18) K75 j0 g x1 x2 x3 x_5 x6 x5 0) ∧ ((¬ x1 ≤ x6) → o_X3_shareOf_66 Q (o_X3_shareOf_18 Q K75 j0 n18) K75 j0 g x1 x2 x3 x_5 x6 x5 1))))))) := h
    refine lv_iload hx hb dX3_shareOf_18 (lv_at hl 6 rfl) ?_
    refine lv_aload_n hx hb dX3_shareOf_20 rfl (lv_at hl 0 rfl) ?_
    refine kg3 (k := 4) (v := .int (g.1 j0 4)) C S hj0 (by decide) n_X3_shareOf_X3 m_X3_shareOf_5 rfl dX3_shareOf_21 ?_
    refine lv_icmp_ge (tgt := 75) hx hb dX3_shareOf_24 (by decide) (fun c1 => ?_) (fun c1 => ?_)
    · have h := h.1 c1
      exact hK75 g x1 x2 x3 x4 x5 _ _ _ S (lv_sub hl [0, 1, 2, 3, 4, 5] rfl) h
    · have h := h.2 c1
      refine lv_aload_n hx hb dX3_shareOf_27 rfl (lv_at hl 0 rfl) ?_
      refine kg3 (k := 2) (v := .ref (ad (j0 + 3))) C S hj0 (by decide) n_X3_shareOf_X3 m_X3_shareOf_6 rfl dX3_shareOf_28 ?_
      refine lv_iload hx hb dX3_shareOf_31 (lv_at hl 6 rfl) ?_
      obtain ⟨hi, h⟩ := h
      refine kLi C S ((lyB hj0).2.2.1.1) ((lyB hj0).2.2.1.2) hi dX3_shareOf_33 ?_
      refine lv_if_ne (tgt := 69) hx hb dX3_shareOf_34 (by decide) (fun c1 => ?_) (fun c1 => ?_)
      · have h := h.1 c1
        exact o_X3_shareOf_69_w C hj0 ih hK75 g x1 x2 x3 x4 x5 x6 _ _ _ S (lv_sub hl [0, 1, 2, 3, 4, 5, 6] rfl) h
      · have h := h.2 c1
        refine lv_iload hx hb dX3_shareOf_37 (lv_at hl 4 rfl) ?_
        refine lv_iload_n hx hb dX3_shareOf_39 rfl (lv_at hl 2 rfl) ?_
        refine lv_aload_n hx hb dX3_shareOf_40 rfl (lv_at hl 0 rfl) ?_
        refine kg3 (k := 1) (v := .ref (ad (j0 + 2))) C S hj0 (by decide) n_X3_shareOf_X3 m_X3_shareOf_7 rfl dX3_shareOf_41 ?_
        refine lv_iload hx hb dX3_shareOf_44 (lv_at hl 6 rfl) ?_
        obtain ⟨hi, h⟩ := h
        refine kLi C S ((lyB hj0).2.1.1) ((lyB hj0).2.1.2) hi dX3_shareOf_46 ?_
        refine lv_imul hx hb dX3_shareOf_47 ?_
        refine lv_iload_n hx hb dX3_shareOf_48 rfl (lv_at hl 3 rfl) ?_
        obtain ⟨h0, h⟩ := h
        refine lv_idiv hx hb dX3_shareOf_49 h0 ?_
        refine lv_isub hx hb dX3_shareOf_50 ?_
        refine lv_topi (fun x_5 ex_5 => ?_)
        have h := h x_5 ex_5
        refine lv_istore (lv' := [(4, .int x_5), (0, .ref (ad j0)), (1, .int x1), (2, .int x2), (3, .int x3), (5, .int x5), (6, .int x6)]) hx hb dX3_shareOf_51 hl (by decide) rfl (fun ls hl => ?_)
        refine lv_iload hx hb dX3_shareOf_53 (lv_at hl 5 rfl) ?_
        refine lv_iload hx hb dX3_shareOf_55 (lv_at hl 6 rfl) ?_
        refine lv_iload_n hx hb dX3_shareOf_57 rfl (lv_at hl 2 rfl) ?_
        refine lv_icmp_ge (tgt := 65) hx hb dX3_shareOf_58 (by decide) (fun c1 => ?_) (fun c1 => ?_)
        · have h := h.1 c1
          refine lv_iconst (v := 0) hx hb dX3_shareOf_65 (by decide) ?_
          exact o_X3_shareOf_66_w C hj0 ih hK75 g x1 x2 x3 x_5 x6 x5 0 _ _ _ S (lv_sub hl [1, 2, 3, 4, 0, 6] rfl) h
        · have h := h.2 c1
          refine lv_iconst (v := 1) hx hb dX3_shareOf_61 (by decide) ?_
          refine lv_goto (tgt := 66) hx hb dX3_shareOf_62 (by decide) ?_
          exact o_X3_shareOf_66_w C hj0 ih hK75 g x1 x2 x3 x_5 x6 x5 1 _ _ _ S (lv_sub hl [1, 2, 3, 4, 0, 6] rfl) h
def o_X3_shareOf (Q : Int32 → Mm → Prop) (j0 : Nat) (g : Mm) (x1 : Int32) (x2 : Int32) : Prop := o_X3_wonWeight (fun (r_2 : Int32) (g_1 : Mm) => ∀ x_3 : Int32, x_3 = (if (1 : Int32) < r_2 then r_2 else 1) → (∃ n18, o_X3_shareOf_18 Q (fun (g : Mm) (x1 : Int32) (x2 : Int32) (x3 : Int32) (x4 : Int32) (x5 : Int32) => vp_in x1 7 ∧ (¬ (x3 : Int32) = 0 ∧ (((x4 ≤ x5) → Q (((x2 * (g.1 (j0 + 2) x1.toNatClampNeg)) / x3) + 0) g) ∧ ((¬ x4 ≤ x5) → Q (((x2 * (g.1 (j0 + 2) x1.toNatClampNeg)) / x3) + 1) g)))) j0 n18 g_1 x1 x2 x_3 x2 0 0)) j0 g
set_option maxHeartbeats 4000000 in
set_option maxRecDepth 100000 in
theorem o_X3_shareOf_c {l : Launch} {dC : Nat → ClassId} {dI : Nat → Nat → Nat} {cy : Nat → ClassId} {ad tz : Nat → Nat} {Q : Int32 → Mm → Prop} {j0 : Nat} {g : Mm} {x1 : Int32} {x2 : Int32} (hj0 : ly j0 = 3) (h : o_X3_shareOf Q j0 g x1 x2) : CI l dC dI cy ad tz yX3_shareOf wsX3_shareOf (rmD 1) [.ref (ad j0), .int x1, .int x2] g Q := by
  refine CI.of (by decide) rfl rfl (Nat.le_of_ble_eq_true rfl) ?_
  intro p e s m args below meth c ls C hl S
  have hl : lv_has ls 7 [(0, .ref (ad j0)), (1, .int x1), (2, .int x2)] := hl
  have hx := C.1.1
  have hb := C.1.2.1
  unfold o_X3_shareOf at h
  refine lv_iconst (v := 1) hx hb dX3_shareOf_0 (by decide) ?_
  refine lv_aload_n hx hb dX3_shareOf_1 rfl (lv_at hl 0 rfl) ?_
  refine kV_i (As := []) (rest := [.int 1]) C S hl.1 (o_X3_wonWeight_c hj0 h) (wd_o3 hj0) rfl (cw_X3_shareOf_X3_wonWeight C.1.2.2.2.2) rfl rfl (Nat.le_of_ble_eq_true rfl) dX3_shareOf_2 (fun r_2 g_1 H locs h S => ?_)
  refine kMax C hl.1 m_X3_shareOf_1 m_X3_shareOf_2 m_X3_shareOf_3 m_X3_shareOf_4 (Nat.le_of_ble_eq_true rfl) (Nat.le_of_ble_eq_true rfl) dX3_shareOf_5 ?_
  refine lv_topi (fun x_3 ex_3 => ?_)
  have h := h x_3 ex_3
  refine lv_istore_n (lv' := [(3, .int x_3), (0, .ref (ad j0)), (1, .int x1), (2, .int x2)]) hx hb dX3_shareOf_8 rfl hl (by decide) rfl (fun ls hl => ?_)
  refine lv_iload_n hx hb dX3_shareOf_9 rfl (lv_at hl 3 rfl) ?_
  refine lv_istore (lv' := [(4, .int x2), (3, .int x_3), (0, .ref (ad j0)), (1, .int x1), (2, .int x2)]) hx hb dX3_shareOf_10 hl (by decide) rfl (fun ls hl => ?_)
  refine lv_iconst (v := 0) hx hb dX3_shareOf_12 (by decide) ?_
  refine lv_istore (lv' := [(5, .int 0), (4, .int x2), (3, .int x_3), (0, .ref (ad j0)), (1, .int x1), (2, .int x2)]) hx hb dX3_shareOf_13 hl (by decide) rfl (fun ls hl => ?_)
  refine lv_iconst (v := 0) hx hb dX3_shareOf_15 (by decide) ?_
  refine lv_istore (lv' := [(6, .int 0), (5, .int 0), (4, .int x2), (3, .int x_3), (0, .ref (ad j0)), (1, .int x1), (2, .int x2)]) hx hb dX3_shareOf_16 hl (by decide) rfl (fun ls hl => ?_)
  obtain ⟨n18, h⟩ := h
  refine o_X3_shareOf_18_w C hj0 ?_ n18 g_1 x1 x2 x_3 x2 0 0 _ _ _ S (lv_sub hl [4, 5, 6, 3, 2, 1, 0] rfl) h
  · intro g x1 x2 x3 x4 x5 H locs ls S hl h
    refine lv_iload_n hx hb dX3_shareOf_75 rfl (lv_at hl 2 rfl) ?_
    refine lv_aload_n hx hb dX3_shareOf_76 rfl (lv_at hl 0 rfl) ?_
    refine kg3 (k := 1) (v := .ref (ad (j0 + 2))) C S hj0 (by decide) n_X3_shareOf_X3 m_X3_shareOf_7 rfl dX3_shareOf_77 ?_
    refine lv_iload_n hx hb dX3_shareOf_80 rfl (lv_at hl 1 rfl) ?_
    obtain ⟨hi, h⟩ := h
    refine kLi C S ((lyB hj0).2.1.1) ((lyB hj0).2.1.2) hi dX3_shareOf_81 ?_
    refine lv_imul hx hb dX3_shareOf_82 ?_
    refine lv_iload_n hx hb dX3_shareOf_83 rfl (lv_at hl 3 rfl) ?_
    obtain ⟨h0, h⟩ := h
    refine lv_idiv hx hb dX3_shareOf_84 h0 ?_
    refine lv_iload hx hb dX3_shareOf_85 (lv_at hl 5 rfl) ?_
    refine lv_iload hx hb dX3_shareOf_87 (lv_at hl 4 rfl) ?_
    refine lv_icmp_ge (tgt := 96) hx hb dX3_shareOf_89 (by decide) (fun c1 => ?_) (fun c1 => ?_)
    · have h := h.1 c1
      refine lv_iconst (v := 0) hx hb dX3_shareOf_96 (by decide) ?_
      refine lv_iadd hx hb dX3_shareOf_97 ?_
      exact kRi C S h dX3_shareOf_98
    · have h := h.2 c1
      refine lv_iconst (v := 1) hx hb dX3_shareOf_92 (by decide) ?_
      refine lv_goto (tgt := 97) hx hb dX3_shareOf_93 (by decide) ?_
      refine lv_iadd hx hb dX3_shareOf_97 ?_
      exact kRi C S h dX3_shareOf_98
