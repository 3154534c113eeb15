/-! ClawCase$Box.toysAt(I)I, height 0 -/
theorem m_X3_toysAt_1 : Cond.fieldLink RX3 24 "ClawCase$Box" "toys" "I" ∈ wsX3_toysAt := List.mem_of_getElem? (i := 1) (by decide +kernel)
theorem n_X3_toysAt_X3 : ∀ w ∈ wsX30, w ∈ wsX3_toysAt := mem_by [3, 4, 5, 6, 7, 8, 9, 10, 11] (by decide +kernel)
theorem m_X3_toysAt_2 : Cond.fieldLink RX3 18 "ClawCase$Box" "places" "[I" ∈ wsX3_toysAt := List.mem_of_getElem? (i := 2) (by decide +kernel)
def o_X3_toysAt_28 (Q : Int32 → Mm → Prop) (K4 : Mm → Int32 → Int32 → Int32 → Prop) (j0 : Nat) (g : Mm) (x1 : Int32) (x2 : Int32) (x3 : Int32) : Prop := ∀ x_1 : Int32, x_1 = x3 + 1 → (K4 g x1 x2 x_1)
def o_X3_toysAt_4 (Q : Int32 → Mm → Prop) (j0 : Nat) : Nat → Mm → Int32 → Int32 → Int32 → Prop
  | 0, _, _, _, _ => False
  | n4 + 1, g, x1, x2, x3 => (((g.1 j0 4) ≤ x3) → Q x2 g) ∧ ((¬ (g.1 j0 4) ≤ x3) → vp_in x3 7 ∧ (((¬ (g.1 (j0 + 3) x3.toNatClampNeg) = x1) → o_X3_toysAt_28 Q (o_X3_toysAt_4 Q j0 n4) j0 g x1 x2 x3) ∧ (((g.1 (j0 + 3) x3.toNatClampNeg) = x1) → ∀ x_2 : Int32, x_2 = (x2 ||| (1 <<< (x3 &&& 31))) → (o_X3_toysAt_28 Q (o_X3_toysAt_4 Q j0 n4) j0 g x1 x_2 x3))))
set_option maxHeartbeats 4000000 in
set_option maxRecDepth 100000 in
theorem o_X3_toysAt_28_w {p : Program} {l : Launch} {e : Env} {s : State} {m : MethodId} {args : Array Value} {below : List Frame} {meth : Method} {c : Code} {dC : Nat → ClassId} {dI : Nat → Nat → Nat} {cy : Nat → ClassId} {ad tz : Nat → Nat} {Q : Int32 → Mm → Prop} {K4 : Mm → Int32 → Int32 → Int32 → Prop} {j0 : Nat} (C : CX p s m args meth c dC dI cy ad tz cX3_toysAt 4 (some .int) RX3 wsX3_toysAt) (hj0 : ly j0 = 3) (hK4 : ∀ (g : Mm) (x1 : Int32) (x2 : Int32) (x3 : Int32) (H : Heap) (locs : List Loc) (ls : Array Slot), St dC dI cy ad s g H locs → lv_has ls 4 [(0, .ref (ad j0)), (1, .int x1), (2, .int x2), (3, .int x3)] → K4 g x1 x2 x3 → W p l e (rmD 0) s m args below meth c H locs 0 0 (QI dC dI cy ad below args s Q) (F0 m 4 ls [])) : ∀ (g : Mm) (x1 : Int32) (x2 : Int32) (x3 : Int32) (H : Heap) (locs : List Loc) (ls : Array Slot), St dC dI cy ad s g H locs → lv_has ls 4 [(0, .ref (ad j0)), (1, .int x1), (2, .int x2), (3, .int x3)] → o_X3_toysAt_28 Q K4 j0 g x1 x2 x3 → W p l e (rmD 0) s m args below meth c H locs 0 0 (QI dC dI cy ad below args s Q) (F0 m 28 ls []) := by
  have hx := C.1.1
  have hb := C.1.2.1
  intro g x1 x2 x3 H locs ls S hl h
  unfold o_X3_toysAt_28 at h
  obtain ⟨x_1, ex_1⟩ : ∃ y : Int32, y = x3 + 1 := ⟨_, rfl⟩
  have h := h x_1 ex_1
  refine lv_iinc (v := x_1) (lv' := [(3, .int x_1), (0, .ref (ad j0)), (1, .int x1), (2, .int x2)]) hx hb dX3_toysAt_28 hl (k := 3) rfl (by rw [ex_1]; rfl) (by decide) rfl (fun ls hl => ?_)
  refine lv_goto (tgt := 4) hx hb dX3_toysAt_31 (by decide) ?_
  exact hK4 g x1 x2 x_1 _ _ _ S (lv_sub hl [1, 2, 3, 0] rfl) h
set_option maxHeartbeats 4000000 in
set_option maxRecDepth 100000 in
theorem o_X3_toysAt_4_w {p : Program} {l : Launch} {e : Env} {s : State} {m : MethodId} {args : Array Value} {below : List Frame} {meth : Method} {c : Code} {dC : Nat → ClassId} {dI : Nat → Nat → Nat} {cy : Nat → ClassId} {ad tz : Nat → Nat} {Q : Int32 → Mm → Prop} {j0 : Nat} (C : CX p s m args meth c dC dI cy ad tz cX3_toysAt 4 (some .int) RX3 wsX3_toysAt) (hj0 : ly j0 = 3) : ∀ (n : Nat) (g : Mm) (x1 : Int32) (x2 : Int32) (x3 : Int32) (H : Heap) (locs : List Loc) (ls : Array Slot), St dC dI cy ad s g H locs → lv_has ls 4 [(0, .ref (ad j0)), (1, .int x1), (2, .int x2), (3, .int x3)] → o_X3_toysAt_4 Q j0 n g x1 x2 x3 → W p l e (rmD 0) s m args below meth c H locs 0 0 (QI dC dI cy ad below args s Q) (F0 m 4 ls []) := by
  have hx := C.1.1
  have hb := C.1.2.1
  intro n4
  induction n4 with
  | zero => intro g x1 x2 x3 H locs ls S hl h; exact h.elim
  | succ n4 ih =>
    intro g x1 x2 x3 H locs ls S hl h
    have h : (((g.1 j0 4) ≤ x3) → Q x2 g) ∧ ((¬ (g.1 j0 4) ≤ x3) → vp_in x3 7 ∧ (((¬ (g.1 (j0 + 3) x3.toNatClampNeg) = x1) → o_X3_toysAt_28 Q (o_X3_toysAt_4 Q j0 n4) j0 g x1 x2 x3) ∧ (((g.1 (j0 + 3) x3.toNatClampNeg) = x1) → ∀ x_2 : Int32, x_2 = (x2 ||| (1 <<< (x3 &&& 31))) → (o_X3_toysAt_28 Q (o_X3_toysAt_4 Q j0 n4) j0 g x1 x_2 x3)))) := h
    refine lv_iload_n hx hb dX3_toysAt_4 rfl (lv_at hl 3 rfl) ?_
    refine lv_aload_n hx hb dX3_toysAt_5 rfl (lv_at hl 0 rfl) ?_
    refine kg3 (k := 4) (v := .int (g.1 j0 4)) C S hj0 (by decide) n_X3_toysAt_X3 m_X3_toysAt_1 rfl dX3_toysAt_6 ?_
    refine lv_icmp_ge (tgt := 34) hx hb dX3_toysAt_9 (by decide) (fun c1 => ?_) (fun c1 => ?_)
    · have h := h.1 c1
      refine lv_iload_n hx hb dX3_toysAt_34 rfl (lv_at hl 2 rfl) ?_
      exact kRi C S h dX3_toysAt_35
    · have h := h.2 c1
      refine lv_aload_n hx hb dX3_toysAt_12 rfl (lv_at hl 0 rfl) ?_
      refine kg3 (k := 2) (v := .ref (ad (j0 + 3))) C S hj0 (by decide) n_X3_toysAt_X3 m_X3_toysAt_2 rfl dX3_toysAt_13 ?_
      refine lv_iload_n hx hb dX3_toysAt_16 rfl (lv_at hl 3 rfl) ?_
      obtain ⟨hi, h⟩ := h
      refine kLi C S ((lyB hj0).2.2.1.1) ((lyB hj0).2.2.1.2) hi dX3_toysAt_17 ?_
      refine lv_iload_n hx hb dX3_toysAt_18 rfl (lv_at hl 1 rfl) ?_
      refine lv_icmp_ne (tgt := 28) hx hb dX3_toysAt_19 (by decide) (fun c1 => ?_) (fun c1 => ?_)
      · have h := h.1 c1
        exact o_X3_toysAt_28_w C hj0 ih g x1 x2 x3 _ _ _ S (lv_sub hl [0, 1, 2, 3] rfl) h
      · have h := h.2 c1
        refine lv_iload_n hx hb dX3_toysAt_22 rfl (lv_at hl 2 rfl) ?_
        refine lv_iconst (v := 1) hx hb dX3_toysAt_23 (by decide) ?_
        refine lv_iload_n hx hb dX3_toysAt_24 rfl (lv_at hl 3 rfl) ?_
        refine lv_ishl hx hb dX3_toysAt_25 ?_
        refine lv_ior hx hb dX3_toysAt_26 ?_
        refine lv_topi (fun x_2 ex_2 => ?_)
        have h := h x_2 ex_2
        refine lv_istore_n (lv' := [(2, .int x_2), (0, .ref (ad j0)), (1, .int x1), (3, .int x3)]) hx hb dX3_toysAt_27 rfl hl (by decide) rfl (fun ls hl => ?_)
        exact o_X3_toysAt_28_w C hj0 ih g x1 x_2 x3 _ _ _ S (lv_sub hl [1, 2, 0, 3] rfl) h
def o_X3_toysAt (Q : Int32 → Mm → Prop) (j0 : Nat) (g : Mm) (x1 : Int32) : Prop := ∃ n4, o_X3_toysAt_4 Q j0 n4 g x1 0 0
set_option maxHeartbeats 4000000 in
set_option maxRecDepth 100000 in
theorem o_X3_toysAt_c {l : Launch} {dC : Nat → ClassId} {dI : Nat → Nat → Nat} {cy : Nat → ClassId} {ad tz : Nat → Nat} {Q : Int32 → Mm → Prop} {j0 : Nat} {g : Mm} {x1 : Int32} (hj0 : ly j0 = 3) (h : o_X3_toysAt Q j0 g x1) : CI l dC dI cy ad tz yX3_toysAt wsX3_toysAt (rmD 0) [.ref (ad j0), .int x1] g Q := by
  refine CI.of (by decide) rfl rfl (Nat.le_of_ble_eq_true rfl) ?_
  intro p e s m args below meth c ls C hl S
  have hl : lv_has ls 4 [(0, .ref (ad j0)), (1, .int x1)] := hl
  have hx := C.1.1
  have hb := C.1.2.1
  unfold o_X3_toysAt at h
  refine lv_iconst (v := 0) hx hb dX3_toysAt_0 (by decide) ?_
  refine lv_istore_n (lv' := [(2, .int 0), (0, .ref (ad j0)), (1, .int x1)]) hx hb dX3_toysAt_1 rfl hl (by decide) rfl (fun ls hl => ?_)
  refine lv_iconst (v := 0) hx hb dX3_toysAt_2 (by decide) ?_
  refine lv_istore_n (lv' := [(3, .int 0), (2, .int 0), (0, .ref (ad j0)), (1, .int x1)]) hx hb dX3_toysAt_3 rfl hl (by decide) rfl (fun ls hl => ?_)
  obtain ⟨n4, h⟩ := h
  refine o_X3_toysAt_4_w C hj0 n4 g x1 0 0 _ _ _ S (lv_sub hl [2, 3, 1, 0] rfl) h
/-! ClawCase$Foretold.winsWithin(III)Z, height 4 -/
theorem m_X4_winsWithin_3 : Cond.fieldLink RX4 18 "ClawCase$Foretold" "path" "[I" ∈ wsX4_winsWithin := List.mem_of_getElem? (i := 3) (by decide +kernel)
theorem n_X4_winsWithin_X4 : ∀ w ∈ wsX40, w ∈ wsX4_winsWithin := mem_by [82, 83, 84, 85, 86, 87] (by decide +kernel)
theorem m_X4_winsWithin_1 : Cond.fieldLink RX4 12 "ClawCase$Foretold" "trial" "LClawCase$Box;" ∈ wsX4_winsWithin := List.mem_of_getElem? (i := 1) (by decide +kernel)
theorem m_X4_winsWithin_4 : Cond.fieldLink RX4 34 "ClawCase$Foretold" "steps" "[LClawCase$Before;" ∈ wsX4_winsWithin := List.mem_of_getElem? (i := 4) (by decide +kernel)
theorem cw_X4_winsWithin_X2_giveBack {s : State} {args : Array Value} {nr : Nat} (ht : ∀ w ∈ wsX4_winsWithin, w.before args s = true) : CallW (rmD (4 + (nr + 1))) s args RX4 RX2 59 yX2_giveBack cX2_giveBack 2 none wsX2_giveBack (rmD (0)) 0 0 1 := cwV 1 ht gX4_winsWithin_X2_giveBack rfl rfl rfl (by decide +kernel) ⟨by show (0) + 1 ≤ (4 + (nr + 1)); omega, by show 8 + (2 + 11) + 64 * (0) ≤ 64 * (4 + (nr + 1)); omega⟩
theorem cw_X4_winsWithin_X4_winsWithin {s : State} {args : Array Value} {nr : Nat} (ht : ∀ w ∈ wsX4_winsWithin, w.before args s = true) : CallW (rmD (4 + (nr + 1))) s args RX4 RX4 43 yX4_winsWithin cX4_winsWithin 6 (some .boolean) wsX4_winsWithin (rmD (4 + nr)) 0 0 3 := cwV 3 ht gX4_winsWithin_X4_winsWithin rfl rfl rfl (by decide +kernel) ⟨by show (4 + nr) + 1 ≤ (4 + (nr + 1)); omega, by show 8 + (6 + 11) + 64 * (4 + nr) ≤ 64 * (4 + (nr + 1)); omega⟩
theorem cw_X4_winsWithin_X3_playAt {s : State} {args : Array Value} {nr : Nat} (ht : ∀ w ∈ wsX4_winsWithin, w.before args s = true) : CallW (rmD (4 + (nr + 1))) s args RX4 RX3 55 yX3_playAt cX3_playAt 6 (some .int) wsX3_playAt (rmD (3)) 0 0 3 := cwV 3 ht gX4_winsWithin_X3_playAt rfl rfl rfl (by decide +kernel) ⟨by show (3) + 1 ≤ (4 + (nr + 1)); omega, by show 8 + (6 + 11) + 64 * (3) ≤ 64 * (4 + (nr + 1)); omega⟩
theorem cw_X4_winsWithin_X3_gripAhead {s : State} {args : Array Value} {nr : Nat} (ht : ∀ w ∈ wsX4_winsWithin, w.before args s = true) : CallW (rmD (4 + (nr + 1))) s args RX4 RX3 51 yX3_gripAhead cX3_gripAhead 2 (some .int) wsX3_gripAhead (rmD (0)) 0 0 1 := cwV 1 ht gX4_winsWithin_X3_gripAhead rfl rfl rfl (by decide +kernel) ⟨by show (0) + 1 ≤ (4 + (nr + 1)); omega, by show 8 + (2 + 11) + 64 * (0) ≤ 64 * (4 + (nr + 1)); omega⟩
theorem m_X4_winsWithin_2 : Cond.fieldLink RX4 48 "ClawCase$Box" "places" "[I" ∈ wsX4_winsWithin := List.mem_of_getElem? (i := 2) (by decide +kernel)
theorem n_X4_winsWithin_X3 : ∀ w ∈ wsX30, w ∈ wsX4_winsWithin := mem_by [88, 89, 90, 91, 92, 93, 94, 95, 96] (by decide +kernel)
def o_X4_winsWithin_26 (Q : Int32 → Mm → Prop) (F : (Int32 → Mm → Prop) → Mm → Int32 → Int32 → Int32 → Prop) : Nat → Mm → Int32 → Int32 → Int32 → Int32 → Prop
  | 0, _, _, _, _, _ => False
  | n26 + 1, g, x1, x2, x3, x4 => ((5 < x4) → Q 0 g) ∧ ((¬ 5 < x4) → vp_in x2 4 ∧ (∀ g_1 : Mm, g_1 = mset g 47 x2.toNatClampNeg x4 → (o_X3_gripAhead (fun (r_3 : Int32) (g_2 : Mm) => vp_in x2 8 ∧ (o_X3_playAt (fun (r_6 : Int32) (g_5 : Mm) => F (fun (r_8 : Int32) (g_7 : Mm) => vp_in x2 8 ∧ (o_X2_giveBack (fun (g_10 : Mm) => ((r_8 = 0) → ∀ x_12 : Int32, x_12 = x4 + 1 → (o_X4_winsWithin_26 Q F n26 g_10 x1 x2 x3 x_12)) ∧ ((¬ r_8 = 0) → Q 1 g_10)) (49 + 1 + x2.toNatClampNeg) 42 g_7)) g_5 x1 (x2 + 1) x3) 42 (49 + 1 + x2.toNatClampNeg) g_2 x4 r_3)) 42 g_1 0)))
set_option maxHeartbeats 4000000 in
set_option maxRecDepth 100000 in
theorem o_X4_winsWithin_26_w {p : Program} {l : Launch} {e : Env} {s : State} {m : MethodId} {args : Array Value} {below : List Frame} {meth : Method} {c : Code} {dC : Nat → ClassId} {dI : Nat → Nat → Nat} {cy : Nat → ClassId} {ad tz : Nat → Nat} {nr : Nat} {F : (Int32 → Mm → Prop) → Mm → Int32 → Int32 → Int32 → Prop} {Q : Int32 → Mm → Prop} (C : CX p s m args meth c dC dI cy ad tz cX4_winsWithin 6 (some .boolean) RX4 wsX4_winsWithin) (ihr : ∀ {Q : Int32 → Mm → Prop} {g : Mm} {x1 : Int32} {x2 : Int32} {x3 : Int32}, F Q g x1 x2 x3 → CI l dC dI cy ad tz yX4_winsWithin wsX4_winsWithin (rmD (4 + nr)) [.ref (ad 41), .int x1, .int x2, .int x3] g Q) : ∀ (n : Nat) (g : Mm) (x1 : Int32) (x2 : Int32) (x3 : Int32) (x4 : Int32) (H : Heap) (locs : List Loc) (ls : Array Slot), St dC dI cy ad s g H locs → lv_has ls 6 [(0, .ref (ad 41)), (1, .int x1), (2, .int x2), (3, .int x3), (4, .int x4)] → o_X4_winsWithin_26 Q F n g x1 x2 x3 x4 → W p l e (rmD (4 + (nr + 1))) s m args below meth c H locs 0 0 (QI dC dI cy ad below args s Q) (F0 m 26 ls []) := by
  have hx := C.1.1
  have hb := C.1.2.1
  intro n26
  induction n26 with
  | zero => intro g x1 x2 x3 x4 H locs ls S hl h; exact h.elim
  | succ n26 ih =>
    intro g x1 x2 x3 x4 H locs ls S hl h
    have h : ((5 < x4) → Q 0 g) ∧ ((¬ 5 < x4) → vp_in x2 4 ∧ (∀ g_1 : Mm, g_1 = mset g 47 x2.toNatClampNeg x4 → (o_X3_gripAhead (fun (r_3 : Int32) (g_2 : Mm) => vp_in x2 8 ∧ (o_X3_playAt (fun (r_6 : Int32) (g_5 : Mm) => F (fun (r_8 : Int32) (g_7 : Mm) => vp_in x2 8 ∧ (o_X2_giveBack (fun (g_10 : Mm) => ((r_8 = 0) → ∀ x_12 : Int32, x_12 = x4 + 1 → (o_X4_winsWithin_26 Q F n26 g_10 x1 x2 x3 x_12)) ∧ ((¬ r_8 = 0) → Q 1 g_10)) (49 + 1 + x2.toNatClampNeg) 42 g_7)) g_5 x1 (x2 + 1) x3) 42 (49 + 1 + x2.toNatClampNeg) g_2 x4 r_3)) 42 g_1 0))) := h
    refine lv_iload hx hb dX4_winsWithin_26 (lv_at hl 4 rfl) ?_
    refine lv_iconst (v := 5) hx hb dX4_winsWithin_28 (by decide) ?_
    refine lv_icmp_gt (tgt := 101) hx hb dX4_winsWithin_29 (by decide) (fun c1 => ?_) (fun c1 => ?_)
    · have h := h.1 c1
      refine lv_iconst (v := 0) hx hb dX4_winsWithin_101 (by decide) ?_
      exact kRz C S rfl h dX4_winsWithin_102
    · have h := h.2 c1
      refine lv_aload_n hx hb dX4_winsWithin_32 rfl (lv_at hl 0 rfl) ?_
      refine kg4 (k := 1) (v := .ref (ad 47)) C S rfl (by decide) n_X4_winsWithin_X4 m_X4_winsWithin_3 rfl dX4_winsWithin_33 ?_
      refine lv_iload_n hx hb dX4_winsWithin_36 rfl (lv_at hl 2 rfl) ?_
      refine lv_iload hx hb dX4_winsWithin_37 (lv_at hl 4 rfl) ?_
      obtain ⟨hi, h⟩ := h
      refine kSi C S rfl rfl hi dX4_winsWithin_39 (fun g_1 H locs eg_1 S => ?_)
      have h := h g_1 eg_1
      refine lv_aload_n hx hb dX4_winsWithin_40 rfl (lv_at hl 0 rfl) ?_
      refine kg4 (k := 0) (v := .ref (ad 42)) C S rfl (by decide) n_X4_winsWithin_X4 m_X4_winsWithin_1 rfl dX4_winsWithin_41 ?_
      refine lv_iload hx hb dX4_winsWithin_44 (lv_at hl 4 rfl) ?_
      refine lv_aload_n hx hb dX4_winsWithin_46 rfl (lv_at hl 0 rfl) ?_
      refine kg4 (k := 0) (v := .ref (ad 42)) C S rfl (by decide) n_X4_winsWithin_X4 m_X4_winsWithin_1 rfl dX4_winsWithin_47 ?_
      refine lv_iconst (v := 0) hx hb dX4_winsWithin_50 (by decide) ?_
      refine kV_i (As := [.int 0]) (rest := [.int x4, .ref (ad 42)]) C S hl.1 (o_X3_gripAhead_c rfl h) (wd_o3 rfl) rfl (cw_X4_winsWithin_X3_gripAhead C.1.2.2.2.2) rfl rfl (Nat.le_of_ble_eq_true rfl) dX4_winsWithin_51 (fun r_3 g_2 H locs h S => ?_)
      refine lv_aload_n hx hb dX4_winsWithin_54 rfl (lv_at hl 0 rfl) ?_
      refine kg4 (k := 5) (v := .ref (ad 49)) C S rfl (by decide) n_X4_winsWithin_X4 m_X4_winsWithin_4 rfl dX4_winsWithin_55 ?_
      refine lv_iload_n hx hb dX4_winsWithin_58 rfl (lv_at hl 2 rfl) ?_
      obtain ⟨hi_4, h⟩ := h
      refine kAb C S rfl rfl hi_4 dX4_winsWithin_59 ?_
      refine kV_i (As := [.int x4, .int r_3, .ref (ad (49 + 1 + x2.toNatClampNeg))]) (rest := []) C S hl.1 (o_X3_playAt_c rfl (ly_steps _ (in_lt hi_4)) h) (wd_o3 rfl) rfl (cw_X4_winsWithin_X3_playAt C.1.2.2.2.2) rfl rfl (Nat.le_of_ble_eq_true rfl) dX4_winsWithin_60 (fun r_6 g_5 H locs h S => ?_)
      refine lv_pop hx hb dX4_winsWithin_63 rfl ?_
      refine lv_aload_n hx hb dX4_winsWithin_64 rfl (lv_at hl 0 rfl) ?_
      refine lv_iload_n hx hb dX4_winsWithin_65 rfl (lv_at hl 1 rfl) ?_
      refine lv_iload_n hx hb dX4_winsWithin_66 rfl (lv_at hl 2 rfl) ?_
      refine lv_iconst (v := 1) hx hb dX4_winsWithin_67 (by decide) ?_
      refine lv_iadd hx hb dX4_winsWithin_68 ?_
      refine lv_iload_n hx hb dX4_winsWithin_69 rfl (lv_at hl 3 rfl) ?_
      refine kV_i (As := [.int x1, .int (x2 + 1), .int x3]) (rest := []) C S hl.1 (ihr h) (wd_o4 rfl) rfl (cw_X4_winsWithin_X4_winsWithin C.1.2.2.2.2) rfl rfl (Nat.le_of_ble_eq_true rfl) dX4_winsWithin_70 (fun r_8 g_7 H locs h S => ?_)
      refine lv_istore (lv' := [(5, .int r_8), (0, .ref (ad 41)), (1, .int x1), (2, .int x2), (3, .int x3), (4, .int x4)]) hx hb dX4_winsWithin_73 hl (by decide) rfl (fun ls hl => ?_)
      refine lv_aload_n hx hb dX4_winsWithin_75 rfl (lv_at hl 1 rfl) ?_
      refine kg4 (k := 5) (v := .ref (ad 49)) C S rfl (by decide) n_X4_winsWithin_X4 m_X4_winsWithin_4 rfl dX4_winsWithin_76 ?_
      refine lv_iload_n hx hb dX4_winsWithin_79 rfl (lv_at hl 3 rfl) ?_
      obtain ⟨hi_9, h⟩ := h
      refine kAb C S rfl rfl hi_9 dX4_winsWithin_80 ?_
      refine lv_aload_n hx hb dX4_winsWithin_81 rfl (lv_at hl 1 rfl) ?_
      refine kg4 (k := 0) (v := .ref (ad 42)) C S rfl (by decide) n_X4_winsWithin_X4 m_X4_winsWithin_1 rfl dX4_winsWithin_82 ?_
      refine kV_v (As := [.ref (ad 42)]) (rest := []) C S hl.1 (o_X2_giveBack_c (ly_steps _ (in_lt hi_9)) rfl h) (wd_o2 (ly_steps _ (in_lt hi_9))) rfl (cw_X4_winsWithin_X2_giveBack C.1.2.2.2.2) rfl rfl (Nat.le_of_ble_eq_true rfl) dX4_winsWithin_85 (fun g_10 H locs h S => ?_)
      refine lv_iload hx hb dX4_winsWithin_88 (lv_at hl 0 rfl) ?_
      refine lv_if_eq (tgt := 95) hx hb dX4_winsWithin_90 (by decide) (fun c1 => ?_) (fun c1 => ?_)
      · have h := h.1 c1
        obtain ⟨x_12, ex_12⟩ : ∃ y : Int32, y = x4 + 1 := ⟨_, rfl⟩
        have h := h x_12 ex_12
        refine lv_iinc (v := x_12) (lv' := [(4, .int x_12), (5, .int r_8), (0, .ref (ad 41)), (1, .int x1), (2, .int x2), (3, .int x3)]) hx hb dX4_winsWithin_95 hl (k := 5) rfl (by rw [ex_12]; rfl) (by decide) rfl (fun ls hl => ?_)
        refine lv_goto (tgt := 26) hx hb dX4_winsWithin_98 (by decide) ?_
        exact ih g_10 x1 x2 x3 x_12 _ _ _ S (lv_sub hl [2, 3, 4, 5, 0] rfl) h
      · have h := h.2 c1
        refine lv_iconst (v := 1) hx hb dX4_winsWithin_93 (by decide) ?_
        exact kRz C S rfl h dX4_winsWithin_94
def o_X4_winsWithin_0 (F : (Int32 → Mm → Prop) → Mm → Int32 → Int32 → Int32 → Prop) (Q : Int32 → Mm → Prop) (g : Mm) (x1 : Int32) (x2 : Int32) (x3 : Int32) : Prop := ((x2 < x3) → ∃ n26, o_X4_winsWithin_26 Q F n26 g x1 x2 x3 1) ∧ ((¬ x2 < x3) → vp_in x1 7 ∧ (((¬ (g.1 45 x1.toNatClampNeg) = 0) → Q 0 g) ∧ (((g.1 45 x1.toNatClampNeg) = 0) → Q 1 g)))
def o_X4_winsWithin : Nat → (Int32 → Mm → Prop) → Mm → Int32 → Int32 → Int32 → Prop
  | 0 => fun _ _ _ _ _ => False
  | nr + 1 => fun Q g x1 x2 x3 => o_X4_winsWithin_0 (o_X4_winsWithin nr) Q g x1 x2 x3
set_option maxHeartbeats 4000000 in
set_option maxRecDepth 100000 in
theorem o_X4_winsWithin_0_c {l : Launch} {dC : Nat → ClassId} {dI : Nat → Nat → Nat} {cy : Nat → ClassId} {ad tz : Nat → Nat} {nr : Nat} {F : (Int32 → Mm → Prop) → Mm → Int32 → Int32 → Int32 → Prop} (ihr : ∀ {Q : Int32 → Mm → Prop} {g : Mm} {x1 : Int32} {x2 : Int32} {x3 : Int32}, F Q g x1 x2 x3 → CI l dC dI cy ad tz yX4_winsWithin wsX4_winsWithin (rmD (4 + nr)) [.ref (ad 41), .int x1, .int x2, .int x3] g Q) {Q : Int32 → Mm → Prop} {g : Mm} {x1 : Int32} {x2 : Int32} {x3 : Int32} (h : o_X4_winsWithin_0 F Q g x1 x2 x3) : CI l dC dI cy ad tz yX4_winsWithin wsX4_winsWithin (rmD (4 + (nr + 1))) [.ref (ad 41), .int x1, .int x2, .int x3] g Q := by
  refine CI.of (by decide) rfl rfl (Nat.le_of_ble_eq_true rfl) ?_
  intro p e s m args below meth c ls C hl S
  have hl : lv_has ls 6 [(0, .ref (ad 41)), (1, .int x1), (2, .int x2), (3, .int x3)] := hl
  have hx := C.1.1
  have hb := C.1.2.1
  unfold o_X4_winsWithin_0 at h
  refine lv_iload_n hx hb dX4_winsWithin_0 rfl (lv_at hl 2 rfl) ?_
  refine lv_iload_n hx hb dX4_winsWithin_1 rfl (lv_at hl 3 rfl) ?_
  refine lv_icmp_lt (tgt := 23) hx hb dX4_winsWithin_2 (by decide) (fun c1 => ?_) (fun c1 => ?_)
  · have h := h.1 c1
    refine lv_iconst (v := 1) hx hb dX4_winsWithin_23 (by decide) ?_
    refine lv_istore (lv' := [(4, .int 1), (0, .ref (ad 41)), (1, .int x1), (2, .int x2), (3, .int x3)]) hx hb dX4_winsWithin_24 hl (by decide) rfl (fun ls hl => ?_)
    obtain ⟨n26, h⟩ := h
    refine o_X4_winsWithin_26_w C ihr n26 g x1 x2 x3 1 _ _ _ S (lv_sub hl [1, 2, 3, 4, 0] rfl) h
  · have h := h.2 c1
    refine lv_aload_n hx hb dX4_winsWithin_5 rfl (lv_at hl 0 rfl) ?_
    refine kg4 (k := 0) (v := .ref (ad 42)) C S rfl (by decide) n_X4_winsWithin_X4 m_X4_winsWithin_1 rfl dX4_winsWithin_6 ?_
    refine kg3 (k := 2) (v := .ref (ad 45)) C S rfl (by decide) n_X4_winsWithin_X3 m_X4_winsWithin_2 rfl dX4_winsWithin_9 ?_
    refine lv_iload_n hx hb dX4_winsWithin_12 rfl (lv_at hl 1 rfl) ?_
    obtain ⟨hi, h⟩ := h
    refine kLi C S rfl rfl hi dX4_winsWithin_13 ?_
    refine lv_if_ne (tgt := 21) hx hb dX4_winsWithin_14 (by decide) (fun c1 => ?_) (fun c1 => ?_)
    · have h := h.1 c1
      refine lv_iconst (v := 0) hx hb dX4_winsWithin_21 (by decide) ?_
      exact kRz C S rfl h dX4_winsWithin_22
    · have h := h.2 c1
      refine lv_iconst (v := 1) hx hb dX4_winsWithin_17 (by decide) ?_
      refine lv_goto (tgt := 22) hx hb dX4_winsWithin_18 (by decide) ?_
      exact kRz C S rfl h dX4_winsWithin_22
theorem o_X4_winsWithin_c {l : Launch} {dC : Nat → ClassId} {dI : Nat → Nat → Nat} {cy : Nat → ClassId} {ad tz : Nat → Nat} : ∀ (nr : Nat) {Q : Int32 → Mm → Prop} {g : Mm} {x1 : Int32} {x2 : Int32} {x3 : Int32}, o_X4_winsWithin nr Q g x1 x2 x3 → CI l dC dI cy ad tz yX4_winsWithin wsX4_winsWithin (rmD (4 + nr)) [.ref (ad 41), .int x1, .int x2, .int x3] g Q := by
  intro nr
  induction nr with
  | zero => intro Q g x1 x2 x3 h; exact absurd h (fun q => q)
  | succ nr ih => intro Q g x1 x2 x3 h; exact o_X4_winsWithin_0_c (F := o_X4_winsWithin nr) (fun {Q} {g} {x1} {x2} {x3} h => ih h) h
/-! ClawCase$Foretold.fewestPlays(LClawCase$Box;I)I, height 11 -/
theorem m_X4_fewestPlays_1 : Cond.fieldLink RX4 12 "ClawCase$Foretold" "trial" "LClawCase$Box;" ∈ wsX4_fewestPlays := List.mem_of_getElem? (i := 1) (by decide +kernel)
theorem n_X4_fewestPlays_X4 : ∀ w ∈ wsX40, w ∈ wsX4_fewestPlays := mem_by [92, 93, 94, 95, 96, 97] (by decide +kernel)
theorem m_X4_fewestPlays_2 : Cond.constant RX4 47 (-1000000) ∈ wsX4_fewestPlays := List.mem_of_getElem? (i := 2) (by decide +kernel)
theorem cw_X4_fewestPlays_X4_winsWithin {s : State} {args : Array Value} (ht : ∀ w ∈ wsX4_fewestPlays, w.before args s = true) : CallW (rmD 11) s args RX4 RX4 43 yX4_winsWithin cX4_winsWithin 6 (some .boolean) wsX4_winsWithin (rmD (4 + 6)) 0 0 3 := cwV 3 ht gX4_fewestPlays_X4_winsWithin rfl rfl rfl (by decide +kernel) ⟨Nat.le_of_ble_eq_true rfl, Nat.le_of_ble_eq_true rfl⟩
theorem cw_X4_fewestPlays_X3_become {s : State} {args : Array Value} (ht : ∀ w ∈ wsX4_fewestPlays, w.before args s = true) : CallW (rmD 11) s args RX4 RX3 39 yX3_become cX3_become 2 none wsX3_become (rmD (1)) 0 0 1 := cwV 1 ht gX4_fewestPlays_X3_become rfl rfl rfl (by decide +kernel) ⟨Nat.le_of_ble_eq_true rfl, Nat.le_of_ble_eq_true rfl⟩
def o_X4_fewestPlays_10 (Q : Int32 → Mm → Prop) (j1 : Nat) : Nat → Mm → Int32 → Int32 → Prop
  | 0, _, _, _ => False
  | n10 + 1, g, x2, x3 => ((4 < x3) → Q (-1000000) g) ∧ ((¬ 4 < x3) → o_X4_winsWithin 6 (fun (r_4 : Int32) (g_3 : Mm) => ((r_4 = 0) → ∀ x_5 : Int32, x_5 = x3 + 1 → (o_X4_fewestPlays_10 Q j1 n10 g_3 x2 x_5)) ∧ ((¬ r_4 = 0) → Q x3 g_3)) g x2 0 x3)
set_option maxHeartbeats 4000000 in
set_option maxRecDepth 100000 in
theorem o_X4_fewestPlays_10_w {p : Program} {l : Launch} {e : Env} {s : State} {m : MethodId} {args : Array Value} {below : List Frame} {meth : Method} {c : Code} {dC : Nat → ClassId} {dI : Nat → Nat → Nat} {cy : Nat → ClassId} {ad tz : Nat → Nat} {Q : Int32 → Mm → Prop} {j1 : Nat} (C : CX p s m args meth c dC dI cy ad tz cX4_fewestPlays 4 (some .int) RX4 wsX4_fewestPlays) (hj1 : ly j1 = 3) : ∀ (n : Nat) (g : Mm) (x2 : Int32) (x3 : Int32) (H : Heap) (locs : List Loc) (ls : Array Slot), St dC dI cy ad s g H locs → lv_has ls 4 [(0, .ref (ad 41)), (2, .int x2), (3, .int x3)] → o_X4_fewestPlays_10 Q j1 n g x2 x3 → W p l e (rmD 11) s m args below meth c H locs 0 0 (QI dC dI cy ad below args s Q) (F0 m 10 ls []) := by
  have hx := C.1.1
  have hb := C.1.2.1
  intro n10
  induction n10 with
  | zero => intro g x2 x3 H locs ls S hl h; exact h.elim
  | succ n10 ih =>
    intro g x2 x3 H locs ls S hl h
    have h : ((4 < x3) → Q (-1000000) g) ∧ ((¬ 4 < x3) → o_X4_winsWithin 6 (fun (r_4 : Int32) (g_3 : Mm) => ((r_4 = 0) → ∀ x_5 : Int32, x_5 = x3 + 1 → (o_X4_fewestPlays_10 Q j1 n10 g_3 x2 x_5)) ∧ ((¬ r_4 = 0) → Q x3 g_3)) g x2 0 x3) := h
    refine lv_iload_n hx hb dX4_fewestPlays_10 rfl (lv_at hl 2 rfl) ?_
    refine lv_iconst (v := 4) hx hb dX4_fewestPlays_11 (by decide) ?_
    refine lv_icmp_gt (tgt := 33) hx hb dX4_fewestPlays_12 (by decide) (fun c1 => ?_) (fun c1 => ?_)
    · have h := h.1 c1
      refine kLdc C m_X4_fewestPlays_2 dX4_fewestPlays_33 ?_
      exact kRi C S h dX4_fewestPlays_35
    · have h := h.2 c1
      refine lv_aload_n hx hb dX4_fewestPlays_15 rfl (lv_at hl 0 rfl) ?_
      refine lv_iload_n hx hb dX4_fewestPlays_16 rfl (lv_at hl 1 rfl) ?_
      refine lv_iconst (v := 0) hx hb dX4_fewestPlays_17 (by decide) ?_
      refine lv_iload_n hx hb dX4_fewestPlays_18 rfl (lv_at hl 2 rfl) ?_
      refine kV_i (As := [.int x2, .int 0, .int x3]) (rest := []) C S hl.1 (o_X4_winsWithin_c 6 h) (wd_o4 rfl) rfl (cw_X4_fewestPlays_X4_winsWithin C.1.2.2.2.2) rfl rfl (Nat.le_of_ble_eq_true rfl) dX4_fewestPlays_19 (fun r_4 g_3 H locs h S => ?_)
      refine lv_if_eq (tgt := 27) hx hb dX4_fewestPlays_22 (by decide) (fun c1 => ?_) (fun c1 => ?_)
      · have h := h.1 c1
        obtain ⟨x_5, ex_5⟩ : ∃ y : Int32, y = x3 + 1 := ⟨_, rfl⟩
        have h := h x_5 ex_5
        refine lv_iinc (v := x_5) (lv' := [(3, .int x_5), (0, .ref (ad 41)), (2, .int x2)]) hx hb dX4_fewestPlays_27 hl (k := 2) rfl (by rw [ex_5]; rfl) (by decide) rfl (fun ls hl => ?_)
        refine lv_goto (tgt := 10) hx hb dX4_fewestPlays_30 (by decide) ?_
        exact ih g_3 x2 x_5 _ _ _ S (lv_sub hl [1, 2, 0] rfl) h
      · have h := h.2 c1
        refine lv_iload_n hx hb dX4_fewestPlays_25 rfl (lv_at hl 2 rfl) ?_
        exact kRi C S h dX4_fewestPlays_26
def o_X4_fewestPlays (Q : Int32 → Mm → Prop) (j1 : Nat) (g : Mm) (x2 : Int32) : Prop := o_X3_become (fun (g_1 : Mm) => ∃ n10, o_X4_fewestPlays_10 Q j1 n10 g_1 x2 0) 42 j1 g
set_option maxHeartbeats 4000000 in
set_option maxRecDepth 100000 in
theorem o_X4_fewestPlays_c {l : Launch} {dC : Nat → ClassId} {dI : Nat → Nat → Nat} {cy : Nat → ClassId} {ad tz : Nat → Nat} {Q : Int32 → Mm → Prop} {j1 : Nat} {g : Mm} {x2 : Int32} (hj1 : ly j1 = 3) (h : o_X4_fewestPlays Q j1 g x2) : CI l dC dI cy ad tz yX4_fewestPlays wsX4_fewestPlays (rmD 11) [.ref (ad 41), .ref (ad j1), .int x2] g Q := by
  refine CI.of (by decide) rfl rfl (Nat.le_of_ble_eq_true rfl) ?_
  intro p e s m args below meth c ls C hl S
  have hl : lv_has ls 4 [(0, .ref (ad 41)), (1, .ref (ad j1)), (2, .int x2)] := hl
  have hx := C.1.1
  have hb := C.1.2.1
  unfold o_X4_fewestPlays at h
  refine lv_aload_n hx hb dX4_fewestPlays_0 rfl (lv_at hl 0 rfl) ?_
  refine kg4 (k := 0) (v := .ref (ad 42)) C S rfl (by decide) n_X4_fewestPlays_X4 m_X4_fewestPlays_1 rfl dX4_fewestPlays_1 ?_
  refine lv_aload_n hx hb dX4_fewestPlays_4 rfl (lv_at hl 1 rfl) ?_
  refine kV_v (As := [.ref (ad j1)]) (rest := []) C S hl.1 (o_X3_become_c rfl hj1 h) (wd_o3 rfl) rfl (cw_X4_fewestPlays_X3_become C.1.2.2.2.2) rfl rfl (Nat.le_of_ble_eq_true rfl) dX4_fewestPlays_5 (fun g_1 H locs h S => ?_)
  refine lv_iconst (v := 0) hx hb dX4_fewestPlays_8 (by decide) ?_
  refine lv_istore_n (lv' := [(3, .int 0), (0, .ref (ad 41)), (1, .ref (ad j1)), (2, .int x2)]) hx hb dX4_fewestPlays_9 rfl hl (by decide) rfl (fun ls hl => ?_)
  obtain ⟨n10, h⟩ := h
  refine o_X4_fewestPlays_10_w C hj1 n10 g_1 x2 0 _ _ _ S (lv_sub hl [1, 3, 0] rfl) h
/-! ClawCase$Foretold.roundGoes(ILClawCase$Row;II)Z, height 4 -/
theorem m_X4_roundGoes_1 : Cond.fieldLink RX4 12 "ClawCase$Foretold" "trial" "LClawCase$Box;" ∈ wsX4_roundGoes := List.mem_of_getElem? (i := 1) (by decide +kernel)
theorem n_X4_roundGoes_X4 : ∀ w ∈ wsX40, w ∈ wsX4_roundGoes := mem_by [74, 75, 76, 77, 78, 79] (by decide +kernel)
theorem m_X4_roundGoes_2 : Cond.fieldLink RX4 34 "ClawCase$Foretold" "steps" "[LClawCase$Before;" ∈ wsX4_roundGoes := List.mem_of_getElem? (i := 2) (by decide +kernel)
theorem m_X4_roundGoes_3 : Cond.fieldLink RX4 48 "ClawCase$Box" "places" "[I" ∈ wsX4_roundGoes := List.mem_of_getElem? (i := 3) (by decide +kernel)
theorem n_X4_roundGoes_X3 : ∀ w ∈ wsX30, w ∈ wsX4_roundGoes := mem_by [80, 81, 82, 83, 84, 85, 86, 87, 88] (by decide +kernel)
theorem m_X4_roundGoes_4 : Cond.fieldLink RX4 103 "ClawCase$Row" "items" "[I" ∈ wsX4_roundGoes := List.mem_of_getElem? (i := 4) (by decide +kernel)
theorem n_X4_roundGoes_X6 : ∀ w ∈ wsX60, w ∈ wsX4_roundGoes := mem_by [89, 90, 91, 92] (by decide +kernel)
theorem cw_X4_roundGoes_X3_playAt {s : State} {args : Array Value} (ht : ∀ w ∈ wsX4_roundGoes, w.before args s = true) : CallW (rmD 4) s args RX4 RX3 55 yX3_playAt cX3_playAt 6 (some .int) wsX3_playAt (rmD (3)) 0 0 3 := cwV 3 ht gX4_roundGoes_X3_playAt rfl rfl rfl (by decide +kernel) ⟨Nat.le_of_ble_eq_true rfl, Nat.le_of_ble_eq_true rfl⟩
theorem cw_X4_roundGoes_X3_gripAhead {s : State} {args : Array Value} (ht : ∀ w ∈ wsX4_roundGoes, w.before args s = true) : CallW (rmD 4) s args RX4 RX3 51 yX3_gripAhead cX3_gripAhead 2 (some .int) wsX3_gripAhead (rmD (0)) 0 0 1 := cwV 1 ht gX4_roundGoes_X3_gripAhead rfl rfl rfl (by decide +kernel) ⟨Nat.le_of_ble_eq_true rfl, Nat.le_of_ble_eq_true rfl⟩
def o_X4_roundGoes_3 (Q : Int32 → Mm → Prop) (j2 : Nat) : Nat → Mm → Int32 → Int32 → Int32 → Int32 → Prop
  | 0, _, _, _, _, _ => False
  | n3 + 1, g, x1, x3, x4, x5 => ((x4 ≤ x5) → Q 1 g) ∧ ((¬ x4 ≤ x5) → ¬ (5 : Int32) = 0 ∧ (o_X3_gripAhead (fun (r_2 : Int32) (g_1 : Mm) => vp_in 0 8 ∧ (o_X3_playAt (fun (r_5 : Int32) (g_4 : Mm) => vp_in x1 7 ∧ (vp_in (x3 + x5) 40 ∧ ((((g_4.1 45 x1.toNatClampNeg) = (g_4.1 (j2 + 1) (x3 + x5 : Int32).toNatClampNeg)) → ∀ x_6 : Int32, x_6 = x5 + 1 → (o_X4_roundGoes_3 Q j2 n3 g_4 x1 x3 x4 x_6)) ∧ ((¬ (g_4.1 45 x1.toNatClampNeg) = (g_4.1 (j2 + 1) (x3 + x5 : Int32).toNatClampNeg)) → Q 0 g_4)))) 42 (49 + 1 + (0 : Int32).toNatClampNeg) g_1 ((x5 - x5 / 5 * 5) + 1) r_2)) 42 g 0))
set_option maxHeartbeats 4000000 in
set_option maxRecDepth 100000 in
theorem o_X4_roundGoes_3_w {p : Program} {l : Launch} {e : Env} {s : State} {m : MethodId} {args : Array Value} {below : List Frame} {meth : Method} {c : Code} {dC : Nat → ClassId} {dI : Nat → Nat → Nat} {cy : Nat → ClassId} {ad tz : Nat → Nat} {Q : Int32 → Mm → Prop} {j2 : Nat} (C : CX p s m args meth c dC dI cy ad tz cX4_roundGoes 6 (some .boolean) RX4 wsX4_roundGoes) (hj2 : ly j2 = 6) : ∀ (n : Nat) (g : Mm) (x1 : Int32) (x3 : Int32) (x4 : Int32) (x5 : Int32) (H : Heap) (locs : List Loc) (ls : Array Slot), St dC dI cy ad s g H locs → lv_has ls 6 [(0, .ref (ad 41)), (1, .int x1), (2, .ref (ad j2)), (3, .int x3), (4, .int x4), (5, .int x5)] → o_X4_roundGoes_3 Q j2 n g x1 x3 x4 x5 → W p l e (rmD 4) s m args below meth c H locs 0 0 (QI dC dI cy ad below args s Q) (F0 m 3 ls []) := by
  have hx := C.1.1
  have hb := C.1.2.1
  intro n3
  induction n3 with
  | zero => intro g x1 x3 x4 x5 H locs ls S hl h; exact h.elim
  | succ n3 ih =>
    intro g x1 x3 x4 x5 H locs ls S hl h
    have h : ((x4 ≤ x5) → Q 1 g) ∧ ((¬ x4 ≤ x5) → ¬ (5 : Int32) = 0 ∧ (o_X3_gripAhead (fun (r_2 : Int32) (g_1 : Mm) => vp_in 0 8 ∧ (o_X3_playAt (fun (r_5 : Int32) (g_4 : Mm) => vp_in x1 7 ∧ (vp_in (x3 + x5) 40 ∧ ((((g_4.1 45 x1.toNatClampNeg) = (g_4.1 (j2 + 1) (x3 + x5 : Int32).toNatClampNeg)) → ∀ x_6 : Int32, x_6 = x5 + 1 → (o_X4_roundGoes_3 Q j2 n3 g_4 x1 x3 x4 x_6)) ∧ ((¬ (g_4.1 45 x1.toNatClampNeg) = (g_4.1 (j2 + 1) (x3 + x5 : Int32).toNatClampNeg)) → Q 0 g_4)))) 42 (49 + 1 + (0 : Int32).toNatClampNeg) g_1 ((x5 - x5 / 5 * 5) + 1) r_2)) 42 g 0)) := h
    refine lv_iload hx hb dX4_roundGoes_3 (lv_at hl 5 rfl) ?_
    refine lv_iload hx hb dX4_roundGoes_5 (lv_at hl 4 rfl) ?_
    refine lv_icmp_ge (tgt := 67) hx hb dX4_roundGoes_7 (by decide) (fun c1 => ?_) (fun c1 => ?_)
    · have h := h.1 c1
      refine lv_iconst (v := 1) hx hb dX4_roundGoes_67 (by decide) ?_
      exact kRz C S rfl h dX4_roundGoes_68
    · have h := h.2 c1
      refine lv_aload_n hx hb dX4_roundGoes_10 rfl (lv_at hl 0 rfl) ?_
      refine kg4 (k := 0) (v := .ref (ad 42)) C S rfl (by decide) n_X4_roundGoes_X4 m_X4_roundGoes_1 rfl dX4_roundGoes_11 ?_
      refine lv_iload hx hb dX4_roundGoes_14 (lv_at hl 5 rfl) ?_
      refine lv_iconst (v := 5) hx hb dX4_roundGoes_16 (by decide) ?_
      obtain ⟨h0, h⟩ := h
      refine lv_irem hx hb dX4_roundGoes_17 h0 ?_
      refine lv_iconst (v := 1) hx hb dX4_roundGoes_18 (by decide) ?_
      refine lv_iadd hx hb dX4_roundGoes_19 ?_
      refine lv_aload_n hx hb dX4_roundGoes_20 rfl (lv_at hl 0 rfl) ?_
      refine kg4 (k := 0) (v := .ref (ad 42)) C S rfl (by decide) n_X4_roundGoes_X4 m_X4_roundGoes_1 rfl dX4_roundGoes_21 ?_
      refine lv_iconst (v := 0) hx hb dX4_roundGoes_24 (by decide) ?_
      refine kV_i (As := [.int 0]) (rest := [.int ((x5 - x5 / 5 * 5) + 1), .ref (ad 42)]) C S hl.1 (o_X3_gripAhead_c rfl h) (wd_o3 rfl) rfl (cw_X4_roundGoes_X3_gripAhead C.1.2.2.2.2) rfl rfl (Nat.le_of_ble_eq_true rfl) dX4_roundGoes_25 (fun r_2 g_1 H locs h S => ?_)
      refine lv_aload_n hx hb dX4_roundGoes_28 rfl (lv_at hl 0 rfl) ?_
      refine kg4 (k := 5) (v := .ref (ad 49)) C S rfl (by decide) n_X4_roundGoes_X4 m_X4_roundGoes_2 rfl dX4_roundGoes_29 ?_
      refine lv_iconst (v := 0) hx hb dX4_roundGoes_32 (by decide) ?_
      obtain ⟨hi_3, h⟩ := h
      refine kAb C S rfl rfl hi_3 dX4_roundGoes_33 ?_
      refine kV_i (As := [.int ((x5 - x5 / 5 * 5) + 1), .int r_2, .ref (ad (49 + 1 + (0 : Int32).toNatClampNeg))]) (rest := []) C S hl.1 (o_X3_playAt_c rfl (ly_steps _ (in_lt hi_3)) h) (wd_o3 rfl) rfl (cw_X4_roundGoes_X3_playAt C.1.2.2.2.2) rfl rfl (Nat.le_of_ble_eq_true rfl) dX4_roundGoes_34 (fun r_5 g_4 H locs h S => ?_)
      refine lv_pop hx hb dX4_roundGoes_37 rfl ?_
      refine lv_aload_n hx hb dX4_roundGoes_38 rfl (lv_at hl 0 rfl) ?_
      refine kg4 (k := 0) (v := .ref (ad 42)) C S rfl (by decide) n_X4_roundGoes_X4 m_X4_roundGoes_1 rfl dX4_roundGoes_39 ?_
      refine kg3 (k := 2) (v := .ref (ad 45)) C S rfl (by decide) n_X4_roundGoes_X3 m_X4_roundGoes_3 rfl dX4_roundGoes_42 ?_
      refine lv_iload_n hx hb dX4_roundGoes_45 rfl (lv_at hl 1 rfl) ?_
      obtain ⟨hi, h⟩ := h
      refine kLi C S rfl rfl hi dX4_roundGoes_46 ?_
      refine lv_aload_n hx hb dX4_roundGoes_47 rfl (lv_at hl 2 rfl) ?_
      refine kg6 (k := 0) (v := .ref (ad (j2 + 1))) C S hj2 (by decide) n_X4_roundGoes_X6 m_X4_roundGoes_4 rfl dX4_roundGoes_48 ?_
      refine lv_iload_n hx hb dX4_roundGoes_51 rfl (lv_at hl 3 rfl) ?_
      refine lv_iload hx hb dX4_roundGoes_52 (lv_at hl 5 rfl) ?_
      refine lv_iadd hx hb dX4_roundGoes_54 ?_
      obtain ⟨hi, h⟩ := h
      refine kLi C S ((lyR hj2).1) ((lyR hj2).2) hi dX4_roundGoes_55 ?_
      refine lv_icmp_eq (tgt := 61) hx hb dX4_roundGoes_56 (by decide) (fun c1 => ?_) (fun c1 => ?_)
      · have h := h.1 c1
        obtain ⟨x_6, ex_6⟩ : ∃ y : Int32, y = x5 + 1 := ⟨_, rfl⟩
        have h := h x_6 ex_6
        refine lv_iinc (v := x_6) (lv' := [(5, .int x_6), (0, .ref (ad 41)), (1, .int x1), (2, .ref (ad j2)), (3, .int x3), (4, .int x4)]) hx hb dX4_roundGoes_61 hl (k := 5) rfl (by rw [ex_6]; rfl) (by decide) rfl (fun ls hl => ?_)
        refine lv_goto (tgt := 3) hx hb dX4_roundGoes_64 (by decide) ?_
        exact ih g_4 x1 x3 x4 x_6 _ _ _ S (lv_sub hl [1, 2, 3, 4, 5, 0] rfl) h
      · have h := h.2 c1
        refine lv_iconst (v := 0) hx hb dX4_roundGoes_59 (by decide) ?_
        exact kRz C S rfl h dX4_roundGoes_60
def o_X4_roundGoes (Q : Int32 → Mm → Prop) (j2 : Nat) (g : Mm) (x1 : Int32) (x3 : Int32) (x4 : Int32) : Prop := ∃ n3, o_X4_roundGoes_3 Q j2 n3 g x1 x3 x4 0
set_option maxHeartbeats 4000000 in
set_option maxRecDepth 100000 in
theorem o_X4_roundGoes_c {l : Launch} {dC : Nat → ClassId} {dI : Nat → Nat → Nat} {cy : Nat → ClassId} {ad tz : Nat → Nat} {Q : Int32 → Mm → Prop} {j2 : Nat} {g : Mm} {x1 : Int32} {x3 : Int32} {x4 : Int32} (hj2 : ly j2 = 6) (h : o_X4_roundGoes Q j2 g x1 x3 x4) : CI l dC dI cy ad tz yX4_roundGoes wsX4_roundGoes (rmD 4) [.ref (ad 41), .int x1, .ref (ad j2), .int x3, .int x4] g Q := by
  refine CI.of (by decide) rfl rfl (Nat.le_of_ble_eq_true rfl) ?_
  intro p e s m args below meth c ls C hl S
  have hl : lv_has ls 6 [(0, .ref (ad 41)), (1, .int x1), (2, .ref (ad j2)), (3, .int x3), (4, .int x4)] := hl
  have hx := C.1.1
  have hb := C.1.2.1
  unfold o_X4_roundGoes at h
  refine lv_iconst (v := 0) hx hb dX4_roundGoes_0 (by decide) ?_
  refine lv_istore (lv' := [(5, .int 0), (0, .ref (ad 41)), (1, .int x1), (2, .ref (ad j2)), (3, .int x3), (4, .int x4)]) hx hb dX4_roundGoes_1 hl (by decide) rfl (fun ls hl => ?_)
  obtain ⟨n3, h⟩ := h
  refine o_X4_roundGoes_3_w C hj2 n3 g x1 x3 x4 0 _ _ _ S (lv_sub hl [1, 2, 3, 4, 5, 0] rfl) h
/-! ClawCase$Foretold.suppose(III)V, height 0 -/
theorem m_X4_suppose_1 : Cond.fieldLink RX4 12 "ClawCase$Foretold" "trial" "LClawCase$Box;" ∈ wsX4_suppose := List.mem_of_getElem? (i := 1) (by decide +kernel)
theorem n_X4_suppose_X4 : ∀ w ∈ wsX40, w ∈ wsX4_suppose := mem_by [6, 7, 8, 9, 10, 11] (by decide +kernel)
theorem m_X4_suppose_2 : Cond.fieldLink RX4 91 "ClawCase$Box" "kinds" "[I" ∈ wsX4_suppose := List.mem_of_getElem? (i := 2) (by decide +kernel)
theorem n_X4_suppose_X3 : ∀ w ∈ wsX30, w ∈ wsX4_suppose := mem_by [12, 13, 14, 15, 16, 17, 18, 19, 20] (by decide +kernel)
theorem m_X4_suppose_3 : Cond.fieldLink RX4 94 "ClawCase$Box" "weights" "[I" ∈ wsX4_suppose := List.mem_of_getElem? (i := 3) (by decide +kernel)
theorem m_X4_suppose_4 : Cond.fieldLink RX4 97 "ClawCase$Box" "low" "I" ∈ wsX4_suppose := List.mem_of_getElem? (i := 4) (by decide +kernel)
theorem m_X4_suppose_5 : Cond.fieldLink RX4 100 "ClawCase$Box" "high" "I" ∈ wsX4_suppose := List.mem_of_getElem? (i := 5) (by decide +kernel)
def o_X4_suppose (Q : Mm → Prop) (g : Mm) (x1 : Int32) (x2 : Int32) (x3 : Int32) : Prop := (x2 = 0 → vp_in x1 7 ∧ (∀ g_1 : Mm, g_1 = mset g 43 x1.toNatClampNeg x3 → (Q g_1))) ∧ (x2 = 1 → vp_in x1 7 ∧ (∀ g_2 : Mm, g_2 = mset g 44 x1.toNatClampNeg x3 → (Q g_2))) ∧ (x2 = 2 → ∀ g_3 : Mm, g_3 = mset g 42 5 x3 → (Q g_3)) ∧ ((¬ x2 = 0 ∧ ¬ x2 = 1 ∧ ¬ x2 = 2) → ∀ g_4 : Mm, g_4 = mset g 42 6 x3 → (Q g_4))
set_option maxHeartbeats 4000000 in
set_option maxRecDepth 100000 in
theorem o_X4_suppose_c {l : Launch} {dC : Nat → ClassId} {dI : Nat → Nat → Nat} {cy : Nat → ClassId} {ad tz : Nat → Nat} {Q : Mm → Prop} {g : Mm} {x1 : Int32} {x2 : Int32} {x3 : Int32} (h : o_X4_suppose Q g x1 x2 x3) : CV l dC dI cy ad tz yX4_suppose wsX4_suppose (rmD 0) [.ref (ad 41), .int x1, .int x2, .int x3] g Q := by
  refine CV.of (by decide) rfl rfl (Nat.le_of_ble_eq_true rfl) ?_
  intro p e s m args below meth c ls C hl S
  have hl : lv_has ls 4 [(0, .ref (ad 41)), (1, .int x1), (2, .int x2), (3, .int x3)] := hl
  have hx := C.1.1
  have hb := C.1.2.1
  unfold o_X4_suppose at h
  refine lv_iload_n hx hb dX4_suppose_0 rfl (lv_at hl 2 rfl) ?_
  by_cases c0 : x2 = 0
  · have h := h.1 c0
    refine lv_tableIn (off := 27) (tgt := 28) hx hb dX4_suppose_1 (by rw [c0]; decide) (by rw [c0]; decide) (by rw [c0]; decide) (by decide) ?_
    refine lv_aload_n hx hb dX4_suppose_28 rfl (lv_at hl 0 rfl) ?_
    refine kg4 (k := 0) (v := .ref (ad 42)) C S rfl (by decide) n_X4_suppose_X4 m_X4_suppose_1 rfl dX4_suppose_29 ?_
    refine kg3 (k := 0) (v := .ref (ad 43)) C S rfl (by decide) n_X4_suppose_X3 m_X4_suppose_2 rfl dX4_suppose_32 ?_
    refine lv_iload_n hx hb dX4_suppose_35 rfl (lv_at hl 1 rfl) ?_
    refine lv_iload_n hx hb dX4_suppose_36 rfl (lv_at hl 3 rfl) ?_
    obtain ⟨hi, h⟩ := h
    refine kSi C S rfl rfl hi dX4_suppose_37 (fun g_1 H locs eg_1 S => ?_)
    have h := h g_1 eg_1
    refine lv_goto (tgt := 73) hx hb dX4_suppose_38 (by decide) ?_
    exact kRv C S h dX4_suppose_73
  by_cases c1 : x2 = 1
  · have h := h.2.1 c1
    refine lv_tableIn (off := 40) (tgt := 41) hx hb dX4_suppose_1 (by rw [c1]; decide) (by rw [c1]; decide) (by rw [c1]; decide) (by decide) ?_
    refine lv_aload_n hx hb dX4_suppose_41 rfl (lv_at hl 0 rfl) ?_
    refine kg4 (k := 0) (v := .ref (ad 42)) C S rfl (by decide) n_X4_suppose_X4 m_X4_suppose_1 rfl dX4_suppose_42 ?_
    refine kg3 (k := 1) (v := .ref (ad 44)) C S rfl (by decide) n_X4_suppose_X3 m_X4_suppose_3 rfl dX4_suppose_45 ?_
    refine lv_iload_n hx hb dX4_suppose_48 rfl (lv_at hl 1 rfl) ?_
    refine lv_iload_n hx hb dX4_suppose_49 rfl (lv_at hl 3 rfl) ?_
    obtain ⟨hi, h⟩ := h
    refine kSi C S rfl rfl hi dX4_suppose_50 (fun g_2 H locs eg_2 S => ?_)
    have h := h g_2 eg_2
    refine lv_goto (tgt := 73) hx hb dX4_suppose_51 (by decide) ?_
    exact kRv C S h dX4_suppose_73
  by_cases c2 : x2 = 2
  · have h := h.2.2.1 c2
    refine lv_tableIn (off := 53) (tgt := 54) hx hb dX4_suppose_1 (by rw [c2]; decide) (by rw [c2]; decide) (by rw [c2]; decide) (by decide) ?_
    refine lv_aload_n hx hb dX4_suppose_54 rfl (lv_at hl 0 rfl) ?_
    refine kg4 (k := 0) (v := .ref (ad 42)) C S rfl (by decide) n_X4_suppose_X4 m_X4_suppose_1 rfl dX4_suppose_55 ?_
    refine lv_iload_n hx hb dX4_suppose_58 rfl (lv_at hl 3 rfl) ?_
    refine kp3_5 C S rfl n_X4_suppose_X3 m_X4_suppose_4 dX4_suppose_59 (fun g_3 H locs eg_3 S => ?_)
    have h := h g_3 eg_3
    refine lv_goto (tgt := 73) hx hb dX4_suppose_62 (by decide) ?_
    exact kRv C S h dX4_suppose_73
  have h := h.2.2.2 ⟨c0, c1, c2⟩
  refine lv_tableOut (tgt := 65) hx hb dX4_suppose_1 (tb_out 0 2 ?_) (by decide) ?_
  · intro k h1 h2
    rcases (show k = 0 ∨ k = 1 ∨ k = 2 by omega) with rfl | rfl | rfl
    · exact lk_ne c0 (by decide)
    · exact lk_ne c1 (by decide)
    · exact lk_ne c2 (by decide)
  refine lv_aload_n hx hb dX4_suppose_65 rfl (lv_at hl 0 rfl) ?_
  refine kg4 (k := 0) (v := .ref (ad 42)) C S rfl (by decide) n_X4_suppose_X4 m_X4_suppose_1 rfl dX4_suppose_66 ?_
  refine lv_iload_n hx hb dX4_suppose_69 rfl (lv_at hl 3 rfl) ?_
  refine kp3_6 C S rfl n_X4_suppose_X3 m_X4_suppose_5 dX4_suppose_70 (fun g_4 H locs eg_4 S => ?_)
  have h := h g_4 eg_4
  exact kRv C S h dX4_suppose_73
/-! ClawCase$Foretold.fitting(LClawCase$Box;ILClawCase$Row;III)I, height 5 -/
theorem m_X4_fitting_1 : Cond.fieldLink RX4 12 "ClawCase$Foretold" "trial" "LClawCase$Box;" ∈ wsX4_fitting := List.mem_of_getElem? (i := 1) (by decide +kernel)
theorem n_X4_fitting_X4 : ∀ w ∈ wsX40, w ∈ wsX4_fitting := mem_by [95, 96, 97, 98, 99, 100] (by decide +kernel)
theorem cw_X4_fitting_X4_roundGoes {s : State} {args : Array Value} (ht : ∀ w ∈ wsX4_fitting, w.before args s = true) : CallW (rmD 5) s args RX4 RX4 87 yX4_roundGoes cX4_roundGoes 6 (some .boolean) wsX4_roundGoes (rmD (4)) 0 0 4 := cwV 4 ht gX4_fitting_X4_roundGoes rfl rfl rfl (by decide +kernel) ⟨Nat.le_of_ble_eq_true rfl, Nat.le_of_ble_eq_true rfl⟩
theorem cw_X4_fitting_X4_suppose {s : State} {args : Array Value} (ht : ∀ w ∈ wsX4_fitting, w.before args s = true) : CallW (rmD 5) s args RX4 RX4 83 yX4_suppose cX4_suppose 4 none wsX4_suppose (rmD (0)) 0 0 3 := cwV 3 ht gX4_fitting_X4_suppose rfl rfl rfl (by decide +kernel) ⟨Nat.le_of_ble_eq_true rfl, Nat.le_of_ble_eq_true rfl⟩
theorem cw_X4_fitting_X3_become {s : State} {args : Array Value} (ht : ∀ w ∈ wsX4_fitting, w.before args s = true) : CallW (rmD 5) s args RX4 RX3 39 yX3_become cX3_become 2 none wsX3_become (rmD (1)) 0 0 1 := cwV 1 ht gX4_fitting_X3_become rfl rfl rfl (by decide +kernel) ⟨Nat.le_of_ble_eq_true rfl, Nat.le_of_ble_eq_true rfl⟩
def o_X4_fitting_95 (Q : Int32 → Mm → Prop) (K49 : Mm → Int32 → Int32 → Int32 → Int32 → Int32 → Int32 → Int32 → Prop) (j1 : Nat) (j3 : Nat) (g : Mm) (x2 : Int32) (x4 : Int32) (x5 : Int32) (x6 : Int32) (x8 : Int32) (x9 : Int32) (x10 : Int32) : Prop := ∀ x_7 : Int32, x_7 = x10 + 1 → (K49 g x2 x4 x5 x6 x8 x9 x_7)
def o_X4_fitting_49 (Q : Int32 → Mm → Prop) (j1 : Nat) (j3 : Nat) : Nat → Mm → Int32 → Int32 → Int32 → Int32 → Int32 → Int32 → Int32 → Prop
  | 0, _, _, _, _, _, _, _, _ => False
  | n49 + 1, g, x2, x4, x5, x6, x8, x9, x10 => ((x8 < x10) → Q x9 g) ∧ ((¬ x8 < x10) → o_X3_become (fun (g_1 : Mm) => o_X4_suppose (fun (g_3 : Mm) => o_X4_roundGoes (fun (r_6 : Int32) (g_5 : Mm) => ((r_6 = 0) → o_X4_fitting_95 Q (o_X4_fitting_49 Q j1 j3 n49) j1 j3 g_5 x2 x4 x5 x6 x8 x9 x10) ∧ ((¬ r_6 = 0) → ∀ x_8 : Int32, x_8 = (x9 ||| (1 <<< (x10 &&& 31))) → (o_X4_fitting_95 Q (o_X4_fitting_49 Q j1 j3 n49) j1 j3 g_5 x2 x4 x5 x6 x8 x_8 x10))) j3 g_3 x2 x4 x5) g_1 x2 x6 x10) 42 j1 g)
def o_X4_fitting_40 (Q : Int32 → Mm → Prop) (j1 : Nat) (j3 : Nat) (g : Mm) (x2 : Int32) (x4 : Int32) (x5 : Int32) (x6 : Int32) (x7 : Int32) (s0 : Int32) : Prop := ∃ n49, o_X4_fitting_49 Q j1 j3 n49 g x2 x4 x5 x6 s0 0 x7
def o_X4_fitting_16 (Q : Int32 → Mm → Prop) (j1 : Nat) (j3 : Nat) (g : Mm) (x2 : Int32) (x4 : Int32) (x5 : Int32) (x6 : Int32) (s0 : Int32) : Prop := ((¬ x6 = 0) → ((¬ x6 = 1) → o_X4_fitting_40 Q j1 j3 g x2 x4 x5 x6 s0 9) ∧ ((x6 = 1) → o_X4_fitting_40 Q j1 j3 g x2 x4 x5 x6 s0 9)) ∧ ((x6 = 0) → o_X4_fitting_40 Q j1 j3 g x2 x4 x5 x6 s0 5)
def o_X4_fitting_11 (Q : Int32 → Mm → Prop) (j1 : Nat) (j3 : Nat) (g : Mm) (x2 : Int32) (x4 : Int32) (x5 : Int32) (x6 : Int32) : Prop := o_X4_fitting_16 Q j1 j3 g x2 x4 x5 x6 1
set_option maxHeartbeats 4000000 in
set_option maxRecDepth 100000 in
theorem o_X4_fitting_95_w {p : Program} {l : Launch} {e : Env} {s : State} {m : MethodId} {args : Array Value} {below : List Frame} {meth : Method} {c : Code} {dC : Nat → ClassId} {dI : Nat → Nat → Nat} {cy : Nat → ClassId} {ad tz : Nat → Nat} {Q : Int32 → Mm → Prop} {K49 : Mm → Int32 → Int32 → Int32 → Int32 → Int32 → Int32 → Int32 → Prop} {j1 : Nat} {j3 : Nat} (C : CX p s m args meth c dC dI cy ad tz cX4_fitting 11 (some .int) RX4 wsX4_fitting) (hj1 : ly j1 = 3) (hj3 : ly j3 = 6) (hK49 : ∀ (g : Mm) (x2 : Int32) (x4 : Int32) (x5 : Int32) (x6 : Int32) (x8 : Int32) (x9 : Int32) (x10 : Int32) (H : Heap) (locs : List Loc) (ls : Array Slot), St dC dI cy ad s g H locs → lv_has ls 11 [(0, .ref (ad 41)), (1, .ref (ad j1)), (2, .int x2), (3, .ref (ad j3)), (4, .int x4), (5, .int x5), (6, .int x6), (8, .int x8), (9, .int x9), (10, .int x10)] → K49 g x2 x4 x5 x6 x8 x9 x10 → W p l e (rmD 5) s m args below meth c H locs 0 0 (QI dC dI cy ad below args s Q) (F0 m 49 ls [])) : ∀ (g : Mm) (x2 : Int32) (x4 : Int32) (x5 : Int32) (x6 : Int32) (x8 : Int32) (x9 : Int32) (x10 : Int32) (H : Heap) (locs : List Loc) (ls : Array Slot), St dC dI cy ad s g H locs → lv_has ls 11 [(0, .ref (ad 41)), (1, .ref (ad j1)), (2, .int x2), (3, .ref (ad j3)), (4, .int x4), (5, .int x5), (6, .int x6), (8, .int x8), (9, .int x9), (10, .int x10)] → o_X4_fitting_95 Q K49 j1 j3 g x2 x4 x5 x6 x8 x9 x10 → W p l e (rmD 5) s m args below meth c H locs 0 0 (QI dC dI cy ad below args s Q) (F0 m 95 ls []) := by
  have hx := C.1.1
  have hb := C.1.2.1
  intro g x2 x4 x5 x6 x8 x9 x10 H locs ls S hl h
  unfold o_X4_fitting_95 at h
  obtain ⟨x_7, ex_7⟩ : ∃ y : Int32, y = x10 + 1 := ⟨_, rfl⟩
  have h := h x_7 ex_7
  refine lv_iinc (v := x_7) (lv' := [(10, .int x_7), (0, .ref (ad 41)), (1, .ref (ad j1)), (2, .int x2), (3, .ref (ad j3)), (4, .int x4), (5, .int x5), (6, .int x6), (8, .int x8), (9, .int x9)]) hx hb dX4_fitting_95 hl (k := 9) rfl (by rw [ex_7]; rfl) (by decide) rfl (fun ls hl => ?_)
  refine lv_goto (tgt := 49) hx hb dX4_fitting_98 (by decide) ?_
  exact hK49 g x2 x4 x5 x6 x8 x9 x_7 _ _ _ S (lv_sub hl [1, 2, 3, 4, 5, 6, 7, 8, 9, 0] rfl) h
set_option maxHeartbeats 4000000 in
set_option maxRecDepth 100000 in
theorem o_X4_fitting_49_w {p : Program} {l : Launch} {e : Env} {s : State} {m : MethodId} {args : Array Value} {below : List Frame} {meth : Method} {c : Code} {dC : Nat → ClassId} {dI : Nat → Nat → Nat} {cy : Nat → ClassId} {ad tz : Nat → Nat} {Q : Int32 → Mm → Prop} {j1 : Nat} {j3 : Nat} (C : CX p s m args meth c dC dI cy ad tz cX4_fitting 11 (some .int) RX4 wsX4_fitting) (hj1 : ly j1 = 3) (hj3 : ly j3 = 6) : ∀ (n : Nat) (g : Mm) (x2 : Int32) (x4 : Int32) (x5 : Int32) (x6 : Int32) (x8 : Int32) (x9 : Int32) (x10 : Int32) (H : Heap) (locs : List Loc) (ls : Array Slot), St dC dI cy ad s g H locs → lv_has ls 11 [(0, .ref (ad 41)), (1, .ref (ad j1)), (2, .int x2), (3, .ref (ad j3)), (4, .int x4), (5, .int x5), (6, .int x6), (8, .int x8), (9, .int x9), (10, .int x10)] → o_X4_fitting_49 Q j1 j3 n g x2 x4 x5 x6 x8 x9 x10 → W p l e (rmD 5) s m args below meth c H locs 0 0 (QI dC dI cy ad below args s Q) (F0 m 49 ls []) := by
  have hx := C.1.1
  have hb := C.1.2.1
  intro n49
  induction n49 with
  | zero => intro g x2 x4 x5 x6 x8 x9 x10 H locs ls S hl h; exact h.elim
  | succ n49 ih =>
    intro g x2 x4 x5 x6 x8 x9 x10 H locs ls S hl h
    have h : ((x8 < x10) → Q x9 g) ∧ ((¬ x8 < x10) → o_X3_become (fun (g_1 : Mm) => o_X4_suppose (fun (g_3 : Mm) => o_X4_roundGoes (fun (r_6 : Int32) (g_5 : Mm) => ((r_6 = 0) → o_X4_fitting_95 Q (o_X4_fitting_49 Q j1 j3 n49) j1 j3 g_5 x2 x4 x5 x6 x8 x9 x10) ∧ ((¬ r_6 = 0) → ∀ x_8 : Int32, x_8 = (x9 ||| (1 <<< (x10 &&& 31))) → (o_X4_fitting_95 Q (o_X4_fitting_49 Q j1 j3 n49) j1 j3 g_5 x2 x4 x5 x6 x8 x_8 x10))) j3 g_3 x2 x4 x5) g_1 x2 x6 x10) 42 j1 g) := h
    refine lv_iload hx hb dX4_fitting_49 (lv_at hl 9 rfl) ?_
    refine lv_iload hx hb dX4_fitting_51 (lv_at hl 7 rfl) ?_
    refine lv_icmp_gt (tgt := 101) hx hb dX4_fitting_53 (by decide) (fun c1 => ?_) (fun c1 => ?_)
    · have h := h.1 c1
      refine lv_iload hx hb dX4_fitting_101 (lv_at hl 8 rfl) ?_
      exact kRi C S h dX4_fitting_103
    · have h := h.2 c1
      refine lv_aload_n hx hb dX4_fitting_56 rfl (lv_at hl 0 rfl) ?_
      refine kg4 (k := 0) (v := .ref (ad 42)) C S rfl (by decide) n_X4_fitting_X4 m_X4_fitting_1 rfl dX4_fitting_57 ?_
      refine lv_aload_n hx hb dX4_fitting_60 rfl (lv_at hl 1 rfl) ?_
      refine kV_v (As := [.ref (ad j1)]) (rest := []) C S hl.1 (o_X3_become_c rfl hj1 h) (wd_o3 rfl) rfl (cw_X4_fitting_X3_become C.1.2.2.2.2) rfl rfl (Nat.le_of_ble_eq_true rfl) dX4_fitting_61 (fun g_1 H locs h S => ?_)
      refine lv_aload_n hx hb dX4_fitting_64 rfl (lv_at hl 0 rfl) ?_
      refine lv_iload_n hx hb dX4_fitting_65 rfl (lv_at hl 2 rfl) ?_
      refine lv_iload hx hb dX4_fitting_66 (lv_at hl 6 rfl) ?_
      refine lv_iload hx hb dX4_fitting_68 (lv_at hl 9 rfl) ?_
      refine kV_v (As := [.int x2, .int x6, .int x10]) (rest := []) C S hl.1 (o_X4_suppose_c h) (wd_o4 rfl) rfl (cw_X4_fitting_X4_suppose C.1.2.2.2.2) rfl rfl (Nat.le_of_ble_eq_true rfl) dX4_fitting_70 (fun g_3 H locs h S => ?_)
      refine lv_aload_n hx hb dX4_fitting_73 rfl (lv_at hl 0 rfl) ?_
      refine lv_iload_n hx hb dX4_fitting_74 rfl (lv_at hl 2 rfl) ?_
      refine lv_aload_n hx hb dX4_fitting_75 rfl (lv_at hl 3 rfl) ?_
      refine lv_iload hx hb dX4_fitting_76 (lv_at hl 4 rfl) ?_
      refine lv_iload hx hb dX4_fitting_78 (lv_at hl 5 rfl) ?_
      refine kV_i (As := [.int x2, .ref (ad j3), .int x4, .int x5]) (rest := []) C S hl.1 (o_X4_roundGoes_c hj3 h) (wd_o4 rfl) rfl (cw_X4_fitting_X4_roundGoes C.1.2.2.2.2) rfl rfl (Nat.le_of_ble_eq_true rfl) dX4_fitting_80 (fun r_6 g_5 H locs h S => ?_)
      refine lv_if_eq (tgt := 95) hx hb dX4_fitting_83 (by decide) (fun c1 => ?_) (fun c1 => ?_)
      · have h := h.1 c1
        exact o_X4_fitting_95_w C hj1 hj3 ih g_5 x2 x4 x5 x6 x8 x9 x10 _ _ _ S (lv_sub hl [0, 1, 2, 3, 4, 5, 6, 7, 8, 9] rfl) h
      · have h := h.2 c1
        refine lv_iload hx hb dX4_fitting_86 (lv_at hl 8 rfl) ?_
        refine lv_iconst (v := 1) hx hb dX4_fitting_88 (by decide) ?_
        refine lv_iload hx hb dX4_fitting_89 (lv_at hl 9 rfl) ?_
        refine lv_ishl hx hb dX4_fitting_91 ?_
        refine lv_ior hx hb dX4_fitting_92 ?_
        refine lv_topi (fun x_8 ex_8 => ?_)
        have h := h x_8 ex_8
        refine lv_istore (lv' := [(9, .int x_8), (0, .ref (ad 41)), (1, .ref (ad j1)), (2, .int x2), (3, .ref (ad j3)), (4, .int x4), (5, .int x5), (6, .int x6), (8, .int x8), (10, .int x10)]) hx hb dX4_fitting_93 hl (by decide) rfl (fun ls hl => ?_)
        exact o_X4_fitting_95_w C hj1 hj3 ih g_5 x2 x4 x5 x6 x8 x_8 x10 _ _ _ S (lv_sub hl [1, 2, 3, 4, 5, 6, 7, 8, 0, 9] rfl) h
set_option maxHeartbeats 4000000 in
set_option maxRecDepth 100000 in
theorem o_X4_fitting_40_w {p : Program} {l : Launch} {e : Env} {s : State} {m : MethodId} {args : Array Value} {below : List Frame} {meth : Method} {c : Code} {dC : Nat → ClassId} {dI : Nat → Nat → Nat} {cy : Nat → ClassId} {ad tz : Nat → Nat} {Q : Int32 → Mm → Prop} {j1 : Nat} {j3 : Nat} (C : CX p s m args meth c dC dI cy ad tz cX4_fitting 11 (some .int) RX4 wsX4_fitting) (hj1 : ly j1 = 3) (hj3 : ly j3 = 6) : ∀ (g : Mm) (x2 : Int32) (x4 : Int32) (x5 : Int32) (x6 : Int32) (x7 : Int32) (s0 : Int32) (H : Heap) (locs : List Loc) (ls : Array Slot), St dC dI cy ad s g H locs → lv_has ls 11 [(0, .ref (ad 41)), (1, .ref (ad j1)), (2, .int x2), (3, .ref (ad j3)), (4, .int x4), (5, .int x5), (6, .int x6), (7, .int x7)] → o_X4_fitting_40 Q j1 j3 g x2 x4 x5 x6 x7 s0 → W p l e (rmD 5) s m args below meth c H locs 0 0 (QI dC dI cy ad below args s Q) (F0 m 40 ls [.int s0]) := by
  have hx := C.1.1
  have hb := C.1.2.1
  intro g x2 x4 x5 x6 x7 s0 H locs ls S hl h
  unfold o_X4_fitting_40 at h
  refine lv_istore (lv' := [(8, .int s0), (0, .ref (ad 41)), (1, .ref (ad j1)), (2, .int x2), (3, .ref (ad j3)), (4, .int x4), (5, .int x5), (6, .int x6), (7, .int x7)]) hx hb dX4_fitting_40 hl (by decide) rfl (fun ls hl => ?_)
  refine lv_iconst (v := 0) hx hb dX4_fitting_42 (by decide) ?_
  refine lv_istore (lv' := [(9, .int 0), (8, .int s0), (0, .ref (ad 41)), (1, .ref (ad j1)), (2, .int x2), (3, .ref (ad j3)), (4, .int x4), (5, .int x5), (6, .int x6), (7, .int x7)]) hx hb dX4_fitting_43 hl (by decide) rfl (fun ls hl => ?_)
  refine lv_iload hx hb dX4_fitting_45 (lv_at hl 9 rfl) ?_
  refine lv_istore (lv' := [(10, .int x7), (9, .int 0), (8, .int s0), (0, .ref (ad 41)), (1, .ref (ad j1)), (2, .int x2), (3, .ref (ad j3)), (4, .int x4), (5, .int x5), (6, .int x6), (7, .int x7)]) hx hb dX4_fitting_47 hl (by decide) rfl (fun ls hl => ?_)
  obtain ⟨n49, h⟩ := h
  refine o_X4_fitting_49_w C hj1 hj3 n49 g x2 x4 x5 x6 s0 0 x7 _ _ _ S (lv_sub hl [3, 4, 5, 6, 7, 8, 9, 2, 1, 0] rfl) h
set_option maxHeartbeats 4000000 in
set_option maxRecDepth 100000 in
theorem o_X4_fitting_16_w {p : Program} {l : Launch} {e : Env} {s : State} {m : MethodId} {args : Array Value} {below : List Frame} {meth : Method} {c : Code} {dC : Nat → ClassId} {dI : Nat → Nat → Nat} {cy : Nat → ClassId} {ad tz : Nat → Nat} {Q : Int32 → Mm → Prop} {j1 : Nat} {j3 : Nat} (C : CX p s m args meth c dC dI cy ad tz cX4_fitting 11 (some .int) RX4 wsX4_fitting) (hj1 : ly j1 = 3) (hj3 : ly j3 = 6) : ∀ (g : Mm) (x2 : Int32) (x4 : Int32) (x5 : Int32) (x6 : Int32) (s0 : Int32) (H : Heap) (locs : List Loc) (ls : Array Slot), St dC dI cy ad s g H locs → lv_has ls 11 [(0, .ref (ad 41)), (1, .ref (ad j1)), (2, .int x2), (3, .ref (ad j3)), (4, .int x4), (5, .int x5), (6, .int x6)] → o_X4_fitting_16 Q j1 j3 g x2 x4 x5 x6 s0 → W p l e (rmD 5) s m args below meth c H locs 0 0 (QI dC dI cy ad below args s Q) (F0 m 16 ls [.int s0]) := by
  have hx := C.1.1
  have hb := C.1.2.1
  intro g x2 x4 x5 x6 s0 H locs ls S hl h
  unfold o_X4_fitting_16 at h
  refine lv_istore (lv' := [(7, .int s0), (0, .ref (ad 41)), (1, .ref (ad j1)), (2, .int x2), (3, .ref (ad j3)), (4, .int x4), (5, .int x5), (6, .int x6)]) hx hb dX4_fitting_16 hl (by decide) rfl (fun ls hl => ?_)
  refine lv_iload hx hb dX4_fitting_18 (lv_at hl 7 rfl) ?_
  refine lv_if_ne (tgt := 27) hx hb dX4_fitting_20 (by decide) (fun c1 => ?_) (fun c1 => ?_)
  · have h := h.1 c1
    refine lv_iload hx hb dX4_fitting_27 (lv_at hl 7 rfl) ?_
    refine lv_iconst (v := 1) hx hb dX4_fitting_29 (by decide) ?_
    refine lv_icmp_ne (tgt := 38) hx hb dX4_fitting_30 (by decide) (fun c1 => ?_) (fun c1 => ?_)
    · have h := h.1 c1
      refine lv_bipush (v := 9) hx hb dX4_fitting_38 (by decide) ?_
      exact o_X4_fitting_40_w C hj1 hj3 g x2 x4 x5 x6 s0 9 _ _ _ S (lv_sub hl [1, 2, 3, 4, 5, 6, 7, 0] rfl) h
    · have h := h.2 c1
      refine lv_bipush (v := 9) hx hb dX4_fitting_33 (by decide) ?_
      refine lv_goto (tgt := 40) hx hb dX4_fitting_35 (by decide) ?_
      exact o_X4_fitting_40_w C hj1 hj3 g x2 x4 x5 x6 s0 9 _ _ _ S (lv_sub hl [1, 2, 3, 4, 5, 6, 7, 0] rfl) h
  · have h := h.2 c1
    refine lv_iconst (v := 5) hx hb dX4_fitting_23 (by decide) ?_
    refine lv_goto (tgt := 40) hx hb dX4_fitting_24 (by decide) ?_
    exact o_X4_fitting_40_w C hj1 hj3 g x2 x4 x5 x6 s0 5 _ _ _ S (lv_sub hl [1, 2, 3, 4, 5, 6, 7, 0] rfl) h
set_option maxHeartbeats 4000000 in
set_option maxRecDepth 100000 in
theorem o_X4_fitting_11_w {p : Program} {l : Launch} {e : Env} {s : State} {m : MethodId} {args : Array Value} {below : List Frame} {meth : Method} {c : Code} {dC : Nat → ClassId} {dI : Nat → Nat → Nat} {cy : Nat → ClassId} {ad tz : Nat → Nat} {Q : Int32 → Mm → Prop} {j1 : Nat} {j3 : Nat} (C : CX p s m args meth c dC dI cy ad tz cX4_fitting 11 (some .int) RX4 wsX4_fitting) (hj1 : ly j1 = 3) (hj3 : ly j3 = 6) : ∀ (g : Mm) (x2 : Int32) (x4 : Int32) (x5 : Int32) (x6 : Int32) (H : Heap) (locs : List Loc) (ls : Array Slot), St dC dI cy ad s g H locs → lv_has ls 11 [(0, .ref (ad 41)), (1, .ref (ad j1)), (2, .int x2), (3, .ref (ad j3)), (4, .int x4), (5, .int x5), (6, .int x6)] → o_X4_fitting_11 Q j1 j3 g x2 x4 x5 x6 → W p l e (rmD 5) s m args below meth c H locs 0 0 (QI dC dI cy ad below args s Q) (F0 m 11 ls []) := by
  have hx := C.1.1
  have hb := C.1.2.1
  intro g x2 x4 x5 x6 H locs ls S hl h
  unfold o_X4_fitting_11 at h
  refine lv_iconst (v := 1) hx hb dX4_fitting_11 (by decide) ?_
  refine lv_goto (tgt := 16) hx hb dX4_fitting_12 (by decide) ?_
  exact o_X4_fitting_16_w C hj1 hj3 g x2 x4 x5 x6 1 _ _ _ S (lv_sub hl [0, 1, 2, 3, 4, 5, 6] rfl) h
def o_X4_fitting (Q : Int32 → Mm → Prop) (j1 : Nat) (j3 : Nat) (g : Mm) (x2 : Int32) (x4 : Int32) (x5 : Int32) (x6 : Int32) : Prop := ((x6 = 0) → o_X4_fitting_11 Q j1 j3 g x2 x4 x5 x6) ∧ ((¬ x6 = 0) → ((¬ x6 = 1) → o_X4_fitting_16 Q j1 j3 g x2 x4 x5 x6 0) ∧ ((x6 = 1) → o_X4_fitting_11 Q j1 j3 g x2 x4 x5 x6))
set_option maxHeartbeats 4000000 in
set_option maxRecDepth 100000 in
theorem o_X4_fitting_c {l : Launch} {dC : Nat → ClassId} {dI : Nat → Nat → Nat} {cy : Nat → ClassId} {ad tz : Nat → Nat} {Q : Int32 → Mm → Prop} {j1 : Nat} {j3 : Nat} {g : Mm} {x2 : Int32} {x4 : Int32} {x5 : Int32} {x6 : Int32} (hj1 : ly j1 = 3) (hj3 : ly j3 = 6) (h : o_X4_fitting Q j1 j3 g x2 x4 x5 x6) : CI l dC dI cy ad tz yX4_fitting wsX4_fitting (rmD 5) [.ref (ad 41), .ref (ad j1), .int x2, .ref (ad j3), .int x4, .int x5, .int x6] g Q := by
  refine CI.of (by decide) rfl rfl (Nat.le_of_ble_eq_true rfl) ?_
  intro p e s m args below meth c ls C hl S
  have hl : lv_has ls 11 [(0, .ref (ad 41)), (1, .ref (ad j1)), (2, .int x2), (3, .ref (ad j3)), (4, .int x4), (5, .int x5), (6, .int x6)] := hl
  have hx := C.1.1
  have hb := C.1.2.1
  unfold o_X4_fitting at h
  refine lv_iload hx hb dX4_fitting_0 (lv_at hl 6 rfl) ?_
  refine lv_if_eq (tgt := 11) hx hb dX4_fitting_2 (by decide) (fun c1 => ?_) (fun c1 => ?_)
  · have h := h.1 c1
    exact o_X4_fitting_11_w C hj1 hj3 g x2 x4 x5 x6 _ _ _ S (lv_sub hl [0, 1, 2, 3, 4, 5, 6] rfl) h
  · have h := h.2 c1
    refine lv_iload hx hb dX4_fitting_5 (lv_at hl 6 rfl) ?_
    refine lv_iconst (v := 1) hx hb dX4_fitting_7 (by decide) ?_
    refine lv_icmp_ne (tgt := 15) hx hb dX4_fitting_8 (by decide) (fun c1 => ?_) (fun c1 => ?_)
    · have h := h.1 c1
      refine lv_iconst (v := 0) hx hb dX4_fitting_15 (by decide) ?_
      exact o_X4_fitting_16_w C hj1 hj3 g x2 x4 x5 x6 0 _ _ _ S (lv_sub hl [0, 1, 2, 3, 4, 5, 6] rfl) h
    · have h := h.2 c1
      exact o_X4_fitting_11_w C hj1 hj3 g x2 x4 x5 x6 _ _ _ S (lv_sub hl [0, 1, 2, 3, 4, 5, 6] rfl) h
/-! ClawCase$Foretold.weighPath(I)V, height 1 -/
theorem m_X4_weighPath_1 : Cond.fieldLink RX4 12 "ClawCase$Foretold" "trial" "LClawCase$Box;" ∈ wsX4_weighPath := List.mem_of_getElem? (i := 1) (by decide +kernel)
theorem n_X4_weighPath_X4 : ∀ w ∈ wsX40, w ∈ wsX4_weighPath := mem_by [22, 23, 24, 25, 26, 27] (by decide +kernel)
theorem m_X4_weighPath_2 : Cond.fieldLink RX4 25 "ClawCase$Foretold" "bestToys" "I" ∈ wsX4_weighPath := List.mem_of_getElem? (i := 2) (by decide +kernel)
theorem m_X4_weighPath_3 : Cond.fieldLink RX4 29 "ClawCase$Foretold" "bestWeight" "I" ∈ wsX4_weighPath := List.mem_of_getElem? (i := 3) (by decide +kernel)
theorem m_X4_weighPath_4 : Cond.fieldLink RX4 18 "ClawCase$Foretold" "path" "[I" ∈ wsX4_weighPath := List.mem_of_getElem? (i := 4) (by decide +kernel)
theorem m_X4_weighPath_5 : Cond.fieldLink RX4 22 "ClawCase$Foretold" "best" "[I" ∈ wsX4_weighPath := List.mem_of_getElem? (i := 5) (by decide +kernel)
theorem m_X4_weighPath_6 : Cond.methodLink RX4 77 arraycopyName ∈ wsX4_weighPath := List.mem_of_getElem? (i := 6) (by decide +kernel)
theorem m_X4_weighPath_8 : Cond.static arraycopyName ∈ wsX4_weighPath := List.mem_of_getElem? (i := 8) (by decide +kernel)
theorem m_X4_weighPath_9 : Cond.initialized "java/lang/System" ∈ wsX4_weighPath := List.mem_of_getElem? (i := 9) (by decide +kernel)
theorem m_X4_weighPath_7 : Cond.native arraycopyName ∈ wsX4_weighPath := List.mem_of_getElem? (i := 7) (by decide +kernel)
theorem cw_X4_weighPath_X3_wonWeight {s : State} {args : Array Value} (ht : ∀ w ∈ wsX4_weighPath, w.before args s = true) : CallW (rmD 1) s args RX4 RX3 73 yX3_wonWeight cX3_wonWeight 3 (some .int) wsX3_wonWeight (rmD (0)) 0 0 0 := cwV 0 ht gX4_weighPath_X3_wonWeight rfl rfl rfl (by decide +kernel) ⟨Nat.le_of_ble_eq_true rfl, Nat.le_of_ble_eq_true rfl⟩
theorem cw_X4_weighPath_X3_howMany {s : State} {args : Array Value} (ht : ∀ w ∈ wsX4_weighPath, w.before args s = true) : CallW (rmD 1) s args RX4 RX3 70 yX3_howMany cX3_howMany 4 (some .int) wsX3_howMany (rmD (0)) 0 0 1 := cwV 1 ht gX4_weighPath_X3_howMany rfl rfl rfl (by decide +kernel) ⟨Nat.le_of_ble_eq_true rfl, Nat.le_of_ble_eq_true rfl⟩
def o_X4_weighPath_41 (Q : Mm → Prop) (g : Mm) (x1 : Int32) (x2 : Int32) (x3 : Int32) : Prop := ∀ g_5 : Mm, g_5 = mset g 41 3 x2 → (∀ g_6 : Mm, g_6 = mset g_5 41 4 x3 → (((¬ (0 : Int32) < 0 ∧ ¬ (0 : Int32) < 0 ∧ ¬ (x1 : Int32) < 0) ∧ (0 : Int32).toNatClampNeg + (x1 : Int32).toNatClampNeg ≤ 4 ∧ (0 : Int32).toNatClampNeg + (x1 : Int32).toNatClampNeg ≤ 4) ∧ (∀ g_7 : Mm, g_7 = mcpy g_6 47 (0 : Int32).toNatClampNeg 48 (0 : Int32).toNatClampNeg (x1 : Int32).toNatClampNeg → (Q g_7))))
set_option maxHeartbeats 4000000 in
set_option maxRecDepth 100000 in
theorem o_X4_weighPath_41_w {p : Program} {l : Launch} {e : Env} {s : State} {m : MethodId} {args : Array Value} {below : List Frame} {meth : Method} {c : Code} {dC : Nat → ClassId} {dI : Nat → Nat → Nat} {cy : Nat → ClassId} {ad tz : Nat → Nat} {Q : Mm → Prop} (C : CX p s m args meth c dC dI cy ad tz cX4_weighPath 4 none RX4 wsX4_weighPath) : ∀ (g : Mm) (x1 : Int32) (x2 : Int32) (x3 : Int32) (H : Heap) (locs : List Loc) (ls : Array Slot), St dC dI cy ad s g H locs → lv_has ls 4 [(0, .ref (ad 41)), (1, .int x1), (2, .int x2), (3, .int x3)] → o_X4_weighPath_41 Q g x1 x2 x3 → W p l e (rmD 1) s m args below meth c H locs 0 0 (QV dC dI cy ad below args s Q) (F0 m 41 ls []) := by
  have hx := C.1.1
  have hb := C.1.2.1
  intro g x1 x2 x3 H locs ls S hl h
  unfold o_X4_weighPath_41 at h
  refine lv_aload_n hx hb dX4_weighPath_41 rfl (lv_at hl 0 rfl) ?_
  refine lv_iload_n hx hb dX4_weighPath_42 rfl (lv_at hl 2 rfl) ?_
  refine kp4_3 C S rfl n_X4_weighPath_X4 m_X4_weighPath_2 dX4_weighPath_43 (fun g_5 H locs eg_5 S => ?_)
  have h := h g_5 eg_5
  refine lv_aload_n hx hb dX4_weighPath_46 rfl (lv_at hl 0 rfl) ?_
  refine lv_iload_n hx hb dX4_weighPath_47 rfl (lv_at hl 3 rfl) ?_
  refine kp4_4 C S rfl n_X4_weighPath_X4 m_X4_weighPath_3 dX4_weighPath_48 (fun g_6 H locs eg_6 S => ?_)
  have h := h g_6 eg_6
  refine lv_aload_n hx hb dX4_weighPath_51 rfl (lv_at hl 0 rfl) ?_
  refine kg4 (k := 1) (v := .ref (ad 47)) C S rfl (by decide) n_X4_weighPath_X4 m_X4_weighPath_4 rfl dX4_weighPath_52 ?_
  refine lv_iconst (v := 0) hx hb dX4_weighPath_55 (by decide) ?_
  refine lv_aload_n hx hb dX4_weighPath_56 rfl (lv_at hl 0 rfl) ?_
  refine kg4 (k := 2) (v := .ref (ad 48)) C S rfl (by decide) n_X4_weighPath_X4 m_X4_weighPath_5 rfl dX4_weighPath_57 ?_
  refine lv_iconst (v := 0) hx hb dX4_weighPath_60 (by decide) ?_
  refine lv_iload_n hx hb dX4_weighPath_61 rfl (lv_at hl 1 rfl) ?_
  obtain ⟨hi, h⟩ := h
  refine kCpy C S hl.1 rfl rfl rfl rfl hi m_X4_weighPath_6 m_X4_weighPath_7 m_X4_weighPath_8 m_X4_weighPath_9 (Nat.le_of_ble_eq_true rfl) (Nat.le_of_ble_eq_true rfl) dX4_weighPath_62 (fun g_7 H locs eg_7 S => ?_)
  have h := h g_7 eg_7
  exact kRv C S h dX4_weighPath_65
def o_X4_weighPath (Q : Mm → Prop) (g : Mm) (x1 : Int32) : Prop := o_X3_howMany (fun (r_2 : Int32) (g_1 : Mm) => o_X3_wonWeight (fun (r_4 : Int32) (g_3 : Mm) => (((g_3.1 41 3) < r_2) → o_X4_weighPath_41 Q g_3 x1 r_2 r_4) ∧ ((¬ (g_3.1 41 3) < r_2) → ((¬ r_2 = (g_3.1 41 3)) → Q g_3) ∧ ((r_2 = (g_3.1 41 3)) → ((r_4 ≤ (g_3.1 41 4)) → Q g_3) ∧ ((¬ r_4 ≤ (g_3.1 41 4)) → o_X4_weighPath_41 Q g_3 x1 r_2 r_4)))) 42 g_1) 42 g 0
set_option maxHeartbeats 4000000 in
set_option maxRecDepth 100000 in
theorem o_X4_weighPath_c {l : Launch} {dC : Nat → ClassId} {dI : Nat → Nat → Nat} {cy : Nat → ClassId} {ad tz : Nat → Nat} {Q : Mm → Prop} {g : Mm} {x1 : Int32} (h : o_X4_weighPath Q g x1) : CV l dC dI cy ad tz yX4_weighPath wsX4_weighPath (rmD 1) [.ref (ad 41), .int x1] g Q := by
  refine CV.of (by decide) rfl rfl (Nat.le_of_ble_eq_true rfl) ?_
  intro p e s m args below meth c ls C hl S
  have hl : lv_has ls 4 [(0, .ref (ad 41)), (1, .int x1)] := hl
  have hx := C.1.1
  have hb := C.1.2.1
  unfold o_X4_weighPath at h
  refine lv_aload_n hx hb dX4_weighPath_0 rfl (lv_at hl 0 rfl) ?_
  refine kg4 (k := 0) (v := .ref (ad 42)) C S rfl (by decide) n_X4_weighPath_X4 m_X4_weighPath_1 rfl dX4_weighPath_1 ?_
  refine lv_iconst (v := 0) hx hb dX4_weighPath_4 (by decide) ?_
  refine kV_i (As := [.int 0]) (rest := []) C S hl.1 (o_X3_howMany_c rfl h) (wd_o3 rfl) rfl (cw_X4_weighPath_X3_howMany C.1.2.2.2.2) rfl rfl (Nat.le_of_ble_eq_true rfl) dX4_weighPath_5 (fun r_2 g_1 H locs h S => ?_)
  refine lv_istore_n (lv' := [(2, .int r_2), (0, .ref (ad 41)), (1, .int x1)]) hx hb dX4_weighPath_8 rfl hl (by decide) rfl (fun ls hl => ?_)
  refine lv_aload_n hx hb dX4_weighPath_9 rfl (lv_at hl 1 rfl) ?_
  refine kg4 (k := 0) (v := .ref (ad 42)) C S rfl (by decide) n_X4_weighPath_X4 m_X4_weighPath_1 rfl dX4_weighPath_10 ?_
  refine kV_i (As := []) (rest := []) C S hl.1 (o_X3_wonWeight_c rfl h) (wd_o3 rfl) rfl (cw_X4_weighPath_X3_wonWeight C.1.2.2.2.2) rfl rfl (Nat.le_of_ble_eq_true rfl) dX4_weighPath_13 (fun r_4 g_3 H locs h S => ?_)
  refine lv_istore_n (lv' := [(3, .int r_4), (2, .int r_2), (0, .ref (ad 41)), (1, .int x1)]) hx hb dX4_weighPath_16 rfl hl (by decide) rfl (fun ls hl => ?_)
  refine lv_iload_n hx hb dX4_weighPath_17 rfl (lv_at hl 1 rfl) ?_
  refine lv_aload_n hx hb dX4_weighPath_18 rfl (lv_at hl 2 rfl) ?_
  refine kg4 (k := 3) (v := .int (g_3.1 41 3)) C S rfl (by decide) n_X4_weighPath_X4 m_X4_weighPath_2 rfl dX4_weighPath_19 ?_
  refine lv_icmp_gt (tgt := 41) hx hb dX4_weighPath_22 (by decide) (fun c1 => ?_) (fun c1 => ?_)
  · have h := h.1 c1
    exact o_X4_weighPath_41_w C g_3 x1 r_2 r_4 _ _ _ S (lv_sub hl [2, 3, 1, 0] rfl) h
  · have h := h.2 c1
    refine lv_iload_n hx hb dX4_weighPath_25 rfl (lv_at hl 1 rfl) ?_
    refine lv_aload_n hx hb dX4_weighPath_26 rfl (lv_at hl 2 rfl) ?_
    refine kg4 (k := 3) (v := .int (g_3.1 41 3)) C S rfl (by decide) n_X4_weighPath_X4 m_X4_weighPath_2 rfl dX4_weighPath_27 ?_
    refine lv_icmp_ne (tgt := 65) hx hb dX4_weighPath_30 (by decide) (fun c1 => ?_) (fun c1 => ?_)
    · have h := h.1 c1
      exact kRv C S h dX4_weighPath_65
    · have h := h.2 c1
      refine lv_iload_n hx hb dX4_weighPath_33 rfl (lv_at hl 0 rfl) ?_
      refine lv_aload_n hx hb dX4_weighPath_34 rfl (lv_at hl 2 rfl) ?_
      refine kg4 (k := 4) (v := .int (g_3.1 41 4)) C S rfl (by decide) n_X4_weighPath_X4 m_X4_weighPath_3 rfl dX4_weighPath_35 ?_
      refine lv_icmp_le (tgt := 65) hx hb dX4_weighPath_38 (by decide) (fun c1 => ?_) (fun c1 => ?_)
      · have h := h.1 c1
        exact kRv C S h dX4_weighPath_65
      · have h := h.2 c1
        exact o_X4_weighPath_41_w C g_3 x1 r_2 r_4 _ _ _ S (lv_sub hl [2, 3, 1, 0] rfl) h
/-! ClawCase$Foretold.haulFrom(II)V, height 4 -/
theorem m_X4_haulFrom_1 : Cond.fieldLink RX4 18 "ClawCase$Foretold" "path" "[I" ∈ wsX4_haulFrom := List.mem_of_getElem? (i := 1) (by decide +kernel)
theorem n_X4_haulFrom_X4 : ∀ w ∈ wsX40, w ∈ wsX4_haulFrom := mem_by [97, 98, 99, 100, 101, 102] (by decide +kernel)
theorem m_X4_haulFrom_2 : Cond.fieldLink RX4 12 "ClawCase$Foretold" "trial" "LClawCase$Box;" ∈ wsX4_haulFrom := List.mem_of_getElem? (i := 2) (by decide +kernel)
theorem m_X4_haulFrom_3 : Cond.fieldLink RX4 34 "ClawCase$Foretold" "steps" "[LClawCase$Before;" ∈ wsX4_haulFrom := List.mem_of_getElem? (i := 3) (by decide +kernel)
theorem cw_X4_haulFrom_X2_giveBack {s : State} {args : Array Value} {nr : Nat} (ht : ∀ w ∈ wsX4_haulFrom, w.before args s = true) : CallW (rmD (4 + (nr + 1))) s args RX4 RX2 59 yX2_giveBack cX2_giveBack 2 none wsX2_giveBack (rmD (0)) 0 0 1 := cwV 1 ht gX4_haulFrom_X2_giveBack rfl rfl rfl (by decide +kernel) ⟨by show (0) + 1 ≤ (4 + (nr + 1)); omega, by show 8 + (2 + 11) + 64 * (0) ≤ 64 * (4 + (nr + 1)); omega⟩
theorem cw_X4_haulFrom_X4_haulFrom {s : State} {args : Array Value} {nr : Nat} (ht : ∀ w ∈ wsX4_haulFrom, w.before args s = true) : CallW (rmD (4 + (nr + 1))) s args RX4 RX4 62 yX4_haulFrom cX4_haulFrom 4 none wsX4_haulFrom (rmD (4 + nr)) 0 0 2 := cwV 2 ht gX4_haulFrom_X4_haulFrom rfl rfl rfl (by decide +kernel) ⟨by show (4 + nr) + 1 ≤ (4 + (nr + 1)); omega, by show 8 + (4 + 11) + 64 * (4 + nr) ≤ 64 * (4 + (nr + 1)); omega⟩
theorem cw_X4_haulFrom_X3_playAt {s : State} {args : Array Value} {nr : Nat} (ht : ∀ w ∈ wsX4_haulFrom, w.before args s = true) : CallW (rmD (4 + (nr + 1))) s args RX4 RX3 55 yX3_playAt cX3_playAt 6 (some .int) wsX3_playAt (rmD (3)) 0 0 3 := cwV 3 ht gX4_haulFrom_X3_playAt rfl rfl rfl (by decide +kernel) ⟨by show (3) + 1 ≤ (4 + (nr + 1)); omega, by show 8 + (6 + 11) + 64 * (3) ≤ 64 * (4 + (nr + 1)); omega⟩
theorem cw_X4_haulFrom_X3_gripAhead {s : State} {args : Array Value} {nr : Nat} (ht : ∀ w ∈ wsX4_haulFrom, w.before args s = true) : CallW (rmD (4 + (nr + 1))) s args RX4 RX3 51 yX3_gripAhead cX3_gripAhead 2 (some .int) wsX3_gripAhead (rmD (0)) 0 0 1 := cwV 1 ht gX4_haulFrom_X3_gripAhead rfl rfl rfl (by decide +kernel) ⟨by show (0) + 1 ≤ (4 + (nr + 1)); omega, by show 8 + (2 + 11) + 64 * (0) ≤ 64 * (4 + (nr + 1)); omega⟩
theorem cw_X4_haulFrom_X4_weighPath {s : State} {args : Array Value} {nr : Nat} (ht : ∀ w ∈ wsX4_haulFrom, w.before args s = true) : CallW (rmD (4 + (nr + 1))) s args RX4 RX4 66 yX4_weighPath cX4_weighPath 4 none wsX4_weighPath (rmD (1)) 0 0 1 := cwV 1 ht gX4_haulFrom_X4_weighPath rfl rfl rfl (by decide +kernel) ⟨by show (1) + 1 ≤ (4 + (nr + 1)); omega, by show 8 + (4 + 11) + 64 * (1) ≤ 64 * (4 + (nr + 1)); omega⟩
def o_X4_haulFrom_13 (Q : Mm → Prop) (F : (Mm → Prop) → Mm → Int32 → Int32 → Prop) : Nat → Mm → Int32 → Int32 → Int32 → Prop
  | 0, _, _, _, _ => False
  | n13 + 1, g, x1, x2, x3 => ((5 < x3) → Q g) ∧ ((¬ 5 < x3) → vp_in x1 4 ∧ (∀ g_1 : Mm, g_1 = mset g 47 x1.toNatClampNeg x3 → (o_X3_gripAhead (fun (r_3 : Int32) (g_2 : Mm) => vp_in x1 8 ∧ (o_X3_playAt (fun (r_6 : Int32) (g_5 : Mm) => F (fun (g_7 : Mm) => vp_in x1 8 ∧ (o_X2_giveBack (fun (g_10 : Mm) => ∀ x_12 : Int32, x_12 = x3 + 1 → (o_X4_haulFrom_13 Q F n13 g_10 x1 x2 x_12)) (49 + 1 + x1.toNatClampNeg) 42 g_7)) g_5 (x1 + 1) x2) 42 (49 + 1 + x1.toNatClampNeg) g_2 x3 r_3)) 42 g_1 0)))
set_option maxHeartbeats 4000000 in
set_option maxRecDepth 100000 in
theorem o_X4_haulFrom_13_w {p : Program} {l : Launch} {e : Env} {s : State} {m : MethodId} {args : Array Value} {below : List Frame} {meth : Method} {c : Code} {dC : Nat → ClassId} {dI : Nat → Nat → Nat} {cy : Nat → ClassId} {ad tz : Nat → Nat} {nr : Nat} {F : (Mm → Prop) → Mm → Int32 → Int32 → Prop} {Q : Mm → Prop} (C : CX p s m args meth c dC dI cy ad tz cX4_haulFrom 4 none RX4 wsX4_haulFrom) (ihr : ∀ {Q : Mm → Prop} {g : Mm} {x1 : Int32} {x2 : Int32}, F Q g x1 x2 → CV l dC dI cy ad tz yX4_haulFrom wsX4_haulFrom (rmD (4 + nr)) [.ref (ad 41), .int x1, .int x2] g Q) : ∀ (n : Nat) (g : Mm) (x1 : Int32) (x2 : Int32) (x3 : Int32) (H : Heap) (locs : List Loc) (ls : Array Slot), St dC dI cy ad s g H locs → lv_has ls 4 [(0, .ref (ad 41)), (1, .int x1), (2, .int x2), (3, .int x3)] → o_X4_haulFrom_13 Q F n g x1 x2 x3 → W p l e (rmD (4 + (nr + 1))) s m args below meth c H locs 0 0 (QV dC dI cy ad below args s Q) (F0 m 13 ls []) := by
  have hx := C.1.1
  have hb := C.1.2.1
  intro n13
  induction n13 with
  | zero => intro g x1 x2 x3 H locs ls S hl h; exact h.elim
  | succ n13 ih =>
    intro g x1 x2 x3 H locs ls S hl h
    have h : ((5 < x3) → Q g) ∧ ((¬ 5 < x3) → vp_in x1 4 ∧ (∀ g_1 : Mm, g_1 = mset g 47 x1.toNatClampNeg x3 → (o_X3_gripAhead (fun (r_3 : Int32) (g_2 : Mm) => vp_in x1 8 ∧ (o_X3_playAt (fun (r_6 : Int32) (g_5 : Mm) => F (fun (g_7 : Mm) => vp_in x1 8 ∧ (o_X2_giveBack (fun (g_10 : Mm) => ∀ x_12 : Int32, x_12 = x3 + 1 → (o_X4_haulFrom_13 Q F n13 g_10 x1 x2 x_12)) (49 + 1 + x1.toNatClampNeg) 42 g_7)) g_5 (x1 + 1) x2) 42 (49 + 1 + x1.toNatClampNeg) g_2 x3 r_3)) 42 g_1 0))) := h
    refine lv_iload_n hx hb dX4_haulFrom_13 rfl (lv_at hl 3 rfl) ?_
    refine lv_iconst (v := 5) hx hb dX4_haulFrom_14 (by decide) ?_
    refine lv_icmp_gt (tgt := 75) hx hb dX4_haulFrom_15 (by decide) (fun c1 => ?_) (fun c1 => ?_)
    · have h := h.1 c1
      exact kRv C S h dX4_haulFrom_75
    · have h := h.2 c1
      refine lv_aload_n hx hb dX4_haulFrom_18 rfl (lv_at hl 0 rfl) ?_
      refine kg4 (k := 1) (v := .ref (ad 47)) C S rfl (by decide) n_X4_haulFrom_X4 m_X4_haulFrom_1 rfl dX4_haulFrom_19 ?_
      refine lv_iload_n hx hb dX4_haulFrom_22 rfl (lv_at hl 1 rfl) ?_
      refine lv_iload_n hx hb dX4_haulFrom_23 rfl (lv_at hl 3 rfl) ?_
      obtain ⟨hi, h⟩ := h
      refine kSi C S rfl rfl hi dX4_haulFrom_24 (fun g_1 H locs eg_1 S => ?_)
      have h := h g_1 eg_1
      refine lv_aload_n hx hb dX4_haulFrom_25 rfl (lv_at hl 0 rfl) ?_
      refine kg4 (k := 0) (v := .ref (ad 42)) C S rfl (by decide) n_X4_haulFrom_X4 m_X4_haulFrom_2 rfl dX4_haulFrom_26 ?_
      refine lv_iload_n hx hb dX4_haulFrom_29 rfl (lv_at hl 3 rfl) ?_
      refine lv_aload_n hx hb dX4_haulFrom_30 rfl (lv_at hl 0 rfl) ?_
      refine kg4 (k := 0) (v := .ref (ad 42)) C S rfl (by decide) n_X4_haulFrom_X4 m_X4_haulFrom_2 rfl dX4_haulFrom_31 ?_
      refine lv_iconst (v := 0) hx hb dX4_haulFrom_34 (by decide) ?_
      refine kV_i (As := [.int 0]) (rest := [.int x3, .ref (ad 42)]) C S hl.1 (o_X3_gripAhead_c rfl h) (wd_o3 rfl) rfl (cw_X4_haulFrom_X3_gripAhead C.1.2.2.2.2) rfl rfl (Nat.le_of_ble_eq_true rfl) dX4_haulFrom_35 (fun r_3 g_2 H locs h S => ?_)
      refine lv_aload_n hx hb dX4_haulFrom_38 rfl (lv_at hl 0 rfl) ?_
      refine kg4 (k := 5) (v := .ref (ad 49)) C S rfl (by decide) n_X4_haulFrom_X4 m_X4_haulFrom_3 rfl dX4_haulFrom_39 ?_
      refine lv_iload_n hx hb dX4_haulFrom_42 rfl (lv_at hl 1 rfl) ?_
      obtain ⟨hi_4, h⟩ := h
      refine kAb C S rfl rfl hi_4 dX4_haulFrom_43 ?_
      refine kV_i (As := [.int x3, .int r_3, .ref (ad (49 + 1 + x1.toNatClampNeg))]) (rest := []) C S hl.1 (o_X3_playAt_c rfl (ly_steps _ (in_lt hi_4)) h) (wd_o3 rfl) rfl (cw_X4_haulFrom_X3_playAt C.1.2.2.2.2) rfl rfl (Nat.le_of_ble_eq_true rfl) dX4_haulFrom_44 (fun r_6 g_5 H locs h S => ?_)
      refine lv_pop hx hb dX4_haulFrom_47 rfl ?_
      refine lv_aload_n hx hb dX4_haulFrom_48 rfl (lv_at hl 0 rfl) ?_
      refine lv_iload_n hx hb dX4_haulFrom_49 rfl (lv_at hl 1 rfl) ?_
      refine lv_iconst (v := 1) hx hb dX4_haulFrom_50 (by decide) ?_
      refine lv_iadd hx hb dX4_haulFrom_51 ?_
      refine lv_iload_n hx hb dX4_haulFrom_52 rfl (lv_at hl 2 rfl) ?_
      refine kV_v (As := [.int (x1 + 1), .int x2]) (rest := []) C S hl.1 (ihr h) (wd_o4 rfl) rfl (cw_X4_haulFrom_X4_haulFrom C.1.2.2.2.2) rfl rfl (Nat.le_of_ble_eq_true rfl) dX4_haulFrom_53 (fun g_7 H locs h S => ?_)
      refine lv_aload_n hx hb dX4_haulFrom_56 rfl (lv_at hl 0 rfl) ?_
      refine kg4 (k := 5) (v := .ref (ad 49)) C S rfl (by decide) n_X4_haulFrom_X4 m_X4_haulFrom_3 rfl dX4_haulFrom_57 ?_
      refine lv_iload_n hx hb dX4_haulFrom_60 rfl (lv_at hl 1 rfl) ?_
      obtain ⟨hi_9, h⟩ := h
      refine kAb C S rfl rfl hi_9 dX4_haulFrom_61 ?_
      refine lv_aload_n hx hb dX4_haulFrom_62 rfl (lv_at hl 0 rfl) ?_
      refine kg4 (k := 0) (v := .ref (ad 42)) C S rfl (by decide) n_X4_haulFrom_X4 m_X4_haulFrom_2 rfl dX4_haulFrom_63 ?_
      refine kV_v (As := [.ref (ad 42)]) (rest := []) C S hl.1 (o_X2_giveBack_c (ly_steps _ (in_lt hi_9)) rfl h) (wd_o2 (ly_steps _ (in_lt hi_9))) rfl (cw_X4_haulFrom_X2_giveBack C.1.2.2.2.2) rfl rfl (Nat.le_of_ble_eq_true rfl) dX4_haulFrom_66 (fun g_10 H locs h S => ?_)
      obtain ⟨x_12, ex_12⟩ : ∃ y : Int32, y = x3 + 1 := ⟨_, rfl⟩
      have h := h x_12 ex_12
      refine lv_iinc (v := x_12) (lv' := [(3, .int x_12), (0, .ref (ad 41)), (1, .int x1), (2, .int x2)]) hx hb dX4_haulFrom_69 hl (k := 3) rfl (by rw [ex_12]; rfl) (by decide) rfl (fun ls hl => ?_)
      refine lv_goto (tgt := 13) hx hb dX4_haulFrom_72 (by decide) ?_
      exact ih g_10 x1 x2 x_12 _ _ _ S (lv_sub hl [1, 2, 3, 0] rfl) h
def o_X4_haulFrom_0 (F : (Mm → Prop) → Mm → Int32 → Int32 → Prop) (Q : Mm → Prop) (g : Mm) (x1 : Int32) (x2 : Int32) : Prop := ((x1 < x2) → ∃ n13, o_X4_haulFrom_13 Q F n13 g x1 x2 1) ∧ ((¬ x1 < x2) → o_X4_weighPath (fun (g_13 : Mm) => Q g_13) g x2)
def o_X4_haulFrom : Nat → (Mm → Prop) → Mm → Int32 → Int32 → Prop
  | 0 => fun _ _ _ _ => False
  | nr + 1 => fun Q g x1 x2 => o_X4_haulFrom_0 (o_X4_haulFrom nr) Q g x1 x2
set_option maxHeartbeats 4000000 in
set_option maxRecDepth 100000 in
theorem o_X4_haulFrom_0_c {l : Launch} {dC : Nat → ClassId} {dI : Nat → Nat → Nat} {cy : Nat → ClassId} {ad tz : Nat → Nat} {nr : Nat} {F : (Mm → Prop) → Mm → Int32 → Int32 → Prop} (ihr : ∀ {Q : Mm → Prop} {g : Mm} {x1 : Int32} {x2 : Int32}, F Q g x1 x2 → CV l dC dI cy ad tz yX4_haulFrom wsX4_haulFrom (rmD (4 + nr)) [.ref (ad 41), .int x1, .int x2] g Q) {Q : Mm → Prop} {g : Mm} {x1 : Int32} {x2 : Int32} (h : o_X4_haulFrom_0 F Q g x1 x2) : CV l dC dI cy ad tz yX4_haulFrom wsX4_haulFrom (rmD (4 + (nr + 1))) [.ref (ad 41), .int x1, .int x2] g Q := by
  refine CV.of (by decide) rfl rfl (Nat.le_of_ble_eq_true rfl) ?_
  intro p e s m args below meth c ls C hl S
  have hl : lv_has ls 4 [(0, .ref (ad 41)), (1, .int x1), (2, .int x2)] := hl
  have hx := C.1.1
  have hb := C.1.2.1
  unfold o_X4_haulFrom_0 at h
  refine lv_iload_n hx hb dX4_haulFrom_0 rfl (lv_at hl 1 rfl) ?_
  refine lv_iload_n hx hb dX4_haulFrom_1 rfl (lv_at hl 2 rfl) ?_
  refine lv_icmp_lt (tgt := 11) hx hb dX4_haulFrom_2 (by decide) (fun c1 => ?_) (fun c1 => ?_)
  · have h := h.1 c1
    refine lv_iconst (v := 1) hx hb dX4_haulFrom_11 (by decide) ?_
    refine lv_istore_n (lv' := [(3, .int 1), (0, .ref (ad 41)), (1, .int x1), (2, .int x2)]) hx hb dX4_haulFrom_12 rfl hl (by decide) rfl (fun ls hl => ?_)
    obtain ⟨n13, h⟩ := h
    refine o_X4_haulFrom_13_w C ihr n13 g x1 x2 1 _ _ _ S (lv_sub hl [1, 2, 3, 0] rfl) h
  · have h := h.2 c1
    refine lv_aload_n hx hb dX4_haulFrom_5 rfl (lv_at hl 0 rfl) ?_
    refine lv_iload_n hx hb dX4_haulFrom_6 rfl (lv_at hl 2 rfl) ?_
    refine kV_v (As := [.int x2]) (rest := []) C S hl.1 (o_X4_weighPath_c h) (wd_o4 rfl) rfl (cw_X4_haulFrom_X4_weighPath C.1.2.2.2.2) rfl rfl (Nat.le_of_ble_eq_true rfl) dX4_haulFrom_7 (fun g_13 H locs h S => ?_)
    exact kRv C S h dX4_haulFrom_10
theorem o_X4_haulFrom_c {l : Launch} {dC : Nat → ClassId} {dI : Nat → Nat → Nat} {cy : Nat → ClassId} {ad tz : Nat → Nat} : ∀ (nr : Nat) {Q : Mm → Prop} {g : Mm} {x1 : Int32} {x2 : Int32}, o_X4_haulFrom nr Q g x1 x2 → CV l dC dI cy ad tz yX4_haulFrom wsX4_haulFrom (rmD (4 + nr)) [.ref (ad 41), .int x1, .int x2] g Q := by
  intro nr
  induction nr with
  | zero => intro Q g x1 x2 h; exact absurd h (fun q => q)
  | succ nr ih => intro Q g x1 x2 h; exact o_X4_haulFrom_0_c (F := o_X4_haulFrom nr) (fun {Q} {g} {x1} {x2} h => ih h) h
/-! ClawCase$Foretold.searchHaul(LClawCase$Box;I)V, height 11 -/
theorem m_X4_searchHaul_1 : Cond.fieldLink RX4 12 "ClawCase$Foretold" "trial" "LClawCase$Box;" ∈ wsX4_searchHaul := List.mem_of_getElem? (i := 1) (by decide +kernel)
theorem n_X4_searchHaul_X4 : ∀ w ∈ wsX40, w ∈ wsX4_searchHaul := mem_by [103, 104, 105, 106, 107, 108] (by decide +kernel)
theorem m_X4_searchHaul_2 : Cond.fieldLink RX4 25 "ClawCase$Foretold" "bestToys" "I" ∈ wsX4_searchHaul := List.mem_of_getElem? (i := 2) (by decide +kernel)
theorem m_X4_searchHaul_3 : Cond.fieldLink RX4 29 "ClawCase$Foretold" "bestWeight" "I" ∈ wsX4_searchHaul := List.mem_of_getElem? (i := 3) (by decide +kernel)
theorem cw_X4_searchHaul_X4_haulFrom {s : State} {args : Array Value} (ht : ∀ w ∈ wsX4_searchHaul, w.before args s = true) : CallW (rmD 11) s args RX4 RX4 62 yX4_haulFrom cX4_haulFrom 4 none wsX4_haulFrom (rmD (4 + 6)) 0 0 2 := cwV 2 ht gX4_searchHaul_X4_haulFrom rfl rfl rfl (by decide +kernel) ⟨Nat.le_of_ble_eq_true rfl, Nat.le_of_ble_eq_true rfl⟩
theorem cw_X4_searchHaul_X3_become {s : State} {args : Array Value} (ht : ∀ w ∈ wsX4_searchHaul, w.before args s = true) : CallW (rmD 11) s args RX4 RX3 39 yX3_become cX3_become 2 none wsX3_become (rmD (1)) 0 0 1 := cwV 1 ht gX4_searchHaul_X3_become rfl rfl rfl (by decide +kernel) ⟨Nat.le_of_ble_eq_true rfl, Nat.le_of_ble_eq_true rfl⟩
def o_X4_searchHaul (Q : Mm → Prop) (j1 : Nat) (g : Mm) (x2 : Int32) : Prop := o_X3_become (fun (g_1 : Mm) => ∀ g_3 : Mm, g_3 = mset g_1 41 3 (-1) → (∀ g_4 : Mm, g_4 = mset g_3 41 4 (-1) → (o_X4_haulFrom 6 (fun (g_5 : Mm) => Q g_5) g_4 0 x2))) 42 j1 g
set_option maxHeartbeats 4000000 in
set_option maxRecDepth 100000 in
theorem o_X4_searchHaul_c {l : Launch} {dC : Nat → ClassId} {dI : Nat → Nat → Nat} {cy : Nat → ClassId} {ad tz : Nat → Nat} {Q : Mm → Prop} {j1 : Nat} {g : Mm} {x2 : Int32} (hj1 : ly j1 = 3) (h : o_X4_searchHaul Q j1 g x2) : CV l dC dI cy ad tz yX4_searchHaul wsX4_searchHaul (rmD 11) [.ref (ad 41), .ref (ad j1), .int x2] g Q := by
  refine CV.of (by decide) rfl rfl (Nat.le_of_ble_eq_true rfl) ?_
  intro p e s m args below meth c ls C hl S
  have hl : lv_has ls 3 [(0, .ref (ad 41)), (1, .ref (ad j1)), (2, .int x2)] := hl
  have hx := C.1.1
  have hb := C.1.2.1
  unfold o_X4_searchHaul at h
  refine lv_aload_n hx hb dX4_searchHaul_0 rfl (lv_at hl 0 rfl) ?_
  refine kg4 (k := 0) (v := .ref (ad 42)) C S rfl (by decide) n_X4_searchHaul_X4 m_X4_searchHaul_1 rfl dX4_searchHaul_1 ?_
  refine lv_aload_n hx hb dX4_searchHaul_4 rfl (lv_at hl 1 rfl) ?_
  refine kV_v (As := [.ref (ad j1)]) (rest := []) C S hl.1 (o_X3_become_c rfl hj1 h) (wd_o3 rfl) rfl (cw_X4_searchHaul_X3_become C.1.2.2.2.2) rfl rfl (Nat.le_of_ble_eq_true rfl) dX4_searchHaul_5 (fun g_1 H locs h S => ?_)
  refine lv_aload_n hx hb dX4_searchHaul_8 rfl (lv_at hl 0 rfl) ?_
  refine lv_iconst (v := (-1)) hx hb dX4_searchHaul_9 (by decide) ?_
  refine kp4_3 C S rfl n_X4_searchHaul_X4 m_X4_searchHaul_2 dX4_searchHaul_10 (fun g_3 H locs eg_3 S => ?_)
  have h := h g_3 eg_3
  refine lv_aload_n hx hb dX4_searchHaul_13 rfl (lv_at hl 0 rfl) ?_
  refine lv_iconst (v := (-1)) hx hb dX4_searchHaul_14 (by decide) ?_
  refine kp4_4 C S rfl n_X4_searchHaul_X4 m_X4_searchHaul_3 dX4_searchHaul_15 (fun g_4 H locs eg_4 S => ?_)
  have h := h g_4 eg_4
  refine lv_aload_n hx hb dX4_searchHaul_18 rfl (lv_at hl 0 rfl) ?_
  refine lv_iconst (v := 0) hx hb dX4_searchHaul_19 (by decide) ?_
  refine lv_iload_n hx hb dX4_searchHaul_20 rfl (lv_at hl 2 rfl) ?_
  refine kV_v (As := [.int 0, .int x2]) (rest := []) C S hl.1 (o_X4_haulFrom_c 6 h) (wd_o4 rfl) rfl (cw_X4_searchHaul_X4_haulFrom C.1.2.2.2.2) rfl rfl (Nat.le_of_ble_eq_true rfl) dX4_searchHaul_21 (fun g_5 H locs h S => ?_)
  exact kRv C S h dX4_searchHaul_24
/-! ClawCase.power(II)I, height 0 -/
def o_X7_power_4 (Q : Int32 → Mm → Prop) : Nat → Mm → Int32 → Int32 → Int32 → Int32 → Prop
  | 0, _, _, _, _, _ => False
  | n4 + 1, g, x0, x1, x2, x3 => ((x1 ≤ x3) → Q x2 g) ∧ ((¬ x1 ≤ x3) → ∀ x_1 : Int32, x_1 = (x2 * x0) → (∀ x_2 : Int32, x_2 = x3 + 1 → (o_X7_power_4 Q n4 g x0 x1 x_1 x_2)))
set_option maxHeartbeats 4000000 in
set_option maxRecDepth 100000 in
theorem o_X7_power_4_w {p : Program} {l : Launch} {e : Env} {s : State} {m : MethodId} {args : Array Value} {below : List Frame} {meth : Method} {c : Code} {dC : Nat → ClassId} {dI : Nat → Nat → Nat} {cy : Nat → ClassId} {ad tz : Nat → Nat} {Q : Int32 → Mm → Prop} (C : CX p s m args meth c dC dI cy ad tz cX7_power 4 (some .int) RX7 wsX7_power) : ∀ (n : Nat) (g : Mm) (x0 : Int32) (x1 : Int32) (x2 : Int32) (x3 : Int32) (H : Heap) (locs : List Loc) (ls : Array Slot), St dC dI cy ad s g H locs → lv_has ls 4 [(0, .int x0), (1, .int x1), (2, .int x2), (3, .int x3)] → o_X7_power_4 Q n g x0 x1 x2 x3 → W p l e (rmD 0) s m args below meth c H locs 0 0 (QI dC dI cy ad below args s Q) (F0 m 4 ls []) := by
  have hx := C.1.1
  have hb := C.1.2.1
  intro n4
  induction n4 with
  | zero => intro g x0 x1 x2 x3 H locs ls S hl h; exact h.elim
  | succ n4 ih =>
    intro g x0 x1 x2 x3 H locs ls S hl h
    have h : ((x1 ≤ x3) → Q x2 g) ∧ ((¬ x1 ≤ x3) → ∀ x_1 : Int32, x_1 = (x2 * x0) → (∀ x_2 : Int32, x_2 = x3 + 1 → (o_X7_power_4 Q n4 g x0 x1 x_1 x_2))) := h
    refine lv_iload_n hx hb dX7_power_4 rfl (lv_at hl 3 rfl) ?_
    refine lv_iload_n hx hb dX7_power_5 rfl (lv_at hl 1 rfl) ?_
    refine lv_icmp_ge (tgt := 19) hx hb dX7_power_6 (by decide) (fun c1 => ?_) (fun c1 => ?_)
    · have h := h.1 c1
      refine lv_iload_n hx hb dX7_power_19 rfl (lv_at hl 2 rfl) ?_
      exact kRi C S h dX7_power_20
    · have h := h.2 c1
      refine lv_iload_n hx hb dX7_power_9 rfl (lv_at hl 2 rfl) ?_
      refine lv_iload_n hx hb dX7_power_10 rfl (lv_at hl 0 rfl) ?_
      refine lv_imul hx hb dX7_power_11 ?_
      refine lv_topi (fun x_1 ex_1 => ?_)
      have h := h x_1 ex_1
      refine lv_istore_n (lv' := [(2, .int x_1), (0, .int x0), (1, .int x1), (3, .int x3)]) hx hb dX7_power_12 rfl hl (by decide) rfl (fun ls hl => ?_)
      obtain ⟨x_2, ex_2⟩ : ∃ y : Int32, y = x3 + 1 := ⟨_, rfl⟩
      have h := h x_2 ex_2
      refine lv_iinc (v := x_2) (lv' := [(3, .int x_2), (2, .int x_1), (0, .int x0), (1, .int x1)]) hx hb dX7_power_13 hl (k := 3) rfl (by rw [ex_2]; rfl) (by decide) rfl (fun ls hl => ?_)
      refine lv_goto (tgt := 4) hx hb dX7_power_16 (by decide) ?_
      exact ih g x0 x1 x_1 x_2 _ _ _ S (lv_sub hl [2, 3, 1, 0] rfl) h
def o_X7_power (Q : Int32 → Mm → Prop) (g : Mm) (x0 : Int32) (x1 : Int32) : Prop := ∃ n4, o_X7_power_4 Q n4 g x0 x1 1 0
set_option maxHeartbeats 4000000 in
set_option maxRecDepth 100000 in
theorem o_X7_power_c {l : Launch} {dC : Nat → ClassId} {dI : Nat → Nat → Nat} {cy : Nat → ClassId} {ad tz : Nat → Nat} {Q : Int32 → Mm → Prop} {g : Mm} {x0 : Int32} {x1 : Int32} (h : o_X7_power Q g x0 x1) : CI l dC dI cy ad tz yX7_power wsX7_power (rmD 0) [.int x0, .int x1] g Q := by
  refine CI.of (by decide) rfl rfl (Nat.le_of_ble_eq_true rfl) ?_
  intro p e s m args below meth c ls C hl S
  have hl : lv_has ls 4 [(0, .int x0), (1, .int x1)] := hl
  have hx := C.1.1
  have hb := C.1.2.1
  unfold o_X7_power at h
  refine lv_iconst (v := 1) hx hb dX7_power_0 (by decide) ?_
  refine lv_istore_n (lv' := [(2, .int 1), (0, .int x0), (1, .int x1)]) hx hb dX7_power_1 rfl hl (by decide) rfl (fun ls hl => ?_)
  refine lv_iconst (v := 0) hx hb dX7_power_2 (by decide) ?_
  refine lv_istore_n (lv' := [(3, .int 0), (2, .int 1), (0, .int x0), (1, .int x1)]) hx hb dX7_power_3 rfl hl (by decide) rfl (fun ls hl => ?_)
  obtain ⟨n4, h⟩ := h
  refine o_X7_power_4_w C n4 g x0 x1 1 0 _ _ _ S (lv_sub hl [2, 3, 1, 0] rfl) h
/-! ClawCase$Foretold.waysFrom(IIII)I, height 4 -/
theorem m_X4_waysFrom_1 : Cond.fieldLink RX4 12 "ClawCase$Foretold" "trial" "LClawCase$Box;" ∈ wsX4_waysFrom := List.mem_of_getElem? (i := 1) (by decide +kernel)
theorem n_X4_waysFrom_X4 : ∀ w ∈ wsX40, w ∈ wsX4_waysFrom := mem_by [78, 79, 80, 81, 82, 83] (by decide +kernel)
theorem m_X4_waysFrom_2 : Cond.fieldLink RX4 48 "ClawCase$Box" "places" "[I" ∈ wsX4_waysFrom := List.mem_of_getElem? (i := 2) (by decide +kernel)
theorem n_X4_waysFrom_X3 : ∀ w ∈ wsX30, w ∈ wsX4_waysFrom := mem_by [84, 85, 86, 87, 88, 89, 90, 91, 92] (by decide +kernel)
theorem m_X4_waysFrom_4 : Cond.fieldLink RX4 97 "ClawCase$Box" "low" "I" ∈ wsX4_waysFrom := List.mem_of_getElem? (i := 4) (by decide +kernel)
theorem m_X4_waysFrom_5 : Cond.fieldLink RX4 34 "ClawCase$Foretold" "steps" "[LClawCase$Before;" ∈ wsX4_waysFrom := List.mem_of_getElem? (i := 5) (by decide +kernel)
theorem cw_X4_waysFrom_X2_giveBack {s : State} {args : Array Value} {nr : Nat} (ht : ∀ w ∈ wsX4_waysFrom, w.before args s = true) : CallW (rmD (4 + (nr + 1))) s args RX4 RX2 59 yX2_giveBack cX2_giveBack 2 none wsX2_giveBack (rmD (0)) 0 0 1 := cwV 1 ht gX4_waysFrom_X2_giveBack rfl rfl rfl (by decide +kernel) ⟨by show (0) + 1 ≤ (4 + (nr + 1)); omega, by show 8 + (2 + 11) + 64 * (0) ≤ 64 * (4 + (nr + 1)); omega⟩
theorem cw_X4_waysFrom_X4_waysFrom {s : State} {args : Array Value} {nr : Nat} (ht : ∀ w ∈ wsX4_waysFrom, w.before args s = true) : CallW (rmD (4 + (nr + 1))) s args RX4 RX4 108 yX4_waysFrom cX4_waysFrom 8 (some .int) wsX4_waysFrom (rmD (4 + nr)) 0 0 4 := cwV 4 ht gX4_waysFrom_X4_waysFrom rfl rfl rfl (by decide +kernel) ⟨by show (4 + nr) + 1 ≤ (4 + (nr + 1)); omega, by show 8 + (8 + 11) + 64 * (4 + nr) ≤ 64 * (4 + (nr + 1)); omega⟩
theorem cw_X4_waysFrom_X3_playAt {s : State} {args : Array Value} {nr : Nat} (ht : ∀ w ∈ wsX4_waysFrom, w.before args s = true) : CallW (rmD (4 + (nr + 1))) s args RX4 RX3 55 yX3_playAt cX3_playAt 6 (some .int) wsX3_playAt (rmD (3)) 0 0 3 := cwV 3 ht gX4_waysFrom_X3_playAt rfl rfl rfl (by decide +kernel) ⟨by show (3) + 1 ≤ (4 + (nr + 1)); omega, by show 8 + (6 + 11) + 64 * (3) ≤ 64 * (4 + (nr + 1)); omega⟩
theorem m_X4_waysFrom_3 : Cond.fieldLink RX4 100 "ClawCase$Box" "high" "I" ∈ wsX4_waysFrom := List.mem_of_getElem? (i := 3) (by decide +kernel)
theorem m_X4_waysFrom_6 : Cond.static yX7_power ∈ wsX4_waysFrom := List.mem_of_getElem? (i := 6) (by decide +kernel)
theorem m_X4_waysFrom_7 : Cond.initialized RX7 ∈ wsX4_waysFrom := List.mem_of_getElem? (i := 7) (by decide +kernel)
theorem cw_X4_waysFrom_X7_power {s : State} {args : Array Value} {nr : Nat} (ht : ∀ w ∈ wsX4_waysFrom, w.before args s = true) (hN : NW s) : va_CN (rmD (4 + (nr + 1))) s args RX4 112 yX7_power "ClawCase" cX7_power 4 (some .int) wsX7_power (rmD (0)) 0 0 2 ∧ (Cond.static yX7_power).before args s = true ∧ True := ⟨va_cnB 2 ht gX4_waysFrom_X7_power_n112 rfl rfl rfl (hN (RX4, 112, yX7_power, "ClawCase") (by decide +kernel)) (ht _ m_X4_waysFrom_7) (by decide +kernel) ⟨by show (0) + 1 ≤ (4 + (nr + 1)); omega, by show 8 + (4 + 11) + 64 * (0) ≤ 64 * (4 + (nr + 1)); omega⟩, ht _ m_X4_waysFrom_6, trivial⟩
def o_X4_waysFrom_83 (Q : Int32 → Mm → Prop) (F : (Int32 → Mm → Prop) → Mm → Int32 → Int32 → Int32 → Int32 → Prop) (K31 : Mm → Int32 → Int32 → Int32 → Int32 → Int32 → Int32 → Prop) (g : Mm) (x1 : Int32) (x2 : Int32) (x3 : Int32) (x4 : Int32) (x5 : Int32) (x6 : Int32) (x7 : Int32) (s1 : Int32) (s2 : Int32) : Prop := vp_in (x3 - 1) 8 ∧ (o_X3_playAt (fun (r_3 : Int32) (g_2 : Mm) => F (fun (r_5 : Int32) (g_4 : Mm) => ∀ x_6 : Int32, x_6 = (x5 + (x7 * r_5)) → (vp_in (x3 - 1) 8 ∧ (o_X2_giveBack (fun (g_8 : Mm) => ∀ x_10 : Int32, x_10 = x6 + 1 → (K31 g_8 x1 x2 x3 x4 x_6 x_10)) (49 + 1 + (x3 - 1 : Int32).toNatClampNeg) 42 g_4))) g_2 x1 x2 (x3 - 1) x4) 42 (49 + 1 + (x3 - 1 : Int32).toNatClampNeg) g s1 s2)
def o_X4_waysFrom_53 (Q : Int32 → Mm → Prop) (F : (Int32 → Mm → Prop) → Mm → Int32 → Int32 → Int32 → Int32 → Prop) (K31 : Mm → Int32 → Int32 → Int32 → Int32 → Int32 → Int32 → Prop) (g : Mm) (x1 : Int32) (x2 : Int32) (x3 : Int32) (x4 : Int32) (x5 : Int32) (x6 : Int32) (s0 : Int32) : Prop := ((¬ x6 = 1) → o_X4_waysFrom_83 Q F K31 g x1 x2 x3 x4 x5 x6 s0 x2 (g.1 42 5)) ∧ ((x6 = 1) → o_X4_waysFrom_83 Q F K31 g x1 x2 x3 x4 x5 x6 s0 x2 (g.1 42 6))
def o_X4_waysFrom_31 (Q : Int32 → Mm → Prop) (F : (Int32 → Mm → Prop) → Mm → Int32 → Int32 → Int32 → Int32 → Prop) : Nat → Mm → Int32 → Int32 → Int32 → Int32 → Int32 → Int32 → Prop
  | 0, _, _, _, _, _, _, _ => False
  | n31 + 1, g, x1, x2, x3, x4, x5, x6 => ((1 < x6) → Q x5 g) ∧ ((¬ 1 < x6) → ((¬ x6 = 1) → o_X4_waysFrom_53 Q F (o_X4_waysFrom_31 Q F n31) g x1 x2 x3 x4 x5 x6 (10 - x4)) ∧ ((x6 = 1) → o_X4_waysFrom_53 Q F (o_X4_waysFrom_31 Q F n31) g x1 x2 x3 x4 x5 x6 x4))
set_option maxHeartbeats 4000000 in
set_option maxRecDepth 100000 in
theorem o_X4_waysFrom_83_w {p : Program} {l : Launch} {e : Env} {s : State} {m : MethodId} {args : Array Value} {below : List Frame} {meth : Method} {c : Code} {dC : Nat → ClassId} {dI : Nat → Nat → Nat} {cy : Nat → ClassId} {ad tz : Nat → Nat} {nr : Nat} {F : (Int32 → Mm → Prop) → Mm → Int32 → Int32 → Int32 → Int32 → Prop} {Q : Int32 → Mm → Prop} {K31 : Mm → Int32 → Int32 → Int32 → Int32 → Int32 → Int32 → Prop} (C : CX p s m args meth c dC dI cy ad tz cX4_waysFrom 8 (some .int) RX4 wsX4_waysFrom) (ihr : ∀ {Q : Int32 → Mm → Prop} {g : Mm} {x1 : Int32} {x2 : Int32} {x3 : Int32} {x4 : Int32}, F Q g x1 x2 x3 x4 → CI l dC dI cy ad tz yX4_waysFrom wsX4_waysFrom (rmD (4 + nr)) [.ref (ad 41), .int x1, .int x2, .int x3, .int x4] g Q) (hK31 : ∀ (g : Mm) (x1 : Int32) (x2 : Int32) (x3 : Int32) (x4 : Int32) (x5 : Int32) (x6 : Int32) (H : Heap) (locs : List Loc) (ls : Array Slot), St dC dI cy ad s g H locs → lv_has ls 8 [(0, .ref (ad 41)), (1, .int x1), (2, .int x2), (3, .int x3), (4, .int x4), (5, .int x5), (6, .int x6)] → K31 g x1 x2 x3 x4 x5 x6 → W p l e (rmD (4 + (nr + 1))) s m args below meth c H locs 0 0 (QI dC dI cy ad below args s Q) (F0 m 31 ls [])) : ∀ (g : Mm) (x1 : Int32) (x2 : Int32) (x3 : Int32) (x4 : Int32) (x5 : Int32) (x6 : Int32) (x7 : Int32) (s1 : Int32) (s2 : Int32) (H : Heap) (locs : List Loc) (ls : Array Slot), St dC dI cy ad s g H locs → lv_has ls 8 [(0, .ref (ad 41)), (1, .int x1), (2, .int x2), (3, .int x3), (4, .int x4), (5, .int x5), (6, .int x6), (7, .int x7)] → o_X4_waysFrom_83 Q F K31 g x1 x2 x3 x4 x5 x6 x7 s1 s2 → W p l e (rmD (4 + (nr + 1))) s m args below meth c H locs 0 0 (QI dC dI cy ad below args s Q) (F0 m 83 ls [.int s2, .int s1, .ref (ad 42)]) := by
  have hx := C.1.1
  have hb := C.1.2.1
  intro g x1 x2 x3 x4 x5 x6 x7 s1 s2 H locs ls S hl h
  unfold o_X4_waysFrom_83 at h
  refine lv_aload_n hx hb dX4_waysFrom_83 rfl (lv_at hl 0 rfl) ?_
  refine kg4 (k := 5) (v := .ref (ad 49)) C S rfl (by decide) n_X4_waysFrom_X4 m_X4_waysFrom_5 rfl dX4_waysFrom_84 ?_
  refine lv_iload_n hx hb dX4_waysFrom_87 rfl (lv_at hl 3 rfl) ?_
  refine lv_iconst (v := 1) hx hb dX4_waysFrom_88 (by decide) ?_
  refine lv_isub hx hb dX4_waysFrom_89 ?_
  obtain ⟨hi_1, h⟩ := h
  refine kAb C S rfl rfl hi_1 dX4_waysFrom_90 ?_
  refine kV_i (As := [.int s1, .int s2, .ref (ad (49 + 1 + (x3 - 1 : Int32).toNatClampNeg))]) (rest := []) C S hl.1 (o_X3_playAt_c rfl (ly_steps _ (in_lt hi_1)) h) (wd_o3 rfl) rfl (cw_X4_waysFrom_X3_playAt C.1.2.2.2.2) rfl rfl (Nat.le_of_ble_eq_true rfl) dX4_waysFrom_91 (fun r_3 g_2 H locs h S => ?_)
  refine lv_pop hx hb dX4_waysFrom_94 rfl ?_
  refine lv_iload hx hb dX4_waysFrom_95 (lv_at hl 5 rfl) ?_
  refine lv_iload hx hb dX4_waysFrom_97 (lv_at hl 7 rfl) ?_
  refine lv_aload_n hx hb dX4_waysFrom_99 rfl (lv_at hl 0 rfl) ?_
  refine lv_iload_n hx hb dX4_waysFrom_100 rfl (lv_at hl 1 rfl) ?_
  refine lv_iload_n hx hb dX4_waysFrom_101 rfl (lv_at hl 2 rfl) ?_
  refine lv_iload_n hx hb dX4_waysFrom_102 rfl (lv_at hl 3 rfl) ?_
  refine lv_iconst (v := 1) hx hb dX4_waysFrom_103 (by decide) ?_
  refine lv_isub hx hb dX4_waysFrom_104 ?_
  refine lv_iload hx hb dX4_waysFrom_105 (lv_at hl 4 rfl) ?_
  refine kV_i (As := [.int x1, .int x2, .int (x3 - 1), .int x4]) (rest := [.int x7, .int x5]) C S hl.1 (ihr h) (wd_o4 rfl) rfl (cw_X4_waysFrom_X4_waysFrom C.1.2.2.2.2) rfl rfl (Nat.le_of_ble_eq_true rfl) dX4_waysFrom_107 (fun r_5 g_4 H locs h S => ?_)
  refine lv_imul hx hb dX4_waysFrom_110 ?_
  refine lv_iadd hx hb dX4_waysFrom_111 ?_
  refine lv_topi (fun x_6 ex_6 => ?_)
  have h := h x_6 ex_6
  refine lv_istore (lv' := [(5, .int x_6), (0, .ref (ad 41)), (1, .int x1), (2, .int x2), (3, .int x3), (4, .int x4), (6, .int x6), (7, .int x7)]) hx hb dX4_waysFrom_112 hl (by decide) rfl (fun ls hl => ?_)
  refine lv_aload_n hx hb dX4_waysFrom_114 rfl (lv_at hl 1 rfl) ?_
  refine kg4 (k := 5) (v := .ref (ad 49)) C S rfl (by decide) n_X4_waysFrom_X4 m_X4_waysFrom_5 rfl dX4_waysFrom_115 ?_
  refine lv_iload_n hx hb dX4_waysFrom_118 rfl (lv_at hl 4 rfl) ?_
  refine lv_iconst (v := 1) hx hb dX4_waysFrom_119 (by decide) ?_
  refine lv_isub hx hb dX4_waysFrom_120 ?_
  obtain ⟨hi_7, h⟩ := h
  refine kAb C S rfl rfl hi_7 dX4_waysFrom_121 ?_
  refine lv_aload_n hx hb dX4_waysFrom_122 rfl (lv_at hl 1 rfl) ?_
  refine kg4 (k := 0) (v := .ref (ad 42)) C S rfl (by decide) n_X4_waysFrom_X4 m_X4_waysFrom_1 rfl dX4_waysFrom_123 ?_
  refine kV_v (As := [.ref (ad 42)]) (rest := []) C S hl.1 (o_X2_giveBack_c (ly_steps _ (in_lt hi_7)) rfl h) (wd_o2 (ly_steps _ (in_lt hi_7))) rfl (cw_X4_waysFrom_X2_giveBack C.1.2.2.2.2) rfl rfl (Nat.le_of_ble_eq_true rfl) dX4_waysFrom_126 (fun g_8 H locs h S => ?_)
  obtain ⟨x_10, ex_10⟩ : ∃ y : Int32, y = x6 + 1 := ⟨_, rfl⟩
  have h := h x_10 ex_10
  refine lv_iinc (v := x_10) (lv' := [(6, .int x_10), (5, .int x_6), (0, .ref (ad 41)), (1, .int x1), (2, .int x2), (3, .int x3), (4, .int x4), (7, .int x7)]) hx hb dX4_waysFrom_129 hl (k := 6) rfl (by rw [ex_10]; rfl) (by decide) rfl (fun ls hl => ?_)
  refine lv_goto (tgt := 31) hx hb dX4_waysFrom_132 (by decide) ?_
  exact hK31 g_8 x1 x2 x3 x4 x_6 x_10 _ _ _ S (lv_sub hl [2, 3, 4, 5, 6, 1, 0] rfl) h
set_option maxHeartbeats 4000000 in
set_option maxRecDepth 100000 in
theorem o_X4_waysFrom_53_w {p : Program} {l : Launch} {e : Env} {s : State} {m : MethodId} {args : Array Value} {below : List Frame} {meth : Method} {c : Code} {dC : Nat → ClassId} {dI : Nat → Nat → Nat} {cy : Nat → ClassId} {ad tz : Nat → Nat} {nr : Nat} {F : (Int32 → Mm → Prop) → Mm → Int32 → Int32 → Int32 → Int32 → Prop} {Q : Int32 → Mm → Prop} {K31 : Mm → Int32 → Int32 → Int32 → Int32 → Int32 → Int32 → Prop} (C : CX p s m args meth c dC dI cy ad tz cX4_waysFrom 8 (some .int) RX4 wsX4_waysFrom) (ihr : ∀ {Q : Int32 → Mm → Prop} {g : Mm} {x1 : Int32} {x2 : Int32} {x3 : Int32} {x4 : Int32}, F Q g x1 x2 x3 x4 → CI l dC dI cy ad tz yX4_waysFrom wsX4_waysFrom (rmD (4 + nr)) [.ref (ad 41), .int x1, .int x2, .int x3, .int x4] g Q) (hK31 : ∀ (g : Mm) (x1 : Int32) (x2 : Int32) (x3 : Int32) (x4 : Int32) (x5 : Int32) (x6 : Int32) (H : Heap) (locs : List Loc) (ls : Array Slot), St dC dI cy ad s g H locs → lv_has ls 8 [(0, .ref (ad 41)), (1, .int x1), (2, .int x2), (3, .int x3), (4, .int x4), (5, .int x5), (6, .int x6)] → K31 g x1 x2 x3 x4 x5 x6 → W p l e (rmD (4 + (nr + 1))) s m args below meth c H locs 0 0 (QI dC dI cy ad below args s Q) (F0 m 31 ls [])) : ∀ (g : Mm) (x1 : Int32) (x2 : Int32) (x3 : Int32) (x4 : Int32) (x5 : Int32) (x6 : Int32) (s0 : Int32) (H : Heap) (locs : List Loc) (ls : Array Slot), St dC dI cy ad s g H locs → lv_has ls 8 [(0, .ref (ad 41)), (1, .int x1), (2, .int x2), (3, .int x3), (4, .int x4), (5, .int x5), (6, .int x6)] → o_X4_waysFrom_53 Q F K31 g x1 x2 x3 x4 x5 x6 s0 → W p l e (rmD (4 + (nr + 1))) s m args below meth c H locs 0 0 (QI dC dI cy ad below args s Q) (F0 m 53 ls [.int s0]) := by
  have hx := C.1.1
  have hb := C.1.2.1
  intro g x1 x2 x3 x4 x5 x6 s0 H locs ls S hl h
  unfold o_X4_waysFrom_53 at h
  refine lv_istore (lv' := [(7, .int s0), (0, .ref (ad 41)), (1, .int x1), (2, .int x2), (3, .int x3), (4, .int x4), (5, .int x5), (6, .int x6)]) hx hb dX4_waysFrom_53 hl (by decide) rfl (fun ls hl => ?_)
  refine lv_aload_n hx hb dX4_waysFrom_55 rfl (lv_at hl 1 rfl) ?_
  refine kg4 (k := 0) (v := .ref (ad 42)) C S rfl (by decide) n_X4_waysFrom_X4 m_X4_waysFrom_1 rfl dX4_waysFrom_56 ?_
  refine lv_iload_n hx hb dX4_waysFrom_59 rfl (lv_at hl 3 rfl) ?_
  refine lv_iload hx hb dX4_waysFrom_60 (lv_at hl 7 rfl) ?_
  refine lv_iconst (v := 1) hx hb dX4_waysFrom_62 (by decide) ?_
  refine lv_icmp_ne (tgt := 76) hx hb dX4_waysFrom_63 (by decide) (fun c1 => ?_) (fun c1 => ?_)
  · have h := h.1 c1
    refine lv_aload_n hx hb dX4_waysFrom_76 rfl (lv_at hl 1 rfl) ?_
    refine kg4 (k := 0) (v := .ref (ad 42)) C S rfl (by decide) n_X4_waysFrom_X4 m_X4_waysFrom_1 rfl dX4_waysFrom_77 ?_
    refine kg3 (k := 5) (v := .int (g.1 42 5)) C S rfl (by decide) n_X4_waysFrom_X3 m_X4_waysFrom_4 rfl dX4_waysFrom_80 ?_
    exact o_X4_waysFrom_83_w C ihr hK31 g x1 x2 x3 x4 x5 x6 s0 x2 (g.1 42 5) _ _ _ S (lv_sub hl [1, 2, 3, 4, 5, 6, 7, 0] rfl) h
  · have h := h.2 c1
    refine lv_aload_n hx hb dX4_waysFrom_66 rfl (lv_at hl 1 rfl) ?_
    refine kg4 (k := 0) (v := .ref (ad 42)) C S rfl (by decide) n_X4_waysFrom_X4 m_X4_waysFrom_1 rfl dX4_waysFrom_67 ?_
    refine kg3 (k := 6) (v := .int (g.1 42 6)) C S rfl (by decide) n_X4_waysFrom_X3 m_X4_waysFrom_3 rfl dX4_waysFrom_70 ?_
    refine lv_goto (tgt := 83) hx hb dX4_waysFrom_73 (by decide) ?_
    exact o_X4_waysFrom_83_w C ihr hK31 g x1 x2 x3 x4 x5 x6 s0 x2 (g.1 42 6) _ _ _ S (lv_sub hl [1, 2, 3, 4, 5, 6, 7, 0] rfl) h
set_option maxHeartbeats 4000000 in
set_option maxRecDepth 100000 in
theorem o_X4_waysFrom_31_w {p : Program} {l : Launch} {e : Env} {s : State} {m : MethodId} {args : Array Value} {below : List Frame} {meth : Method} {c : Code} {dC : Nat → ClassId} {dI : Nat → Nat → Nat} {cy : Nat → ClassId} {ad tz : Nat → Nat} {nr : Nat} {F : (Int32 → Mm → Prop) → Mm → Int32 → Int32 → Int32 → Int32 → Prop} {Q : Int32 → Mm → Prop} (C : CX p s m args meth c dC dI cy ad tz cX4_waysFrom 8 (some .int) RX4 wsX4_waysFrom) (ihr : ∀ {Q : Int32 → Mm → Prop} {g : Mm} {x1 : Int32} {x2 : Int32} {x3 : Int32} {x4 : Int32}, F Q g x1 x2 x3 x4 → CI l dC dI cy ad tz yX4_waysFrom wsX4_waysFrom (rmD (4 + nr)) [.ref (ad 41), .int x1, .int x2, .int x3, .int x4] g Q) : ∀ (n : Nat) (g : Mm) (x1 : Int32) (x2 : Int32) (x3 : Int32) (x4 : Int32) (x5 : Int32) (x6 : Int32) (H : Heap) (locs : List Loc) (ls : Array Slot), St dC dI cy ad s g H locs → lv_has ls 8 [(0, .ref (ad 41)), (1, .int x1), (2, .int x2), (3, .int x3), (4, .int x4), (5, .int x5), (6, .int x6)] → o_X4_waysFrom_31 Q F n g x1 x2 x3 x4 x5 x6 → W p l e (rmD (4 + (nr + 1))) s m args below meth c H locs 0 0 (QI dC dI cy ad below args s Q) (F0 m 31 ls []) := by
  have hx := C.1.1
  have hb := C.1.2.1
  intro n31
  induction n31 with
  | zero => intro g x1 x2 x3 x4 x5 x6 H locs ls S hl h; exact h.elim
  | succ n31 ih =>
    intro g x1 x2 x3 x4 x5 x6 H locs ls S hl h
    have h : ((1 < x6) → Q x5 g) ∧ ((¬ 1 < x6) → ((¬ x6 = 1) → o_X4_waysFrom_53 Q F (o_X4_waysFrom_31 Q F n31) g x1 x2 x3 x4 x5 x6 (10 - x4)) ∧ ((x6 = 1) → o_X4_waysFrom_53 Q F (o_X4_waysFrom_31 Q F n31) g x1 x2 x3 x4 x5 x6 x4)) := h
    refine lv_iload hx hb dX4_waysFrom_31 (lv_at hl 6 rfl) ?_
    refine lv_iconst (v := 1) hx hb dX4_waysFrom_33 (by decide) ?_
    refine lv_icmp_gt (tgt := 135) hx hb dX4_waysFrom_34 (by decide) (fun c1 => ?_) (fun c1 => ?_)
    · have h := h.1 c1
      refine lv_iload hx hb dX4_waysFrom_135 (lv_at hl 5 rfl) ?_
      exact kRi C S h dX4_waysFrom_137
    · have h := h.2 c1
      refine lv_iload hx hb dX4_waysFrom_37 (lv_at hl 6 rfl) ?_
      refine lv_iconst (v := 1) hx hb dX4_waysFrom_39 (by decide) ?_
      refine lv_icmp_ne (tgt := 48) hx hb dX4_waysFrom_40 (by decide) (fun c1 => ?_) (fun c1 => ?_)
      · have h := h.1 c1
        refine lv_bipush (v := 10) hx hb dX4_waysFrom_48 (by decide) ?_
        refine lv_iload hx hb dX4_waysFrom_50 (lv_at hl 4 rfl) ?_
        refine lv_isub hx hb dX4_waysFrom_52 ?_
        exact o_X4_waysFrom_53_w C ihr ih g x1 x2 x3 x4 x5 x6 (10 - x4) _ _ _ S (lv_sub hl [0, 1, 2, 3, 4, 5, 6] rfl) h
      · have h := h.2 c1
        refine lv_iload hx hb dX4_waysFrom_43 (lv_at hl 4 rfl) ?_
        refine lv_goto (tgt := 53) hx hb dX4_waysFrom_45 (by decide) ?_
        exact o_X4_waysFrom_53_w C ihr ih g x1 x2 x3 x4 x5 x6 x4 _ _ _ S (lv_sub hl [0, 1, 2, 3, 4, 5, 6] rfl) h
def o_X4_waysFrom_0 (F : (Int32 → Mm → Prop) → Mm → Int32 → Int32 → Int32 → Int32 → Prop) (Q : Int32 → Mm → Prop) (g : Mm) (x1 : Int32) (x2 : Int32) (x3 : Int32) (x4 : Int32) : Prop := vp_in x1 7 ∧ (((¬ (g.1 45 x1.toNatClampNeg) = 0) → ((0 < x3) → ∃ n31, o_X4_waysFrom_31 Q F n31 g x1 x2 x3 x4 0 0) ∧ ((¬ 0 < x3) → Q 0 g)) ∧ (((g.1 45 x1.toNatClampNeg) = 0) → o_X7_power (fun (r_12 : Int32) (g_11 : Mm) => Q r_12 g_11) g 10 x3))
def o_X4_waysFrom : Nat → (Int32 → Mm → Prop) → Mm → Int32 → Int32 → Int32 → Int32 → Prop
  | 0 => fun _ _ _ _ _ _ => False
  | nr + 1 => fun Q g x1 x2 x3 x4 => o_X4_waysFrom_0 (o_X4_waysFrom nr) Q g x1 x2 x3 x4
set_option maxHeartbeats 4000000 in
set_option maxRecDepth 100000 in
theorem o_X4_waysFrom_0_c {l : Launch} {dC : Nat → ClassId} {dI : Nat → Nat → Nat} {cy : Nat → ClassId} {ad tz : Nat → Nat} {nr : Nat} {F : (Int32 → Mm → Prop) → Mm → Int32 → Int32 → Int32 → Int32 → Prop} (ihr : ∀ {Q : Int32 → Mm → Prop} {g : Mm} {x1 : Int32} {x2 : Int32} {x3 : Int32} {x4 : Int32}, F Q g x1 x2 x3 x4 → CI l dC dI cy ad tz yX4_waysFrom wsX4_waysFrom (rmD (4 + nr)) [.ref (ad 41), .int x1, .int x2, .int x3, .int x4] g Q) {Q : Int32 → Mm → Prop} {g : Mm} {x1 : Int32} {x2 : Int32} {x3 : Int32} {x4 : Int32} (h : o_X4_waysFrom_0 F Q g x1 x2 x3 x4) : CI l dC dI cy ad tz yX4_waysFrom wsX4_waysFrom (rmD (4 + (nr + 1))) [.ref (ad 41), .int x1, .int x2, .int x3, .int x4] g Q := by
  refine CI.of (by decide) rfl rfl (Nat.le_of_ble_eq_true rfl) ?_
  intro p e s m args below meth c ls C hl S
  have hl : lv_has ls 8 [(0, .ref (ad 41)), (1, .int x1), (2, .int x2), (3, .int x3), (4, .int x4)] := hl
  have hx := C.1.1
  have hb := C.1.2.1
  unfold o_X4_waysFrom_0 at h
  refine lv_aload_n hx hb dX4_waysFrom_0 rfl (lv_at hl 0 rfl) ?_
  refine kg4 (k := 0) (v := .ref (ad 42)) C S rfl (by decide) n_X4_waysFrom_X4 m_X4_waysFrom_1 rfl dX4_waysFrom_1 ?_
  refine kg3 (k := 2) (v := .ref (ad 45)) C S rfl (by decide) n_X4_waysFrom_X3 m_X4_waysFrom_2 rfl dX4_waysFrom_4 ?_
  refine lv_iload_n hx hb dX4_waysFrom_7 rfl (lv_at hl 1 rfl) ?_
  obtain ⟨hi, h⟩ := h
  refine kLi C S rfl rfl hi dX4_waysFrom_8 ?_
  refine lv_if_ne (tgt := 19) hx hb dX4_waysFrom_9 (by decide) (fun c1 => ?_) (fun c1 => ?_)
  · have h := h.1 c1
    refine lv_iload_n hx hb dX4_waysFrom_19 rfl (lv_at hl 3 rfl) ?_
    refine lv_if_gt (tgt := 25) hx hb dX4_waysFrom_20 (by decide) (fun c1 => ?_) (fun c1 => ?_)
    · have h := h.1 c1
      refine lv_iconst (v := 0) hx hb dX4_waysFrom_25 (by decide) ?_
      refine lv_istore (lv' := [(5, .int 0), (0, .ref (ad 41)), (1, .int x1), (2, .int x2), (3, .int x3), (4, .int x4)]) hx hb dX4_waysFrom_26 hl (by decide) rfl (fun ls hl => ?_)
      refine lv_iconst (v := 0) hx hb dX4_waysFrom_28 (by decide) ?_
      refine lv_istore (lv' := [(6, .int 0), (5, .int 0), (0, .ref (ad 41)), (1, .int x1), (2, .int x2), (3, .int x3), (4, .int x4)]) hx hb dX4_waysFrom_29 hl (by decide) rfl (fun ls hl => ?_)
      obtain ⟨n31, h⟩ := h
      refine o_X4_waysFrom_31_w C ihr n31 g x1 x2 x3 x4 0 0 _ _ _ S (lv_sub hl [2, 3, 4, 5, 6, 1, 0] rfl) h
    · have h := h.2 c1
      refine lv_iconst (v := 0) hx hb dX4_waysFrom_23 (by decide) ?_
      exact kRi C S h dX4_waysFrom_24
  · have h := h.2 c1
    refine lv_bipush (v := 10) hx hb dX4_waysFrom_12 (by decide) ?_
    refine lv_iload_n hx hb dX4_waysFrom_14 rfl (lv_at hl 3 rfl) ?_
    refine kN_i (As := [.int 10, .int x3]) (rest := []) C S hl.1 (o_X7_power_c h) (cw_X4_waysFrom_X7_power C.1.2.2.2.2 C.2.2.2.1) rfl rfl (Nat.le_of_ble_eq_true rfl) dX4_waysFrom_15 (fun r_12 g_11 H locs h S => ?_)
    exact kRi C S h dX4_waysFrom_18
theorem o_X4_waysFrom_c {l : Launch} {dC : Nat → ClassId} {dI : Nat → Nat → Nat} {cy : Nat → ClassId} {ad tz : Nat → Nat} : ∀ (nr : Nat) {Q : Int32 → Mm → Prop} {g : Mm} {x1 : Int32} {x2 : Int32} {x3 : Int32} {x4 : Int32}, o_X4_waysFrom nr Q g x1 x2 x3 x4 → CI l dC dI cy ad tz yX4_waysFrom wsX4_waysFrom (rmD (4 + nr)) [.ref (ad 41), .int x1, .int x2, .int x3, .int x4] g Q := by
  intro nr
  induction nr with
  | zero => intro Q g x1 x2 x3 x4 h; exact absurd h (fun q => q)
  | succ nr ih => intro Q g x1 x2 x3 x4 h; exact o_X4_waysFrom_0_c (F := o_X4_waysFrom nr) (fun {Q} {g} {x1} {x2} {x3} {x4} h => ih h) h
/-! ClawCase$Foretold.waysToWin(LClawCase$Box;IIII)I, height 15 -/
theorem m_X4_waysToWin_1 : Cond.fieldLink RX4 12 "ClawCase$Foretold" "trial" "LClawCase$Box;" ∈ wsX4_waysToWin := List.mem_of_getElem? (i := 1) (by decide +kernel)
theorem n_X4_waysToWin_X4 : ∀ w ∈ wsX40, w ∈ wsX4_waysToWin := mem_by [90, 91, 92, 93, 94, 95] (by decide +kernel)
theorem cw_X4_waysToWin_X4_waysFrom {s : State} {args : Array Value} (ht : ∀ w ∈ wsX4_waysToWin, w.before args s = true) : CallW (rmD 15) s args RX4 RX4 108 yX4_waysFrom cX4_waysFrom 8 (some .int) wsX4_waysFrom (rmD (4 + 10)) 0 0 4 := cwV 4 ht gX4_waysToWin_X4_waysFrom rfl rfl rfl (by decide +kernel) ⟨Nat.le_of_ble_eq_true rfl, Nat.le_of_ble_eq_true rfl⟩
theorem cw_X4_waysToWin_X3_become {s : State} {args : Array Value} (ht : ∀ w ∈ wsX4_waysToWin, w.before args s = true) : CallW (rmD 15) s args RX4 RX3 39 yX3_become cX3_become 2 none wsX3_become (rmD (1)) 0 0 1 := cwV 1 ht gX4_waysToWin_X3_become rfl rfl rfl (by decide +kernel) ⟨Nat.le_of_ble_eq_true rfl, Nat.le_of_ble_eq_true rfl⟩
def o_X4_waysToWin (Q : Int32 → Mm → Prop) (j1 : Nat) (g : Mm) (x2 : Int32) (x3 : Int32) (x4 : Int32) (x5 : Int32) : Prop := o_X3_become (fun (g_1 : Mm) => o_X4_waysFrom 10 (fun (r_4 : Int32) (g_3 : Mm) => Q r_4 g_3) g_1 x2 x3 x4 x5) 42 j1 g
set_option maxHeartbeats 4000000 in
set_option maxRecDepth 100000 in
theorem o_X4_waysToWin_c {l : Launch} {dC : Nat → ClassId} {dI : Nat → Nat → Nat} {cy : Nat → ClassId} {ad tz : Nat → Nat} {Q : Int32 → Mm → Prop} {j1 : Nat} {g : Mm} {x2 : Int32} {x3 : Int32} {x4 : Int32} {x5 : Int32} (hj1 : ly j1 = 3) (h : o_X4_waysToWin Q j1 g x2 x3 x4 x5) : CI l dC dI cy ad tz yX4_waysToWin wsX4_waysToWin (rmD 15) [.ref (ad 41), .ref (ad j1), .int x2, .int x3, .int x4, .int x5] g Q := by
  refine CI.of (by decide) rfl rfl (Nat.le_of_ble_eq_true rfl) ?_
  intro p e s m args below meth c ls C hl S
  have hl : lv_has ls 6 [(0, .ref (ad 41)), (1, .ref (ad j1)), (2, .int x2), (3, .int x3), (4, .int x4), (5, .int x5)] := hl
  have hx := C.1.1
  have hb := C.1.2.1
  unfold o_X4_waysToWin at h
  refine lv_aload_n hx hb dX4_waysToWin_0 rfl (lv_at hl 0 rfl) ?_
  refine kg4 (k := 0) (v := .ref (ad 42)) C S rfl (by decide) n_X4_waysToWin_X4 m_X4_waysToWin_1 rfl dX4_waysToWin_1 ?_
  refine lv_aload_n hx hb dX4_waysToWin_4 rfl (lv_at hl 1 rfl) ?_
  refine kV_v (As := [.ref (ad j1)]) (rest := []) C S hl.1 (o_X3_become_c rfl hj1 h) (wd_o3 rfl) rfl (cw_X4_waysToWin_X3_become C.1.2.2.2.2) rfl rfl (Nat.le_of_ble_eq_true rfl) dX4_waysToWin_5 (fun g_1 H locs h S => ?_)
  refine lv_aload_n hx hb dX4_waysToWin_8 rfl (lv_at hl 0 rfl) ?_
  refine lv_iload_n hx hb dX4_waysToWin_9 rfl (lv_at hl 2 rfl) ?_
  refine lv_iload_n hx hb dX4_waysToWin_10 rfl (lv_at hl 3 rfl) ?_
  refine lv_iload hx hb dX4_waysToWin_11 (lv_at hl 4 rfl) ?_
  refine lv_iload hx hb dX4_waysToWin_13 (lv_at hl 5 rfl) ?_
  refine kV_i (As := [.int x2, .int x3, .int x4, .int x5]) (rest := []) C S hl.1 (o_X4_waysFrom_c 10 h) (wd_o4 rfl) rfl (cw_X4_waysToWin_X4_waysFrom C.1.2.2.2.2) rfl rfl (Nat.le_of_ble_eq_true rfl) dX4_waysToWin_15 (fun r_4 g_3 H locs h S => ?_)
  exact kRi C S h dX4_waysToWin_18
/-! ClawCase$Foretold.winsByDraws(LClawCase$Box;II)I, height 4 -/
theorem m_X4_winsByDraws_1 : Cond.fieldLink RX4 12 "ClawCase$Foretold" "trial" "LClawCase$Box;" ∈ wsX4_winsByDraws := List.mem_of_getElem? (i := 1) (by decide +kernel)
theorem n_X4_winsByDraws_X4 : ∀ w ∈ wsX40, w ∈ wsX4_winsByDraws := mem_by [91, 92, 93, 94, 95, 96] (by decide +kernel)
theorem m_X4_winsByDraws_2 : Cond.constantLong RX4 116 (16807) ∈ wsX4_winsByDraws := List.mem_of_getElem? (i := 2) (by decide +kernel)
theorem m_X4_winsByDraws_3 : Cond.constantLong RX4 118 (2147483647) ∈ wsX4_winsByDraws := List.mem_of_getElem? (i := 3) (by decide +kernel)
theorem m_X4_winsByDraws_4 : Cond.fieldLink RX4 120 "ClawCase$Box" "toys" "I" ∈ wsX4_winsByDraws := List.mem_of_getElem? (i := 4) (by decide +kernel)
theorem n_X4_winsByDraws_X3 : ∀ w ∈ wsX30, w ∈ wsX4_winsByDraws := mem_by [97, 98, 99, 100, 101, 102, 103, 104, 105] (by decide +kernel)
theorem m_X4_winsByDraws_5 : Cond.methodLink RX4 123 Lib.Math.max.name ∈ wsX4_winsByDraws := List.mem_of_getElem? (i := 5) (by decide +kernel)
theorem m_X4_winsByDraws_6 : Cond.static Lib.Math.max.name ∈ wsX4_winsByDraws := List.mem_of_getElem? (i := 6) (by decide +kernel)
theorem m_X4_winsByDraws_7 : Cond.initialized "java/lang/Math" ∈ wsX4_winsByDraws := List.mem_of_getElem? (i := 7) (by decide +kernel)
theorem m_X4_winsByDraws_8 : Cond.code Lib.Math.max.name Lib.Math.max.code 2 (some .int) ∈ wsX4_winsByDraws := List.mem_of_getElem? (i := 8) (by decide +kernel)
theorem m_X4_winsByDraws_9 : Cond.fieldLink RX4 48 "ClawCase$Box" "places" "[I" ∈ wsX4_winsByDraws := List.mem_of_getElem? (i := 9) (by decide +kernel)
theorem m_X4_winsByDraws_11 : Cond.constantLong RX4 137 (2) ∈ wsX4_winsByDraws := List.mem_of_getElem? (i := 11) (by decide +kernel)
theorem m_X4_winsByDraws_10 : Cond.constantLong RX4 132 (5) ∈ wsX4_winsByDraws := List.mem_of_getElem? (i := 10) (by decide +kernel)
theorem m_X4_winsByDraws_12 : Cond.fieldLink RX4 34 "ClawCase$Foretold" "steps" "[LClawCase$Before;" ∈ wsX4_winsByDraws := List.mem_of_getElem? (i := 12) (by decide +kernel)
theorem cw_X4_winsByDraws_X3_playAt {s : State} {args : Array Value} (ht : ∀ w ∈ wsX4_winsByDraws, w.before args s = true) : CallW (rmD 4) s args RX4 RX3 55 yX3_playAt cX3_playAt 6 (some .int) wsX3_playAt (rmD (3)) 0 0 3 := cwV 3 ht gX4_winsByDraws_X3_playAt rfl rfl rfl (by decide +kernel) ⟨Nat.le_of_ble_eq_true rfl, Nat.le_of_ble_eq_true rfl⟩
theorem cw_X4_winsByDraws_X3_gripAhead {s : State} {args : Array Value} (ht : ∀ w ∈ wsX4_winsByDraws, w.before args s = true) : CallW (rmD 4) s args RX4 RX3 51 yX3_gripAhead cX3_gripAhead 2 (some .int) wsX3_gripAhead (rmD (0)) 0 0 1 := cwV 1 ht gX4_winsByDraws_X3_gripAhead rfl rfl rfl (by decide +kernel) ⟨Nat.le_of_ble_eq_true rfl, Nat.le_of_ble_eq_true rfl⟩
theorem cw_X4_winsByDraws_X3_lay {s : State} {args : Array Value} (ht : ∀ w ∈ wsX4_winsByDraws, w.before args s = true) : CallW (rmD 4) s args RX4 RX3 134 yX3_lay cX3_lay 3 none wsX3_lay (rmD (2)) 0 0 2 := cwV 2 ht gX4_winsByDraws_X3_lay rfl rfl rfl (by decide +kernel) ⟨Nat.le_of_ble_eq_true rfl, Nat.le_of_ble_eq_true rfl⟩
theorem m_X4_winsByDraws_31 : Cond.static yX7_isColumn ∈ wsX4_winsByDraws := List.mem_of_getElem? (i := 31) (by decide +kernel)
theorem m_X4_winsByDraws_32 : Cond.initialized RX7 ∈ wsX4_winsByDraws := List.mem_of_getElem? (i := 32) (by decide +kernel)
theorem cw_X4_winsByDraws_X7_isColumn {s : State} {args : Array Value} (ht : ∀ w ∈ wsX4_winsByDraws, w.before args s = true) (hN : NW s) : va_CN (rmD 4) s args RX4 128 yX7_isColumn "ClawCase" cX7_isColumn 1 (some .boolean) wsX7_isColumn (rmD (1)) 0 0 1 ∧ (Cond.static yX7_isColumn).before args s = true ∧ True := ⟨va_cnB 1 ht gX4_winsByDraws_X7_isColumn_n128 rfl rfl rfl (hN (RX4, 128, yX7_isColumn, "ClawCase") (by decide +kernel)) (ht _ m_X4_winsByDraws_32) (by decide +kernel) ⟨Nat.le_of_ble_eq_true rfl, Nat.le_of_ble_eq_true rfl⟩, ht _ m_X4_winsByDraws_31, trivial⟩
theorem cw_X4_winsByDraws_X3_become {s : State} {args : Array Value} (ht : ∀ w ∈ wsX4_winsByDraws, w.before args s = true) : CallW (rmD 4) s args RX4 RX3 39 yX3_become cX3_become 2 none wsX3_become (rmD (1)) 0 0 1 := cwV 1 ht gX4_winsByDraws_X3_become rfl rfl rfl (by decide +kernel) ⟨Nat.le_of_ble_eq_true rfl, Nat.le_of_ble_eq_true rfl⟩
def o_X4_winsByDraws_132 (Q : Int32 → Mm → Prop) (K18 : Mm → Int32 → Int32 → Int64 → Int32 → Prop) (j1 : Nat) (g : Mm) (x2 : Int32) (x4 : Int32) (y5 : Int64) (x7 : Int32) : Prop := ∀ x_14 : Int32, x_14 = x7 + 1 → (K18 g x2 x4 y5 x_14)
def o_X4_winsByDraws_88 (Q : Int32 → Mm → Prop) (K18 : Mm → Int32 → Int32 → Int64 → Int32 → Prop) (j1 : Nat) (g : Mm) (x2 : Int32) (x4 : Int32) (y5 : Int64) (x7 : Int32) : Prop := ¬ (2 : Int64) = 0 ∧ (¬ (5 : Int64) = 0 ∧ (∀ x_8 : Int32, x_8 = ((((y5 / 2) - (y5 / 2) / 5 * 5 : Int64).toInt32) + 1) → (o_X3_gripAhead (fun (r_10 : Int32) (g_9 : Mm) => vp_in 0 8 ∧ (o_X3_playAt (fun (r_13 : Int32) (g_12 : Mm) => ((¬ r_13 = 0) → o_X4_winsByDraws_132 Q K18 j1 g_12 x2 x4 y5 x7) ∧ ((r_13 = 0) → ∀ x_15 : Int32, x_15 = x4 + 1 → (o_X4_winsByDraws_132 Q K18 j1 g_12 x2 x_15 y5 x7))) 42 (49 + 1 + (0 : Int32).toNatClampNeg) g_9 x_8 r_10)) 42 g 0)))
def o_X4_winsByDraws_18 (Q : Int32 → Mm → Prop) (j1 : Nat) : Nat → Mm → Int32 → Int32 → Int64 → Int32 → Prop
  | 0, _, _, _, _, _ => False
  | n18 + 1, g, x2, x4, y5, x7 => ((x2 ≤ x7) → Q x4 g) ∧ ((¬ x2 ≤ x7) → ¬ (2147483647 : Int64) = 0 ∧ (∀ y_4 : Int64, y_4 = ((y5 * 16807) - (y5 * 16807) / 2147483647 * 2147483647) → (¬ ((if (1 : Int32) < (g.1 42 4) then (g.1 42 4) else 1 : Int32).toInt64 : Int64) = 0 ∧ (∀ x_5 : Int32, x_5 = ((y_4 - y_4 / ((if (1 : Int32) < (g.1 42 4) then (g.1 42 4) else 1 : Int32).toInt64) * ((if (1 : Int32) < (g.1 42 4) then (g.1 42 4) else 1 : Int32).toInt64) : Int64).toInt32) → (vp_in x_5 7 ∧ (o_X7_isColumn (fun (r_7 : Int32) (g_6 : Mm) => ((¬ r_7 = 0) → o_X4_winsByDraws_88 Q (o_X4_winsByDraws_18 Q j1 n18) j1 g_6 x2 x4 y_4 x7) ∧ ((r_7 = 0) → ¬ (5 : Int64) = 0 ∧ (o_X3_lay (fun (g_16 : Mm) => o_X4_winsByDraws_88 Q (o_X4_winsByDraws_18 Q j1 n18) j1 g_16 x2 x4 y_4 x7) 42 g_6 x_5 (((y_4 - y_4 / 5 * 5 : Int64).toInt32) + 1)))) g (g.1 45 x_5.toNatClampNeg)))))))
set_option maxHeartbeats 4000000 in
set_option maxRecDepth 100000 in
theorem o_X4_winsByDraws_132_w {p : Program} {l : Launch} {e : Env} {s : State} {m : MethodId} {args : Array Value} {below : List Frame} {meth : Method} {c : Code} {dC : Nat → ClassId} {dI : Nat → Nat → Nat} {cy : Nat → ClassId} {ad tz : Nat → Nat} {Q : Int32 → Mm → Prop} {K18 : Mm → Int32 → Int32 → Int64 → Int32 → Prop} {j1 : Nat} (C : CX p s m args meth c dC dI cy ad tz cX4_winsByDraws 10 (some .int) RX4 wsX4_winsByDraws) (hj1 : ly j1 = 3) (hK18 : ∀ (g : Mm) (x2 : Int32) (x4 : Int32) (y5 : Int64) (x7 : Int32) (H : Heap) (locs : List Loc) (ls : Array Slot), St dC dI cy ad s g H locs → lv_has ls 10 [(0, .ref (ad 41)), (2, .int x2), (4, .int x4), (5, .long y5), (7, .int x7)] → K18 g x2 x4 y5 x7 → W p l e (rmD 4) s m args below meth c H locs 0 0 (QI dC dI cy ad below args s Q) (F0 m 18 ls [])) : ∀ (g : Mm) (x2 : Int32) (x4 : Int32) (y5 : Int64) (x7 : Int32) (H : Heap) (locs : List Loc) (ls : Array Slot), St dC dI cy ad s g H locs → lv_has ls 10 [(0, .ref (ad 41)), (2, .int x2), (4, .int x4), (5, .long y5), (7, .int x7)] → o_X4_winsByDraws_132 Q K18 j1 g x2 x4 y5 x7 → W p l e (rmD 4) s m args below meth c H locs 0 0 (QI dC dI cy ad below args s Q) (F0 m 132 ls []) := by
  have hx := C.1.1
  have hb := C.1.2.1
  intro g x2 x4 y5 x7 H locs ls S hl h
  unfold o_X4_winsByDraws_132 at h
  obtain ⟨x_14, ex_14⟩ : ∃ y : Int32, y = x7 + 1 := ⟨_, rfl⟩
  have h := h x_14 ex_14
  refine lv_iinc (v := x_14) (lv' := [(7, .int x_14), (0, .ref (ad 41)), (2, .int x2), (4, .int x4), (5, .long y5)]) hx hb dX4_winsByDraws_132 hl (k := 4) rfl (by rw [ex_14]; rfl) (by decide) rfl (fun ls hl => ?_)
  refine lv_goto (tgt := 18) hx hb dX4_winsByDraws_135 (by decide) ?_
  exact hK18 g x2 x4 y5 x_14 _ _ _ S (lv_sub hl [1, 2, 3, 4, 0] rfl) h
set_option maxHeartbeats 4000000 in
set_option maxRecDepth 100000 in
theorem o_X4_winsByDraws_88_w {p : Program} {l : Launch} {e : Env} {s : State} {m : MethodId} {args : Array Value} {below : List Frame} {meth : Method} {c : Code} {dC : Nat → ClassId} {dI : Nat → Nat → Nat} {cy : Nat → ClassId} {ad tz : Nat → Nat} {Q : Int32 → Mm → Prop} {K18 : Mm → Int32 → Int32 → Int64 → Int32 → Prop} {j1 : Nat} (C : CX p s m args meth c dC dI cy ad tz cX4_winsByDraws 10 (some .int) RX4 wsX4_winsByDraws) (hj1 : ly j1 = 3) (hK18 : ∀ (g : Mm) (x2 : Int32) (x4 : Int32) (y5 : Int64) (x7 : Int32) (H : Heap) (locs : List Loc) (ls : Array Slot), St dC dI cy ad s g H locs → lv_has ls 10 [(0, .ref (ad 41)), (2, .int x2), (4, .int x4), (5, .long y5), (7, .int x7)] → K18 g x2 x4 y5 x7 → W p l e (rmD 4) s m args below meth c H locs 0 0 (QI dC dI cy ad below args s Q) (F0 m 18 ls [])) : ∀ (g : Mm) (x2 : Int32) (x4 : Int32) (y5 : Int64) (x7 : Int32) (H : Heap) (locs : List Loc) (ls : Array Slot), St dC dI cy ad s g H locs → lv_has ls 10 [(0, .ref (ad 41)), (2, .int x2), (4, .int x4), (5, .long y5), (7, .int x7)] → o_X4_winsByDraws_88 Q K18 j1 g x2 x4 y5 x7 → W p l e (rmD 4) s m args below meth c H locs 0 0 (QI dC dI cy ad below args s Q) (F0 m 88 ls []) := by
  have hx := C.1.1
  have hb := C.1.2.1
  intro g x2 x4 y5 x7 H locs ls S hl h
  unfold o_X4_winsByDraws_88 at h
  refine lv_lload hx hb dX4_winsByDraws_88 (lv_at hl 3 rfl) ?_
  refine kLdc2 C m_X4_winsByDraws_11 dX4_winsByDraws_90 ?_
  obtain ⟨h0, h⟩ := h
  refine lv_ldiv hx hb dX4_winsByDraws_93 h0 ?_
  refine kLdc2 C m_X4_winsByDraws_10 dX4_winsByDraws_94 ?_
  obtain ⟨h0, h⟩ := h
  refine lv_lrem hx hb dX4_winsByDraws_97 h0 ?_
  refine lv_l2i hx hb dX4_winsByDraws_98 rfl ?_
  refine lv_iconst (v := 1) hx hb dX4_winsByDraws_99 (by decide) ?_
  refine lv_iadd hx hb dX4_winsByDraws_100 ?_
  refine lv_topi (fun x_8 ex_8 => ?_)
  have h := h x_8 ex_8
  refine lv_istore (lv' := [(9, .int x_8), (0, .ref (ad 41)), (2, .int x2), (4, .int x4), (5, .long y5), (7, .int x7)]) hx hb dX4_winsByDraws_101 hl (by decide) rfl (fun ls hl => ?_)
  refine lv_aload_n hx hb dX4_winsByDraws_103 rfl (lv_at hl 1 rfl) ?_
  refine kg4 (k := 0) (v := .ref (ad 42)) C S rfl (by decide) n_X4_winsByDraws_X4 m_X4_winsByDraws_1 rfl dX4_winsByDraws_104 ?_
  refine lv_iload hx hb dX4_winsByDraws_107 (lv_at hl 0 rfl) ?_
  refine lv_aload_n hx hb dX4_winsByDraws_109 rfl (lv_at hl 1 rfl) ?_
  refine kg4 (k := 0) (v := .ref (ad 42)) C S rfl (by decide) n_X4_winsByDraws_X4 m_X4_winsByDraws_1 rfl dX4_winsByDraws_110 ?_
  refine lv_iconst (v := 0) hx hb dX4_winsByDraws_113 (by decide) ?_
  refine kV_i (As := [.int 0]) (rest := [.int x_8, .ref (ad 42)]) C S hl.1 (o_X3_gripAhead_c rfl h) (wd_o3 rfl) rfl (cw_X4_winsByDraws_X3_gripAhead C.1.2.2.2.2) rfl rfl (Nat.le_of_ble_eq_true rfl) dX4_winsByDraws_114 (fun r_10 g_9 H locs h S => ?_)
  refine lv_aload_n hx hb dX4_winsByDraws_117 rfl (lv_at hl 1 rfl) ?_
  refine kg4 (k := 5) (v := .ref (ad 49)) C S rfl (by decide) n_X4_winsByDraws_X4 m_X4_winsByDraws_12 rfl dX4_winsByDraws_118 ?_
  refine lv_iconst (v := 0) hx hb dX4_winsByDraws_121 (by decide) ?_
  obtain ⟨hi_11, h⟩ := h
  refine kAb C S rfl rfl hi_11 dX4_winsByDraws_122 ?_
  refine kV_i (As := [.int x_8, .int r_10, .ref (ad (49 + 1 + (0 : Int32).toNatClampNeg))]) (rest := []) C S hl.1 (o_X3_playAt_c rfl (ly_steps _ (in_lt hi_11)) h) (wd_o3 rfl) rfl (cw_X4_winsByDraws_X3_playAt C.1.2.2.2.2) rfl rfl (Nat.le_of_ble_eq_true rfl) dX4_winsByDraws_123 (fun r_13 g_12 H locs h S => ?_)
  refine lv_if_ne (tgt := 132) hx hb dX4_winsByDraws_126 (by decide) (fun c1 => ?_) (fun c1 => ?_)
  · have h := h.1 c1
    exact o_X4_winsByDraws_132_w C hj1 hK18 g_12 x2 x4 y5 x7 _ _ _ S (lv_sub hl [1, 2, 3, 4, 5] rfl) h
  · have h := h.2 c1
    obtain ⟨x_15, ex_15⟩ : ∃ y : Int32, y = x4 + 1 := ⟨_, rfl⟩
    have h := h x_15 ex_15
    refine lv_iinc (v := x_15) (lv' := [(4, .int x_15), (9, .int x_8), (0, .ref (ad 41)), (2, .int x2), (5, .long y5), (7, .int x7)]) hx hb dX4_winsByDraws_129 hl (k := 3) rfl (by rw [ex_15]; rfl) (by decide) rfl (fun ls hl => ?_)
    exact o_X4_winsByDraws_132_w C hj1 hK18 g_12 x2 x_15 y5 x7 _ _ _ S (lv_sub hl [2, 3, 0, 4, 5] rfl) h
set_option maxHeartbeats 4000000 in
set_option maxRecDepth 100000 in
theorem o_X4_winsByDraws_18_w {p : Program} {l : Launch} {e : Env} {s : State} {m : MethodId} {args : Array Value} {below : List Frame} {meth : Method} {c : Code} {dC : Nat → ClassId} {dI : Nat → Nat → Nat} {cy : Nat → ClassId} {ad tz : Nat → Nat} {Q : Int32 → Mm → Prop} {j1 : Nat} (C : CX p s m args meth c dC dI cy ad tz cX4_winsByDraws 10 (some .int) RX4 wsX4_winsByDraws) (hj1 : ly j1 = 3) : ∀ (n : Nat) (g : Mm) (x2 : Int32) (x4 : Int32) (y5 : Int64) (x7 : Int32) (H : Heap) (locs : List Loc) (ls : Array Slot), St dC dI cy ad s g H locs → lv_has ls 10 [(0, .ref (ad 41)), (2, .int x2), (4, .int x4), (5, .long y5), (7, .int x7)] → o_X4_winsByDraws_18 Q j1 n g x2 x4 y5 x7 → W p l e (rmD 4) s m args below meth c H locs 0 0 (QI dC dI cy ad below args s Q) (F0 m 18 ls []) := by
  have hx := C.1.1
  have hb := C.1.2.1
  intro n18
  induction n18 with
  | zero => intro g x2 x4 y5 x7 H locs ls S hl h; exact h.elim
  | succ n18 ih =>
    intro g x2 x4 y5 x7 H locs ls S hl h
    have h : ((x2 ≤ x7) → Q x4 g) ∧ ((¬ x2 ≤ x7) → ¬ (2147483647 : Int64) = 0 ∧ (∀ y_4 : Int64, y_4 = ((y5 * 16807) - (y5 * 16807) / 2147483647 * 2147483647) → (¬ ((if (1 : Int32) < (g.1 42 4) then (g.1 42 4) else 1 : Int32).toInt64 : Int64) = 0 ∧ (∀ x_5 : Int32, x_5 = ((y_4 - y_4 / ((if (1 : Int32) < (g.1 42 4) then (g.1 42 4) else 1 : Int32).toInt64) * ((if (1 : Int32) < (g.1 42 4) then (g.1 42 4) else 1 : Int32).toInt64) : Int64).toInt32) → (vp_in x_5 7 ∧ (o_X7_isColumn (fun (r_7 : Int32) (g_6 : Mm) => ((¬ r_7 = 0) → o_X4_winsByDraws_88 Q (o_X4_winsByDraws_18 Q j1 n18) j1 g_6 x2 x4 y_4 x7) ∧ ((r_7 = 0) → ¬ (5 : Int64) = 0 ∧ (o_X3_lay (fun (g_16 : Mm) => o_X4_winsByDraws_88 Q (o_X4_winsByDraws_18 Q j1 n18) j1 g_16 x2 x4 y_4 x7) 42 g_6 x_5 (((y_4 - y_4 / 5 * 5 : Int64).toInt32) + 1)))) g (g.1 45 x_5.toNatClampNeg))))))) := h
    refine lv_iload hx hb dX4_winsByDraws_18 (lv_at hl 4 rfl) ?_
    refine lv_iload_n hx hb dX4_winsByDraws_20 rfl (lv_at hl 1 rfl) ?_
    refine lv_icmp_ge (tgt := 138) hx hb dX4_winsByDraws_21 (by decide) (fun c1 => ?_) (fun c1 => ?_)
    · have h := h.1 c1
      refine lv_iload hx hb dX4_winsByDraws_138 (lv_at hl 2 rfl) ?_
      exact kRi C S h dX4_winsByDraws_140
    · have h := h.2 c1
      refine lv_lload hx hb dX4_winsByDraws_24 (lv_at hl 3 rfl) ?_
      refine kLdc2 C m_X4_winsByDraws_2 dX4_winsByDraws_26 ?_
      refine lv_lmul hx hb dX4_winsByDraws_29 ?_
      refine kLdc2 C m_X4_winsByDraws_3 dX4_winsByDraws_30 ?_
      obtain ⟨h0, h⟩ := h
      refine lv_lrem hx hb dX4_winsByDraws_33 h0 ?_
      refine lv_topl (fun y_4 ey_4 => ?_)
      have h := h y_4 ey_4
      refine lv_lstore (lv' := [(5, .long y_4), (0, .ref (ad 41)), (2, .int x2), (4, .int x4), (7, .int x7)]) hx hb dX4_winsByDraws_34 hl (by decide) rfl (fun ls hl => ?_)
      refine lv_lload hx hb dX4_winsByDraws_36 (lv_at hl 0 rfl) ?_
      refine lv_iconst (v := 1) hx hb dX4_winsByDraws_38 (by decide) ?_
      refine lv_aload_n hx hb dX4_winsByDraws_39 rfl (lv_at hl 1 rfl) ?_
      refine kg4 (k := 0) (v := .ref (ad 42)) C S rfl (by decide) n_X4_winsByDraws_X4 m_X4_winsByDraws_1 rfl dX4_winsByDraws_40 ?_
      refine kg3 (k := 4) (v := .int (g.1 42 4)) C S rfl (by decide) n_X4_winsByDraws_X3 m_X4_winsByDraws_4 rfl dX4_winsByDraws_43 ?_
      refine kMax C hl.1 m_X4_winsByDraws_5 m_X4_winsByDraws_6 m_X4_winsByDraws_7 m_X4_winsByDraws_8 (Nat.le_of_ble_eq_true rfl) (Nat.le_of_ble_eq_true rfl) dX4_winsByDraws_46 ?_
      refine lv_i2l hx hb dX4_winsByDraws_49 rfl ?_
      obtain ⟨h0, h⟩ := h
      refine lv_lrem hx hb dX4_winsByDraws_50 h0 ?_
      refine lv_l2i hx hb dX4_winsByDraws_51 rfl ?_
      refine lv_topi (fun x_5 ex_5 => ?_)
      have h := h x_5 ex_5
      refine lv_istore (lv' := [(8, .int x_5), (5, .long y_4), (0, .ref (ad 41)), (2, .int x2), (4, .int x4), (7, .int x7)]) hx hb dX4_winsByDraws_52 hl (by decide) rfl (fun ls hl => ?_)
      refine lv_aload_n hx hb dX4_winsByDraws_54 rfl (lv_at hl 2 rfl) ?_
      refine kg4 (k := 0) (v := .ref (ad 42)) C S rfl (by decide) n_X4_winsByDraws_X4 m_X4_winsByDraws_1 rfl dX4_winsByDraws_55 ?_
      refine kg3 (k := 2) (v := .ref (ad 45)) C S rfl (by decide) n_X4_winsByDraws_X3 m_X4_winsByDraws_9 rfl dX4_winsByDraws_58 ?_
      refine lv_iload hx hb dX4_winsByDraws_61 (lv_at hl 0 rfl) ?_
      obtain ⟨hi, h⟩ := h
      refine kLi C S rfl rfl hi dX4_winsByDraws_63 ?_
      refine kN_i (As := [.int (g.1 45 x_5.toNatClampNeg)]) (rest := []) C S hl.1 (o_X7_isColumn_c h) (cw_X4_winsByDraws_X7_isColumn C.1.2.2.2.2 C.2.2.2.1) rfl rfl (Nat.le_of_ble_eq_true rfl) dX4_winsByDraws_64 (fun r_7 g_6 H locs h S => ?_)
      refine lv_if_ne (tgt := 88) hx hb dX4_winsByDraws_67 (by decide) (fun c1 => ?_) (fun c1 => ?_)
      · have h := h.1 c1
        exact o_X4_winsByDraws_88_w C hj1 ih g_6 x2 x4 y_4 x7 _ _ _ S (lv_sub hl [2, 3, 4, 1, 5] rfl) h
      · have h := h.2 c1
        refine lv_aload_n hx hb dX4_winsByDraws_70 rfl (lv_at hl 2 rfl) ?_
        refine kg4 (k := 0) (v := .ref (ad 42)) C S rfl (by decide) n_X4_winsByDraws_X4 m_X4_winsByDraws_1 rfl dX4_winsByDraws_71 ?_
        refine lv_iload hx hb dX4_winsByDraws_74 (lv_at hl 0 rfl) ?_
        refine lv_lload hx hb dX4_winsByDraws_76 (lv_at hl 1 rfl) ?_
        refine kLdc2 C m_X4_winsByDraws_10 dX4_winsByDraws_78 ?_
        obtain ⟨h0, h⟩ := h
        refine lv_lrem hx hb dX4_winsByDraws_81 h0 ?_
        refine lv_l2i hx hb dX4_winsByDraws_82 rfl ?_
        refine lv_iconst (v := 1) hx hb dX4_winsByDraws_83 (by decide) ?_
        refine lv_iadd hx hb dX4_winsByDraws_84 ?_
        refine kV_v (As := [.int x_5, .int (((y_4 - y_4 / 5 * 5 : Int64).toInt32) + 1)]) (rest := []) C S hl.1 (o_X3_lay_c rfl h) (wd_o3 rfl) rfl (cw_X4_winsByDraws_X3_lay C.1.2.2.2.2) rfl rfl (Nat.le_of_ble_eq_true rfl) dX4_winsByDraws_85 (fun g_16 H locs h S => ?_)
        exact o_X4_winsByDraws_88_w C hj1 ih g_16 x2 x4 y_4 x7 _ _ _ S (lv_sub hl [2, 3, 4, 1, 5] rfl) h
def o_X4_winsByDraws (Q : Int32 → Mm → Prop) (j1 : Nat) (g : Mm) (x2 : Int32) (x3 : Int32) : Prop := o_X3_become (fun (g_1 : Mm) => ∀ y_3 : Int64, y_3 = ((x3 : Int32).toInt64) → (∃ n18, o_X4_winsByDraws_18 Q j1 n18 g_1 x2 0 y_3 0)) 42 j1 g
set_option maxHeartbeats 4000000 in
set_option maxRecDepth 100000 in
theorem o_X4_winsByDraws_c {l : Launch} {dC : Nat → ClassId} {dI : Nat → Nat → Nat} {cy : Nat → ClassId} {ad tz : Nat → Nat} {Q : Int32 → Mm → Prop} {j1 : Nat} {g : Mm} {x2 : Int32} {x3 : Int32} (hj1 : ly j1 = 3) (h : o_X4_winsByDraws Q j1 g x2 x3) : CI l dC dI cy ad tz yX4_winsByDraws wsX4_winsByDraws (rmD 4) [.ref (ad 41), .ref (ad j1), .int x2, .int x3] g Q := by
  refine CI.of (by decide) rfl rfl (Nat.le_of_ble_eq_true rfl) ?_
  intro p e s m args below meth c ls C hl S
  have hl : lv_has ls 10 [(0, .ref (ad 41)), (1, .ref (ad j1)), (2, .int x2), (3, .int x3)] := hl
  have hx := C.1.1
  have hb := C.1.2.1
  unfold o_X4_winsByDraws at h
  refine lv_aload_n hx hb dX4_winsByDraws_0 rfl (lv_at hl 0 rfl) ?_
  refine kg4 (k := 0) (v := .ref (ad 42)) C S rfl (by decide) n_X4_winsByDraws_X4 m_X4_winsByDraws_1 rfl dX4_winsByDraws_1 ?_
  refine lv_aload_n hx hb dX4_winsByDraws_4 rfl (lv_at hl 1 rfl) ?_
  refine kV_v (As := [.ref (ad j1)]) (rest := []) C S hl.1 (o_X3_become_c rfl hj1 h) (wd_o3 rfl) rfl (cw_X4_winsByDraws_X3_become C.1.2.2.2.2) rfl rfl (Nat.le_of_ble_eq_true rfl) dX4_winsByDraws_5 (fun g_1 H locs h S => ?_)
  refine lv_iconst (v := 0) hx hb dX4_winsByDraws_8 (by decide) ?_
  refine lv_istore (lv' := [(4, .int 0), (0, .ref (ad 41)), (1, .ref (ad j1)), (2, .int x2), (3, .int x3)]) hx hb dX4_winsByDraws_9 hl (by decide) rfl (fun ls hl => ?_)
  refine lv_iload_n hx hb dX4_winsByDraws_11 rfl (lv_at hl 4 rfl) ?_
  refine lv_i2l hx hb dX4_winsByDraws_12 rfl ?_
  refine lv_topl (fun y_3 ey_3 => ?_)
  have h := h y_3 ey_3
  refine lv_lstore (lv' := [(5, .long y_3), (4, .int 0), (0, .ref (ad 41)), (1, .ref (ad j1)), (2, .int x2), (3, .int x3)]) hx hb dX4_winsByDraws_13 hl (by decide) rfl (fun ls hl => ?_)
  refine lv_iconst (v := 0) hx hb dX4_winsByDraws_15 (by decide) ?_
  refine lv_istore (lv' := [(7, .int 0), (5, .long y_3), (4, .int 0), (0, .ref (ad 41)), (1, .ref (ad j1)), (2, .int x2), (3, .int x3)]) hx hb dX4_winsByDraws_16 hl (by decide) rfl (fun ls hl => ?_)
  obtain ⟨n18, h⟩ := h
  refine o_X4_winsByDraws_18_w C hj1 n18 g_1 x2 0 y_3 0 _ _ _ S (lv_sub hl [3, 5, 2, 1, 0] rfl) h
/-! ClawCase$Reader.isFigure(I)Z, height 0 -/
def o_X5_isFigure (Q : Int32 → Mm → Prop) (g : Mm) (x0 : Int32) : Prop := ((x0 < 48) → Q 0 g) ∧ ((¬ x0 < 48) → ((57 < x0) → Q 0 g) ∧ ((¬ 57 < x0) → Q 1 g))
set_option maxHeartbeats 4000000 in
set_option maxRecDepth 100000 in
theorem o_X5_isFigure_c {l : Launch} {dC : Nat → ClassId} {dI : Nat → Nat → Nat} {cy : Nat → ClassId} {ad tz : Nat → Nat} {Q : Int32 → Mm → Prop} {g : Mm} {x0 : Int32} (h : o_X5_isFigure Q g x0) : CI l dC dI cy ad tz yX5_isFigure wsX5_isFigure (rmD 0) [.int x0] g Q := by
  refine CI.of (by decide) rfl rfl (Nat.le_of_ble_eq_true rfl) ?_
  intro p e s m args below meth c ls C hl S
  have hl : lv_has ls 1 [(0, .int x0)] := hl
  have hx := C.1.1
  have hb := C.1.2.1
  unfold o_X5_isFigure at h
  refine lv_iload_n hx hb dX5_isFigure_0 rfl (lv_at hl 0 rfl) ?_
  refine lv_bipush (v := 48) hx hb dX5_isFigure_1 (by decide) ?_
  refine lv_icmp_lt (tgt := 16) hx hb dX5_isFigure_3 (by decide) (fun c1 => ?_) (fun c1 => ?_)
  · have h := h.1 c1
    refine lv_iconst (v := 0) hx hb dX5_isFigure_16 (by decide) ?_
    exact kRz C S rfl h dX5_isFigure_17
  · have h := h.2 c1
    refine lv_iload_n hx hb dX5_isFigure_6 rfl (lv_at hl 0 rfl) ?_
    refine lv_bipush (v := 57) hx hb dX5_isFigure_7 (by decide) ?_
    refine lv_icmp_gt (tgt := 16) hx hb dX5_isFigure_9 (by decide) (fun c1 => ?_) (fun c1 => ?_)
    · have h := h.1 c1
      refine lv_iconst (v := 0) hx hb dX5_isFigure_16 (by decide) ?_
      exact kRz C S rfl h dX5_isFigure_17
    · have h := h.2 c1
      refine lv_iconst (v := 1) hx hb dX5_isFigure_12 (by decide) ?_
      refine lv_goto (tgt := 17) hx hb dX5_isFigure_13 (by decide) ?_
      exact kRz C S rfl h dX5_isFigure_17
/-! ClawCase$Reader.advanceNumber()V, height 1 -/
theorem m_X5_advanceNumber_1 : Cond.fieldLink RX5 38 "ClawCase$Reader" "number" "I" ∈ wsX5_advanceNumber := List.mem_of_getElem? (i := 1) (by decide +kernel)
theorem n_X5_advanceNumber_X5 : ∀ w ∈ wsX50, w ∈ wsX5_advanceNumber := mem_by [11, 12, 13, 14, 15, 16, 17, 18] (by decide +kernel)
theorem m_X5_advanceNumber_2 : Cond.fieldLink RX5 29 "ClawCase$Reader" "at" "I" ∈ wsX5_advanceNumber := List.mem_of_getElem? (i := 2) (by decide +kernel)
theorem m_X5_advanceNumber_3 : Cond.fieldLink RX5 35 "ClawCase$Reader" "next" "I" ∈ wsX5_advanceNumber := List.mem_of_getElem? (i := 3) (by decide +kernel)
theorem m_X5_advanceNumber_4 : Cond.fieldLink RX5 22 "ClawCase$Reader" "bytes" "I" ∈ wsX5_advanceNumber := List.mem_of_getElem? (i := 4) (by decide +kernel)
theorem m_X5_advanceNumber_5 : Cond.fieldLink RX5 9 "ClawCase$Reader" "tape" "[I" ∈ wsX5_advanceNumber := List.mem_of_getElem? (i := 5) (by decide +kernel)
theorem cw_X5_advanceNumber_X5_isFigure {s : State} {args : Array Value} (ht : ∀ w ∈ wsX5_advanceNumber, w.before args s = true) : CallB (rmD 1) s args RX5 76 yX5_isFigure cX5_isFigure 1 (some .boolean) wsX5_isFigure (rmD (0)) 0 0 1 ∧ (Cond.static yX5_isFigure).before args s = true := va_cwS 1 ht gX5_advanceNumber_X5_isFigure rfl rfl rfl (by decide +kernel) ⟨Nat.le_of_ble_eq_true rfl, Nat.le_of_ble_eq_true rfl⟩
theorem m_X5_advanceNumber_6 : Cond.fieldLink RX5 32 "ClawCase$Reader" "token" "I" ∈ wsX5_advanceNumber := List.mem_of_getElem? (i := 6) (by decide +kernel)
def o_X5_advanceNumber_13 (Q : Mm → Prop) (K89 : Mm → Prop) : Nat → Mm → Prop
  | 0, _ => False
  | n13 + 1, g => (((g.1 2 2) ≤ (g.1 2 6)) → K89 g) ∧ ((¬ (g.1 2 2) ≤ (g.1 2 6)) → ((((g.1 2 4) + 3) ≤ (g.1 2 6)) → K89 g) ∧ ((¬ ((g.1 2 4) + 3) ≤ (g.1 2 6)) → vp_in (g.1 2 6) 70 ∧ (o_X5_isFigure (fun (r_4 : Int32) (g_3 : Mm) => ((r_4 = 0) → K89 g_3) ∧ ((¬ r_4 = 0) → vp_in (g_3.1 2 6) 70 ∧ (∀ g_5 : Mm, g_5 = mset g_3 2 7 ((((g_3.1 2 7) * 10) + (g_3.1 3 (g_3.1 2 6 : Int32).toNatClampNeg)) - 48) → (∀ g_6 : Mm, g_6 = mset g_5 2 6 ((g_5.1 2 6) + 1) → (o_X5_advanceNumber_13 Q K89 n13 g_6))))) g (g.1 3 (g.1 2 6 : Int32).toNatClampNeg))))
def o_X5_advanceNumber_89 (Q : Mm → Prop) (g : Mm) : Prop := ((2 < ((g.1 2 6) - (g.1 2 4))) → ∀ g_7 : Mm, g_7 = mset g 2 5 258 → (Q g_7)) ∧ ((¬ 2 < ((g.1 2 6) - (g.1 2 4))) → ∀ g_8 : Mm, g_8 = mset g 2 5 256 → (Q g_8))
set_option maxHeartbeats 4000000 in
set_option maxRecDepth 100000 in
theorem o_X5_advanceNumber_13_w {p : Program} {l : Launch} {e : Env} {s : State} {m : MethodId} {args : Array Value} {below : List Frame} {meth : Method} {c : Code} {dC : Nat → ClassId} {dI : Nat → Nat → Nat} {cy : Nat → ClassId} {ad tz : Nat → Nat} {Q : Mm → Prop} {K89 : Mm → Prop} (C : CX p s m args meth c dC dI cy ad tz cX5_advanceNumber 1 none RX5 wsX5_advanceNumber) (hK89 : ∀ (g : Mm) (H : Heap) (locs : List Loc) (ls : Array Slot), St dC dI cy ad s g H locs → lv_has ls 1 [(0, .ref (ad 2))] → K89 g → W p l e (rmD 1) s m args below meth c H locs 0 0 (QV dC dI cy ad below args s Q) (F0 m 89 ls [])) : ∀ (n : Nat) (g : Mm) (H : Heap) (locs : List Loc) (ls : Array Slot), St dC dI cy ad s g H locs → lv_has ls 1 [(0, .ref (ad 2))] → o_X5_advanceNumber_13 Q K89 n g → W p l e (rmD 1) s m args below meth c H locs 0 0 (QV dC dI cy ad below args s Q) (F0 m 13 ls []) := by
  have hx := C.1.1
  have hb := C.1.2.1
  intro n13
  induction n13 with
  | zero => intro g H locs ls S hl h; exact h.elim
  | succ n13 ih =>
    intro g H locs ls S hl h
    have h : (((g.1 2 2) ≤ (g.1 2 6)) → K89 g) ∧ ((¬ (g.1 2 2) ≤ (g.1 2 6)) → ((((g.1 2 4) + 3) ≤ (g.1 2 6)) → K89 g) ∧ ((¬ ((g.1 2 4) + 3) ≤ (g.1 2 6)) → vp_in (g.1 2 6) 70 ∧ (o_X5_isFigure (fun (r_4 : Int32) (g_3 : Mm) => ((r_4 = 0) → K89 g_3) ∧ ((¬ r_4 = 0) → vp_in (g_3.1 2 6) 70 ∧ (∀ g_5 : Mm, g_5 = mset g_3 2 7 ((((g_3.1 2 7) * 10) + (g_3.1 3 (g_3.1 2 6 : Int32).toNatClampNeg)) - 48) → (∀ g_6 : Mm, g_6 = mset g_5 2 6 ((g_5.1 2 6) + 1) → (o_X5_advanceNumber_13 Q K89 n13 g_6))))) g (g.1 3 (g.1 2 6 : Int32).toNatClampNeg)))) := h
    refine lv_aload_n hx hb dX5_advanceNumber_13 rfl (lv_at hl 0 rfl) ?_
    refine kg5 (k := 6) (v := .int (g.1 2 6)) C S rfl (by decide) n_X5_advanceNumber_X5 m_X5_advanceNumber_3 rfl dX5_advanceNumber_14 ?_
    refine lv_aload_n hx hb dX5_advanceNumber_17 rfl (lv_at hl 0 rfl) ?_
    refine kg5 (k := 2) (v := .int (g.1 2 2)) C S rfl (by decide) n_X5_advanceNumber_X5 m_X5_advanceNumber_4 rfl dX5_advanceNumber_18 ?_
    refine lv_icmp_ge (tgt := 89) hx hb dX5_advanceNumber_21 (by decide) (fun c1 => ?_) (fun c1 => ?_)
    · have h := h.1 c1
      exact hK89 g _ _ _ S (lv_sub hl [0] rfl) h
    · have h := h.2 c1
      refine lv_aload_n hx hb dX5_advanceNumber_24 rfl (lv_at hl 0 rfl) ?_
      refine kg5 (k := 6) (v := .int (g.1 2 6)) C S rfl (by decide) n_X5_advanceNumber_X5 m_X5_advanceNumber_3 rfl dX5_advanceNumber_25 ?_
      refine lv_aload_n hx hb dX5_advanceNumber_28 rfl (lv_at hl 0 rfl) ?_
      refine kg5 (k := 4) (v := .int (g.1 2 4)) C S rfl (by decide) n_X5_advanceNumber_X5 m_X5_advanceNumber_2 rfl dX5_advanceNumber_29 ?_
      refine lv_iconst (v := 3) hx hb dX5_advanceNumber_32 (by decide) ?_
      refine lv_iadd hx hb dX5_advanceNumber_33 ?_
      refine lv_icmp_ge (tgt := 89) hx hb dX5_advanceNumber_34 (by decide) (fun c1 => ?_) (fun c1 => ?_)
      · have h := h.1 c1
        exact hK89 g _ _ _ S (lv_sub hl [0] rfl) h
      · have h := h.2 c1
        refine lv_aload_n hx hb dX5_advanceNumber_37 rfl (lv_at hl 0 rfl) ?_
        refine kg5 (k := 0) (v := .ref (ad 3)) C S rfl (by decide) n_X5_advanceNumber_X5 m_X5_advanceNumber_5 rfl dX5_advanceNumber_38 ?_
        refine lv_aload_n hx hb dX5_advanceNumber_41 rfl (lv_at hl 0 rfl) ?_
        refine kg5 (k := 6) (v := .int (g.1 2 6)) C S rfl (by decide) n_X5_advanceNumber_X5 m_X5_advanceNumber_3 rfl dX5_advanceNumber_42 ?_
        obtain ⟨hi, h⟩ := h
        refine kLi C S rfl rfl hi dX5_advanceNumber_45 ?_
        refine kS_i (As := [.int (g.1 3 (g.1 2 6 : Int32).toNatClampNeg)]) (rest := []) C S hl.1 (o_X5_isFigure_c h) (cw_X5_advanceNumber_X5_isFigure C.1.2.2.2.2) rfl rfl (Nat.le_of_ble_eq_true rfl) dX5_advanceNumber_46 (fun r_4 g_3 H locs h S => ?_)
        refine lv_if_eq (tgt := 89) hx hb dX5_advanceNumber_49 (by decide) (fun c1 => ?_) (fun c1 => ?_)
        · have h := h.1 c1
          exact hK89 g_3 _ _ _ S (lv_sub hl [0] rfl) h
        · have h := h.2 c1
          refine lv_aload_n hx hb dX5_advanceNumber_52 rfl (lv_at hl 0 rfl) ?_
          refine lv_aload_n hx hb dX5_advanceNumber_53 rfl (lv_at hl 0 rfl) ?_
          refine kg5 (k := 7) (v := .int (g_3.1 2 7)) C S rfl (by decide) n_X5_advanceNumber_X5 m_X5_advanceNumber_1 rfl dX5_advanceNumber_54 ?_
          refine lv_bipush (v := 10) hx hb dX5_advanceNumber_57 (by decide) ?_
          refine lv_imul hx hb dX5_advanceNumber_59 ?_
          refine lv_aload_n hx hb dX5_advanceNumber_60 rfl (lv_at hl 0 rfl) ?_
          refine kg5 (k := 0) (v := .ref (ad 3)) C S rfl (by decide) n_X5_advanceNumber_X5 m_X5_advanceNumber_5 rfl dX5_advanceNumber_61 ?_
          refine lv_aload_n hx hb dX5_advanceNumber_64 rfl (lv_at hl 0 rfl) ?_
          refine kg5 (k := 6) (v := .int (g_3.1 2 6)) C S rfl (by decide) n_X5_advanceNumber_X5 m_X5_advanceNumber_3 rfl dX5_advanceNumber_65 ?_
          obtain ⟨hi, h⟩ := h
          refine kLi C S rfl rfl hi dX5_advanceNumber_68 ?_
          refine lv_iadd hx hb dX5_advanceNumber_69 ?_
          refine lv_bipush (v := 48) hx hb dX5_advanceNumber_70 (by decide) ?_
          refine lv_isub hx hb dX5_advanceNumber_72 ?_
          refine kp5_7 C S rfl n_X5_advanceNumber_X5 m_X5_advanceNumber_1 dX5_advanceNumber_73 (fun g_5 H locs eg_5 S => ?_)
          have h := h g_5 eg_5
          refine lv_aload_n hx hb dX5_advanceNumber_76 rfl (lv_at hl 0 rfl) ?_
          refine lv_dup hx hb dX5_advanceNumber_77 rfl ?_
          refine kg5 (k := 6) (v := .int (g_5.1 2 6)) C S rfl (by decide) n_X5_advanceNumber_X5 m_X5_advanceNumber_3 rfl dX5_advanceNumber_78 ?_
          refine lv_iconst (v := 1) hx hb dX5_advanceNumber_81 (by decide) ?_
          refine lv_iadd hx hb dX5_advanceNumber_82 ?_
          refine kp5_6 C S rfl n_X5_advanceNumber_X5 m_X5_advanceNumber_3 dX5_advanceNumber_83 (fun g_6 H locs eg_6 S => ?_)
          have h := h g_6 eg_6
          refine lv_goto (tgt := 13) hx hb dX5_advanceNumber_86 (by decide) ?_
          exact ih g_6 _ _ _ S (lv_sub hl [0] rfl) h
set_option maxHeartbeats 4000000 in
set_option maxRecDepth 100000 in
theorem o_X5_advanceNumber_89_w {p : Program} {l : Launch} {e : Env} {s : State} {m : MethodId} {args : Array Value} {below : List Frame} {meth : Method} {c : Code} {dC : Nat → ClassId} {dI : Nat → Nat → Nat} {cy : Nat → ClassId} {ad tz : Nat → Nat} {Q : Mm → Prop} (C : CX p s m args meth c dC dI cy ad tz cX5_advanceNumber 1 none RX5 wsX5_advanceNumber) : ∀ (g : Mm) (H : Heap) (locs : List Loc) (ls : Array Slot), St dC dI cy ad s g H locs → lv_has ls 1 [(0, .ref (ad 2))] → o_X5_advanceNumber_89 Q g → W p l e (rmD 1) s m args below meth c H locs 0 0 (QV dC dI cy ad below args s Q) (F0 m 89 ls []) := by
  have hx := C.1.1
  have hb := C.1.2.1
  intro g H locs ls S hl h
  unfold o_X5_advanceNumber_89 at h
  refine lv_aload_n hx hb dX5_advanceNumber_89 rfl (lv_at hl 0 rfl) ?_
  refine lv_aload_n hx hb dX5_advanceNumber_90 rfl (lv_at hl 0 rfl) ?_
  refine kg5 (k := 6) (v := .int (g.1 2 6)) C S rfl (by decide) n_X5_advanceNumber_X5 m_X5_advanceNumber_3 rfl dX5_advanceNumber_91 ?_
  refine lv_aload_n hx hb dX5_advanceNumber_94 rfl (lv_at hl 0 rfl) ?_
  refine kg5 (k := 4) (v := .int (g.1 2 4)) C S rfl (by decide) n_X5_advanceNumber_X5 m_X5_advanceNumber_2 rfl dX5_advanceNumber_95 ?_
  refine lv_isub hx hb dX5_advanceNumber_98 ?_
  refine lv_iconst (v := 2) hx hb dX5_advanceNumber_99 (by decide) ?_
  refine lv_icmp_gt (tgt := 109) hx hb dX5_advanceNumber_100 (by decide) (fun c1 => ?_) (fun c1 => ?_)
  · have h := h.1 c1
    refine lv_sipush (v := 258) hx hb dX5_advanceNumber_109 (by decide) ?_
    refine kp5_5 C S rfl n_X5_advanceNumber_X5 m_X5_advanceNumber_6 dX5_advanceNumber_112 (fun g_7 H locs eg_7 S => ?_)
    have h := h g_7 eg_7
    exact kRv C S h dX5_advanceNumber_115
  · have h := h.2 c1
    refine lv_sipush (v := 256) hx hb dX5_advanceNumber_103 (by decide) ?_
    refine lv_goto (tgt := 112) hx hb dX5_advanceNumber_106 (by decide) ?_
    refine kp5_5 C S rfl n_X5_advanceNumber_X5 m_X5_advanceNumber_6 dX5_advanceNumber_112 (fun g_8 H locs eg_8 S => ?_)
    have h := h g_8 eg_8
    exact kRv C S h dX5_advanceNumber_115
def o_X5_advanceNumber (Q : Mm → Prop) (g : Mm) : Prop := ∀ g_1 : Mm, g_1 = mset g 2 7 0 → (∀ g_2 : Mm, g_2 = mset g_1 2 6 (g_1.1 2 4) → (∃ n13, o_X5_advanceNumber_13 Q (fun (g : Mm) => o_X5_advanceNumber_89 Q g) n13 g_2))
set_option maxHeartbeats 4000000 in
set_option maxRecDepth 100000 in
theorem o_X5_advanceNumber_c {l : Launch} {dC : Nat → ClassId} {dI : Nat → Nat → Nat} {cy : Nat → ClassId} {ad tz : Nat → Nat} {Q : Mm → Prop} {g : Mm} (h : o_X5_advanceNumber Q g) : CV l dC dI cy ad tz yX5_advanceNumber wsX5_advanceNumber (rmD 1) [.ref (ad 2)] g Q := by
  refine CV.of (by decide) rfl rfl (Nat.le_of_ble_eq_true rfl) ?_
  intro p e s m args below meth c ls C hl S
  have hl : lv_has ls 1 [(0, .ref (ad 2))] := hl
  have hx := C.1.1
  have hb := C.1.2.1
  unfold o_X5_advanceNumber at h
  refine lv_aload_n hx hb dX5_advanceNumber_0 rfl (lv_at hl 0 rfl) ?_
  refine lv_iconst (v := 0) hx hb dX5_advanceNumber_1 (by decide) ?_
  refine kp5_7 C S rfl n_X5_advanceNumber_X5 m_X5_advanceNumber_1 dX5_advanceNumber_2 (fun g_1 H locs eg_1 S => ?_)
  have h := h g_1 eg_1
  refine lv_aload_n hx hb dX5_advanceNumber_5 rfl (lv_at hl 0 rfl) ?_
  refine lv_aload_n hx hb dX5_advanceNumber_6 rfl (lv_at hl 0 rfl) ?_
  refine kg5 (k := 4) (v := .int (g_1.1 2 4)) C S rfl (by decide) n_X5_advanceNumber_X5 m_X5_advanceNumber_2 rfl dX5_advanceNumber_7 ?_
  refine kp5_6 C S rfl n_X5_advanceNumber_X5 m_X5_advanceNumber_3 dX5_advanceNumber_10 (fun g_2 H locs eg_2 S => ?_)
  have h := h g_2 eg_2
  obtain ⟨n13, h⟩ := h
  refine o_X5_advanceNumber_13_w C ?_ n13 g_2 _ _ _ S (lv_sub hl [0] rfl) h
  · intro g H locs ls S hl h
    exact o_X5_advanceNumber_89_w C g _ _ _ S (lv_sub hl [0] rfl) h
/-! ClawCase$Reader.advance()V, height 2 -/
theorem m_X5_advance_1 : Cond.fieldLink RX5 35 "ClawCase$Reader" "next" "I" ∈ wsX5_advance := List.mem_of_getElem? (i := 1) (by decide +kernel)
theorem n_X5_advance_X5 : ∀ w ∈ wsX50, w ∈ wsX5_advance := mem_by [18, 19, 20, 21, 22, 23, 24, 25] (by decide +kernel)
theorem m_X5_advance_2 : Cond.fieldLink RX5 29 "ClawCase$Reader" "at" "I" ∈ wsX5_advance := List.mem_of_getElem? (i := 2) (by decide +kernel)
theorem m_X5_advance_3 : Cond.fieldLink RX5 22 "ClawCase$Reader" "bytes" "I" ∈ wsX5_advance := List.mem_of_getElem? (i := 3) (by decide +kernel)
theorem m_X5_advance_5 : Cond.fieldLink RX5 9 "ClawCase$Reader" "tape" "[I" ∈ wsX5_advance := List.mem_of_getElem? (i := 5) (by decide +kernel)
theorem m_X5_advance_4 : Cond.fieldLink RX5 32 "ClawCase$Reader" "token" "I" ∈ wsX5_advance := List.mem_of_getElem? (i := 4) (by decide +kernel)
theorem m_X5_advance_15 : Cond.static yX7_within ∈ wsX5_advance := List.mem_of_getElem? (i := 15) (by decide +kernel)
theorem m_X5_advance_16 : Cond.initialized RX7 ∈ wsX5_advance := List.mem_of_getElem? (i := 16) (by decide +kernel)
theorem cw_X5_advance_X7_within {s : State} {args : Array Value} (ht : ∀ w ∈ wsX5_advance, w.before args s = true) (hN : NW s) : va_CN (rmD 2) s args RX5 72 yX7_within "ClawCase" cX7_within 3 (some .boolean) wsX7_within (rmD (0)) 0 0 3 ∧ (Cond.static yX7_within).before args s = true ∧ True := ⟨va_cnB 3 ht gX5_advance_X7_within_n72 rfl rfl rfl (hN (RX5, 72, yX7_within, "ClawCase") (by decide +kernel)) (ht _ m_X5_advance_16) (by decide +kernel) ⟨Nat.le_of_ble_eq_true rfl, Nat.le_of_ble_eq_true rfl⟩, ht _ m_X5_advance_15, trivial⟩
theorem cw_X5_advance_X5_advanceNumber {s : State} {args : Array Value} (ht : ∀ w ∈ wsX5_advance, w.before args s = true) : CallW (rmD 2) s args RX5 RX5 80 yX5_advanceNumber cX5_advanceNumber 1 none wsX5_advanceNumber (rmD (1)) 0 0 0 := cwV 0 ht gX5_advance_X5_advanceNumber rfl rfl rfl (by decide +kernel) ⟨Nat.le_of_ble_eq_true rfl, Nat.le_of_ble_eq_true rfl⟩
theorem cw_X5_advance_X5_isFigure {s : State} {args : Array Value} (ht : ∀ w ∈ wsX5_advance, w.before args s = true) : CallB (rmD 2) s args RX5 76 yX5_isFigure cX5_isFigure 1 (some .boolean) wsX5_isFigure (rmD (0)) 0 0 1 ∧ (Cond.static yX5_isFigure).before args s = true := va_cwS 1 ht gX5_advance_X5_isFigure rfl rfl rfl (by decide +kernel) ⟨Nat.le_of_ble_eq_true rfl, Nat.le_of_ble_eq_true rfl⟩
def o_X5_advance_90 (Q : Mm → Prop) (g : Mm) (s1 : Int32) : Prop := ∀ g_7 : Mm, g_7 = mset g 2 5 s1 → (∀ g_8 : Mm, g_8 = mset g_7 2 6 ((g_7.1 2 4) + 1) → (Q g_8))
def o_X5_advance_77 (Q : Mm → Prop) (g : Mm) (x1 : Int32) (s0 : Int32) : Prop := ((s0 = 0) → o_X5_advance_90 Q g 258) ∧ ((¬ s0 = 0) → o_X5_advance_90 Q g x1)
def o_X5_advance_72 (Q : Mm → Prop) (g : Mm) (x1 : Int32) : Prop := o_X5_advance_77 Q g x1 1
set_option maxHeartbeats 4000000 in
set_option maxRecDepth 100000 in
theorem o_X5_advance_90_w {p : Program} {l : Launch} {e : Env} {s : State} {m : MethodId} {args : Array Value} {below : List Frame} {meth : Method} {c : Code} {dC : Nat → ClassId} {dI : Nat → Nat → Nat} {cy : Nat → ClassId} {ad tz : Nat → Nat} {Q : Mm → Prop} (C : CX p s m args meth c dC dI cy ad tz cX5_advance 3 none RX5 wsX5_advance) : ∀ (g : Mm) (s1 : Int32) (H : Heap) (locs : List Loc) (ls : Array Slot), St dC dI cy ad s g H locs → lv_has ls 3 [(0, .ref (ad 2))] → o_X5_advance_90 Q g s1 → W p l e (rmD 2) s m args below meth c H locs 0 0 (QV dC dI cy ad below args s Q) (F0 m 90 ls [.int s1, .ref (ad 2)]) := by
  have hx := C.1.1
  have hb := C.1.2.1
  intro g s1 H locs ls S hl h
  unfold o_X5_advance_90 at h
  refine kp5_5 C S rfl n_X5_advance_X5 m_X5_advance_4 dX5_advance_90 (fun g_7 H locs eg_7 S => ?_)
  have h := h g_7 eg_7
  refine lv_aload_n hx hb dX5_advance_93 rfl (lv_at hl 0 rfl) ?_
  refine lv_aload_n hx hb dX5_advance_94 rfl (lv_at hl 0 rfl) ?_
  refine kg5 (k := 4) (v := .int (g_7.1 2 4)) C S rfl (by decide) n_X5_advance_X5 m_X5_advance_2 rfl dX5_advance_95 ?_
  refine lv_iconst (v := 1) hx hb dX5_advance_98 (by decide) ?_
  refine lv_iadd hx hb dX5_advance_99 ?_
  refine kp5_6 C S rfl n_X5_advance_X5 m_X5_advance_1 dX5_advance_100 (fun g_8 H locs eg_8 S => ?_)
  have h := h g_8 eg_8
  exact kRv C S h dX5_advance_103
set_option maxHeartbeats 4000000 in
set_option maxRecDepth 100000 in
theorem o_X5_advance_77_w {p : Program} {l : Launch} {e : Env} {s : State} {m : MethodId} {args : Array Value} {below : List Frame} {meth : Method} {c : Code} {dC : Nat → ClassId} {dI : Nat → Nat → Nat} {cy : Nat → ClassId} {ad tz : Nat → Nat} {Q : Mm → Prop} (C : CX p s m args meth c dC dI cy ad tz cX5_advance 3 none RX5 wsX5_advance) : ∀ (g : Mm) (x1 : Int32) (s0 : Int32) (H : Heap) (locs : List Loc) (ls : Array Slot), St dC dI cy ad s g H locs → lv_has ls 3 [(0, .ref (ad 2)), (1, .int x1)] → o_X5_advance_77 Q g x1 s0 → W p l e (rmD 2) s m args below meth c H locs 0 0 (QV dC dI cy ad below args s Q) (F0 m 77 ls [.int s0]) := by
  have hx := C.1.1
  have hb := C.1.2.1
  intro g x1 s0 H locs ls S hl h
  unfold o_X5_advance_77 at h
  refine lv_istore_n (lv' := [(2, .int s0), (0, .ref (ad 2)), (1, .int x1)]) hx hb dX5_advance_77 rfl hl (by decide) rfl (fun ls hl => ?_)
  refine lv_aload_n hx hb dX5_advance_78 rfl (lv_at hl 1 rfl) ?_
  refine lv_iload_n hx hb dX5_advance_79 rfl (lv_at hl 0 rfl) ?_
  refine lv_if_eq (tgt := 87) hx hb dX5_advance_80 (by decide) (fun c1 => ?_) (fun c1 => ?_)
  · have h := h.1 c1
    refine lv_sipush (v := 258) hx hb dX5_advance_87 (by decide) ?_
    exact o_X5_advance_90_w C g 258 _ _ _ S (lv_sub hl [1] rfl) h
  · have h := h.2 c1
    refine lv_iload_n hx hb dX5_advance_83 rfl (lv_at hl 2 rfl) ?_
    refine lv_goto (tgt := 90) hx hb dX5_advance_84 (by decide) ?_
    exact o_X5_advance_90_w C g x1 _ _ _ S (lv_sub hl [1] rfl) h
set_option maxHeartbeats 4000000 in
set_option maxRecDepth 100000 in
theorem o_X5_advance_72_w {p : Program} {l : Launch} {e : Env} {s : State} {m : MethodId} {args : Array Value} {below : List Frame} {meth : Method} {c : Code} {dC : Nat → ClassId} {dI : Nat → Nat → Nat} {cy : Nat → ClassId} {ad tz : Nat → Nat} {Q : Mm → Prop} (C : CX p s m args meth c dC dI cy ad tz cX5_advance 3 none RX5 wsX5_advance) : ∀ (g : Mm) (x1 : Int32) (H : Heap) (locs : List Loc) (ls : Array Slot), St dC dI cy ad s g H locs → lv_has ls 3 [(0, .ref (ad 2)), (1, .int x1)] → o_X5_advance_72 Q g x1 → W p l e (rmD 2) s m args below meth c H locs 0 0 (QV dC dI cy ad below args s Q) (F0 m 72 ls []) := by
  have hx := C.1.1
  have hb := C.1.2.1
  intro g x1 H locs ls S hl h
  unfold o_X5_advance_72 at h
  refine lv_iconst (v := 1) hx hb dX5_advance_72 (by decide) ?_
  refine lv_goto (tgt := 77) hx hb dX5_advance_73 (by decide) ?_
  exact o_X5_advance_77_w C g x1 1 _ _ _ S (lv_sub hl [0, 1] rfl) h
def o_X5_advance (Q : Mm → Prop) (g : Mm) : Prop := ∀ g_1 : Mm, g_1 = mset g 2 4 (g.1 2 6) → ((((g_1.1 2 4) < (g_1.1 2 2)) → vp_in (g_1.1 2 4) 70 ∧ (∀ x_2 : Int32, x_2 = (g_1.1 3 (g_1.1 2 4 : Int32).toNatClampNeg) → (o_X5_isFigure (fun (r_4 : Int32) (g_3 : Mm) => ((r_4 = 0) → o_X7_within (fun (r_6 : Int32) (g_5 : Mm) => ((¬ r_6 = 0) → o_X5_advance_72 Q g_5 x_2) ∧ ((r_6 = 0) → ((x_2 = 44) → o_X5_advance_72 Q g_5 x_2) ∧ ((¬ x_2 = 44) → ((¬ x_2 = 59) → o_X5_advance_77 Q g_5 x_2 0) ∧ ((x_2 = 59) → o_X5_advance_72 Q g_5 x_2)))) g_3 x_2 97 122) ∧ ((¬ r_4 = 0) → o_X5_advanceNumber (fun (g_9 : Mm) => Q g_9) g_3)) g_1 x_2))) ∧ ((¬ (g_1.1 2 4) < (g_1.1 2 2)) → ∀ g_11 : Mm, g_11 = mset g_1 2 5 257 → (Q g_11)))
set_option maxHeartbeats 4000000 in
set_option maxRecDepth 100000 in
theorem o_X5_advance_c {l : Launch} {dC : Nat → ClassId} {dI : Nat → Nat → Nat} {cy : Nat → ClassId} {ad tz : Nat → Nat} {Q : Mm → Prop} {g : Mm} (h : o_X5_advance Q g) : CV l dC dI cy ad tz yX5_advance wsX5_advance (rmD 2) [.ref (ad 2)] g Q := by
  refine CV.of (by decide) rfl rfl (Nat.le_of_ble_eq_true rfl) ?_
  intro p e s m args below meth c ls C hl S
  have hl : lv_has ls 3 [(0, .ref (ad 2))] := hl
  have hx := C.1.1
  have hb := C.1.2.1
  unfold o_X5_advance at h
  refine lv_aload_n hx hb dX5_advance_0 rfl (lv_at hl 0 rfl) ?_
  refine lv_aload_n hx hb dX5_advance_1 rfl (lv_at hl 0 rfl) ?_
  refine kg5 (k := 6) (v := .int (g.1 2 6)) C S rfl (by decide) n_X5_advance_X5 m_X5_advance_1 rfl dX5_advance_2 ?_
  refine kp5_4 C S rfl n_X5_advance_X5 m_X5_advance_2 dX5_advance_5 (fun g_1 H locs eg_1 S => ?_)
  have h := h g_1 eg_1
  refine lv_aload_n hx hb dX5_advance_8 rfl (lv_at hl 0 rfl) ?_
  refine kg5 (k := 4) (v := .int (g_1.1 2 4)) C S rfl (by decide) n_X5_advance_X5 m_X5_advance_2 rfl dX5_advance_9 ?_
  refine lv_aload_n hx hb dX5_advance_12 rfl (lv_at hl 0 rfl) ?_
  refine kg5 (k := 2) (v := .int (g_1.1 2 2)) C S rfl (by decide) n_X5_advance_X5 m_X5_advance_3 rfl dX5_advance_13 ?_
  refine lv_icmp_lt (tgt := 27) hx hb dX5_advance_16 (by decide) (fun c1 => ?_) (fun c1 => ?_)
  · have h := h.1 c1
    refine lv_aload_n hx hb dX5_advance_27 rfl (lv_at hl 0 rfl) ?_
    refine kg5 (k := 0) (v := .ref (ad 3)) C S rfl (by decide) n_X5_advance_X5 m_X5_advance_5 rfl dX5_advance_28 ?_
    refine lv_aload_n hx hb dX5_advance_31 rfl (lv_at hl 0 rfl) ?_
    refine kg5 (k := 4) (v := .int (g_1.1 2 4)) C S rfl (by decide) n_X5_advance_X5 m_X5_advance_2 rfl dX5_advance_32 ?_
    obtain ⟨hi, h⟩ := h
    refine kLi C S rfl rfl hi dX5_advance_35 ?_
    refine lv_topi (fun x_2 ex_2 => ?_)
    have h := h x_2 ex_2
    refine lv_istore_n (lv' := [(1, .int x_2), (0, .ref (ad 2))]) hx hb dX5_advance_36 rfl hl (by decide) rfl (fun ls hl => ?_)
    refine lv_iload_n hx hb dX5_advance_37 rfl (lv_at hl 0 rfl) ?_
    refine kS_i (As := [.int x_2]) (rest := []) C S hl.1 (o_X5_isFigure_c h) (cw_X5_advance_X5_isFigure C.1.2.2.2.2) rfl rfl (Nat.le_of_ble_eq_true rfl) dX5_advance_38 (fun r_4 g_3 H locs h S => ?_)
    refine lv_if_eq (tgt := 49) hx hb dX5_advance_41 (by decide) (fun c1 => ?_) (fun c1 => ?_)
    · have h := h.1 c1
      refine lv_iload_n hx hb dX5_advance_49 rfl (lv_at hl 0 rfl) ?_
      refine lv_bipush (v := 97) hx hb dX5_advance_50 (by decide) ?_
      refine lv_bipush (v := 122) hx hb dX5_advance_52 (by decide) ?_
      refine kN_i (As := [.int x_2, .int 97, .int 122]) (rest := []) C S hl.1 (o_X7_within_c h) (cw_X5_advance_X7_within C.1.2.2.2.2 C.2.2.2.1) rfl rfl (Nat.le_of_ble_eq_true rfl) dX5_advance_54 (fun r_6 g_5 H locs h S => ?_)
      refine lv_if_ne (tgt := 72) hx hb dX5_advance_57 (by decide) (fun c1 => ?_) (fun c1 => ?_)
      · have h := h.1 c1
        exact o_X5_advance_72_w C g_5 x_2 _ _ _ S (lv_sub hl [1, 0] rfl) h
      · have h := h.2 c1
        refine lv_iload_n hx hb dX5_advance_60 rfl (lv_at hl 0 rfl) ?_
        refine lv_bipush (v := 44) hx hb dX5_advance_61 (by decide) ?_
        refine lv_icmp_eq (tgt := 72) hx hb dX5_advance_63 (by decide) (fun c1 => ?_) (fun c1 => ?_)
        · have h := h.1 c1
          exact o_X5_advance_72_w C g_5 x_2 _ _ _ S (lv_sub hl [1, 0] rfl) h
        · have h := h.2 c1
          refine lv_iload_n hx hb dX5_advance_66 rfl (lv_at hl 0 rfl) ?_
          refine lv_bipush (v := 59) hx hb dX5_advance_67 (by decide) ?_
          refine lv_icmp_ne (tgt := 76) hx hb dX5_advance_69 (by decide) (fun c1 => ?_) (fun c1 => ?_)
          · have h := h.1 c1
            refine lv_iconst (v := 0) hx hb dX5_advance_76 (by decide) ?_
            exact o_X5_advance_77_w C g_5 x_2 0 _ _ _ S (lv_sub hl [1, 0] rfl) h
          · have h := h.2 c1
            exact o_X5_advance_72_w C g_5 x_2 _ _ _ S (lv_sub hl [1, 0] rfl) h
    · have h := h.2 c1
      refine lv_aload_n hx hb dX5_advance_44 rfl (lv_at hl 1 rfl) ?_
      refine kV_v (As := []) (rest := []) C S hl.1 (o_X5_advanceNumber_c h) (wd_o5 rfl) rfl (cw_X5_advance_X5_advanceNumber C.1.2.2.2.2) rfl rfl (Nat.le_of_ble_eq_true rfl) dX5_advance_45 (fun g_9 H locs h S => ?_)
      exact kRv C S h dX5_advance_48
  · have h := h.2 c1
    refine lv_aload_n hx hb dX5_advance_19 rfl (lv_at hl 0 rfl) ?_
    refine lv_sipush (v := 257) hx hb dX5_advance_20 (by decide) ?_
    refine kp5_5 C S rfl n_X5_advance_X5 m_X5_advance_4 dX5_advance_23 (fun g_11 H locs eg_11 S => ?_)
    have h := h g_11 eg_11
    exact kRv C S h dX5_advance_26
