/-! ClawCase$Reader.append(I)I, height 0 -/
theorem m_X5_append_1 : Cond.fieldLink RX5 9 "ClawCase$Reader" "tape" "[I" ∈ wsX5_append := List.mem_of_getElem? (i := 1) (by decide +kernel)
theorem n_X5_append_X5 : ∀ w ∈ wsX50, w ∈ wsX5_append := mem_by [3, 4, 5, 6, 7, 8, 9, 10] (by decide +kernel)
theorem m_X5_append_2 : Cond.fieldLink RX5 22 "ClawCase$Reader" "bytes" "I" ∈ wsX5_append := List.mem_of_getElem? (i := 2) (by decide +kernel)
def o_X5_append (Q : Int32 → Mm → Prop) (g : Mm) (x1 : Int32) : Prop := vp_in (g.1 2 2) 70 ∧ (∀ g_1 : Mm, g_1 = mset g 3 (g.1 2 2 : Int32).toNatClampNeg x1 → (∀ g_2 : Mm, g_2 = mset g_1 2 2 ((g_1.1 2 2) + 1) → (Q (g_2.1 2 2) g_2)))
set_option maxHeartbeats 4000000 in
set_option maxRecDepth 100000 in
theorem o_X5_append_c {l : Launch} {dC : Nat → ClassId} {dI : Nat → Nat → Nat} {cy : Nat → ClassId} {ad tz : Nat → Nat} {Q : Int32 → Mm → Prop} {g : Mm} {x1 : Int32} (h : o_X5_append Q g x1) : CI l dC dI cy ad tz yX5_append wsX5_append (rmD 0) [.ref (ad 2), .int x1] g Q := by
  refine CI.of (by decide) rfl rfl (Nat.le_of_ble_eq_true rfl) ?_
  intro p e s m args below meth c ls C hl S
  have hl : lv_has ls 2 [(0, .ref (ad 2)), (1, .int x1)] := hl
  have hx := C.1.1
  have hb := C.1.2.1
  unfold o_X5_append at h
  refine lv_aload_n hx hb dX5_append_0 rfl (lv_at hl 0 rfl) ?_
  refine kg5 (k := 0) (v := .ref (ad 3)) C S rfl (by decide) n_X5_append_X5 m_X5_append_1 rfl dX5_append_1 ?_
  refine lv_aload_n hx hb dX5_append_4 rfl (lv_at hl 0 rfl) ?_
  refine kg5 (k := 2) (v := .int (g.1 2 2)) C S rfl (by decide) n_X5_append_X5 m_X5_append_2 rfl dX5_append_5 ?_
  refine lv_iload_n hx hb dX5_append_8 rfl (lv_at hl 1 rfl) ?_
  obtain ⟨hi, h⟩ := h
  refine kSi C S rfl rfl hi dX5_append_9 (fun g_1 H locs eg_1 S => ?_)
  have h := h g_1 eg_1
  refine lv_aload_n hx hb dX5_append_10 rfl (lv_at hl 0 rfl) ?_
  refine lv_dup hx hb dX5_append_11 rfl ?_
  refine kg5 (k := 2) (v := .int (g_1.1 2 2)) C S rfl (by decide) n_X5_append_X5 m_X5_append_2 rfl dX5_append_12 ?_
  refine lv_iconst (v := 1) hx hb dX5_append_15 (by decide) ?_
  refine lv_iadd hx hb dX5_append_16 ?_
  refine kp5_2 C S rfl n_X5_append_X5 m_X5_append_2 dX5_append_17 (fun g_2 H locs eg_2 S => ?_)
  have h := h g_2 eg_2
  refine lv_aload_n hx hb dX5_append_20 rfl (lv_at hl 0 rfl) ?_
  refine kg5 (k := 2) (v := .int (g_2.1 2 2)) C S rfl (by decide) n_X5_append_X5 m_X5_append_2 rfl dX5_append_21 ?_
  exact kRi C S h dX5_append_24
/-! ClawCase$Reader.expect(I)V, height 3 -/
theorem m_X5_expect_1 : Cond.fieldLink RX5 26 "ClawCase$Reader" "wrong" "I" ∈ wsX5_expect := List.mem_of_getElem? (i := 1) (by decide +kernel)
theorem n_X5_expect_X5 : ∀ w ∈ wsX50, w ∈ wsX5_expect := mem_by [23, 24, 25, 26, 27, 28, 29, 30] (by decide +kernel)
theorem m_X5_expect_2 : Cond.fieldLink RX5 32 "ClawCase$Reader" "token" "I" ∈ wsX5_expect := List.mem_of_getElem? (i := 2) (by decide +kernel)
theorem cw_X5_expect_X5_advance {s : State} {args : Array Value} (ht : ∀ w ∈ wsX5_expect, w.before args s = true) : CallW (rmD 3) s args RX5 RX5 41 yX5_advance cX5_advance 3 none wsX5_advance (rmD (2)) 0 0 0 := cwV 0 ht gX5_expect_X5_advance rfl rfl rfl (by decide +kernel) ⟨Nat.le_of_ble_eq_true rfl, Nat.le_of_ble_eq_true rfl⟩
def o_X5_expect_23 (Q : Mm → Prop) (g : Mm) : Prop := ∀ g_1 : Mm, g_1 = mset g 2 3 1 → (Q g_1)
set_option maxHeartbeats 4000000 in
set_option maxRecDepth 100000 in
theorem o_X5_expect_23_w {p : Program} {l : Launch} {e : Env} {s : State} {m : MethodId} {args : Array Value} {below : List Frame} {meth : Method} {c : Code} {dC : Nat → ClassId} {dI : Nat → Nat → Nat} {cy : Nat → ClassId} {ad tz : Nat → Nat} {Q : Mm → Prop} (C : CX p s m args meth c dC dI cy ad tz cX5_expect 2 none RX5 wsX5_expect) : ∀ (g : Mm) (H : Heap) (locs : List Loc) (ls : Array Slot), St dC dI cy ad s g H locs → lv_has ls 2 [(0, .ref (ad 2))] → o_X5_expect_23 Q g → W p l e (rmD 3) s m args below meth c H locs 0 0 (QV dC dI cy ad below args s Q) (F0 m 23 ls []) := by
  have hx := C.1.1
  have hb := C.1.2.1
  intro g H locs ls S hl h
  unfold o_X5_expect_23 at h
  refine lv_aload_n hx hb dX5_expect_23 rfl (lv_at hl 0 rfl) ?_
  refine lv_iconst (v := 1) hx hb dX5_expect_24 (by decide) ?_
  refine kp5_3 C S rfl n_X5_expect_X5 m_X5_expect_1 dX5_expect_25 (fun g_1 H locs eg_1 S => ?_)
  have h := h g_1 eg_1
  exact kRv C S h dX5_expect_28
def o_X5_expect (Q : Mm → Prop) (g : Mm) (x1 : Int32) : Prop := (((g.1 2 3) = 0) → ((¬ (g.1 2 5) = x1) → o_X5_expect_23 Q g) ∧ (((g.1 2 5) = x1) → ((¬ x1 = 258) → o_X5_advance (fun (g_2 : Mm) => Q g_2) g) ∧ ((x1 = 258) → o_X5_expect_23 Q g))) ∧ ((¬ (g.1 2 3) = 0) → Q g)
set_option maxHeartbeats 4000000 in
set_option maxRecDepth 100000 in
theorem o_X5_expect_c {l : Launch} {dC : Nat → ClassId} {dI : Nat → Nat → Nat} {cy : Nat → ClassId} {ad tz : Nat → Nat} {Q : Mm → Prop} {g : Mm} {x1 : Int32} (h : o_X5_expect Q g x1) : CV l dC dI cy ad tz yX5_expect wsX5_expect (rmD 3) [.ref (ad 2), .int x1] g Q := by
  refine CV.of (by decide) rfl rfl (Nat.le_of_ble_eq_true rfl) ?_
  intro p e s m args below meth c ls C hl S
  have hl : lv_has ls 2 [(0, .ref (ad 2)), (1, .int x1)] := hl
  have hx := C.1.1
  have hb := C.1.2.1
  unfold o_X5_expect at h
  refine lv_aload_n hx hb dX5_expect_0 rfl (lv_at hl 0 rfl) ?_
  refine kg5 (k := 3) (v := .int (g.1 2 3)) C S rfl (by decide) n_X5_expect_X5 m_X5_expect_1 rfl dX5_expect_1 ?_
  refine lv_if_eq (tgt := 8) hx hb dX5_expect_4 (by decide) (fun c1 => ?_) (fun c1 => ?_)
  · have h := h.1 c1
    refine lv_aload_n hx hb dX5_expect_8 rfl (lv_at hl 0 rfl) ?_
    refine kg5 (k := 5) (v := .int (g.1 2 5)) C S rfl (by decide) n_X5_expect_X5 m_X5_expect_2 rfl dX5_expect_9 ?_
    refine lv_iload_n hx hb dX5_expect_12 rfl (lv_at hl 1 rfl) ?_
    refine lv_icmp_ne (tgt := 23) hx hb dX5_expect_13 (by decide) (fun c1 => ?_) (fun c1 => ?_)
    · have h := h.1 c1
      exact o_X5_expect_23_w C g _ _ _ S (lv_sub hl [0] rfl) h
    · have h := h.2 c1
      refine lv_iload_n hx hb dX5_expect_16 rfl (lv_at hl 1 rfl) ?_
      refine lv_sipush (v := 258) hx hb dX5_expect_17 (by decide) ?_
      refine lv_icmp_ne (tgt := 29) hx hb dX5_expect_20 (by decide) (fun c1 => ?_) (fun c1 => ?_)
      · have h := h.1 c1
        refine lv_aload_n hx hb dX5_expect_29 rfl (lv_at hl 0 rfl) ?_
        refine kV_v (As := []) (rest := []) C S hl.1 (o_X5_advance_c h) (wd_o5 rfl) rfl (cw_X5_expect_X5_advance C.1.2.2.2.2) rfl rfl (Nat.le_of_ble_eq_true rfl) dX5_expect_30 (fun g_2 H locs h S => ?_)
        exact kRv C S h dX5_expect_33
      · have h := h.2 c1
        exact o_X5_expect_23_w C g _ _ _ S (lv_sub hl [0] rfl) h
  · have h := h.2 c1
    exact kRv C S h dX5_expect_7
/-! ClawCase$Reader.expectNumber(II)I, height 3 -/
theorem m_X5_expectNumber_1 : Cond.fieldLink RX5 26 "ClawCase$Reader" "wrong" "I" ∈ wsX5_expectNumber := List.mem_of_getElem? (i := 1) (by decide +kernel)
theorem n_X5_expectNumber_X5 : ∀ w ∈ wsX50, w ∈ wsX5_expectNumber := mem_by [23, 24, 25, 26, 27, 28, 29, 30] (by decide +kernel)
theorem m_X5_expectNumber_2 : Cond.fieldLink RX5 32 "ClawCase$Reader" "token" "I" ∈ wsX5_expectNumber := List.mem_of_getElem? (i := 2) (by decide +kernel)
theorem m_X5_expectNumber_3 : Cond.fieldLink RX5 38 "ClawCase$Reader" "number" "I" ∈ wsX5_expectNumber := List.mem_of_getElem? (i := 3) (by decide +kernel)
theorem cw_X5_expectNumber_X5_advance {s : State} {args : Array Value} (ht : ∀ w ∈ wsX5_expectNumber, w.before args s = true) : CallW (rmD 3) s args RX5 RX5 41 yX5_advance cX5_advance 3 none wsX5_advance (rmD (2)) 0 0 0 := cwV 0 ht gX5_expectNumber_X5_advance rfl rfl rfl (by decide +kernel) ⟨Nat.le_of_ble_eq_true rfl, Nat.le_of_ble_eq_true rfl⟩
theorem m_X5_expectNumber_4 : Cond.static yX7_within ∈ wsX5_expectNumber := List.mem_of_getElem? (i := 4) (by decide +kernel)
theorem m_X5_expectNumber_5 : Cond.initialized RX7 ∈ wsX5_expectNumber := List.mem_of_getElem? (i := 5) (by decide +kernel)
theorem cw_X5_expectNumber_X7_within {s : State} {args : Array Value} (ht : ∀ w ∈ wsX5_expectNumber, w.before args s = true) (hN : NW s) : va_CN (rmD 3) s args RX5 72 yX7_within "ClawCase" cX7_within 3 (some .boolean) wsX7_within (rmD (0)) 0 0 3 ∧ (Cond.static yX7_within).before args s = true ∧ True := ⟨va_cnB 3 ht gX5_expectNumber_X7_within_n72 rfl rfl rfl (hN (RX5, 72, yX7_within, "ClawCase") (by decide +kernel)) (ht _ m_X5_expectNumber_5) (by decide +kernel) ⟨Nat.le_of_ble_eq_true rfl, Nat.le_of_ble_eq_true rfl⟩, ht _ m_X5_expectNumber_4, trivial⟩
def o_X5_expectNumber (Q : Int32 → Mm → Prop) (g : Mm) (x1 : Int32) (x2 : Int32) : Prop := (((g.1 2 3) = 0) → (((g.1 2 5) = 256) → o_X7_within (fun (r_2 : Int32) (g_1 : Mm) => ((¬ r_2 = 0) → ∀ x_3 : Int32, x_3 = (g_1.1 2 7) → (o_X5_advance (fun (g_4 : Mm) => Q x_3 g_4) g_1)) ∧ ((r_2 = 0) → ∀ g_6 : Mm, g_6 = mset g_1 2 3 2 → (Q 0 g_6))) g (g.1 2 7) x1 x2) ∧ ((¬ (g.1 2 5) = 256) → ∀ g_7 : Mm, g_7 = mset g 2 3 1 → (Q 0 g_7))) ∧ ((¬ (g.1 2 3) = 0) → Q 0 g)
set_option maxHeartbeats 4000000 in
set_option maxRecDepth 100000 in
theorem o_X5_expectNumber_c {l : Launch} {dC : Nat → ClassId} {dI : Nat → Nat → Nat} {cy : Nat → ClassId} {ad tz : Nat → Nat} {Q : Int32 → Mm → Prop} {g : Mm} {x1 : Int32} {x2 : Int32} (h : o_X5_expectNumber Q g x1 x2) : CI l dC dI cy ad tz yX5_expectNumber wsX5_expectNumber (rmD 3) [.ref (ad 2), .int x1, .int x2] g Q := by
  refine CI.of (by decide) rfl rfl (Nat.le_of_ble_eq_true rfl) ?_
  intro p e s m args below meth c ls C hl S
  have hl : lv_has ls 4 [(0, .ref (ad 2)), (1, .int x1), (2, .int x2)] := hl
  have hx := C.1.1
  have hb := C.1.2.1
  unfold o_X5_expectNumber at h
  refine lv_aload_n hx hb dX5_expectNumber_0 rfl (lv_at hl 0 rfl) ?_
  refine kg5 (k := 3) (v := .int (g.1 2 3)) C S rfl (by decide) n_X5_expectNumber_X5 m_X5_expectNumber_1 rfl dX5_expectNumber_1 ?_
  refine lv_if_eq (tgt := 9) hx hb dX5_expectNumber_4 (by decide) (fun c1 => ?_) (fun c1 => ?_)
  · have h := h.1 c1
    refine lv_aload_n hx hb dX5_expectNumber_9 rfl (lv_at hl 0 rfl) ?_
    refine kg5 (k := 5) (v := .int (g.1 2 5)) C S rfl (by decide) n_X5_expectNumber_X5 m_X5_expectNumber_2 rfl dX5_expectNumber_10 ?_
    refine lv_sipush (v := 256) hx hb dX5_expectNumber_13 (by decide) ?_
    refine lv_icmp_eq (tgt := 26) hx hb dX5_expectNumber_16 (by decide) (fun c1 => ?_) (fun c1 => ?_)
    · have h := h.1 c1
      refine lv_aload_n hx hb dX5_expectNumber_26 rfl (lv_at hl 0 rfl) ?_
      refine kg5 (k := 7) (v := .int (g.1 2 7)) C S rfl (by decide) n_X5_expectNumber_X5 m_X5_expectNumber_3 rfl dX5_expectNumber_27 ?_
      refine lv_iload_n hx hb dX5_expectNumber_30 rfl (lv_at hl 1 rfl) ?_
      refine lv_iload_n hx hb dX5_expectNumber_31 rfl (lv_at hl 2 rfl) ?_
      refine kN_i (As := [.int (g.1 2 7), .int x1, .int x2]) (rest := []) C S hl.1 (o_X7_within_c h) (cw_X5_expectNumber_X7_within C.1.2.2.2.2 C.2.2.2.1) rfl rfl (Nat.le_of_ble_eq_true rfl) dX5_expectNumber_32 (fun r_2 g_1 H locs h S => ?_)
      refine lv_if_ne (tgt := 45) hx hb dX5_expectNumber_35 (by decide) (fun c1 => ?_) (fun c1 => ?_)
      · have h := h.1 c1
        refine lv_aload_n hx hb dX5_expectNumber_45 rfl (lv_at hl 0 rfl) ?_
        refine kg5 (k := 7) (v := .int (g_1.1 2 7)) C S rfl (by decide) n_X5_expectNumber_X5 m_X5_expectNumber_3 rfl dX5_expectNumber_46 ?_
        refine lv_topi (fun x_3 ex_3 => ?_)
        have h := h x_3 ex_3
        refine lv_istore_n (lv' := [(3, .int x_3), (0, .ref (ad 2)), (1, .int x1), (2, .int x2)]) hx hb dX5_expectNumber_49 rfl hl (by decide) rfl (fun ls hl => ?_)
        refine lv_aload_n hx hb dX5_expectNumber_50 rfl (lv_at hl 1 rfl) ?_
        refine kV_v (As := []) (rest := []) C S hl.1 (o_X5_advance_c h) (wd_o5 rfl) rfl (cw_X5_expectNumber_X5_advance C.1.2.2.2.2) rfl rfl (Nat.le_of_ble_eq_true rfl) dX5_expectNumber_51 (fun g_4 H locs h S => ?_)
        refine lv_iload_n hx hb dX5_expectNumber_54 rfl (lv_at hl 0 rfl) ?_
        exact kRi C S h dX5_expectNumber_55
      · have h := h.2 c1
        refine lv_aload_n hx hb dX5_expectNumber_38 rfl (lv_at hl 0 rfl) ?_
        refine lv_iconst (v := 2) hx hb dX5_expectNumber_39 (by decide) ?_
        refine kp5_3 C S rfl n_X5_expectNumber_X5 m_X5_expectNumber_1 dX5_expectNumber_40 (fun g_6 H locs eg_6 S => ?_)
        have h := h g_6 eg_6
        refine lv_iconst (v := 0) hx hb dX5_expectNumber_43 (by decide) ?_
        exact kRi C S h dX5_expectNumber_44
    · have h := h.2 c1
      refine lv_aload_n hx hb dX5_expectNumber_19 rfl (lv_at hl 0 rfl) ?_
      refine lv_iconst (v := 1) hx hb dX5_expectNumber_20 (by decide) ?_
      refine kp5_3 C S rfl n_X5_expectNumber_X5 m_X5_expectNumber_1 dX5_expectNumber_21 (fun g_7 H locs eg_7 S => ?_)
      have h := h g_7 eg_7
      refine lv_iconst (v := 0) hx hb dX5_expectNumber_24 (by decide) ?_
      exact kRi C S h dX5_expectNumber_25
  · have h := h.2 c1
    refine lv_iconst (v := 0) hx hb dX5_expectNumber_7 (by decide) ?_
    exact kRi C S h dX5_expectNumber_8
/-! ClawCase$Reader.kindOf(I)I, height 0 -/
def o_X5_kindOf (Q : Int32 → Mm → Prop) (g : Mm) (x0 : Int32) : Prop := (x0 = 98 → Q 1 g) ∧ (x0 = 101 → Q 5 g) ∧ (x0 = 108 → Q 3 g) ∧ (x0 = 111 → Q 4 g) ∧ (x0 = 115 → Q 2 g) ∧ ((¬ x0 = 98 ∧ ¬ x0 = 101 ∧ ¬ x0 = 108 ∧ ¬ x0 = 111 ∧ ¬ x0 = 115) → Q 0 g)
set_option maxHeartbeats 4000000 in
set_option maxRecDepth 100000 in
theorem o_X5_kindOf_c {l : Launch} {dC : Nat → ClassId} {dI : Nat → Nat → Nat} {cy : Nat → ClassId} {ad tz : Nat → Nat} {Q : Int32 → Mm → Prop} {g : Mm} {x0 : Int32} (h : o_X5_kindOf Q g x0) : CI l dC dI cy ad tz yX5_kindOf wsX5_kindOf (rmD 0) [.int x0] g Q := by
  refine CI.of (by decide) rfl rfl (Nat.le_of_ble_eq_true rfl) ?_
  intro p e s m args below meth c ls C hl S
  have hl : lv_has ls 1 [(0, .int x0)] := hl
  have hx := C.1.1
  have hb := C.1.2.1
  unfold o_X5_kindOf at h
  refine lv_iload_n hx hb dX5_kindOf_0 rfl (lv_at hl 0 rfl) ?_
  by_cases c98 : x0 = 98
  · have h := h.1 c98
    refine lv_lookup (off := 51) (tgt := 52) hx hb dX5_kindOf_1 (by decide) (by rw [c98]; decide) (by decide) ?_
    refine lv_iconst (v := 1) hx hb dX5_kindOf_52 (by decide) ?_
    exact kRi C S h dX5_kindOf_53
  by_cases c101 : x0 = 101
  · have h := h.2.1 c101
    refine lv_lookup (off := 59) (tgt := 60) hx hb dX5_kindOf_1 (by decide) (by rw [c101]; decide) (by decide) ?_
    refine lv_iconst (v := 5) hx hb dX5_kindOf_60 (by decide) ?_
    exact kRi C S h dX5_kindOf_61
  by_cases c108 : x0 = 108
  · have h := h.2.2.1 c108
    refine lv_lookup (off := 55) (tgt := 56) hx hb dX5_kindOf_1 (by decide) (by rw [c108]; decide) (by decide) ?_
    refine lv_iconst (v := 3) hx hb dX5_kindOf_56 (by decide) ?_
    exact kRi C S h dX5_kindOf_57
  by_cases c111 : x0 = 111
  · have h := h.2.2.2.1 c111
    refine lv_lookup (off := 57) (tgt := 58) hx hb dX5_kindOf_1 (by decide) (by rw [c111]; decide) (by decide) ?_
    refine lv_iconst (v := 4) hx hb dX5_kindOf_58 (by decide) ?_
    exact kRi C S h dX5_kindOf_59
  by_cases c115 : x0 = 115
  · have h := h.2.2.2.2.1 c115
    refine lv_lookup (off := 53) (tgt := 54) hx hb dX5_kindOf_1 (by decide) (by rw [c115]; decide) (by decide) ?_
    refine lv_iconst (v := 2) hx hb dX5_kindOf_54 (by decide) ?_
    exact kRi C S h dX5_kindOf_55
  have h := h.2.2.2.2.2 ⟨c98, c101, c108, c111, c115⟩
  refine lv_lookup (off := 61) (tgt := 62) hx hb dX5_kindOf_1 (by decide) ?_ (by decide) ?_
  · show Op.lookupswitch.offset [(98, 51), (101, 59), (108, 55), (111, 57), (115, 53)] 61 _ = 61
    rw [Op.lookupswitch.offset_cons, if_neg (fun q => lk_ne c98 (by decide) q.symm), Op.lookupswitch.offset_cons, if_neg (fun q => lk_ne c101 (by decide) q.symm), Op.lookupswitch.offset_cons, if_neg (fun q => lk_ne c108 (by decide) q.symm), Op.lookupswitch.offset_cons, if_neg (fun q => lk_ne c111 (by decide) q.symm), Op.lookupswitch.offset_cons, if_neg (fun q => lk_ne c115 (by decide) q.symm), Op.lookupswitch.offset_nil]
  refine lv_iconst (v := 0) hx hb dX5_kindOf_62 (by decide) ?_
  exact kRi C S h dX5_kindOf_63
/-! ClawCase$Reader.readLaw()V, height 4 -/
theorem m_X5_readLaw_1 : Cond.fieldLink RX5 18 "ClawCase$Reader" "draft" "LClawCase$Box;" ∈ wsX5_readLaw := List.mem_of_getElem? (i := 1) (by decide +kernel)
theorem n_X5_readLaw_X5 : ∀ w ∈ wsX50, w ∈ wsX5_readLaw := mem_by [42, 43, 44, 45, 46, 47, 48, 49] (by decide +kernel)
theorem cw_X5_readLaw_X3_begin {s : State} {args : Array Value} (ht : ∀ w ∈ wsX5_readLaw, w.before args s = true) : CallW (rmD 4) s args RX5 RX3 58 yX3_begin cX3_begin 4 none wsX3_begin (rmD (0)) 0 0 3 := cwV 3 ht gX5_readLaw_X3_begin rfl rfl rfl (by decide +kernel) ⟨Nat.le_of_ble_eq_true rfl, Nat.le_of_ble_eq_true rfl⟩
theorem cw_X5_readLaw_X5_expect {s : State} {args : Array Value} (ht : ∀ w ∈ wsX5_readLaw, w.before args s = true) : CallW (rmD 4) s args RX5 RX5 50 yX5_expect cX5_expect 2 none wsX5_expect (rmD (3)) 0 0 1 := cwV 1 ht gX5_readLaw_X5_expect rfl rfl rfl (by decide +kernel) ⟨Nat.le_of_ble_eq_true rfl, Nat.le_of_ble_eq_true rfl⟩
theorem cw_X5_readLaw_X5_expectNumber {s : State} {args : Array Value} (ht : ∀ w ∈ wsX5_readLaw, w.before args s = true) : CallW (rmD 4) s args RX5 RX5 54 yX5_expectNumber cX5_expectNumber 4 (some .int) wsX5_expectNumber (rmD (3)) 0 0 2 := cwV 2 ht gX5_readLaw_X5_expectNumber rfl rfl rfl (by decide +kernel) ⟨Nat.le_of_ble_eq_true rfl, Nat.le_of_ble_eq_true rfl⟩
def o_X5_readLaw (Q : Mm → Prop) (g : Mm) : Prop := o_X5_expect (fun (g_1 : Mm) => o_X5_expectNumber (fun (r_4 : Int32) (g_3 : Mm) => o_X5_expect (fun (g_5 : Mm) => o_X5_expectNumber (fun (r_8 : Int32) (g_7 : Mm) => o_X5_expect (fun (g_9 : Mm) => o_X5_expectNumber (fun (r_12 : Int32) (g_11 : Mm) => o_X5_expect (fun (g_13 : Mm) => o_X3_begin (fun (g_15 : Mm) => Q g_15) 4 g_13 r_4 r_8 r_12) g_11 59) g_9 1 9) g_7 44) g_5 0 9) g_3 44) g_1 0 9) g 103
set_option maxHeartbeats 4000000 in
set_option maxRecDepth 100000 in
theorem o_X5_readLaw_c {l : Launch} {dC : Nat → ClassId} {dI : Nat → Nat → Nat} {cy : Nat → ClassId} {ad tz : Nat → Nat} {Q : Mm → Prop} {g : Mm} (h : o_X5_readLaw Q g) : CV l dC dI cy ad tz yX5_readLaw wsX5_readLaw (rmD 4) [.ref (ad 2)] g Q := by
  refine CV.of (by decide) rfl rfl (Nat.le_of_ble_eq_true rfl) ?_
  intro p e s m args below meth c ls C hl S
  have hl : lv_has ls 4 [(0, .ref (ad 2))] := hl
  have hx := C.1.1
  have hb := C.1.2.1
  unfold o_X5_readLaw at h
  refine lv_aload_n hx hb dX5_readLaw_0 rfl (lv_at hl 0 rfl) ?_
  refine lv_bipush (v := 103) hx hb dX5_readLaw_1 (by decide) ?_
  refine kV_v (As := [.int 103]) (rest := []) C S hl.1 (o_X5_expect_c h) (wd_o5 rfl) rfl (cw_X5_readLaw_X5_expect C.1.2.2.2.2) rfl rfl (Nat.le_of_ble_eq_true rfl) dX5_readLaw_3 (fun g_1 H locs h S => ?_)
  refine lv_aload_n hx hb dX5_readLaw_6 rfl (lv_at hl 0 rfl) ?_
  refine lv_iconst (v := 0) hx hb dX5_readLaw_7 (by decide) ?_
  refine lv_bipush (v := 9) hx hb dX5_readLaw_8 (by decide) ?_
  refine kV_i (As := [.int 0, .int 9]) (rest := []) C S hl.1 (o_X5_expectNumber_c h) (wd_o5 rfl) rfl (cw_X5_readLaw_X5_expectNumber C.1.2.2.2.2) rfl rfl (Nat.le_of_ble_eq_true rfl) dX5_readLaw_10 (fun r_4 g_3 H locs h S => ?_)
  refine lv_istore_n (lv' := [(1, .int r_4), (0, .ref (ad 2))]) hx hb dX5_readLaw_13 rfl hl (by decide) rfl (fun ls hl => ?_)
  refine lv_aload_n hx hb dX5_readLaw_14 rfl (lv_at hl 1 rfl) ?_
  refine lv_bipush (v := 44) hx hb dX5_readLaw_15 (by decide) ?_
  refine kV_v (As := [.int 44]) (rest := []) C S hl.1 (o_X5_expect_c h) (wd_o5 rfl) rfl (cw_X5_readLaw_X5_expect C.1.2.2.2.2) rfl rfl (Nat.le_of_ble_eq_true rfl) dX5_readLaw_17 (fun g_5 H locs h S => ?_)
  refine lv_aload_n hx hb dX5_readLaw_20 rfl (lv_at hl 1 rfl) ?_
  refine lv_iconst (v := 0) hx hb dX5_readLaw_21 (by decide) ?_
  refine lv_bipush (v := 9) hx hb dX5_readLaw_22 (by decide) ?_
  refine kV_i (As := [.int 0, .int 9]) (rest := []) C S hl.1 (o_X5_expectNumber_c h) (wd_o5 rfl) rfl (cw_X5_readLaw_X5_expectNumber C.1.2.2.2.2) rfl rfl (Nat.le_of_ble_eq_true rfl) dX5_readLaw_24 (fun r_8 g_7 H locs h S => ?_)
  refine lv_istore_n (lv' := [(2, .int r_8), (1, .int r_4), (0, .ref (ad 2))]) hx hb dX5_readLaw_27 rfl hl (by decide) rfl (fun ls hl => ?_)
  refine lv_aload_n hx hb dX5_readLaw_28 rfl (lv_at hl 2 rfl) ?_
  refine lv_bipush (v := 44) hx hb dX5_readLaw_29 (by decide) ?_
  refine kV_v (As := [.int 44]) (rest := []) C S hl.1 (o_X5_expect_c h) (wd_o5 rfl) rfl (cw_X5_readLaw_X5_expect C.1.2.2.2.2) rfl rfl (Nat.le_of_ble_eq_true rfl) dX5_readLaw_31 (fun g_9 H locs h S => ?_)
  refine lv_aload_n hx hb dX5_readLaw_34 rfl (lv_at hl 2 rfl) ?_
  refine lv_iconst (v := 1) hx hb dX5_readLaw_35 (by decide) ?_
  refine lv_bipush (v := 9) hx hb dX5_readLaw_36 (by decide) ?_
  refine kV_i (As := [.int 1, .int 9]) (rest := []) C S hl.1 (o_X5_expectNumber_c h) (wd_o5 rfl) rfl (cw_X5_readLaw_X5_expectNumber C.1.2.2.2.2) rfl rfl (Nat.le_of_ble_eq_true rfl) dX5_readLaw_38 (fun r_12 g_11 H locs h S => ?_)
  refine lv_istore_n (lv' := [(3, .int r_12), (2, .int r_8), (1, .int r_4), (0, .ref (ad 2))]) hx hb dX5_readLaw_41 rfl hl (by decide) rfl (fun ls hl => ?_)
  refine lv_aload_n hx hb dX5_readLaw_42 rfl (lv_at hl 3 rfl) ?_
  refine lv_bipush (v := 59) hx hb dX5_readLaw_43 (by decide) ?_
  refine kV_v (As := [.int 59]) (rest := []) C S hl.1 (o_X5_expect_c h) (wd_o5 rfl) rfl (cw_X5_readLaw_X5_expect C.1.2.2.2.2) rfl rfl (Nat.le_of_ble_eq_true rfl) dX5_readLaw_45 (fun g_13 H locs h S => ?_)
  refine lv_aload_n hx hb dX5_readLaw_48 rfl (lv_at hl 3 rfl) ?_
  refine kg5 (k := 1) (v := .ref (ad 4)) C S rfl (by decide) n_X5_readLaw_X5 m_X5_readLaw_1 rfl dX5_readLaw_49 ?_
  refine lv_iload_n hx hb dX5_readLaw_52 rfl (lv_at hl 2 rfl) ?_
  refine lv_iload_n hx hb dX5_readLaw_53 rfl (lv_at hl 1 rfl) ?_
  refine lv_iload_n hx hb dX5_readLaw_54 rfl (lv_at hl 0 rfl) ?_
  refine kV_v (As := [.int r_4, .int r_8, .int r_12]) (rest := []) C S hl.1 (o_X3_begin_c rfl h) (wd_o3 rfl) rfl (cw_X5_readLaw_X3_begin C.1.2.2.2.2) rfl rfl (Nat.le_of_ble_eq_true rfl) dX5_readLaw_55 (fun g_15 H locs h S => ?_)
  exact kRv C S h dX5_readLaw_58
/-! ClawCase$Reader.readToy()V, height 4 -/
theorem m_X5_readToy_1 : Cond.fieldLink RX5 32 "ClawCase$Reader" "token" "I" ∈ wsX5_readToy := List.mem_of_getElem? (i := 1) (by decide +kernel)
theorem n_X5_readToy_X5 : ∀ w ∈ wsX50, w ∈ wsX5_readToy := mem_by [57, 58, 59, 60, 61, 62, 63, 64] (by decide +kernel)
theorem m_X5_readToy_2 : Cond.fieldLink RX5 26 "ClawCase$Reader" "wrong" "I" ∈ wsX5_readToy := List.mem_of_getElem? (i := 2) (by decide +kernel)
theorem m_X5_readToy_3 : Cond.fieldLink RX5 18 "ClawCase$Reader" "draft" "LClawCase$Box;" ∈ wsX5_readToy := List.mem_of_getElem? (i := 3) (by decide +kernel)
theorem cw_X5_readToy_X3_add {s : State} {args : Array Value} (ht : ∀ w ∈ wsX5_readToy, w.before args s = true) : CallW (rmD 4) s args RX5 RX3 69 yX3_add cX3_add 4 none wsX3_add (rmD (3)) 0 0 3 := cwV 3 ht gX5_readToy_X3_add rfl rfl rfl (by decide +kernel) ⟨Nat.le_of_ble_eq_true rfl, Nat.le_of_ble_eq_true rfl⟩
theorem cw_X5_readToy_X5_expect {s : State} {args : Array Value} (ht : ∀ w ∈ wsX5_readToy, w.before args s = true) : CallW (rmD 4) s args RX5 RX5 50 yX5_expect cX5_expect 2 none wsX5_expect (rmD (3)) 0 0 1 := cwV 1 ht gX5_readToy_X5_expect rfl rfl rfl (by decide +kernel) ⟨Nat.le_of_ble_eq_true rfl, Nat.le_of_ble_eq_true rfl⟩
theorem cw_X5_readToy_X5_expectNumber {s : State} {args : Array Value} (ht : ∀ w ∈ wsX5_readToy, w.before args s = true) : CallW (rmD 4) s args RX5 RX5 54 yX5_expectNumber cX5_expectNumber 4 (some .int) wsX5_expectNumber (rmD (3)) 0 0 2 := cwV 2 ht gX5_readToy_X5_expectNumber rfl rfl rfl (by decide +kernel) ⟨Nat.le_of_ble_eq_true rfl, Nat.le_of_ble_eq_true rfl⟩
theorem m_X5_readToy_4 : Cond.fieldLink RX5 66 "ClawCase$Box" "toys" "I" ∈ wsX5_readToy := List.mem_of_getElem? (i := 4) (by decide +kernel)
theorem n_X5_readToy_X3 : ∀ w ∈ wsX30, w ∈ wsX5_readToy := mem_by [65, 66, 67, 68, 69, 70, 71, 72, 73] (by decide +kernel)
theorem cw_X5_readToy_X5_kindOf {s : State} {args : Array Value} (ht : ∀ w ∈ wsX5_readToy, w.before args s = true) : CallB (rmD 4) s args RX5 62 yX5_kindOf cX5_kindOf 1 (some .int) wsX5_kindOf (rmD (0)) 0 0 1 ∧ (Cond.static yX5_kindOf).before args s = true := va_cwS 1 ht gX5_readToy_X5_kindOf rfl rfl rfl (by decide +kernel) ⟨Nat.le_of_ble_eq_true rfl, Nat.le_of_ble_eq_true rfl⟩
def o_X5_readToy_51 (Q : Mm → Prop) (g : Mm) (x1 : Int32) (s1 : Int32) : Prop := o_X5_expect (fun (g_3 : Mm) => o_X5_expectNumber (fun (r_6 : Int32) (g_5 : Mm) => o_X5_expect (fun (g_7 : Mm) => o_X5_expectNumber (fun (r_10 : Int32) (g_9 : Mm) => o_X5_expect (fun (g_11 : Mm) => ((¬ (g_11.1 2 3) = 0) → Q g_11) ∧ (((g_11.1 2 3) = 0) → o_X3_add (fun (g_13 : Mm) => Q g_13) 4 g_11 x1 r_6 r_10)) g_9 59) g_7 1 5) g_5 44) g_3 1 9) g s1
def o_X5_readToy_36 (Q : Mm → Prop) (g : Mm) (x1 : Int32) : Prop := ((¬ x1 = 0) → o_X5_readToy_51 Q g x1 (g.1 2 5)) ∧ ((x1 = 0) → o_X5_readToy_51 Q g x1 258)
set_option maxHeartbeats 4000000 in
set_option maxRecDepth 100000 in
theorem o_X5_readToy_51_w {p : Program} {l : Launch} {e : Env} {s : State} {m : MethodId} {args : Array Value} {below : List Frame} {meth : Method} {c : Code} {dC : Nat → ClassId} {dI : Nat → Nat → Nat} {cy : Nat → ClassId} {ad tz : Nat → Nat} {Q : Mm → Prop} (C : CX p s m args meth c dC dI cy ad tz cX5_readToy 4 none RX5 wsX5_readToy) : ∀ (g : Mm) (x1 : Int32) (s1 : Int32) (H : Heap) (locs : List Loc) (ls : Array Slot), St dC dI cy ad s g H locs → lv_has ls 4 [(0, .ref (ad 2)), (1, .int x1)] → o_X5_readToy_51 Q g x1 s1 → W p l e (rmD 4) s m args below meth c H locs 0 0 (QV dC dI cy ad below args s Q) (F0 m 51 ls [.int s1, .ref (ad 2)]) := by
  have hx := C.1.1
  have hb := C.1.2.1
  intro g x1 s1 H locs ls S hl h
  unfold o_X5_readToy_51 at h
  refine kV_v (As := [.int s1]) (rest := []) C S hl.1 (o_X5_expect_c h) (wd_o5 rfl) rfl (cw_X5_readToy_X5_expect C.1.2.2.2.2) rfl rfl (Nat.le_of_ble_eq_true rfl) dX5_readToy_51 (fun g_3 H locs h S => ?_)
  refine lv_aload_n hx hb dX5_readToy_54 rfl (lv_at hl 0 rfl) ?_
  refine lv_iconst (v := 1) hx hb dX5_readToy_55 (by decide) ?_
  refine lv_bipush (v := 9) hx hb dX5_readToy_56 (by decide) ?_
  refine kV_i (As := [.int 1, .int 9]) (rest := []) C S hl.1 (o_X5_expectNumber_c h) (wd_o5 rfl) rfl (cw_X5_readToy_X5_expectNumber C.1.2.2.2.2) rfl rfl (Nat.le_of_ble_eq_true rfl) dX5_readToy_58 (fun r_6 g_5 H locs h S => ?_)
  refine lv_istore_n (lv' := [(2, .int r_6), (0, .ref (ad 2)), (1, .int x1)]) hx hb dX5_readToy_61 rfl hl (by decide) rfl (fun ls hl => ?_)
  refine lv_aload_n hx hb dX5_readToy_62 rfl (lv_at hl 1 rfl) ?_
  refine lv_bipush (v := 44) hx hb dX5_readToy_63 (by decide) ?_
  refine kV_v (As := [.int 44]) (rest := []) C S hl.1 (o_X5_expect_c h) (wd_o5 rfl) rfl (cw_X5_readToy_X5_expect C.1.2.2.2.2) rfl rfl (Nat.le_of_ble_eq_true rfl) dX5_readToy_65 (fun g_7 H locs h S => ?_)
  refine lv_aload_n hx hb dX5_readToy_68 rfl (lv_at hl 1 rfl) ?_
  refine lv_iconst (v := 1) hx hb dX5_readToy_69 (by decide) ?_
  refine lv_iconst (v := 5) hx hb dX5_readToy_70 (by decide) ?_
  refine kV_i (As := [.int 1, .int 5]) (rest := []) C S hl.1 (o_X5_expectNumber_c h) (wd_o5 rfl) rfl (cw_X5_readToy_X5_expectNumber C.1.2.2.2.2) rfl rfl (Nat.le_of_ble_eq_true rfl) dX5_readToy_71 (fun r_10 g_9 H locs h S => ?_)
  refine lv_istore_n (lv' := [(3, .int r_10), (2, .int r_6), (0, .ref (ad 2)), (1, .int x1)]) hx hb dX5_readToy_74 rfl hl (by decide) rfl (fun ls hl => ?_)
  refine lv_aload_n hx hb dX5_readToy_75 rfl (lv_at hl 2 rfl) ?_
  refine lv_bipush (v := 59) hx hb dX5_readToy_76 (by decide) ?_
  refine kV_v (As := [.int 59]) (rest := []) C S hl.1 (o_X5_expect_c h) (wd_o5 rfl) rfl (cw_X5_readToy_X5_expect C.1.2.2.2.2) rfl rfl (Nat.le_of_ble_eq_true rfl) dX5_readToy_78 (fun g_11 H locs h S => ?_)
  refine lv_aload_n hx hb dX5_readToy_81 rfl (lv_at hl 2 rfl) ?_
  refine kg5 (k := 3) (v := .int (g_11.1 2 3)) C S rfl (by decide) n_X5_readToy_X5 m_X5_readToy_2 rfl dX5_readToy_82 ?_
  refine lv_if_ne (tgt := 98) hx hb dX5_readToy_85 (by decide) (fun c1 => ?_) (fun c1 => ?_)
  · have h := h.1 c1
    exact kRv C S h dX5_readToy_98
  · have h := h.2 c1
    refine lv_aload_n hx hb dX5_readToy_88 rfl (lv_at hl 2 rfl) ?_
    refine kg5 (k := 1) (v := .ref (ad 4)) C S rfl (by decide) n_X5_readToy_X5 m_X5_readToy_3 rfl dX5_readToy_89 ?_
    refine lv_iload_n hx hb dX5_readToy_92 rfl (lv_at hl 3 rfl) ?_
    refine lv_iload_n hx hb dX5_readToy_93 rfl (lv_at hl 1 rfl) ?_
    refine lv_iload_n hx hb dX5_readToy_94 rfl (lv_at hl 0 rfl) ?_
    refine kV_v (As := [.int x1, .int r_6, .int r_10]) (rest := []) C S hl.1 (o_X3_add_c rfl h) (wd_o3 rfl) rfl (cw_X5_readToy_X3_add C.1.2.2.2.2) rfl rfl (Nat.le_of_ble_eq_true rfl) dX5_readToy_95 (fun g_13 H locs h S => ?_)
    exact kRv C S h dX5_readToy_98
set_option maxHeartbeats 4000000 in
set_option maxRecDepth 100000 in
theorem o_X5_readToy_36_w {p : Program} {l : Launch} {e : Env} {s : State} {m : MethodId} {args : Array Value} {below : List Frame} {meth : Method} {c : Code} {dC : Nat → ClassId} {dI : Nat → Nat → Nat} {cy : Nat → ClassId} {ad tz : Nat → Nat} {Q : Mm → Prop} (C : CX p s m args meth c dC dI cy ad tz cX5_readToy 4 none RX5 wsX5_readToy) : ∀ (g : Mm) (x1 : Int32) (H : Heap) (locs : List Loc) (ls : Array Slot), St dC dI cy ad s g H locs → lv_has ls 4 [(0, .ref (ad 2)), (1, .int x1)] → o_X5_readToy_36 Q g x1 → W p l e (rmD 4) s m args below meth c H locs 0 0 (QV dC dI cy ad below args s Q) (F0 m 36 ls []) := by
  have hx := C.1.1
  have hb := C.1.2.1
  intro g x1 H locs ls S hl h
  unfold o_X5_readToy_36 at h
  refine lv_aload_n hx hb dX5_readToy_36 rfl (lv_at hl 0 rfl) ?_
  refine lv_iload_n hx hb dX5_readToy_37 rfl (lv_at hl 1 rfl) ?_
  refine lv_if_ne (tgt := 47) hx hb dX5_readToy_38 (by decide) (fun c1 => ?_) (fun c1 => ?_)
  · have h := h.1 c1
    refine lv_aload_n hx hb dX5_readToy_47 rfl (lv_at hl 0 rfl) ?_
    refine kg5 (k := 5) (v := .int (g.1 2 5)) C S rfl (by decide) n_X5_readToy_X5 m_X5_readToy_1 rfl dX5_readToy_48 ?_
    exact o_X5_readToy_51_w C g x1 (g.1 2 5) _ _ _ S (lv_sub hl [0, 1] rfl) h
  · have h := h.2 c1
    refine lv_sipush (v := 258) hx hb dX5_readToy_41 (by decide) ?_
    refine lv_goto (tgt := 51) hx hb dX5_readToy_44 (by decide) ?_
    exact o_X5_readToy_51_w C g x1 258 _ _ _ S (lv_sub hl [0, 1] rfl) h
def o_X5_readToy (Q : Mm → Prop) (g : Mm) : Prop := o_X5_kindOf (fun (r_2 : Int32) (g_1 : Mm) => ((¬ (g_1.1 2 3) = 0) → o_X5_readToy_36 Q g_1 r_2) ∧ (((g_1.1 2 3) = 0) → ((r_2 = 0) → o_X5_readToy_36 Q g_1 r_2) ∧ ((¬ r_2 = 0) → (((g_1.1 4 4) < 7) → o_X5_readToy_36 Q g_1 r_2) ∧ ((¬ (g_1.1 4 4) < 7) → ∀ g_15 : Mm, g_15 = mset g_1 2 3 3 → (o_X5_readToy_36 Q g_15 r_2))))) g (g.1 2 5)
set_option maxHeartbeats 4000000 in
set_option maxRecDepth 100000 in
theorem o_X5_readToy_c {l : Launch} {dC : Nat → ClassId} {dI : Nat → Nat → Nat} {cy : Nat → ClassId} {ad tz : Nat → Nat} {Q : Mm → Prop} {g : Mm} (h : o_X5_readToy Q g) : CV l dC dI cy ad tz yX5_readToy wsX5_readToy (rmD 4) [.ref (ad 2)] g Q := by
  refine CV.of (by decide) rfl rfl (Nat.le_of_ble_eq_true rfl) ?_
  intro p e s m args below meth c ls C hl S
  have hl : lv_has ls 4 [(0, .ref (ad 2))] := hl
  have hx := C.1.1
  have hb := C.1.2.1
  unfold o_X5_readToy at h
  refine lv_aload_n hx hb dX5_readToy_0 rfl (lv_at hl 0 rfl) ?_
  refine kg5 (k := 5) (v := .int (g.1 2 5)) C S rfl (by decide) n_X5_readToy_X5 m_X5_readToy_1 rfl dX5_readToy_1 ?_
  refine kS_i (As := [.int (g.1 2 5)]) (rest := []) C S hl.1 (o_X5_kindOf_c h) (cw_X5_readToy_X5_kindOf C.1.2.2.2.2) rfl rfl (Nat.le_of_ble_eq_true rfl) dX5_readToy_4 (fun r_2 g_1 H locs h S => ?_)
  refine lv_istore_n (lv' := [(1, .int r_2), (0, .ref (ad 2))]) hx hb dX5_readToy_7 rfl hl (by decide) rfl (fun ls hl => ?_)
  refine lv_aload_n hx hb dX5_readToy_8 rfl (lv_at hl 1 rfl) ?_
  refine kg5 (k := 3) (v := .int (g_1.1 2 3)) C S rfl (by decide) n_X5_readToy_X5 m_X5_readToy_2 rfl dX5_readToy_9 ?_
  refine lv_if_ne (tgt := 36) hx hb dX5_readToy_12 (by decide) (fun c1 => ?_) (fun c1 => ?_)
  · have h := h.1 c1
    exact o_X5_readToy_36_w C g_1 r_2 _ _ _ S (lv_sub hl [1, 0] rfl) h
  · have h := h.2 c1
    refine lv_iload_n hx hb dX5_readToy_15 rfl (lv_at hl 0 rfl) ?_
    refine lv_if_eq (tgt := 36) hx hb dX5_readToy_16 (by decide) (fun c1 => ?_) (fun c1 => ?_)
    · have h := h.1 c1
      exact o_X5_readToy_36_w C g_1 r_2 _ _ _ S (lv_sub hl [1, 0] rfl) h
    · have h := h.2 c1
      refine lv_aload_n hx hb dX5_readToy_19 rfl (lv_at hl 1 rfl) ?_
      refine kg5 (k := 1) (v := .ref (ad 4)) C S rfl (by decide) n_X5_readToy_X5 m_X5_readToy_3 rfl dX5_readToy_20 ?_
      refine kg3 (k := 4) (v := .int (g_1.1 4 4)) C S rfl (by decide) n_X5_readToy_X3 m_X5_readToy_4 rfl dX5_readToy_23 ?_
      refine lv_bipush (v := 7) hx hb dX5_readToy_26 (by decide) ?_
      refine lv_icmp_lt (tgt := 36) hx hb dX5_readToy_28 (by decide) (fun c1 => ?_) (fun c1 => ?_)
      · have h := h.1 c1
        exact o_X5_readToy_36_w C g_1 r_2 _ _ _ S (lv_sub hl [1, 0] rfl) h
      · have h := h.2 c1
        refine lv_aload_n hx hb dX5_readToy_31 rfl (lv_at hl 1 rfl) ?_
        refine lv_iconst (v := 3) hx hb dX5_readToy_32 (by decide) ?_
        refine kp5_3 C S rfl n_X5_readToy_X5 m_X5_readToy_2 dX5_readToy_33 (fun g_15 H locs eg_15 S => ?_)
        have h := h g_15 eg_15
        exact o_X5_readToy_36_w C g_15 r_2 _ _ _ S (lv_sub hl [1, 0] rfl) h
/-! ClawCase$Reader.readTape()Z, height 5 -/
theorem m_X5_readTape_1 : Cond.fieldLink RX5 26 "ClawCase$Reader" "wrong" "I" ∈ wsX5_readTape := List.mem_of_getElem? (i := 1) (by decide +kernel)
theorem n_X5_readTape_X5 : ∀ w ∈ wsX50, w ∈ wsX5_readTape := mem_by [73, 74, 75, 76, 77, 78, 79, 80] (by decide +kernel)
theorem m_X5_readTape_2 : Cond.fieldLink RX5 35 "ClawCase$Reader" "next" "I" ∈ wsX5_readTape := List.mem_of_getElem? (i := 2) (by decide +kernel)
theorem m_X5_readTape_3 : Cond.fieldLink RX5 32 "ClawCase$Reader" "token" "I" ∈ wsX5_readTape := List.mem_of_getElem? (i := 3) (by decide +kernel)
theorem cw_X5_readTape_X5_readToy {s : State} {args : Array Value} (ht : ∀ w ∈ wsX5_readTape, w.before args s = true) : CallW (rmD 5) s args RX5 RX5 47 yX5_readToy cX5_readToy 4 none wsX5_readToy (rmD (4)) 0 0 0 := cwV 0 ht gX5_readTape_X5_readToy rfl rfl rfl (by decide +kernel) ⟨Nat.le_of_ble_eq_true rfl, Nat.le_of_ble_eq_true rfl⟩
theorem m_X5_readTape_4 : Cond.fieldLink RX5 22 "ClawCase$Reader" "bytes" "I" ∈ wsX5_readTape := List.mem_of_getElem? (i := 4) (by decide +kernel)
theorem cw_X5_readTape_X5_readLaw {s : State} {args : Array Value} (ht : ∀ w ∈ wsX5_readTape, w.before args s = true) : CallW (rmD 5) s args RX5 RX5 44 yX5_readLaw cX5_readLaw 4 none wsX5_readLaw (rmD (4)) 0 0 0 := cwV 0 ht gX5_readTape_X5_readLaw rfl rfl rfl (by decide +kernel) ⟨Nat.le_of_ble_eq_true rfl, Nat.le_of_ble_eq_true rfl⟩
theorem cw_X5_readTape_X5_advance {s : State} {args : Array Value} (ht : ∀ w ∈ wsX5_readTape, w.before args s = true) : CallW (rmD 5) s args RX5 RX5 41 yX5_advance cX5_advance 3 none wsX5_advance (rmD (2)) 0 0 0 := cwV 0 ht gX5_readTape_X5_advance rfl rfl rfl (by decide +kernel) ⟨Nat.le_of_ble_eq_true rfl, Nat.le_of_ble_eq_true rfl⟩
def o_X5_readTape_58 (Q : Int32 → Mm → Prop) (K22 : Mm → Int32 → Int32 → Prop) (K65 : Mm → Prop) (g : Mm) (x2 : Int32) (s0 : Int32) : Prop := ∀ x_9 : Int32, x_9 = x2 + 1 → (K22 g s0 x_9)
def o_X5_readTape_22 (Q : Int32 → Mm → Prop) (K65 : Mm → Prop) : Nat → Mm → Int32 → Int32 → Prop
  | 0, _, _, _ => False
  | n22 + 1, g, x1, x2 => ((7 < x2) → K65 g) ∧ ((¬ 7 < x2) → ((¬ (g.1 2 3) = 0) → K65 g) ∧ (((g.1 2 3) = 0) → ((x1 = 0) → K65 g) ∧ ((¬ x1 = 0) → o_X5_readToy (fun (g_7 : Mm) => (((g_7.1 2 5) = 257) → o_X5_readTape_58 Q (o_X5_readTape_22 Q K65 n22) K65 g_7 x2 0) ∧ ((¬ (g_7.1 2 5) = 257) → o_X5_readTape_58 Q (o_X5_readTape_22 Q K65 n22) K65 g_7 x2 1)) g)))
def o_X5_readTape_65 (Q : Int32 → Mm → Prop) (g : Mm) : Prop := ∀ g_10 : Mm, g_10 = mset g 2 2 0 → (((¬ (g_10.1 2 3) = 0) → Q 0 g_10) ∧ (((g_10.1 2 3) = 0) → Q 1 g_10))
set_option maxHeartbeats 4000000 in
set_option maxRecDepth 100000 in
theorem o_X5_readTape_58_w {p : Program} {l : Launch} {e : Env} {s : State} {m : MethodId} {args : Array Value} {below : List Frame} {meth : Method} {c : Code} {dC : Nat → ClassId} {dI : Nat → Nat → Nat} {cy : Nat → ClassId} {ad tz : Nat → Nat} {Q : Int32 → Mm → Prop} {K22 : Mm → Int32 → Int32 → Prop} {K65 : Mm → Prop} (C : CX p s m args meth c dC dI cy ad tz cX5_readTape 3 (some .boolean) RX5 wsX5_readTape) (hK22 : ∀ (g : Mm) (x1 : Int32) (x2 : Int32) (H : Heap) (locs : List Loc) (ls : Array Slot), St dC dI cy ad s g H locs → lv_has ls 3 [(0, .ref (ad 2)), (1, .int x1), (2, .int x2)] → K22 g x1 x2 → W p l e (rmD 5) s m args below meth c H locs 0 0 (QI dC dI cy ad below args s Q) (F0 m 22 ls [])) (hK65 : ∀ (g : Mm) (H : Heap) (locs : List Loc) (ls : Array Slot), St dC dI cy ad s g H locs → lv_has ls 3 [(0, .ref (ad 2))] → K65 g → W p l e (rmD 5) s m args below meth c H locs 0 0 (QI dC dI cy ad below args s Q) (F0 m 65 ls [])) : ∀ (g : Mm) (x2 : Int32) (s0 : Int32) (H : Heap) (locs : List Loc) (ls : Array Slot), St dC dI cy ad s g H locs → lv_has ls 3 [(0, .ref (ad 2)), (2, .int x2)] → o_X5_readTape_58 Q K22 K65 g x2 s0 → W p l e (rmD 5) s m args below meth c H locs 0 0 (QI dC dI cy ad below args s Q) (F0 m 58 ls [.int s0]) := by
  have hx := C.1.1
  have hb := C.1.2.1
  intro g x2 s0 H locs ls S hl h
  unfold o_X5_readTape_58 at h
  refine lv_istore_n (lv' := [(1, .int s0), (0, .ref (ad 2)), (2, .int x2)]) hx hb dX5_readTape_58 rfl hl (by decide) rfl (fun ls hl => ?_)
  obtain ⟨x_9, ex_9⟩ : ∃ y : Int32, y = x2 + 1 := ⟨_, rfl⟩
  have h := h x_9 ex_9
  refine lv_iinc (v := x_9) (lv' := [(2, .int x_9), (1, .int s0), (0, .ref (ad 2))]) hx hb dX5_readTape_59 hl (k := 2) rfl (by rw [ex_9]; rfl) (by decide) rfl (fun ls hl => ?_)
  refine lv_goto (tgt := 22) hx hb dX5_readTape_62 (by decide) ?_
  exact hK22 g s0 x_9 _ _ _ S (lv_sub hl [2, 1, 0] rfl) h
set_option maxHeartbeats 4000000 in
set_option maxRecDepth 100000 in
theorem o_X5_readTape_22_w {p : Program} {l : Launch} {e : Env} {s : State} {m : MethodId} {args : Array Value} {below : List Frame} {meth : Method} {c : Code} {dC : Nat → ClassId} {dI : Nat → Nat → Nat} {cy : Nat → ClassId} {ad tz : Nat → Nat} {Q : Int32 → Mm → Prop} {K65 : Mm → Prop} (C : CX p s m args meth c dC dI cy ad tz cX5_readTape 3 (some .boolean) RX5 wsX5_readTape) (hK65 : ∀ (g : Mm) (H : Heap) (locs : List Loc) (ls : Array Slot), St dC dI cy ad s g H locs → lv_has ls 3 [(0, .ref (ad 2))] → K65 g → W p l e (rmD 5) s m args below meth c H locs 0 0 (QI dC dI cy ad below args s Q) (F0 m 65 ls [])) : ∀ (n : Nat) (g : Mm) (x1 : Int32) (x2 : Int32) (H : Heap) (locs : List Loc) (ls : Array Slot), St dC dI cy ad s g H locs → lv_has ls 3 [(0, .ref (ad 2)), (1, .int x1), (2, .int x2)] → o_X5_readTape_22 Q K65 n g x1 x2 → W p l e (rmD 5) s m args below meth c H locs 0 0 (QI dC dI cy ad below args s Q) (F0 m 22 ls []) := by
  have hx := C.1.1
  have hb := C.1.2.1
  intro n22
  induction n22 with
  | zero => intro g x1 x2 H locs ls S hl h; exact h.elim
  | succ n22 ih =>
    intro g x1 x2 H locs ls S hl h
    have h : ((7 < x2) → K65 g) ∧ ((¬ 7 < x2) → ((¬ (g.1 2 3) = 0) → K65 g) ∧ (((g.1 2 3) = 0) → ((x1 = 0) → K65 g) ∧ ((¬ x1 = 0) → o_X5_readToy (fun (g_7 : Mm) => (((g_7.1 2 5) = 257) → o_X5_readTape_58 Q (o_X5_readTape_22 Q K65 n22) K65 g_7 x2 0) ∧ ((¬ (g_7.1 2 5) = 257) → o_X5_readTape_58 Q (o_X5_readTape_22 Q K65 n22) K65 g_7 x2 1)) g))) := h
    refine lv_iload_n hx hb dX5_readTape_22 rfl (lv_at hl 2 rfl) ?_
    refine lv_bipush (v := 7) hx hb dX5_readTape_23 (by decide) ?_
    refine lv_icmp_gt (tgt := 65) hx hb dX5_readTape_25 (by decide) (fun c1 => ?_) (fun c1 => ?_)
    · have h := h.1 c1
      exact hK65 g _ _ _ S (lv_sub hl [0] rfl) h
    · have h := h.2 c1
      refine lv_aload_n hx hb dX5_readTape_28 rfl (lv_at hl 0 rfl) ?_
      refine kg5 (k := 3) (v := .int (g.1 2 3)) C S rfl (by decide) n_X5_readTape_X5 m_X5_readTape_1 rfl dX5_readTape_29 ?_
      refine lv_if_ne (tgt := 65) hx hb dX5_readTape_32 (by decide) (fun c1 => ?_) (fun c1 => ?_)
      · have h := h.1 c1
        exact hK65 g _ _ _ S (lv_sub hl [0] rfl) h
      · have h := h.2 c1
        refine lv_iload_n hx hb dX5_readTape_35 rfl (lv_at hl 1 rfl) ?_
        refine lv_if_eq (tgt := 65) hx hb dX5_readTape_36 (by decide) (fun c1 => ?_) (fun c1 => ?_)
        · have h := h.1 c1
          exact hK65 g _ _ _ S (lv_sub hl [0] rfl) h
        · have h := h.2 c1
          refine lv_aload_n hx hb dX5_readTape_39 rfl (lv_at hl 0 rfl) ?_
          refine kV_v (As := []) (rest := []) C S hl.1 (o_X5_readToy_c h) (wd_o5 rfl) rfl (cw_X5_readTape_X5_readToy C.1.2.2.2.2) rfl rfl (Nat.le_of_ble_eq_true rfl) dX5_readTape_40 (fun g_7 H locs h S => ?_)
          refine lv_aload_n hx hb dX5_readTape_43 rfl (lv_at hl 0 rfl) ?_
          refine kg5 (k := 5) (v := .int (g_7.1 2 5)) C S rfl (by decide) n_X5_readTape_X5 m_X5_readTape_3 rfl dX5_readTape_44 ?_
          refine lv_sipush (v := 257) hx hb dX5_readTape_47 (by decide) ?_
          refine lv_icmp_eq (tgt := 57) hx hb dX5_readTape_50 (by decide) (fun c1 => ?_) (fun c1 => ?_)
          · have h := h.1 c1
            refine lv_iconst (v := 0) hx hb dX5_readTape_57 (by decide) ?_
            exact o_X5_readTape_58_w C ih hK65 g_7 x2 0 _ _ _ S (lv_sub hl [0, 2] rfl) h
          · have h := h.2 c1
            refine lv_iconst (v := 1) hx hb dX5_readTape_53 (by decide) ?_
            refine lv_goto (tgt := 58) hx hb dX5_readTape_54 (by decide) ?_
            exact o_X5_readTape_58_w C ih hK65 g_7 x2 1 _ _ _ S (lv_sub hl [0, 2] rfl) h
set_option maxHeartbeats 4000000 in
set_option maxRecDepth 100000 in
theorem o_X5_readTape_65_w {p : Program} {l : Launch} {e : Env} {s : State} {m : MethodId} {args : Array Value} {below : List Frame} {meth : Method} {c : Code} {dC : Nat → ClassId} {dI : Nat → Nat → Nat} {cy : Nat → ClassId} {ad tz : Nat → Nat} {Q : Int32 → Mm → Prop} (C : CX p s m args meth c dC dI cy ad tz cX5_readTape 3 (some .boolean) RX5 wsX5_readTape) : ∀ (g : Mm) (H : Heap) (locs : List Loc) (ls : Array Slot), St dC dI cy ad s g H locs → lv_has ls 3 [(0, .ref (ad 2))] → o_X5_readTape_65 Q g → W p l e (rmD 5) s m args below meth c H locs 0 0 (QI dC dI cy ad below args s Q) (F0 m 65 ls []) := by
  have hx := C.1.1
  have hb := C.1.2.1
  intro g H locs ls S hl h
  unfold o_X5_readTape_65 at h
  refine lv_aload_n hx hb dX5_readTape_65 rfl (lv_at hl 0 rfl) ?_
  refine lv_iconst (v := 0) hx hb dX5_readTape_66 (by decide) ?_
  refine kp5_2 C S rfl n_X5_readTape_X5 m_X5_readTape_4 dX5_readTape_67 (fun g_10 H locs eg_10 S => ?_)
  have h := h g_10 eg_10
  refine lv_aload_n hx hb dX5_readTape_70 rfl (lv_at hl 0 rfl) ?_
  refine kg5 (k := 3) (v := .int (g_10.1 2 3)) C S rfl (by decide) n_X5_readTape_X5 m_X5_readTape_1 rfl dX5_readTape_71 ?_
  refine lv_if_ne (tgt := 81) hx hb dX5_readTape_74 (by decide) (fun c1 => ?_) (fun c1 => ?_)
  · have h := h.1 c1
    refine lv_iconst (v := 0) hx hb dX5_readTape_81 (by decide) ?_
    exact kRz C S rfl h dX5_readTape_82
  · have h := h.2 c1
    refine lv_iconst (v := 1) hx hb dX5_readTape_77 (by decide) ?_
    refine lv_goto (tgt := 82) hx hb dX5_readTape_78 (by decide) ?_
    exact kRz C S rfl h dX5_readTape_82
def o_X5_readTape (Q : Int32 → Mm → Prop) (g : Mm) : Prop := ∀ g_1 : Mm, g_1 = mset g 2 3 0 → (∀ g_2 : Mm, g_2 = mset g_1 2 6 0 → (o_X5_advance (fun (g_3 : Mm) => o_X5_readLaw (fun (g_5 : Mm) => ∃ n22, o_X5_readTape_22 Q (fun (g : Mm) => o_X5_readTape_65 Q g) n22 g_5 1 0) g_3) g_2))
set_option maxHeartbeats 4000000 in
set_option maxRecDepth 100000 in
theorem o_X5_readTape_c {l : Launch} {dC : Nat → ClassId} {dI : Nat → Nat → Nat} {cy : Nat → ClassId} {ad tz : Nat → Nat} {Q : Int32 → Mm → Prop} {g : Mm} (h : o_X5_readTape Q g) : CI l dC dI cy ad tz yX5_readTape wsX5_readTape (rmD 5) [.ref (ad 2)] g Q := by
  refine CI.of (by decide) rfl rfl (Nat.le_of_ble_eq_true rfl) ?_
  intro p e s m args below meth c ls C hl S
  have hl : lv_has ls 3 [(0, .ref (ad 2))] := hl
  have hx := C.1.1
  have hb := C.1.2.1
  unfold o_X5_readTape at h
  refine lv_aload_n hx hb dX5_readTape_0 rfl (lv_at hl 0 rfl) ?_
  refine lv_iconst (v := 0) hx hb dX5_readTape_1 (by decide) ?_
  refine kp5_3 C S rfl n_X5_readTape_X5 m_X5_readTape_1 dX5_readTape_2 (fun g_1 H locs eg_1 S => ?_)
  have h := h g_1 eg_1
  refine lv_aload_n hx hb dX5_readTape_5 rfl (lv_at hl 0 rfl) ?_
  refine lv_iconst (v := 0) hx hb dX5_readTape_6 (by decide) ?_
  refine kp5_6 C S rfl n_X5_readTape_X5 m_X5_readTape_2 dX5_readTape_7 (fun g_2 H locs eg_2 S => ?_)
  have h := h g_2 eg_2
  refine lv_aload_n hx hb dX5_readTape_10 rfl (lv_at hl 0 rfl) ?_
  refine kV_v (As := []) (rest := []) C S hl.1 (o_X5_advance_c h) (wd_o5 rfl) rfl (cw_X5_readTape_X5_advance C.1.2.2.2.2) rfl rfl (Nat.le_of_ble_eq_true rfl) dX5_readTape_11 (fun g_3 H locs h S => ?_)
  refine lv_aload_n hx hb dX5_readTape_14 rfl (lv_at hl 0 rfl) ?_
  refine kV_v (As := []) (rest := []) C S hl.1 (o_X5_readLaw_c h) (wd_o5 rfl) rfl (cw_X5_readTape_X5_readLaw C.1.2.2.2.2) rfl rfl (Nat.le_of_ble_eq_true rfl) dX5_readTape_15 (fun g_5 H locs h S => ?_)
  refine lv_iconst (v := 1) hx hb dX5_readTape_18 (by decide) ?_
  refine lv_istore_n (lv' := [(1, .int 1), (0, .ref (ad 2))]) hx hb dX5_readTape_19 rfl hl (by decide) rfl (fun ls hl => ?_)
  refine lv_iconst (v := 0) hx hb dX5_readTape_20 (by decide) ?_
  refine lv_istore_n (lv' := [(2, .int 0), (1, .int 1), (0, .ref (ad 2))]) hx hb dX5_readTape_21 rfl hl (by decide) rfl (fun ls hl => ?_)
  obtain ⟨n22, h⟩ := h
  refine o_X5_readTape_22_w C ?_ n22 g_5 1 0 _ _ _ S (lv_sub hl [2, 1, 0] rfl) h
  · intro g H locs ls S hl h
    exact o_X5_readTape_65_w C g _ _ _ S (lv_sub hl [0] rfl) h
/-! ClawCase$Row.lowestBits(I)I, height 0 -/
theorem m_X6_lowestBits_1 : Cond.fieldLink RX6 19 "ClawCase$Row" "lane" "I" ∈ wsX6_lowestBits := List.mem_of_getElem? (i := 1) (by decide +kernel)
theorem n_X6_lowestBits_X6 : ∀ w ∈ wsX60, w ∈ wsX6_lowestBits := mem_by [2, 3, 4, 5] (by decide +kernel)
def o_X6_lowestBits (Q : Int32 → Mm → Prop) (j0 : Nat) (g : Mm) (x1 : Int32) : Prop := ((g.1 j0 2) = 0 → Q x1.toInt8.toInt32 g) ∧ ((g.1 j0 2) = 1 → Q x1.toInt16.toInt32 g) ∧ ((¬ (g.1 j0 2) = 0 ∧ ¬ (g.1 j0 2) = 1) → Q x1 g)
set_option maxHeartbeats 4000000 in
set_option maxRecDepth 100000 in
theorem o_X6_lowestBits_c {l : Launch} {dC : Nat → ClassId} {dI : Nat → Nat → Nat} {cy : Nat → ClassId} {ad tz : Nat → Nat} {Q : Int32 → Mm → Prop} {j0 : Nat} {g : Mm} {x1 : Int32} (hj0 : ly j0 = 6) (h : o_X6_lowestBits Q j0 g x1) : CI l dC dI cy ad tz yX6_lowestBits wsX6_lowestBits (rmD 0) [.ref (ad j0), .int x1] g Q := by
  refine CI.of (by decide) rfl rfl (Nat.le_of_ble_eq_true rfl) ?_
  intro p e s m args below meth c ls C hl S
  have hl : lv_has ls 2 [(0, .ref (ad j0)), (1, .int x1)] := hl
  have hx := C.1.1
  have hb := C.1.2.1
  unfold o_X6_lowestBits at h
  refine lv_aload_n hx hb dX6_lowestBits_0 rfl (lv_at hl 0 rfl) ?_
  refine kg6 (k := 2) (v := .int (g.1 j0 2)) C S hj0 (by decide) n_X6_lowestBits_X6 m_X6_lowestBits_1 rfl dX6_lowestBits_1 ?_
  by_cases c0 : (g.1 j0 2) = 0
  · have h := h.1 c0
    refine lv_lookup (off := 28) (tgt := 32) hx hb dX6_lowestBits_4 (by decide) (by rw [c0]; decide) (by decide) ?_
    refine lv_iload_n hx hb dX6_lowestBits_32 rfl (lv_at hl 1 rfl) ?_
    refine lv_i2b hx hb dX6_lowestBits_33 rfl ?_
    exact kRi C S h dX6_lowestBits_34
  by_cases c1 : (g.1 j0 2) = 1
  · have h := h.2.1 c1
    refine lv_lookup (off := 31) (tgt := 35) hx hb dX6_lowestBits_4 (by decide) (by rw [c1]; decide) (by decide) ?_
    refine lv_iload_n hx hb dX6_lowestBits_35 rfl (lv_at hl 1 rfl) ?_
    refine lv_i2s hx hb dX6_lowestBits_36 rfl ?_
    exact kRi C S h dX6_lowestBits_37
  have h := h.2.2 ⟨c0, c1⟩
  refine lv_lookup (off := 34) (tgt := 38) hx hb dX6_lowestBits_4 (by decide) ?_ (by decide) ?_
  · show Op.lookupswitch.offset [(0, 28), (1, 31)] 34 _ = 34
    rw [Op.lookupswitch.offset_cons, if_neg (fun q => lk_ne c0 (by decide) q.symm), Op.lookupswitch.offset_cons, if_neg (fun q => lk_ne c1 (by decide) q.symm), Op.lookupswitch.offset_nil]
  refine lv_iload_n hx hb dX6_lowestBits_38 rfl (lv_at hl 1 rfl) ?_
  exact kRi C S h dX6_lowestBits_39
/-! ClawCase$Row.renew(II)V, height 1 -/
theorem m_X6_renew_1 : Cond.fieldLink RX6 9 "ClawCase$Row" "items" "[I" ∈ wsX6_renew := List.mem_of_getElem? (i := 1) (by decide +kernel)
theorem n_X6_renew_X6 : ∀ w ∈ wsX60, w ∈ wsX6_renew := mem_by [9, 10, 11, 12] (by decide +kernel)
theorem m_X6_renew_2 : Cond.fieldLink RX6 15 "ClawCase$Row" "missing" "Z" ∈ wsX6_renew := List.mem_of_getElem? (i := 2) (by decide +kernel)
theorem m_X6_renew_3 : Cond.fieldLink RX6 19 "ClawCase$Row" "lane" "I" ∈ wsX6_renew := List.mem_of_getElem? (i := 3) (by decide +kernel)
theorem m_X6_renew_4 : Cond.fieldLink RX6 23 "ClawCase$Row" "size" "I" ∈ wsX6_renew := List.mem_of_getElem? (i := 4) (by decide +kernel)
theorem cw_X6_renew_J7_fill_53178 {s : State} {args : Array Value} (ht : ∀ w ∈ wsX6_renew, w.before args s = true) : CallB (rmD 1) s args RX6 26 yJ7_fill_53178 cJ7_fill_53178 4 none wsJ7_fill_53178 (rmD (0)) 0 0 2 ∧ (Cond.static yJ7_fill_53178).before args s = true := va_cwS 2 ht gX6_renew_J7_fill_53178 rfl rfl rfl (by decide +kernel) ⟨Nat.le_of_ble_eq_true rfl, Nat.le_of_ble_eq_true rfl⟩
def o_X6_renew (Q : Mm → Prop) (j0 : Nat) (g : Mm) (x1 : Int32) (x2 : Int32) : Prop := o_J7_fill_53178 (fun (g_1 : Mm) => ∀ g_3 : Mm, g_3 = mset g_1 j0 1 0 → (∀ g_4 : Mm, g_4 = mset g_3 j0 2 x1 → (∀ g_5 : Mm, g_5 = mset g_4 j0 3 x2 → (Q g_5)))) (j0 + 1) g 0
set_option maxHeartbeats 4000000 in
set_option maxRecDepth 100000 in
theorem o_X6_renew_c {l : Launch} {dC : Nat → ClassId} {dI : Nat → Nat → Nat} {cy : Nat → ClassId} {ad tz : Nat → Nat} {Q : Mm → Prop} {j0 : Nat} {g : Mm} {x1 : Int32} {x2 : Int32} (hj0 : ly j0 = 6) (h : o_X6_renew Q j0 g x1 x2) : CV l dC dI cy ad tz yX6_renew wsX6_renew (rmD 1) [.ref (ad j0), .int x1, .int x2] g Q := by
  refine CV.of (by decide) rfl rfl (Nat.le_of_ble_eq_true rfl) ?_
  intro p e s m args below meth c ls C hl S
  have hl : lv_has ls 3 [(0, .ref (ad j0)), (1, .int x1), (2, .int x2)] := hl
  have hx := C.1.1
  have hb := C.1.2.1
  unfold o_X6_renew at h
  refine lv_aload_n hx hb dX6_renew_0 rfl (lv_at hl 0 rfl) ?_
  refine kg6 (k := 0) (v := .ref (ad (j0 + 1))) C S hj0 (by decide) n_X6_renew_X6 m_X6_renew_1 rfl dX6_renew_1 ?_
  refine lv_iconst (v := 0) hx hb dX6_renew_4 (by decide) ?_
  refine kS_v (As := [.ref (ad (j0 + 1)), .int 0]) (rest := []) C S hl.1 (o_J7_fill_53178_c ((lyR hj0).1) h) (cw_X6_renew_J7_fill_53178 C.1.2.2.2.2) rfl rfl (Nat.le_of_ble_eq_true rfl) dX6_renew_5 (fun g_1 H locs h S => ?_)
  refine lv_aload_n hx hb dX6_renew_8 rfl (lv_at hl 0 rfl) ?_
  refine lv_iconst (v := 0) hx hb dX6_renew_9 (by decide) ?_
  refine kp6_1 C S hj0 n_X6_renew_X6 m_X6_renew_2 ⟨rfl, rfl⟩ dX6_renew_10 (fun g_3 H locs eg_3 S => ?_)
  have h := h g_3 eg_3
  refine lv_aload_n hx hb dX6_renew_13 rfl (lv_at hl 0 rfl) ?_
  refine lv_iload_n hx hb dX6_renew_14 rfl (lv_at hl 1 rfl) ?_
  refine kp6_2 C S hj0 n_X6_renew_X6 m_X6_renew_3 dX6_renew_15 (fun g_4 H locs eg_4 S => ?_)
  have h := h g_4 eg_4
  refine lv_aload_n hx hb dX6_renew_18 rfl (lv_at hl 0 rfl) ?_
  refine lv_iload_n hx hb dX6_renew_19 rfl (lv_at hl 2 rfl) ?_
  refine kp6_3 C S hj0 n_X6_renew_X6 m_X6_renew_4 dX6_renew_20 (fun g_5 H locs eg_5 S => ?_)
  have h := h g_5 eg_5
  exact kRv C S h dX6_renew_23
/-! ClawCase$Row.spans(II)Z, height 1 -/
theorem m_X6_spans_1 : Cond.fieldLink RX6 23 "ClawCase$Row" "size" "I" ∈ wsX6_spans := List.mem_of_getElem? (i := 1) (by decide +kernel)
theorem n_X6_spans_X6 : ∀ w ∈ wsX60, w ∈ wsX6_spans := mem_by [5, 6, 7, 8] (by decide +kernel)
theorem m_X6_spans_2 : Cond.static yX7_within ∈ wsX6_spans := List.mem_of_getElem? (i := 2) (by decide +kernel)
theorem m_X6_spans_3 : Cond.initialized RX7 ∈ wsX6_spans := List.mem_of_getElem? (i := 3) (by decide +kernel)
theorem cw_X6_spans_X7_within {s : State} {args : Array Value} (ht : ∀ w ∈ wsX6_spans, w.before args s = true) (hN : NW s) : va_CN (rmD 1) s args RX6 32 yX7_within "ClawCase" cX7_within 3 (some .boolean) wsX7_within (rmD (0)) 0 0 3 ∧ (Cond.static yX7_within).before args s = true ∧ True := ⟨va_cnB 3 ht gX6_spans_X7_within_n32 rfl rfl rfl (hN (RX6, 32, yX7_within, "ClawCase") (by decide +kernel)) (ht _ m_X6_spans_3) (by decide +kernel) ⟨Nat.le_of_ble_eq_true rfl, Nat.le_of_ble_eq_true rfl⟩, ht _ m_X6_spans_2, trivial⟩
def o_X6_spans (Q : Int32 → Mm → Prop) (j0 : Nat) (g : Mm) (x1 : Int32) (x2 : Int32) : Prop := ((x1 < 0) → Q 0 g) ∧ ((¬ x1 < 0) → o_X7_within (fun (r_2 : Int32) (g_1 : Mm) => ((r_2 = 0) → Q 0 g_1) ∧ ((¬ r_2 = 0) → ((((g_1.1 j0 3) - x2) < x1) → Q 0 g_1) ∧ ((¬ ((g_1.1 j0 3) - x2) < x1) → Q 1 g_1))) g x2 0 (g.1 j0 3))
set_option maxHeartbeats 4000000 in
set_option maxRecDepth 100000 in
theorem o_X6_spans_c {l : Launch} {dC : Nat → ClassId} {dI : Nat → Nat → Nat} {cy : Nat → ClassId} {ad tz : Nat → Nat} {Q : Int32 → Mm → Prop} {j0 : Nat} {g : Mm} {x1 : Int32} {x2 : Int32} (hj0 : ly j0 = 6) (h : o_X6_spans Q j0 g x1 x2) : CI l dC dI cy ad tz yX6_spans wsX6_spans (rmD 1) [.ref (ad j0), .int x1, .int x2] g Q := by
  refine CI.of (by decide) rfl rfl (Nat.le_of_ble_eq_true rfl) ?_
  intro p e s m args below meth c ls C hl S
  have hl : lv_has ls 3 [(0, .ref (ad j0)), (1, .int x1), (2, .int x2)] := hl
  have hx := C.1.1
  have hb := C.1.2.1
  unfold o_X6_spans at h
  refine lv_iload_n hx hb dX6_spans_0 rfl (lv_at hl 1 rfl) ?_
  refine lv_if_lt (tgt := 30) hx hb dX6_spans_1 (by decide) (fun c1 => ?_) (fun c1 => ?_)
  · have h := h.1 c1
    refine lv_iconst (v := 0) hx hb dX6_spans_30 (by decide) ?_
    exact kRz C S rfl h dX6_spans_31
  · have h := h.2 c1
    refine lv_iload_n hx hb dX6_spans_4 rfl (lv_at hl 2 rfl) ?_
    refine lv_iconst (v := 0) hx hb dX6_spans_5 (by decide) ?_
    refine lv_aload_n hx hb dX6_spans_6 rfl (lv_at hl 0 rfl) ?_
    refine kg6 (k := 3) (v := .int (g.1 j0 3)) C S hj0 (by decide) n_X6_spans_X6 m_X6_spans_1 rfl dX6_spans_7 ?_
    refine kN_i (As := [.int x2, .int 0, .int (g.1 j0 3)]) (rest := []) C S hl.1 (o_X7_within_c h) (cw_X6_spans_X7_within C.1.2.2.2.2 C.2.2.2.1) rfl rfl (Nat.le_of_ble_eq_true rfl) dX6_spans_10 (fun r_2 g_1 H locs h S => ?_)
    refine lv_if_eq (tgt := 30) hx hb dX6_spans_13 (by decide) (fun c1 => ?_) (fun c1 => ?_)
    · have h := h.1 c1
      refine lv_iconst (v := 0) hx hb dX6_spans_30 (by decide) ?_
      exact kRz C S rfl h dX6_spans_31
    · have h := h.2 c1
      refine lv_iload_n hx hb dX6_spans_16 rfl (lv_at hl 1 rfl) ?_
      refine lv_aload_n hx hb dX6_spans_17 rfl (lv_at hl 0 rfl) ?_
      refine kg6 (k := 3) (v := .int (g_1.1 j0 3)) C S hj0 (by decide) n_X6_spans_X6 m_X6_spans_1 rfl dX6_spans_18 ?_
      refine lv_iload_n hx hb dX6_spans_21 rfl (lv_at hl 2 rfl) ?_
      refine lv_isub hx hb dX6_spans_22 ?_
      refine lv_icmp_gt (tgt := 30) hx hb dX6_spans_23 (by decide) (fun c1 => ?_) (fun c1 => ?_)
      · have h := h.1 c1
        refine lv_iconst (v := 0) hx hb dX6_spans_30 (by decide) ?_
        exact kRz C S rfl h dX6_spans_31
      · have h := h.2 c1
        refine lv_iconst (v := 1) hx hb dX6_spans_26 (by decide) ?_
        refine lv_goto (tgt := 31) hx hb dX6_spans_27 (by decide) ?_
        exact kRz C S rfl h dX6_spans_31
/-! ClawCase.fine(I)I, height 0 -/
theorem m_X7_fine_1 : Cond.fieldLink RX7 58 "ClawCase" "latestFinding" "I" ∈ wsX7_fine := List.mem_of_getElem? (i := 1) (by decide +kernel)
theorem n_X7_fine_X7 : ∀ w ∈ wsX70, w ∈ wsX7_fine := mem_by [2, 3, 4, 5, 6, 7, 8, 9, 10] (by decide +kernel)
def o_X7_fine (Q : Int32 → Mm → Prop) (g : Mm) (x1 : Int32) : Prop := ∀ g_1 : Mm, g_1 = mset g 0 8 0 → (Q x1 g_1)
set_option maxHeartbeats 4000000 in
set_option maxRecDepth 100000 in
theorem o_X7_fine_c {l : Launch} {dC : Nat → ClassId} {dI : Nat → Nat → Nat} {cy : Nat → ClassId} {ad tz : Nat → Nat} {Q : Int32 → Mm → Prop} {g : Mm} {x1 : Int32} (h : o_X7_fine Q g x1) : CI l dC dI cy ad tz yX7_fine wsX7_fine (rmD 0) [.ref (ad 0), .int x1] g Q := by
  refine CI.of (by decide) rfl rfl (Nat.le_of_ble_eq_true rfl) ?_
  intro p e s m args below meth c ls C hl S
  have hl : lv_has ls 2 [(0, .ref (ad 0)), (1, .int x1)] := hl
  have hx := C.1.1
  have hb := C.1.2.1
  unfold o_X7_fine at h
  refine lv_aload_n hx hb dX7_fine_0 rfl (lv_at hl 0 rfl) ?_
  refine lv_iconst (v := 0) hx hb dX7_fine_1 (by decide) ?_
  refine kp7_8 C S rfl n_X7_fine_X7 m_X7_fine_1 dX7_fine_2 (fun g_1 H locs eg_1 S => ?_)
  have h := h g_1 eg_1
  refine lv_iload_n hx hb dX7_fine_5 rfl (lv_at hl 1 rfl) ?_
  exact kRi C S h dX7_fine_6
/-! ClawCase.found(I)I, height 0 -/
theorem m_X7_found_1 : Cond.fieldLink RX7 58 "ClawCase" "latestFinding" "I" ∈ wsX7_found := List.mem_of_getElem? (i := 1) (by decide +kernel)
theorem n_X7_found_X7 : ∀ w ∈ wsX70, w ∈ wsX7_found := mem_by [3, 4, 5, 6, 7, 8, 9, 10, 11] (by decide +kernel)
theorem m_X7_found_2 : Cond.constant RX7 285 (-1000010) ∈ wsX7_found := List.mem_of_getElem? (i := 2) (by decide +kernel)
def o_X7_found (Q : Int32 → Mm → Prop) (g : Mm) (x1 : Int32) : Prop := ∀ g_1 : Mm, g_1 = mset g 0 8 x1 → (Q ((-1000010) - x1) g_1)
set_option maxHeartbeats 4000000 in
set_option maxRecDepth 100000 in
theorem o_X7_found_c {l : Launch} {dC : Nat → ClassId} {dI : Nat → Nat → Nat} {cy : Nat → ClassId} {ad tz : Nat → Nat} {Q : Int32 → Mm → Prop} {g : Mm} {x1 : Int32} (h : o_X7_found Q g x1) : CI l dC dI cy ad tz yX7_found wsX7_found (rmD 0) [.ref (ad 0), .int x1] g Q := by
  refine CI.of (by decide) rfl rfl (Nat.le_of_ble_eq_true rfl) ?_
  intro p e s m args below meth c ls C hl S
  have hl : lv_has ls 2 [(0, .ref (ad 0)), (1, .int x1)] := hl
  have hx := C.1.1
  have hb := C.1.2.1
  unfold o_X7_found at h
  refine lv_aload_n hx hb dX7_found_0 rfl (lv_at hl 0 rfl) ?_
  refine lv_iload_n hx hb dX7_found_1 rfl (lv_at hl 1 rfl) ?_
  refine kp7_8 C S rfl n_X7_found_X7 m_X7_found_1 dX7_found_2 (fun g_1 H locs eg_1 S => ?_)
  have h := h g_1 eg_1
  refine kLdcw C m_X7_found_2 dX7_found_5 ?_
  refine lv_iload_n hx hb dX7_found_8 rfl (lv_at hl 1 rfl) ?_
  refine lv_isub hx hb dX7_found_9 ?_
  exact kRi C S h dX7_found_10
/-! ClawCase.isToy(I)Z, height 1 -/
theorem m_X7_isToy_1 : Cond.fieldLink RX7 25 "ClawCase" "now" "LClawCase$Box;" ∈ wsX7_isToy := List.mem_of_getElem? (i := 1) (by decide +kernel)
theorem n_X7_isToy_X7 : ∀ w ∈ wsX70, w ∈ wsX7_isToy := mem_by [7, 8, 9, 10, 11, 12, 13, 14, 15] (by decide +kernel)
theorem m_X7_isToy_2 : Cond.fieldLink RX7 137 "ClawCase$Box" "toys" "I" ∈ wsX7_isToy := List.mem_of_getElem? (i := 2) (by decide +kernel)
theorem n_X7_isToy_X3 : ∀ w ∈ wsX30, w ∈ wsX7_isToy := mem_by [16, 17, 18, 19, 20, 21, 22, 23, 24] (by decide +kernel)
theorem cw_X7_isToy_X7_within {s : State} {args : Array Value} (ht : ∀ w ∈ wsX7_isToy, w.before args s = true) : CallB (rmD 1) s args RX7 66 yX7_within cX7_within 3 (some .boolean) wsX7_within (rmD (0)) 0 0 3 ∧ (Cond.static yX7_within).before args s = true := va_cwS 3 ht gX7_isToy_X7_within rfl rfl rfl (by decide +kernel) ⟨Nat.le_of_ble_eq_true rfl, Nat.le_of_ble_eq_true rfl⟩
def o_X7_isToy (Q : Int32 → Mm → Prop) (g : Mm) (x1 : Int32) : Prop := o_X7_within (fun (r_2 : Int32) (g_1 : Mm) => narrow .boolean (.int r_2) = .int r_2 ∧ (Q r_2 g_1)) g x1 0 ((g.1 9 4) - 1)
set_option maxHeartbeats 4000000 in
set_option maxRecDepth 100000 in
theorem o_X7_isToy_c {l : Launch} {dC : Nat → ClassId} {dI : Nat → Nat → Nat} {cy : Nat → ClassId} {ad tz : Nat → Nat} {Q : Int32 → Mm → Prop} {g : Mm} {x1 : Int32} (h : o_X7_isToy Q g x1) : CI l dC dI cy ad tz yX7_isToy wsX7_isToy (rmD 1) [.ref (ad 0), .int x1] g Q := by
  refine CI.of (by decide) rfl rfl (Nat.le_of_ble_eq_true rfl) ?_
  intro p e s m args below meth c ls C hl S
  have hl : lv_has ls 2 [(0, .ref (ad 0)), (1, .int x1)] := hl
  have hx := C.1.1
  have hb := C.1.2.1
  unfold o_X7_isToy at h
  refine lv_iload_n hx hb dX7_isToy_0 rfl (lv_at hl 1 rfl) ?_
  refine lv_iconst (v := 0) hx hb dX7_isToy_1 (by decide) ?_
  refine lv_aload_n hx hb dX7_isToy_2 rfl (lv_at hl 0 rfl) ?_
  refine kg7 (k := 2) (v := .ref (ad 9)) C S rfl (by decide) n_X7_isToy_X7 m_X7_isToy_1 rfl dX7_isToy_3 ?_
  refine kg3 (k := 4) (v := .int (g.1 9 4)) C S rfl (by decide) n_X7_isToy_X3 m_X7_isToy_2 rfl dX7_isToy_6 ?_
  refine lv_iconst (v := 1) hx hb dX7_isToy_9 (by decide) ?_
  refine lv_isub hx hb dX7_isToy_10 ?_
  refine kS_i (As := [.int x1, .int 0, .int ((g.1 9 4) - 1)]) (rest := []) C S hl.1 (o_X7_within_c h) (cw_X7_isToy_X7_within C.1.2.2.2.2) rfl rfl (Nat.le_of_ble_eq_true rfl) dX7_isToy_11 (fun r_2 g_1 H locs h S => ?_)
  obtain ⟨hz, h⟩ := h
  exact kRz C S hz h dX7_isToy_14
/-! ClawCase.as(II)I, height 2 -/
theorem m_X7_as_1 : Cond.constant RX7 70 (-1000001) ∈ wsX7_as := List.mem_of_getElem? (i := 1) (by decide +kernel)
theorem m_X7_as_2 : Cond.fieldLink RX7 25 "ClawCase" "now" "LClawCase$Box;" ∈ wsX7_as := List.mem_of_getElem? (i := 2) (by decide +kernel)
theorem n_X7_as_X7 : ∀ w ∈ wsX70, w ∈ wsX7_as := mem_by [27, 28, 29, 30, 31, 32, 33, 34, 35] (by decide +kernel)
theorem m_X7_as_3 : Cond.fieldLink RX7 257 "ClawCase$Box" "kinds" "[I" ∈ wsX7_as := List.mem_of_getElem? (i := 3) (by decide +kernel)
theorem n_X7_as_X3 : ∀ w ∈ wsX30, w ∈ wsX7_as := mem_by [36, 37, 38, 39, 40, 41, 42, 43, 44] (by decide +kernel)
theorem cw_X7_as_X7_found {s : State} {args : Array Value} (ht : ∀ w ∈ wsX7_as, w.before args s = true) : CallW (rmD 2) s args RX7 RX7 71 yX7_found cX7_found 2 (some .int) wsX7_found (rmD (0)) 0 0 1 := cwV 1 ht gX7_as_X7_found rfl rfl rfl (by decide +kernel) ⟨Nat.le_of_ble_eq_true rfl, Nat.le_of_ble_eq_true rfl⟩
theorem cw_X7_as_X7_fine {s : State} {args : Array Value} (ht : ∀ w ∈ wsX7_as, w.before args s = true) : CallW (rmD 2) s args RX7 RX7 79 yX7_fine cX7_fine 2 (some .int) wsX7_fine (rmD (0)) 0 0 1 := cwV 1 ht gX7_as_X7_fine rfl rfl rfl (by decide +kernel) ⟨Nat.le_of_ble_eq_true rfl, Nat.le_of_ble_eq_true rfl⟩
theorem cw_X7_as_X7_isOfKind {s : State} {args : Array Value} (ht : ∀ w ∈ wsX7_as, w.before args s = true) : CallB (rmD 2) s args RX7 260 yX7_isOfKind cX7_isOfKind 4 (some .boolean) wsX7_isOfKind (rmD (0)) 0 0 2 ∧ (Cond.static yX7_isOfKind).before args s = true := va_cwS 2 ht gX7_as_X7_isOfKind rfl rfl rfl (by decide +kernel) ⟨Nat.le_of_ble_eq_true rfl, Nat.le_of_ble_eq_true rfl⟩
theorem cw_X7_as_X7_within {s : State} {args : Array Value} (ht : ∀ w ∈ wsX7_as, w.before args s = true) : CallB (rmD 2) s args RX7 66 yX7_within cX7_within 3 (some .boolean) wsX7_within (rmD (0)) 0 0 3 ∧ (Cond.static yX7_within).before args s = true := va_cwS 3 ht gX7_as_X7_within rfl rfl rfl (by decide +kernel) ⟨Nat.le_of_ble_eq_true rfl, Nat.le_of_ble_eq_true rfl⟩
theorem cw_X7_as_X7_isToy {s : State} {args : Array Value} (ht : ∀ w ∈ wsX7_as, w.before args s = true) : CallW (rmD 2) s args RX7 RX7 161 yX7_isToy cX7_isToy 2 (some .boolean) wsX7_isToy (rmD (1)) 0 0 1 := cwV 1 ht gX7_as_X7_isToy rfl rfl rfl (by decide +kernel) ⟨Nat.le_of_ble_eq_true rfl, Nat.le_of_ble_eq_true rfl⟩
def o_X7_as (Q : Int32 → Mm → Prop) (g : Mm) (x1 : Int32) (x2 : Int32) : Prop := o_X7_isToy (fun (r_2 : Int32) (g_1 : Mm) => ((r_2 = 0) → Q (-1000001) g_1) ∧ ((¬ r_2 = 0) → o_X7_within (fun (r_4 : Int32) (g_3 : Mm) => ((¬ r_4 = 0) → vp_in x1 7 ∧ (o_X7_isOfKind (fun (r_6 : Int32) (g_5 : Mm) => ((r_6 = 0) → o_X7_found (fun (r_8 : Int32) (g_7 : Mm) => Q r_8 g_7) g_5 3) ∧ ((¬ r_6 = 0) → o_X7_fine (fun (r_10 : Int32) (g_9 : Mm) => Q r_10 g_9) g_5 x1)) g_3 (g_3.1 10 x1.toNatClampNeg) x2)) ∧ ((r_4 = 0) → Q (-1000001) g_3)) g_1 x2 0 5)) g x1
set_option maxHeartbeats 4000000 in
set_option maxRecDepth 100000 in
theorem o_X7_as_c {l : Launch} {dC : Nat → ClassId} {dI : Nat → Nat → Nat} {cy : Nat → ClassId} {ad tz : Nat → Nat} {Q : Int32 → Mm → Prop} {g : Mm} {x1 : Int32} {x2 : Int32} (h : o_X7_as Q g x1 x2) : CI l dC dI cy ad tz yX7_as wsX7_as (rmD 2) [.ref (ad 0), .int x1, .int x2] g Q := by
  refine CI.of (by decide) rfl rfl (Nat.le_of_ble_eq_true rfl) ?_
  intro p e s m args below meth c ls C hl S
  have hl : lv_has ls 3 [(0, .ref (ad 0)), (1, .int x1), (2, .int x2)] := hl
  have hx := C.1.1
  have hb := C.1.2.1
  unfold o_X7_as at h
  refine lv_aload_n hx hb dX7_as_0 rfl (lv_at hl 0 rfl) ?_
  refine lv_iload_n hx hb dX7_as_1 rfl (lv_at hl 1 rfl) ?_
  refine kV_i (As := [.int x1]) (rest := []) C S hl.1 (o_X7_isToy_c h) (wd_o7 rfl) rfl (cw_X7_as_X7_isToy C.1.2.2.2.2) rfl rfl (Nat.le_of_ble_eq_true rfl) dX7_as_2 (fun r_2 g_1 H locs h S => ?_)
  refine lv_if_eq (tgt := 17) hx hb dX7_as_5 (by decide) (fun c1 => ?_) (fun c1 => ?_)
  · have h := h.1 c1
    refine kLdc C m_X7_as_1 dX7_as_17 ?_
    exact kRi C S h dX7_as_19
  · have h := h.2 c1
    refine lv_iload_n hx hb dX7_as_8 rfl (lv_at hl 2 rfl) ?_
    refine lv_iconst (v := 0) hx hb dX7_as_9 (by decide) ?_
    refine lv_iconst (v := 5) hx hb dX7_as_10 (by decide) ?_
    refine kS_i (As := [.int x2, .int 0, .int 5]) (rest := []) C S hl.1 (o_X7_within_c h) (cw_X7_as_X7_within C.1.2.2.2.2) rfl rfl (Nat.le_of_ble_eq_true rfl) dX7_as_11 (fun r_4 g_3 H locs h S => ?_)
    refine lv_if_ne (tgt := 20) hx hb dX7_as_14 (by decide) (fun c1 => ?_) (fun c1 => ?_)
    · have h := h.1 c1
      refine lv_aload_n hx hb dX7_as_20 rfl (lv_at hl 0 rfl) ?_
      refine kg7 (k := 2) (v := .ref (ad 9)) C S rfl (by decide) n_X7_as_X7 m_X7_as_2 rfl dX7_as_21 ?_
      refine kg3 (k := 0) (v := .ref (ad 10)) C S rfl (by decide) n_X7_as_X3 m_X7_as_3 rfl dX7_as_24 ?_
      refine lv_iload_n hx hb dX7_as_27 rfl (lv_at hl 1 rfl) ?_
      obtain ⟨hi, h⟩ := h
      refine kLi C S rfl rfl hi dX7_as_28 ?_
      refine lv_iload_n hx hb dX7_as_29 rfl (lv_at hl 2 rfl) ?_
      refine kS_i (As := [.int (g_3.1 10 x1.toNatClampNeg), .int x2]) (rest := []) C S hl.1 (o_X7_isOfKind_c h) (cw_X7_as_X7_isOfKind C.1.2.2.2.2) rfl rfl (Nat.le_of_ble_eq_true rfl) dX7_as_30 (fun r_6 g_5 H locs h S => ?_)
      refine lv_if_eq (tgt := 44) hx hb dX7_as_33 (by decide) (fun c1 => ?_) (fun c1 => ?_)
      · have h := h.1 c1
        refine lv_aload_n hx hb dX7_as_44 rfl (lv_at hl 0 rfl) ?_
        refine lv_iconst (v := 3) hx hb dX7_as_45 (by decide) ?_
        refine kV_i (As := [.int 3]) (rest := []) C S hl.1 (o_X7_found_c h) (wd_o7 rfl) rfl (cw_X7_as_X7_found C.1.2.2.2.2) rfl rfl (Nat.le_of_ble_eq_true rfl) dX7_as_46 (fun r_8 g_7 H locs h S => ?_)
        exact kRi C S h dX7_as_49
      · have h := h.2 c1
        refine lv_aload_n hx hb dX7_as_36 rfl (lv_at hl 0 rfl) ?_
        refine lv_iload_n hx hb dX7_as_37 rfl (lv_at hl 1 rfl) ?_
        refine kV_i (As := [.int x1]) (rest := []) C S hl.1 (o_X7_fine_c h) (wd_o7 rfl) rfl (cw_X7_as_X7_fine C.1.2.2.2.2) rfl rfl (Nat.le_of_ble_eq_true rfl) dX7_as_38 (fun r_10 g_9 H locs h S => ?_)
        refine lv_goto (tgt := 49) hx hb dX7_as_41 (by decide) ?_
        exact kRi C S h dX7_as_49
    · have h := h.2 c1
      refine kLdc C m_X7_as_1 dX7_as_17 ?_
      exact kRi C S h dX7_as_19
/-! ClawCase.ask(II)I, height 19 -/
theorem m_X7_ask_1 : Cond.constant RX7 70 (-1000001) ∈ wsX7_ask := List.mem_of_getElem? (i := 1) (by decide +kernel)
theorem m_X7_ask_2 : Cond.fieldLink RX7 50 "ClawCase" "asked" "LClawCase$Asked;" ∈ wsX7_ask := List.mem_of_getElem? (i := 2) (by decide +kernel)
theorem n_X7_ask_X7 : ∀ w ∈ wsX70, w ∈ wsX7_ask := mem_by [32, 33, 34, 35, 36, 37, 38, 39, 40] (by decide +kernel)
theorem m_X7_ask_3 : Cond.fieldLink RX7 25 "ClawCase" "now" "LClawCase$Box;" ∈ wsX7_ask := List.mem_of_getElem? (i := 3) (by decide +kernel)
theorem m_X7_ask_6 : Cond.fieldLink RX7 266 "ClawCase$Asked" "MARK" "[I" ∈ wsX7_ask := List.mem_of_getElem? (i := 6) (by decide +kernel)
theorem m_X7_ask_5 : Cond.fieldLink RX7 257 "ClawCase$Box" "kinds" "[I" ∈ wsX7_ask := List.mem_of_getElem? (i := 5) (by decide +kernel)
theorem n_X7_ask_X3 : ∀ w ∈ wsX30, w ∈ wsX7_ask := mem_by [41, 42, 43, 44, 45, 46, 47, 48, 49] (by decide +kernel)
theorem cw_X7_ask_X1_answer {s : State} {args : Array Value} (ht : ∀ w ∈ wsX7_ask, w.before args s = true) : CallW (rmD 19) s args RX7 RX1 269 yX1_answer cX1_answer 4 (some .int) wsX1_answer (rmD (18)) 0 0 3 := cwV 3 ht gX7_ask_X1_answer rfl rfl rfl (by decide +kernel) ⟨Nat.le_of_ble_eq_true rfl, Nat.le_of_ble_eq_true rfl⟩
theorem m_X7_ask_4 : Cond.fieldLink RX7 263 "ClawCase$Asked" "SIZE" "[I" ∈ wsX7_ask := List.mem_of_getElem? (i := 4) (by decide +kernel)
theorem cw_X7_ask_X7_within {s : State} {args : Array Value} (ht : ∀ w ∈ wsX7_ask, w.before args s = true) : CallB (rmD 19) s args RX7 66 yX7_within cX7_within 3 (some .boolean) wsX7_within (rmD (0)) 0 0 3 ∧ (Cond.static yX7_within).before args s = true := va_cwS 3 ht gX7_ask_X7_within rfl rfl rfl (by decide +kernel) ⟨Nat.le_of_ble_eq_true rfl, Nat.le_of_ble_eq_true rfl⟩
theorem cw_X7_ask_X7_isToy {s : State} {args : Array Value} (ht : ∀ w ∈ wsX7_ask, w.before args s = true) : CallW (rmD 19) s args RX7 RX7 161 yX7_isToy cX7_isToy 2 (some .boolean) wsX7_isToy (rmD (1)) 0 0 1 := cwV 1 ht gX7_ask_X7_isToy rfl rfl rfl (by decide +kernel) ⟨Nat.le_of_ble_eq_true rfl, Nat.le_of_ble_eq_true rfl⟩
def o_X7_ask_62 (Q : Int32 → Mm → Prop) (g : Mm) (s2 : Int32) (s3 : Int32) : Prop := o_X1_answer (fun (r_6 : Int32) (g_5 : Mm) => Q r_6 g_5) 9 g s2 s3
set_option maxHeartbeats 4000000 in
set_option maxRecDepth 100000 in
theorem o_X7_ask_62_w {p : Program} {l : Launch} {e : Env} {s : State} {m : MethodId} {args : Array Value} {below : List Frame} {meth : Method} {c : Code} {dC : Nat → ClassId} {dI : Nat → Nat → Nat} {cy : Nat → ClassId} {ad tz : Nat → Nat} {Q : Int32 → Mm → Prop} (C : CX p s m args meth c dC dI cy ad tz cX7_ask 3 (some .int) RX7 wsX7_ask) : ∀ (g : Mm) (s2 : Int32) (s3 : Int32) (H : Heap) (locs : List Loc) (ls : Array Slot), St dC dI cy ad s g H locs → lv_has ls 3 [] → o_X7_ask_62 Q g s2 s3 → W p l e (rmD 19) s m args below meth c H locs 0 0 (QI dC dI cy ad below args s Q) (F0 m 62 ls [.int s3, .int s2, .ref (ad 9), .ref (ad 58)]) := by
  have hx := C.1.1
  have hb := C.1.2.1
  intro g s2 s3 H locs ls S hl h
  unfold o_X7_ask_62 at h
  refine kV_i (As := [.ref (ad 9), .int s2, .int s3]) (rest := []) C S hl.1 (o_X1_answer_c rfl h) (wd_o1 rfl) rfl (cw_X7_ask_X1_answer C.1.2.2.2.2) rfl rfl (Nat.le_of_ble_eq_true rfl) dX7_ask_62 (fun r_6 g_5 H locs h S => ?_)
  exact kRi C S h dX7_ask_65
def o_X7_ask (Q : Int32 → Mm → Prop) (g : Mm) (x1 : Int32) (x2 : Int32) : Prop := o_X7_isToy (fun (r_2 : Int32) (g_1 : Mm) => ((r_2 = 0) → Q (-1000001) g_1) ∧ ((¬ r_2 = 0) → o_X7_within (fun (r_4 : Int32) (g_3 : Mm) => ((¬ r_4 = 0) → ((¬ x2 = 0) → vp_in x1 7 ∧ (vp_in (g_3.1 10 x1.toNatClampNeg) 6 ∧ (o_X7_ask_62 Q g_3 x1 (tzM (g_3.1 10 x1.toNatClampNeg : Int32).toNatClampNeg)))) ∧ ((x2 = 0) → vp_in x1 7 ∧ (vp_in (g_3.1 10 x1.toNatClampNeg) 6 ∧ (o_X7_ask_62 Q g_3 x1 (tzS (g_3.1 10 x1.toNatClampNeg : Int32).toNatClampNeg))))) ∧ ((r_4 = 0) → Q (-1000001) g_3)) g_1 x2 0 1)) g x1
set_option maxHeartbeats 4000000 in
set_option maxRecDepth 100000 in
theorem o_X7_ask_c {l : Launch} {dC : Nat → ClassId} {dI : Nat → Nat → Nat} {cy : Nat → ClassId} {ad tz : Nat → Nat} {Q : Int32 → Mm → Prop} {g : Mm} {x1 : Int32} {x2 : Int32} (h : o_X7_ask Q g x1 x2) : CI l dC dI cy ad tz yX7_ask wsX7_ask (rmD 19) [.ref (ad 0), .int x1, .int x2] g Q := by
  refine CI.of (by decide) rfl rfl (Nat.le_of_ble_eq_true rfl) ?_
  intro p e s m args below meth c ls C hl S
  have hl : lv_has ls 3 [(0, .ref (ad 0)), (1, .int x1), (2, .int x2)] := hl
  have hx := C.1.1
  have hb := C.1.2.1
  unfold o_X7_ask at h
  refine lv_aload_n hx hb dX7_ask_0 rfl (lv_at hl 0 rfl) ?_
  refine lv_iload_n hx hb dX7_ask_1 rfl (lv_at hl 1 rfl) ?_
  refine kV_i (As := [.int x1]) (rest := []) C S hl.1 (o_X7_isToy_c h) (wd_o7 rfl) rfl (cw_X7_ask_X7_isToy C.1.2.2.2.2) rfl rfl (Nat.le_of_ble_eq_true rfl) dX7_ask_2 (fun r_2 g_1 H locs h S => ?_)
  refine lv_if_eq (tgt := 17) hx hb dX7_ask_5 (by decide) (fun c1 => ?_) (fun c1 => ?_)
  · have h := h.1 c1
    refine kLdc C m_X7_ask_1 dX7_ask_17 ?_
    exact kRi C S h dX7_ask_19
  · have h := h.2 c1
    refine lv_iload_n hx hb dX7_ask_8 rfl (lv_at hl 2 rfl) ?_
    refine lv_iconst (v := 0) hx hb dX7_ask_9 (by decide) ?_
    refine lv_iconst (v := 1) hx hb dX7_ask_10 (by decide) ?_
    refine kS_i (As := [.int x2, .int 0, .int 1]) (rest := []) C S hl.1 (o_X7_within_c h) (cw_X7_ask_X7_within C.1.2.2.2.2) rfl rfl (Nat.le_of_ble_eq_true rfl) dX7_ask_11 (fun r_4 g_3 H locs h S => ?_)
    refine lv_if_ne (tgt := 20) hx hb dX7_ask_14 (by decide) (fun c1 => ?_) (fun c1 => ?_)
    · have h := h.1 c1
      refine lv_aload_n hx hb dX7_ask_20 rfl (lv_at hl 0 rfl) ?_
      refine kg7 (k := 6) (v := .ref (ad 58)) C S rfl (by decide) n_X7_ask_X7 m_X7_ask_2 rfl dX7_ask_21 ?_
      refine lv_aload_n hx hb dX7_ask_24 rfl (lv_at hl 0 rfl) ?_
      refine kg7 (k := 2) (v := .ref (ad 9)) C S rfl (by decide) n_X7_ask_X7 m_X7_ask_3 rfl dX7_ask_25 ?_
      refine lv_iload_n hx hb dX7_ask_28 rfl (lv_at hl 1 rfl) ?_
      refine lv_iload_n hx hb dX7_ask_29 rfl (lv_at hl 2 rfl) ?_
      refine lv_if_ne (tgt := 49) hx hb dX7_ask_30 (by decide) (fun c1 => ?_) (fun c1 => ?_)
      · have h := h.1 c1
        refine kGM C S m_X7_ask_6 dX7_ask_49 ?_
        refine lv_aload_n hx hb dX7_ask_52 rfl (lv_at hl 0 rfl) ?_
        refine kg7 (k := 2) (v := .ref (ad 9)) C S rfl (by decide) n_X7_ask_X7 m_X7_ask_3 rfl dX7_ask_53 ?_
        refine kg3 (k := 0) (v := .ref (ad 10)) C S rfl (by decide) n_X7_ask_X3 m_X7_ask_5 rfl dX7_ask_56 ?_
        refine lv_iload_n hx hb dX7_ask_59 rfl (lv_at hl 1 rfl) ?_
        obtain ⟨hi, h⟩ := h
        refine kLi C S rfl rfl hi dX7_ask_60 ?_
        obtain ⟨hi, h⟩ := h
        refine kTM C S hi dX7_ask_61 ?_
        exact o_X7_ask_62_w C g_3 x1 (tzM (g_3.1 10 x1.toNatClampNeg : Int32).toNatClampNeg) _ _ _ S (lv_sub hl [] rfl) h
      · have h := h.2 c1
        refine kGS C S m_X7_ask_4 dX7_ask_33 ?_
        refine lv_aload_n hx hb dX7_ask_36 rfl (lv_at hl 0 rfl) ?_
        refine kg7 (k := 2) (v := .ref (ad 9)) C S rfl (by decide) n_X7_ask_X7 m_X7_ask_3 rfl dX7_ask_37 ?_
        refine kg3 (k := 0) (v := .ref (ad 10)) C S rfl (by decide) n_X7_ask_X3 m_X7_ask_5 rfl dX7_ask_40 ?_
        refine lv_iload_n hx hb dX7_ask_43 rfl (lv_at hl 1 rfl) ?_
        obtain ⟨hi, h⟩ := h
        refine kLi C S rfl rfl hi dX7_ask_44 ?_
        obtain ⟨hi, h⟩ := h
        refine kTS C S hi dX7_ask_45 ?_
        refine lv_goto (tgt := 62) hx hb dX7_ask_46 (by decide) ?_
        exact o_X7_ask_62_w C g_3 x1 (tzS (g_3.1 10 x1.toNatClampNeg : Int32).toNatClampNeg) _ _ _ S (lv_sub hl [] rfl) h
    · have h := h.2 c1
      refine kLdc C m_X7_ask_1 dX7_ask_17 ?_
      exact kRi C S h dX7_ask_19
/-! ClawCase.commonDivisor(II)I, height 0 -/
def o_X7_commonDivisor_7 (Q : Int32 → Mm → Prop) (K34 : Mm → Int32 → Prop) : Nat → Mm → Int32 → Int32 → Int32 → Prop
  | 0, _, _, _, _ => False
  | n7 + 1, g, x2, x3, x4 => ((100 ≤ x4) → K34 g x3) ∧ ((¬ 100 ≤ x4) → ((x2 = 0) → K34 g x3) ∧ ((¬ x2 = 0) → ¬ (x2 : Int32) = 0 ∧ (∀ x_1 : Int32, x_1 = (x3 - x3 / x2 * x2) → (∀ x_2 : Int32, x_2 = x4 + 1 → (o_X7_commonDivisor_7 Q K34 n7 g x_1 x2 x_2)))))
def o_X7_commonDivisor_34 (Q : Int32 → Mm → Prop) (g : Mm) (x3 : Int32) : Prop := ((¬ x3 = 0) → Q x3 g) ∧ ((x3 = 0) → Q 1 g)
set_option maxHeartbeats 4000000 in
set_option maxRecDepth 100000 in
theorem o_X7_commonDivisor_7_w {p : Program} {l : Launch} {e : Env} {s : State} {m : MethodId} {args : Array Value} {below : List Frame} {meth : Method} {c : Code} {dC : Nat → ClassId} {dI : Nat → Nat → Nat} {cy : Nat → ClassId} {ad tz : Nat → Nat} {Q : Int32 → Mm → Prop} {K34 : Mm → Int32 → Prop} (C : CX p s m args meth c dC dI cy ad tz cX7_commonDivisor 6 (some .int) RX7 wsX7_commonDivisor) (hK34 : ∀ (g : Mm) (x3 : Int32) (H : Heap) (locs : List Loc) (ls : Array Slot), St dC dI cy ad s g H locs → lv_has ls 6 [(3, .int x3)] → K34 g x3 → W p l e (rmD 0) s m args below meth c H locs 0 0 (QI dC dI cy ad below args s Q) (F0 m 34 ls [])) : ∀ (n : Nat) (g : Mm) (x2 : Int32) (x3 : Int32) (x4 : Int32) (H : Heap) (locs : List Loc) (ls : Array Slot), St dC dI cy ad s g H locs → lv_has ls 6 [(2, .int x2), (3, .int x3), (4, .int x4)] → o_X7_commonDivisor_7 Q K34 n g x2 x3 x4 → W p l e (rmD 0) s m args below meth c H locs 0 0 (QI dC dI cy ad below args s Q) (F0 m 7 ls []) := by
  have hx := C.1.1
  have hb := C.1.2.1
  intro n7
  induction n7 with
  | zero => intro g x2 x3 x4 H locs ls S hl h; exact h.elim
  | succ n7 ih =>
    intro g x2 x3 x4 H locs ls S hl h
    have h : ((100 ≤ x4) → K34 g x3) ∧ ((¬ 100 ≤ x4) → ((x2 = 0) → K34 g x3) ∧ ((¬ x2 = 0) → ¬ (x2 : Int32) = 0 ∧ (∀ x_1 : Int32, x_1 = (x3 - x3 / x2 * x2) → (∀ x_2 : Int32, x_2 = x4 + 1 → (o_X7_commonDivisor_7 Q K34 n7 g x_1 x2 x_2))))) := h
    refine lv_iload hx hb dX7_commonDivisor_7 (lv_at hl 2 rfl) ?_
    refine lv_bipush (v := 100) hx hb dX7_commonDivisor_9 (by decide) ?_
    refine lv_icmp_ge (tgt := 34) hx hb dX7_commonDivisor_11 (by decide) (fun c1 => ?_) (fun c1 => ?_)
    · have h := h.1 c1
      exact hK34 g x3 _ _ _ S (lv_sub hl [1] rfl) h
    · have h := h.2 c1
      refine lv_iload_n hx hb dX7_commonDivisor_14 rfl (lv_at hl 0 rfl) ?_
      refine lv_if_eq (tgt := 34) hx hb dX7_commonDivisor_15 (by decide) (fun c1 => ?_) (fun c1 => ?_)
      · have h := h.1 c1
        exact hK34 g x3 _ _ _ S (lv_sub hl [1] rfl) h
      · have h := h.2 c1
        refine lv_iload_n hx hb dX7_commonDivisor_18 rfl (lv_at hl 1 rfl) ?_
        refine lv_iload_n hx hb dX7_commonDivisor_19 rfl (lv_at hl 0 rfl) ?_
        obtain ⟨h0, h⟩ := h
        refine lv_irem hx hb dX7_commonDivisor_20 h0 ?_
        refine lv_topi (fun x_1 ex_1 => ?_)
        have h := h x_1 ex_1
        refine lv_istore (lv' := [(5, .int x_1), (2, .int x2), (3, .int x3), (4, .int x4)]) hx hb dX7_commonDivisor_21 hl (by decide) rfl (fun ls hl => ?_)
        refine lv_iload_n hx hb dX7_commonDivisor_23 rfl (lv_at hl 1 rfl) ?_
        refine lv_istore_n (lv' := [(3, .int x2), (5, .int x_1), (2, .int x2), (4, .int x4)]) hx hb dX7_commonDivisor_24 rfl hl (by decide) rfl (fun ls hl => ?_)
        refine lv_iload hx hb dX7_commonDivisor_25 (lv_at hl 1 rfl) ?_
        refine lv_istore_n (lv' := [(2, .int x_1), (3, .int x2), (5, .int x_1), (4, .int x4)]) hx hb dX7_commonDivisor_27 rfl hl (by decide) rfl (fun ls hl => ?_)
        obtain ⟨x_2, ex_2⟩ : ∃ y : Int32, y = x4 + 1 := ⟨_, rfl⟩
        have h := h x_2 ex_2
        refine lv_iinc (v := x_2) (lv' := [(4, .int x_2), (2, .int x_1), (3, .int x2), (5, .int x_1)]) hx hb dX7_commonDivisor_28 hl (k := 3) rfl (by rw [ex_2]; rfl) (by decide) rfl (fun ls hl => ?_)
        refine lv_goto (tgt := 7) hx hb dX7_commonDivisor_31 (by decide) ?_
        exact ih g x_1 x2 x_2 _ _ _ S (lv_sub hl [1, 2, 0] rfl) h
set_option maxHeartbeats 4000000 in
set_option maxRecDepth 100000 in
theorem o_X7_commonDivisor_34_w {p : Program} {l : Launch} {e : Env} {s : State} {m : MethodId} {args : Array Value} {below : List Frame} {meth : Method} {c : Code} {dC : Nat → ClassId} {dI : Nat → Nat → Nat} {cy : Nat → ClassId} {ad tz : Nat → Nat} {Q : Int32 → Mm → Prop} (C : CX p s m args meth c dC dI cy ad tz cX7_commonDivisor 6 (some .int) RX7 wsX7_commonDivisor) : ∀ (g : Mm) (x3 : Int32) (H : Heap) (locs : List Loc) (ls : Array Slot), St dC dI cy ad s g H locs → lv_has ls 6 [(3, .int x3)] → o_X7_commonDivisor_34 Q g x3 → W p l e (rmD 0) s m args below meth c H locs 0 0 (QI dC dI cy ad below args s Q) (F0 m 34 ls []) := by
  have hx := C.1.1
  have hb := C.1.2.1
  intro g x3 H locs ls S hl h
  unfold o_X7_commonDivisor_34 at h
  refine lv_iload_n hx hb dX7_commonDivisor_34 rfl (lv_at hl 0 rfl) ?_
  refine lv_if_ne (tgt := 42) hx hb dX7_commonDivisor_35 (by decide) (fun c1 => ?_) (fun c1 => ?_)
  · have h := h.1 c1
    refine lv_iload_n hx hb dX7_commonDivisor_42 rfl (lv_at hl 0 rfl) ?_
    exact kRi C S h dX7_commonDivisor_43
  · have h := h.2 c1
    refine lv_iconst (v := 1) hx hb dX7_commonDivisor_38 (by decide) ?_
    refine lv_goto (tgt := 43) hx hb dX7_commonDivisor_39 (by decide) ?_
    exact kRi C S h dX7_commonDivisor_43
def o_X7_commonDivisor (Q : Int32 → Mm → Prop) (g : Mm) (x0 : Int32) (x1 : Int32) : Prop := ∃ n7, o_X7_commonDivisor_7 Q (fun (g : Mm) (x3 : Int32) => o_X7_commonDivisor_34 Q g x3) n7 g x0 x1 0
set_option maxHeartbeats 4000000 in
set_option maxRecDepth 100000 in
theorem o_X7_commonDivisor_c {l : Launch} {dC : Nat → ClassId} {dI : Nat → Nat → Nat} {cy : Nat → ClassId} {ad tz : Nat → Nat} {Q : Int32 → Mm → Prop} {g : Mm} {x0 : Int32} {x1 : Int32} (h : o_X7_commonDivisor Q g x0 x1) : CI l dC dI cy ad tz yX7_commonDivisor wsX7_commonDivisor (rmD 0) [.int x0, .int x1] g Q := by
  refine CI.of (by decide) rfl rfl (Nat.le_of_ble_eq_true rfl) ?_
  intro p e s m args below meth c ls C hl S
  have hl : lv_has ls 6 [(0, .int x0), (1, .int x1)] := hl
  have hx := C.1.1
  have hb := C.1.2.1
  unfold o_X7_commonDivisor at h
  refine lv_iload_n hx hb dX7_commonDivisor_0 rfl (lv_at hl 0 rfl) ?_
  refine lv_istore_n (lv' := [(2, .int x0), (0, .int x0), (1, .int x1)]) hx hb dX7_commonDivisor_1 rfl hl (by decide) rfl (fun ls hl => ?_)
  refine lv_iload_n hx hb dX7_commonDivisor_2 rfl (lv_at hl 2 rfl) ?_
  refine lv_istore_n (lv' := [(3, .int x1), (2, .int x0), (0, .int x0), (1, .int x1)]) hx hb dX7_commonDivisor_3 rfl hl (by decide) rfl (fun ls hl => ?_)
  refine lv_iconst (v := 0) hx hb dX7_commonDivisor_4 (by decide) ?_
  refine lv_istore (lv' := [(4, .int 0), (3, .int x1), (2, .int x0), (0, .int x0), (1, .int x1)]) hx hb dX7_commonDivisor_5 hl (by decide) rfl (fun ls hl => ?_)
  obtain ⟨n7, h⟩ := h
  refine o_X7_commonDivisor_7_w C ?_ n7 g x0 x1 0 _ _ _ S (lv_sub hl [2, 1, 0] rfl) h
  · intro g x3 H locs ls S hl h
    exact o_X7_commonDivisor_34_w C g x3 _ _ _ S (lv_sub hl [0] rfl) h
/-! ClawCase.chance(IIIII)I, height 16 -/
theorem m_X7_chance_1 : Cond.constant RX7 70 (-1000001) ∈ wsX7_chance := List.mem_of_getElem? (i := 1) (by decide +kernel)
theorem m_X7_chance_2 : Cond.fieldLink RX7 43 "ClawCase" "foretold" "LClawCase$Foretold;" ∈ wsX7_chance := List.mem_of_getElem? (i := 2) (by decide +kernel)
theorem n_X7_chance_X7 : ∀ w ∈ wsX70, w ∈ wsX7_chance := mem_by [107, 108, 109, 110, 111, 112, 113, 114, 115] (by decide +kernel)
theorem m_X7_chance_3 : Cond.fieldLink RX7 25 "ClawCase" "now" "LClawCase$Box;" ∈ wsX7_chance := List.mem_of_getElem? (i := 3) (by decide +kernel)
theorem cw_X7_chance_X7_commonDivisor {s : State} {args : Array Value} (ht : ∀ w ∈ wsX7_chance, w.before args s = true) : CallB (rmD 16) s args RX7 246 yX7_commonDivisor cX7_commonDivisor 6 (some .int) wsX7_commonDivisor (rmD (0)) 0 0 2 ∧ (Cond.static yX7_commonDivisor).before args s = true := va_cwS 2 ht gX7_chance_X7_commonDivisor rfl rfl rfl (by decide +kernel) ⟨Nat.le_of_ble_eq_true rfl, Nat.le_of_ble_eq_true rfl⟩
theorem cw_X7_chance_X7_power {s : State} {args : Array Value} (ht : ∀ w ∈ wsX7_chance, w.before args s = true) : CallB (rmD 16) s args RX7 243 yX7_power cX7_power 4 (some .int) wsX7_power (rmD (0)) 0 0 2 ∧ (Cond.static yX7_power).before args s = true := va_cwS 2 ht gX7_chance_X7_power rfl rfl rfl (by decide +kernel) ⟨Nat.le_of_ble_eq_true rfl, Nat.le_of_ble_eq_true rfl⟩
theorem cw_X7_chance_X4_waysToWin {s : State} {args : Array Value} (ht : ∀ w ∈ wsX7_chance, w.before args s = true) : CallW (rmD 16) s args RX7 RX4 239 yX4_waysToWin cX4_waysToWin 6 (some .int) wsX4_waysToWin (rmD (15)) 0 0 5 := cwV 5 ht gX7_chance_X4_waysToWin rfl rfl rfl (by decide +kernel) ⟨Nat.le_of_ble_eq_true rfl, Nat.le_of_ble_eq_true rfl⟩
theorem cw_X7_chance_X7_within {s : State} {args : Array Value} (ht : ∀ w ∈ wsX7_chance, w.before args s = true) : CallB (rmD 16) s args RX7 66 yX7_within cX7_within 3 (some .boolean) wsX7_within (rmD (0)) 0 0 3 ∧ (Cond.static yX7_within).before args s = true := va_cwS 3 ht gX7_chance_X7_within rfl rfl rfl (by decide +kernel) ⟨Nat.le_of_ble_eq_true rfl, Nat.le_of_ble_eq_true rfl⟩
theorem cw_X7_chance_X7_isColumn {s : State} {args : Array Value} (ht : ∀ w ∈ wsX7_chance, w.before args s = true) : CallB (rmD 16) s args RX7 144 yX7_isColumn cX7_isColumn 1 (some .boolean) wsX7_isColumn (rmD (1)) 0 0 1 ∧ (Cond.static yX7_isColumn).before args s = true := va_cwS 1 ht gX7_chance_X7_isColumn rfl rfl rfl (by decide +kernel) ⟨Nat.le_of_ble_eq_true rfl, Nat.le_of_ble_eq_true rfl⟩
theorem cw_X7_chance_X7_isToy {s : State} {args : Array Value} (ht : ∀ w ∈ wsX7_chance, w.before args s = true) : CallW (rmD 16) s args RX7 RX7 161 yX7_isToy cX7_isToy 2 (some .boolean) wsX7_isToy (rmD (1)) 0 0 1 := cwV 1 ht gX7_chance_X7_isToy rfl rfl rfl (by decide +kernel) ⟨Nat.le_of_ble_eq_true rfl, Nat.le_of_ble_eq_true rfl⟩
def o_X7_chance (Q : Int32 → Mm → Prop) (g : Mm) (x1 : Int32) (x2 : Int32) (x3 : Int32) (x4 : Int32) (x5 : Int32) : Prop := o_X7_isToy (fun (r_2 : Int32) (g_1 : Mm) => ((r_2 = 0) → Q (-1000001) g_1) ∧ ((¬ r_2 = 0) → o_X7_isColumn (fun (r_4 : Int32) (g_3 : Mm) => ((r_4 = 0) → Q (-1000001) g_3) ∧ ((¬ r_4 = 0) → o_X7_within (fun (r_6 : Int32) (g_5 : Mm) => ((¬ r_6 = 0) → o_X7_within (fun (r_8 : Int32) (g_7 : Mm) => ((r_8 = 0) → Q (-1000001) g_7) ∧ ((¬ r_8 = 0) → o_X7_within (fun (r_10 : Int32) (g_9 : Mm) => ((¬ r_10 = 0) → o_X4_waysToWin (fun (r_12 : Int32) (g_11 : Mm) => o_X7_power (fun (r_14 : Int32) (g_13 : Mm) => o_X7_commonDivisor (fun (r_16 : Int32) (g_15 : Mm) => ((¬ x5 = 0) → ¬ (r_16 : Int32) = 0 ∧ (Q (r_14 / r_16) g_15)) ∧ ((x5 = 0) → ¬ (r_16 : Int32) = 0 ∧ (Q (r_12 / r_16) g_15))) g_13 r_12 r_14) g_11 10 x3) 9 g_9 x1 x2 x3 x4) ∧ ((r_10 = 0) → Q (-1000001) g_9)) g_7 x5 0 1)) g_5 x4 0 10) ∧ ((r_6 = 0) → Q (-1000001) g_5)) g_3 x3 0 8)) g_1 x2)) g x1
set_option maxHeartbeats 4000000 in
set_option maxRecDepth 100000 in
theorem o_X7_chance_c {l : Launch} {dC : Nat → ClassId} {dI : Nat → Nat → Nat} {cy : Nat → ClassId} {ad tz : Nat → Nat} {Q : Int32 → Mm → Prop} {g : Mm} {x1 : Int32} {x2 : Int32} {x3 : Int32} {x4 : Int32} {x5 : Int32} (h : o_X7_chance Q g x1 x2 x3 x4 x5) : CI l dC dI cy ad tz yX7_chance wsX7_chance (rmD 16) [.ref (ad 0), .int x1, .int x2, .int x3, .int x4, .int x5] g Q := by
  refine CI.of (by decide) rfl rfl (Nat.le_of_ble_eq_true rfl) ?_
  intro p e s m args below meth c ls C hl S
  have hl : lv_has ls 9 [(0, .ref (ad 0)), (1, .int x1), (2, .int x2), (3, .int x3), (4, .int x4), (5, .int x5)] := hl
  have hx := C.1.1
  have hb := C.1.2.1
  unfold o_X7_chance at h
  refine lv_aload_n hx hb dX7_chance_0 rfl (lv_at hl 0 rfl) ?_
  refine lv_iload_n hx hb dX7_chance_1 rfl (lv_at hl 1 rfl) ?_
  refine kV_i (As := [.int x1]) (rest := []) C S hl.1 (o_X7_isToy_c h) (wd_o7 rfl) rfl (cw_X7_chance_X7_isToy C.1.2.2.2.2) rfl rfl (Nat.le_of_ble_eq_true rfl) dX7_chance_2 (fun r_2 g_1 H locs h S => ?_)
  refine lv_if_eq (tgt := 25) hx hb dX7_chance_5 (by decide) (fun c1 => ?_) (fun c1 => ?_)
  · have h := h.1 c1
    refine kLdc C m_X7_chance_1 dX7_chance_25 ?_
    exact kRi C S h dX7_chance_27
  · have h := h.2 c1
    refine lv_iload_n hx hb dX7_chance_8 rfl (lv_at hl 2 rfl) ?_
    refine kS_i (As := [.int x2]) (rest := []) C S hl.1 (o_X7_isColumn_c h) (cw_X7_chance_X7_isColumn C.1.2.2.2.2) rfl rfl (Nat.le_of_ble_eq_true rfl) dX7_chance_9 (fun r_4 g_3 H locs h S => ?_)
    refine lv_if_eq (tgt := 25) hx hb dX7_chance_12 (by decide) (fun c1 => ?_) (fun c1 => ?_)
    · have h := h.1 c1
      refine kLdc C m_X7_chance_1 dX7_chance_25 ?_
      exact kRi C S h dX7_chance_27
    · have h := h.2 c1
      refine lv_iload_n hx hb dX7_chance_15 rfl (lv_at hl 3 rfl) ?_
      refine lv_iconst (v := 0) hx hb dX7_chance_16 (by decide) ?_
      refine lv_bipush (v := 8) hx hb dX7_chance_17 (by decide) ?_
      refine kS_i (As := [.int x3, .int 0, .int 8]) (rest := []) C S hl.1 (o_X7_within_c h) (cw_X7_chance_X7_within C.1.2.2.2.2) rfl rfl (Nat.le_of_ble_eq_true rfl) dX7_chance_19 (fun r_6 g_5 H locs h S => ?_)
      refine lv_if_ne (tgt := 28) hx hb dX7_chance_22 (by decide) (fun c1 => ?_) (fun c1 => ?_)
      · have h := h.1 c1
        refine lv_iload hx hb dX7_chance_28 (lv_at hl 4 rfl) ?_
        refine lv_iconst (v := 0) hx hb dX7_chance_30 (by decide) ?_
        refine lv_bipush (v := 10) hx hb dX7_chance_31 (by decide) ?_
        refine kS_i (As := [.int x4, .int 0, .int 10]) (rest := []) C S hl.1 (o_X7_within_c h) (cw_X7_chance_X7_within C.1.2.2.2.2) rfl rfl (Nat.le_of_ble_eq_true rfl) dX7_chance_33 (fun r_8 g_7 H locs h S => ?_)
        refine lv_if_eq (tgt := 49) hx hb dX7_chance_36 (by decide) (fun c1 => ?_) (fun c1 => ?_)
        · have h := h.1 c1
          refine kLdc C m_X7_chance_1 dX7_chance_49 ?_
          exact kRi C S h dX7_chance_51
        · have h := h.2 c1
          refine lv_iload hx hb dX7_chance_39 (lv_at hl 5 rfl) ?_
          refine lv_iconst (v := 0) hx hb dX7_chance_41 (by decide) ?_
          refine lv_iconst (v := 1) hx hb dX7_chance_42 (by decide) ?_
          refine kS_i (As := [.int x5, .int 0, .int 1]) (rest := []) C S hl.1 (o_X7_within_c h) (cw_X7_chance_X7_within C.1.2.2.2.2) rfl rfl (Nat.le_of_ble_eq_true rfl) dX7_chance_43 (fun r_10 g_9 H locs h S => ?_)
          refine lv_if_ne (tgt := 52) hx hb dX7_chance_46 (by decide) (fun c1 => ?_) (fun c1 => ?_)
          · have h := h.1 c1
            refine lv_aload_n hx hb dX7_chance_52 rfl (lv_at hl 0 rfl) ?_
            refine kg7 (k := 5) (v := .ref (ad 41)) C S rfl (by decide) n_X7_chance_X7 m_X7_chance_2 rfl dX7_chance_53 ?_
            refine lv_aload_n hx hb dX7_chance_56 rfl (lv_at hl 0 rfl) ?_
            refine kg7 (k := 2) (v := .ref (ad 9)) C S rfl (by decide) n_X7_chance_X7 m_X7_chance_3 rfl dX7_chance_57 ?_
            refine lv_iload_n hx hb dX7_chance_60 rfl (lv_at hl 1 rfl) ?_
            refine lv_iload_n hx hb dX7_chance_61 rfl (lv_at hl 2 rfl) ?_
            refine lv_iload_n hx hb dX7_chance_62 rfl (lv_at hl 3 rfl) ?_
            refine lv_iload hx hb dX7_chance_63 (lv_at hl 4 rfl) ?_
            refine kV_i (As := [.ref (ad 9), .int x1, .int x2, .int x3, .int x4]) (rest := []) C S hl.1 (o_X4_waysToWin_c rfl h) (wd_o4 rfl) rfl (cw_X7_chance_X4_waysToWin C.1.2.2.2.2) rfl rfl (Nat.le_of_ble_eq_true rfl) dX7_chance_65 (fun r_12 g_11 H locs h S => ?_)
            refine lv_istore (lv' := [(6, .int r_12), (0, .ref (ad 0)), (1, .int x1), (2, .int x2), (3, .int x3), (4, .int x4), (5, .int x5)]) hx hb dX7_chance_68 hl (by decide) rfl (fun ls hl => ?_)
            refine lv_bipush (v := 10) hx hb dX7_chance_70 (by decide) ?_
            refine lv_iload_n hx hb dX7_chance_72 rfl (lv_at hl 4 rfl) ?_
            refine kS_i (As := [.int 10, .int x3]) (rest := []) C S hl.1 (o_X7_power_c h) (cw_X7_chance_X7_power C.1.2.2.2.2) rfl rfl (Nat.le_of_ble_eq_true rfl) dX7_chance_73 (fun r_14 g_13 H locs h S => ?_)
            refine lv_istore (lv' := [(7, .int r_14), (6, .int r_12), (0, .ref (ad 0)), (1, .int x1), (2, .int x2), (3, .int x3), (4, .int x4), (5, .int x5)]) hx hb dX7_chance_76 hl (by decide) rfl (fun ls hl => ?_)
            refine lv_iload hx hb dX7_chance_78 (lv_at hl 1 rfl) ?_
            refine lv_iload hx hb dX7_chance_80 (lv_at hl 0 rfl) ?_
            refine kS_i (As := [.int r_12, .int r_14]) (rest := []) C S hl.1 (o_X7_commonDivisor_c h) (cw_X7_chance_X7_commonDivisor C.1.2.2.2.2) rfl rfl (Nat.le_of_ble_eq_true rfl) dX7_chance_82 (fun r_16 g_15 H locs h S => ?_)
            refine lv_istore (lv' := [(8, .int r_16), (7, .int r_14), (6, .int r_12), (0, .ref (ad 0)), (1, .int x1), (2, .int x2), (3, .int x3), (4, .int x4), (5, .int x5)]) hx hb dX7_chance_85 hl (by decide) rfl (fun ls hl => ?_)
            refine lv_iload hx hb dX7_chance_87 (lv_at hl 8 rfl) ?_
            refine lv_if_ne (tgt := 97) hx hb dX7_chance_89 (by decide) (fun c1 => ?_) (fun c1 => ?_)
            · have h := h.1 c1
              refine lv_iload hx hb dX7_chance_97 (lv_at hl 1 rfl) ?_
              refine lv_iload hx hb dX7_chance_99 (lv_at hl 0 rfl) ?_
              obtain ⟨h0, h⟩ := h
              refine lv_idiv hx hb dX7_chance_101 h0 ?_
              exact kRi C S h dX7_chance_102
            · have h := h.2 c1
              refine lv_iload hx hb dX7_chance_92 (lv_at hl 2 rfl) ?_
              refine lv_goto (tgt := 99) hx hb dX7_chance_94 (by decide) ?_
              refine lv_iload hx hb dX7_chance_99 (lv_at hl 0 rfl) ?_
              obtain ⟨h0, h⟩ := h
              refine lv_idiv hx hb dX7_chance_101 h0 ?_
              exact kRi C S h dX7_chance_102
          · have h := h.2 c1
            refine kLdc C m_X7_chance_1 dX7_chance_49 ?_
            exact kRi C S h dX7_chance_51
      · have h := h.2 c1
        refine kLdc C m_X7_chance_1 dX7_chance_25 ?_
        exact kRi C S h dX7_chance_27
/-! ClawCase.noCase()Z, height 0 -/
theorem m_X7_noCase_1 : Cond.fieldLink RX7 25 "ClawCase" "now" "LClawCase$Box;" ∈ wsX7_noCase := List.mem_of_getElem? (i := 1) (by decide +kernel)
theorem n_X7_noCase_X7 : ∀ w ∈ wsX70, w ∈ wsX7_noCase := mem_by [3, 4, 5, 6, 7, 8, 9, 10, 11] (by decide +kernel)
theorem m_X7_noCase_2 : Cond.fieldLink RX7 137 "ClawCase$Box" "toys" "I" ∈ wsX7_noCase := List.mem_of_getElem? (i := 2) (by decide +kernel)
theorem n_X7_noCase_X3 : ∀ w ∈ wsX30, w ∈ wsX7_noCase := mem_by [12, 13, 14, 15, 16, 17, 18, 19, 20] (by decide +kernel)
def o_X7_noCase (Q : Int32 → Mm → Prop) (g : Mm) : Prop := ((¬ (g.1 9 4) = 0) → Q 0 g) ∧ (((g.1 9 4) = 0) → Q 1 g)
set_option maxHeartbeats 4000000 in
set_option maxRecDepth 100000 in
theorem o_X7_noCase_c {l : Launch} {dC : Nat → ClassId} {dI : Nat → Nat → Nat} {cy : Nat → ClassId} {ad tz : Nat → Nat} {Q : Int32 → Mm → Prop} {g : Mm} (h : o_X7_noCase Q g) : CI l dC dI cy ad tz yX7_noCase wsX7_noCase (rmD 0) [.ref (ad 0)] g Q := by
  refine CI.of (by decide) rfl rfl (Nat.le_of_ble_eq_true rfl) ?_
  intro p e s m args below meth c ls C hl S
  have hl : lv_has ls 1 [(0, .ref (ad 0))] := hl
  have hx := C.1.1
  have hb := C.1.2.1
  unfold o_X7_noCase at h
  refine lv_aload_n hx hb dX7_noCase_0 rfl (lv_at hl 0 rfl) ?_
  refine kg7 (k := 2) (v := .ref (ad 9)) C S rfl (by decide) n_X7_noCase_X7 m_X7_noCase_1 rfl dX7_noCase_1 ?_
  refine kg3 (k := 4) (v := .int (g.1 9 4)) C S rfl (by decide) n_X7_noCase_X3 m_X7_noCase_2 rfl dX7_noCase_4 ?_
  refine lv_if_ne (tgt := 14) hx hb dX7_noCase_7 (by decide) (fun c1 => ?_) (fun c1 => ?_)
  · have h := h.1 c1
    refine lv_iconst (v := 0) hx hb dX7_noCase_14 (by decide) ?_
    exact kRz C S rfl h dX7_noCase_15
  · have h := h.2 c1
    refine lv_iconst (v := 1) hx hb dX7_noCase_10 (by decide) ?_
    refine lv_goto (tgt := 15) hx hb dX7_noCase_11 (by decide) ?_
    exact kRz C S rfl h dX7_noCase_15
/-! ClawCase.column(II)I, height 2 -/
theorem m_X7_column_3 : Cond.fieldLink RX7 25 "ClawCase" "now" "LClawCase$Box;" ∈ wsX7_column := List.mem_of_getElem? (i := 3) (by decide +kernel)
theorem n_X7_column_X7 : ∀ w ∈ wsX70, w ∈ wsX7_column := mem_by [33, 34, 35, 36, 37, 38, 39, 40, 41] (by decide +kernel)
theorem cw_X7_column_X3_howMany {s : State} {args : Array Value} (ht : ∀ w ∈ wsX7_column, w.before args s = true) : CallW (rmD 2) s args RX7 RX3 176 yX3_howMany cX3_howMany 4 (some .int) wsX3_howMany (rmD (0)) 0 0 1 := cwV 1 ht gX7_column_X3_howMany rfl rfl rfl (by decide +kernel) ⟨Nat.le_of_ble_eq_true rfl, Nat.le_of_ble_eq_true rfl⟩
theorem cw_X7_column_X3_uppermost {s : State} {args : Array Value} (ht : ∀ w ∈ wsX7_column, w.before args s = true) : CallW (rmD 2) s args RX7 RX3 205 yX3_uppermost cX3_uppermost 4 (some .int) wsX3_uppermost (rmD (0)) 0 0 1 := cwV 1 ht gX7_column_X3_uppermost rfl rfl rfl (by decide +kernel) ⟨Nat.le_of_ble_eq_true rfl, Nat.le_of_ble_eq_true rfl⟩
theorem cw_X7_column_X3_toysAt {s : State} {args : Array Value} (ht : ∀ w ∈ wsX7_column, w.before args s = true) : CallW (rmD 2) s args RX7 RX3 208 yX3_toysAt cX3_toysAt 4 (some .int) wsX3_toysAt (rmD (0)) 0 0 1 := cwV 1 ht gX7_column_X3_toysAt rfl rfl rfl (by decide +kernel) ⟨Nat.le_of_ble_eq_true rfl, Nat.le_of_ble_eq_true rfl⟩
theorem m_X7_column_2 : Cond.constant RX7 70 (-1000001) ∈ wsX7_column := List.mem_of_getElem? (i := 2) (by decide +kernel)
theorem cw_X7_column_X7_isColumn {s : State} {args : Array Value} (ht : ∀ w ∈ wsX7_column, w.before args s = true) : CallB (rmD 2) s args RX7 144 yX7_isColumn cX7_isColumn 1 (some .boolean) wsX7_isColumn (rmD (1)) 0 0 1 ∧ (Cond.static yX7_isColumn).before args s = true := va_cwS 1 ht gX7_column_X7_isColumn rfl rfl rfl (by decide +kernel) ⟨Nat.le_of_ble_eq_true rfl, Nat.le_of_ble_eq_true rfl⟩
theorem m_X7_column_1 : Cond.constant RX7 143 (-1000002) ∈ wsX7_column := List.mem_of_getElem? (i := 1) (by decide +kernel)
theorem cw_X7_column_X7_noCase {s : State} {args : Array Value} (ht : ∀ w ∈ wsX7_column, w.before args s = true) : CallW (rmD 2) s args RX7 RX7 140 yX7_noCase cX7_noCase 1 (some .boolean) wsX7_noCase (rmD (0)) 0 0 0 := cwV 0 ht gX7_column_X7_noCase rfl rfl rfl (by decide +kernel) ⟨Nat.le_of_ble_eq_true rfl, Nat.le_of_ble_eq_true rfl⟩
def o_X7_column (Q : Int32 → Mm → Prop) (g : Mm) (x1 : Int32) (x2 : Int32) : Prop := o_X7_noCase (fun (r_2 : Int32) (g_1 : Mm) => ((r_2 = 0) → o_X7_isColumn (fun (r_4 : Int32) (g_3 : Mm) => ((¬ r_4 = 0) → (x2 = 0 → o_X3_howMany (fun (r_6 : Int32) (g_5 : Mm) => Q r_6 g_5) 9 g_3 x1) ∧ (x2 = 1 → o_X3_uppermost (fun (r_8 : Int32) (g_7 : Mm) => Q r_8 g_7) 9 g_3 x1) ∧ (x2 = 2 → o_X3_toysAt (fun (r_10 : Int32) (g_9 : Mm) => Q r_10 g_9) 9 g_3 x1) ∧ ((¬ x2 = 0 ∧ ¬ x2 = 1 ∧ ¬ x2 = 2) → Q (-1000001) g_3)) ∧ ((r_4 = 0) → Q (-1000001) g_3)) g_1 x1) ∧ ((¬ r_2 = 0) → Q (-1000002) g_1)) g
set_option maxHeartbeats 4000000 in
set_option maxRecDepth 100000 in
theorem o_X7_column_c {l : Launch} {dC : Nat → ClassId} {dI : Nat → Nat → Nat} {cy : Nat → ClassId} {ad tz : Nat → Nat} {Q : Int32 → Mm → Prop} {g : Mm} {x1 : Int32} {x2 : Int32} (h : o_X7_column Q g x1 x2) : CI l dC dI cy ad tz yX7_column wsX7_column (rmD 2) [.ref (ad 0), .int x1, .int x2] g Q := by
  refine CI.of (by decide) rfl rfl (Nat.le_of_ble_eq_true rfl) ?_
  intro p e s m args below meth c ls C hl S
  have hl : lv_has ls 3 [(0, .ref (ad 0)), (1, .int x1), (2, .int x2)] := hl
  have hx := C.1.1
  have hb := C.1.2.1
  unfold o_X7_column at h
  refine lv_aload_n hx hb dX7_column_0 rfl (lv_at hl 0 rfl) ?_
  refine kV_i (As := []) (rest := []) C S hl.1 (o_X7_noCase_c h) (wd_o7 rfl) rfl (cw_X7_column_X7_noCase C.1.2.2.2.2) rfl rfl (Nat.le_of_ble_eq_true rfl) dX7_column_1 (fun r_2 g_1 H locs h S => ?_)
  refine lv_if_eq (tgt := 10) hx hb dX7_column_4 (by decide) (fun c1 => ?_) (fun c1 => ?_)
  · have h := h.1 c1
    refine lv_iload_n hx hb dX7_column_10 rfl (lv_at hl 1 rfl) ?_
    refine kS_i (As := [.int x1]) (rest := []) C S hl.1 (o_X7_isColumn_c h) (cw_X7_column_X7_isColumn C.1.2.2.2.2) rfl rfl (Nat.le_of_ble_eq_true rfl) dX7_column_11 (fun r_4 g_3 H locs h S => ?_)
    refine lv_if_ne (tgt := 20) hx hb dX7_column_14 (by decide) (fun c1 => ?_) (fun c1 => ?_)
    · have h := h.1 c1
      refine lv_iload_n hx hb dX7_column_20 rfl (lv_at hl 2 rfl) ?_
      by_cases c0 : x2 = 0
      · have h := h.1 c0
        refine lv_tableIn (off := 27) (tgt := 48) hx hb dX7_column_21 (by rw [c0]; decide) (by rw [c0]; decide) (by rw [c0]; decide) (by decide) ?_
        refine lv_aload_n hx hb dX7_column_48 rfl (lv_at hl 0 rfl) ?_
        refine kg7 (k := 2) (v := .ref (ad 9)) C S rfl (by decide) n_X7_column_X7 m_X7_column_3 rfl dX7_column_49 ?_
        refine lv_iload_n hx hb dX7_column_52 rfl (lv_at hl 1 rfl) ?_
        refine kV_i (As := [.int x1]) (rest := []) C S hl.1 (o_X3_howMany_c rfl h) (wd_o3 rfl) rfl (cw_X7_column_X3_howMany C.1.2.2.2.2) rfl rfl (Nat.le_of_ble_eq_true rfl) dX7_column_53 (fun r_6 g_5 H locs h S => ?_)
        exact kRi C S h dX7_column_56
      by_cases c1 : x2 = 1
      · have h := h.2.1 c1
        refine lv_tableIn (off := 36) (tgt := 57) hx hb dX7_column_21 (by rw [c1]; decide) (by rw [c1]; decide) (by rw [c1]; decide) (by decide) ?_
        refine lv_aload_n hx hb dX7_column_57 rfl (lv_at hl 0 rfl) ?_
        refine kg7 (k := 2) (v := .ref (ad 9)) C S rfl (by decide) n_X7_column_X7 m_X7_column_3 rfl dX7_column_58 ?_
        refine lv_iload_n hx hb dX7_column_61 rfl (lv_at hl 1 rfl) ?_
        refine kV_i (As := [.int x1]) (rest := []) C S hl.1 (o_X3_uppermost_c rfl h) (wd_o3 rfl) rfl (cw_X7_column_X3_uppermost C.1.2.2.2.2) rfl rfl (Nat.le_of_ble_eq_true rfl) dX7_column_62 (fun r_8 g_7 H locs h S => ?_)
        exact kRi C S h dX7_column_65
      by_cases c2 : x2 = 2
      · have h := h.2.2.1 c2
        refine lv_tableIn (off := 45) (tgt := 66) hx hb dX7_column_21 (by rw [c2]; decide) (by rw [c2]; decide) (by rw [c2]; decide) (by decide) ?_
        refine lv_aload_n hx hb dX7_column_66 rfl (lv_at hl 0 rfl) ?_
        refine kg7 (k := 2) (v := .ref (ad 9)) C S rfl (by decide) n_X7_column_X7 m_X7_column_3 rfl dX7_column_67 ?_
        refine lv_iload_n hx hb dX7_column_70 rfl (lv_at hl 1 rfl) ?_
        refine kV_i (As := [.int x1]) (rest := []) C S hl.1 (o_X3_toysAt_c rfl h) (wd_o3 rfl) rfl (cw_X7_column_X3_toysAt C.1.2.2.2.2) rfl rfl (Nat.le_of_ble_eq_true rfl) dX7_column_71 (fun r_10 g_9 H locs h S => ?_)
        exact kRi C S h dX7_column_74
      have h := h.2.2.2 ⟨c0, c1, c2⟩
      refine lv_tableOut (tgt := 75) hx hb dX7_column_21 (tb_out 0 2 ?_) (by decide) ?_
      · intro k h1 h2
        rcases (show k = 0 ∨ k = 1 ∨ k = 2 by omega) with rfl | rfl | rfl
        · exact lk_ne c0 (by decide)
        · exact lk_ne c1 (by decide)
        · exact lk_ne c2 (by decide)
      refine kLdc C m_X7_column_2 dX7_column_75 ?_
      exact kRi C S h dX7_column_77
    · have h := h.2 c1
      refine kLdc C m_X7_column_2 dX7_column_17 ?_
      exact kRi C S h dX7_column_19
  · have h := h.2 c1
    refine kLdc C m_X7_column_1 dX7_column_7 ?_
    exact kRi C S h dX7_column_9
/-! ClawCase.isRow(I)Z, height 1 -/
theorem cw_X7_isRow_X7_within {s : State} {args : Array Value} (ht : ∀ w ∈ wsX7_isRow, w.before args s = true) : CallB (rmD 1) s args RX7 66 yX7_within cX7_within 3 (some .boolean) wsX7_within (rmD (0)) 0 0 3 ∧ (Cond.static yX7_within).before args s = true := va_cwS 3 ht gX7_isRow_X7_within rfl rfl rfl (by decide +kernel) ⟨Nat.le_of_ble_eq_true rfl, Nat.le_of_ble_eq_true rfl⟩
def o_X7_isRow (Q : Int32 → Mm → Prop) (g : Mm) (x0 : Int32) : Prop := o_X7_within (fun (r_2 : Int32) (g_1 : Mm) => narrow .boolean (.int r_2) = .int r_2 ∧ (Q r_2 g_1)) g x0 0 7
set_option maxHeartbeats 4000000 in
set_option maxRecDepth 100000 in
theorem o_X7_isRow_c {l : Launch} {dC : Nat → ClassId} {dI : Nat → Nat → Nat} {cy : Nat → ClassId} {ad tz : Nat → Nat} {Q : Int32 → Mm → Prop} {g : Mm} {x0 : Int32} (h : o_X7_isRow Q g x0) : CI l dC dI cy ad tz yX7_isRow wsX7_isRow (rmD 1) [.int x0] g Q := by
  refine CI.of (by decide) rfl rfl (Nat.le_of_ble_eq_true rfl) ?_
  intro p e s m args below meth c ls C hl S
  have hl : lv_has ls 1 [(0, .int x0)] := hl
  have hx := C.1.1
  have hb := C.1.2.1
  unfold o_X7_isRow at h
  refine lv_iload_n hx hb dX7_isRow_0 rfl (lv_at hl 0 rfl) ?_
  refine lv_iconst (v := 0) hx hb dX7_isRow_1 (by decide) ?_
  refine lv_bipush (v := 7) hx hb dX7_isRow_2 (by decide) ?_
  refine kS_i (As := [.int x0, .int 0, .int 7]) (rest := []) C S hl.1 (o_X7_within_c h) (cw_X7_isRow_X7_within C.1.2.2.2.2) rfl rfl (Nat.le_of_ble_eq_true rfl) dX7_isRow_4 (fun r_2 g_1 H locs h S => ?_)
  obtain ⟨hz, h⟩ := h
  exact kRz C S hz h dX7_isRow_7
/-! ClawCase.copy(IIIII)I, height 2 -/
theorem m_X7_copy_1 : Cond.constant RX7 70 (-1000001) ∈ wsX7_copy := List.mem_of_getElem? (i := 1) (by decide +kernel)
theorem m_X7_copy_2 : Cond.fieldLink RX7 11 "ClawCase" "rows" "[LClawCase$Row;" ∈ wsX7_copy := List.mem_of_getElem? (i := 2) (by decide +kernel)
theorem n_X7_copy_X7 : ∀ w ∈ wsX70, w ∈ wsX7_copy := mem_by [33, 34, 35, 36, 37, 38, 39, 40, 41] (by decide +kernel)
theorem m_X7_copy_3 : Cond.fieldLink RX7 82 "ClawCase$Row" "missing" "Z" ∈ wsX7_copy := List.mem_of_getElem? (i := 3) (by decide +kernel)
theorem n_X7_copy_X6 : ∀ w ∈ wsX60, w ∈ wsX7_copy := mem_by [42, 43, 44, 45] (by decide +kernel)
theorem cw_X7_copy_X7_found {s : State} {args : Array Value} (ht : ∀ w ∈ wsX7_copy, w.before args s = true) : CallW (rmD 2) s args RX7 RX7 71 yX7_found cX7_found 2 (some .int) wsX7_found (rmD (0)) 0 0 1 := cwV 1 ht gX7_copy_X7_found rfl rfl rfl (by decide +kernel) ⟨Nat.le_of_ble_eq_true rfl, Nat.le_of_ble_eq_true rfl⟩
theorem m_X7_copy_4 : Cond.fieldLink RX7 97 "ClawCase$Row" "lane" "I" ∈ wsX7_copy := List.mem_of_getElem? (i := 4) (by decide +kernel)
theorem m_X7_copy_5 : Cond.fieldLink RX7 90 "ClawCase$Row" "items" "[I" ∈ wsX7_copy := List.mem_of_getElem? (i := 5) (by decide +kernel)
theorem m_X7_copy_6 : Cond.methodLink RX7 100 arraycopyName ∈ wsX7_copy := List.mem_of_getElem? (i := 6) (by decide +kernel)
theorem m_X7_copy_8 : Cond.static arraycopyName ∈ wsX7_copy := List.mem_of_getElem? (i := 8) (by decide +kernel)
theorem m_X7_copy_9 : Cond.initialized "java/lang/System" ∈ wsX7_copy := List.mem_of_getElem? (i := 9) (by decide +kernel)
theorem m_X7_copy_7 : Cond.native arraycopyName ∈ wsX7_copy := List.mem_of_getElem? (i := 7) (by decide +kernel)
theorem cw_X7_copy_X7_fine {s : State} {args : Array Value} (ht : ∀ w ∈ wsX7_copy, w.before args s = true) : CallW (rmD 2) s args RX7 RX7 79 yX7_fine cX7_fine 2 (some .int) wsX7_fine (rmD (0)) 0 0 1 := cwV 1 ht gX7_copy_X7_fine rfl rfl rfl (by decide +kernel) ⟨Nat.le_of_ble_eq_true rfl, Nat.le_of_ble_eq_true rfl⟩
theorem cw_X7_copy_X6_spans {s : State} {args : Array Value} (ht : ∀ w ∈ wsX7_copy, w.before args s = true) : CallW (rmD 2) s args RX7 RX6 86 yX6_spans cX6_spans 3 (some .boolean) wsX6_spans (rmD (1)) 0 0 2 := cwV 2 ht gX7_copy_X6_spans rfl rfl rfl (by decide +kernel) ⟨Nat.le_of_ble_eq_true rfl, Nat.le_of_ble_eq_true rfl⟩
theorem cw_X7_copy_X7_isRow {s : State} {args : Array Value} (ht : ∀ w ∈ wsX7_copy, w.before args s = true) : CallB (rmD 2) s args RX7 62 yX7_isRow cX7_isRow 1 (some .boolean) wsX7_isRow (rmD (1)) 0 0 1 ∧ (Cond.static yX7_isRow).before args s = true := va_cwS 1 ht gX7_copy_X7_isRow rfl rfl rfl (by decide +kernel) ⟨Nat.le_of_ble_eq_true rfl, Nat.le_of_ble_eq_true rfl⟩
def o_X7_copy_49 (Q : Int32 → Mm → Prop) (g : Mm) : Prop := o_X7_found (fun (r_8 : Int32) (g_7 : Mm) => Q r_8 g_7) g 1
def o_X7_copy_97 (Q : Int32 → Mm → Prop) (g : Mm) : Prop := o_X7_found (fun (r_12 : Int32) (g_11 : Mm) => Q r_12 g_11) g 2
set_option maxHeartbeats 4000000 in
set_option maxRecDepth 100000 in
theorem o_X7_copy_49_w {p : Program} {l : Launch} {e : Env} {s : State} {m : MethodId} {args : Array Value} {below : List Frame} {meth : Method} {c : Code} {dC : Nat → ClassId} {dI : Nat → Nat → Nat} {cy : Nat → ClassId} {ad tz : Nat → Nat} {Q : Int32 → Mm → Prop} (C : CX p s m args meth c dC dI cy ad tz cX7_copy 8 (some .int) RX7 wsX7_copy) : ∀ (g : Mm) (H : Heap) (locs : List Loc) (ls : Array Slot), St dC dI cy ad s g H locs → lv_has ls 8 [(0, .ref (ad 0))] → o_X7_copy_49 Q g → W p l e (rmD 2) s m args below meth c H locs 0 0 (QI dC dI cy ad below args s Q) (F0 m 49 ls []) := by
  have hx := C.1.1
  have hb := C.1.2.1
  intro g H locs ls S hl h
  unfold o_X7_copy_49 at h
  refine lv_aload_n hx hb dX7_copy_49 rfl (lv_at hl 0 rfl) ?_
  refine lv_iconst (v := 1) hx hb dX7_copy_50 (by decide) ?_
  refine kV_i (As := [.int 1]) (rest := []) C S hl.1 (o_X7_found_c h) (wd_o7 rfl) rfl (cw_X7_copy_X7_found C.1.2.2.2.2) rfl rfl (Nat.le_of_ble_eq_true rfl) dX7_copy_51 (fun r_8 g_7 H locs h S => ?_)
  exact kRi C S h dX7_copy_54
set_option maxHeartbeats 4000000 in
set_option maxRecDepth 100000 in
theorem o_X7_copy_97_w {p : Program} {l : Launch} {e : Env} {s : State} {m : MethodId} {args : Array Value} {below : List Frame} {meth : Method} {c : Code} {dC : Nat → ClassId} {dI : Nat → Nat → Nat} {cy : Nat → ClassId} {ad tz : Nat → Nat} {Q : Int32 → Mm → Prop} (C : CX p s m args meth c dC dI cy ad tz cX7_copy 8 (some .int) RX7 wsX7_copy) : ∀ (g : Mm) (H : Heap) (locs : List Loc) (ls : Array Slot), St dC dI cy ad s g H locs → lv_has ls 8 [(0, .ref (ad 0))] → o_X7_copy_97 Q g → W p l e (rmD 2) s m args below meth c H locs 0 0 (QI dC dI cy ad below args s Q) (F0 m 97 ls []) := by
  have hx := C.1.1
  have hb := C.1.2.1
  intro g H locs ls S hl h
  unfold o_X7_copy_97 at h
  refine lv_aload_n hx hb dX7_copy_97 rfl (lv_at hl 0 rfl) ?_
  refine lv_iconst (v := 2) hx hb dX7_copy_98 (by decide) ?_
  refine kV_i (As := [.int 2]) (rest := []) C S hl.1 (o_X7_found_c h) (wd_o7 rfl) rfl (cw_X7_copy_X7_found C.1.2.2.2.2) rfl rfl (Nat.le_of_ble_eq_true rfl) dX7_copy_99 (fun r_12 g_11 H locs h S => ?_)
  exact kRi C S h dX7_copy_102
def o_X7_copy (Q : Int32 → Mm → Prop) (g : Mm) (x1 : Int32) (x2 : Int32) (x3 : Int32) (x4 : Int32) (x5 : Int32) : Prop := o_X7_isRow (fun (r_2 : Int32) (g_1 : Mm) => ((r_2 = 0) → Q (-1000001) g_1) ∧ ((¬ r_2 = 0) → o_X7_isRow (fun (r_4 : Int32) (g_3 : Mm) => ((¬ r_4 = 0) → vp_in x1 8 ∧ (vp_in x3 8 ∧ (((¬ (g_3.1 (60 + 2 * x1.toNatClampNeg) 1) = 0) → o_X7_copy_49 Q g_3) ∧ (((g_3.1 (60 + 2 * x1.toNatClampNeg) 1) = 0) → (((g_3.1 (60 + 2 * x3.toNatClampNeg) 1) = 0) → (((g_3.1 (60 + 2 * x1.toNatClampNeg) 2) = (g_3.1 (60 + 2 * x3.toNatClampNeg) 2)) → o_X6_spans (fun (r_10 : Int32) (g_9 : Mm) => ((r_10 = 0) → o_X7_copy_97 Q g_9) ∧ ((¬ r_10 = 0) → o_X6_spans (fun (r_14 : Int32) (g_13 : Mm) => ((¬ r_14 = 0) → ((¬ (x2 : Int32) < 0 ∧ ¬ (x4 : Int32) < 0 ∧ ¬ (x5 : Int32) < 0) ∧ (x2 : Int32).toNatClampNeg + (x5 : Int32).toNatClampNeg ≤ 40 ∧ (x4 : Int32).toNatClampNeg + (x5 : Int32).toNatClampNeg ≤ 40) ∧ (∀ g_15 : Mm, g_15 = mcpy g_13 ((60 + 2 * x1.toNatClampNeg) + 1) (x2 : Int32).toNatClampNeg ((60 + 2 * x3.toNatClampNeg) + 1) (x4 : Int32).toNatClampNeg (x5 : Int32).toNatClampNeg → (o_X7_fine (fun (r_17 : Int32) (g_16 : Mm) => Q r_17 g_16) g_15 x5))) ∧ ((r_14 = 0) → o_X7_copy_97 Q g_13)) (60 + 2 * x3.toNatClampNeg) g_9 x4 x5)) (60 + 2 * x1.toNatClampNeg) g_3 x2 x5) ∧ ((¬ (g_3.1 (60 + 2 * x1.toNatClampNeg) 2) = (g_3.1 (60 + 2 * x3.toNatClampNeg) 2)) → o_X7_found (fun (r_19 : Int32) (g_18 : Mm) => Q r_19 g_18) g_3 5)) ∧ ((¬ (g_3.1 (60 + 2 * x3.toNatClampNeg) 1) = 0) → o_X7_copy_49 Q g_3))))) ∧ ((r_4 = 0) → Q (-1000001) g_3)) g_1 x3)) g x1
set_option maxHeartbeats 4000000 in
set_option maxRecDepth 100000 in
theorem o_X7_copy_c {l : Launch} {dC : Nat → ClassId} {dI : Nat → Nat → Nat} {cy : Nat → ClassId} {ad tz : Nat → Nat} {Q : Int32 → Mm → Prop} {g : Mm} {x1 : Int32} {x2 : Int32} {x3 : Int32} {x4 : Int32} {x5 : Int32} (h : o_X7_copy Q g x1 x2 x3 x4 x5) : CI l dC dI cy ad tz yX7_copy wsX7_copy (rmD 2) [.ref (ad 0), .int x1, .int x2, .int x3, .int x4, .int x5] g Q := by
  refine CI.of (by decide) rfl rfl (Nat.le_of_ble_eq_true rfl) ?_
  intro p e s m args below meth c ls C hl S
  have hl : lv_has ls 8 [(0, .ref (ad 0)), (1, .int x1), (2, .int x2), (3, .int x3), (4, .int x4), (5, .int x5)] := hl
  have hx := C.1.1
  have hb := C.1.2.1
  unfold o_X7_copy at h
  refine lv_iload_n hx hb dX7_copy_0 rfl (lv_at hl 1 rfl) ?_
  refine kS_i (As := [.int x1]) (rest := []) C S hl.1 (o_X7_isRow_c h) (cw_X7_copy_X7_isRow C.1.2.2.2.2) rfl rfl (Nat.le_of_ble_eq_true rfl) dX7_copy_1 (fun r_2 g_1 H locs h S => ?_)
  refine lv_if_eq (tgt := 14) hx hb dX7_copy_4 (by decide) (fun c1 => ?_) (fun c1 => ?_)
  · have h := h.1 c1
    refine kLdc C m_X7_copy_1 dX7_copy_14 ?_
    exact kRi C S h dX7_copy_16
  · have h := h.2 c1
    refine lv_iload_n hx hb dX7_copy_7 rfl (lv_at hl 3 rfl) ?_
    refine kS_i (As := [.int x3]) (rest := []) C S hl.1 (o_X7_isRow_c h) (cw_X7_copy_X7_isRow C.1.2.2.2.2) rfl rfl (Nat.le_of_ble_eq_true rfl) dX7_copy_8 (fun r_4 g_3 H locs h S => ?_)
    refine lv_if_ne (tgt := 17) hx hb dX7_copy_11 (by decide) (fun c1 => ?_) (fun c1 => ?_)
    · have h := h.1 c1
      refine lv_aload_n hx hb dX7_copy_17 rfl (lv_at hl 0 rfl) ?_
      refine kg7 (k := 0) (v := .ref (ad 1)) C S rfl (by decide) n_X7_copy_X7 m_X7_copy_2 rfl dX7_copy_18 ?_
      refine lv_iload_n hx hb dX7_copy_21 rfl (lv_at hl 1 rfl) ?_
      obtain ⟨hi_5, h⟩ := h
      refine kAr C S rfl rfl hi_5 dX7_copy_22 ?_
      refine lv_astore (lv' := [(6, .ref (ad (60 + 2 * x1.toNatClampNeg))), (0, .ref (ad 0)), (1, .int x1), (2, .int x2), (3, .int x3), (4, .int x4), (5, .int x5)]) hx hb dX7_copy_23 hl (by decide) rfl (fun ls hl => ?_)
      refine lv_aload_n hx hb dX7_copy_25 rfl (lv_at hl 1 rfl) ?_
      refine kg7 (k := 0) (v := .ref (ad 1)) C S rfl (by decide) n_X7_copy_X7 m_X7_copy_2 rfl dX7_copy_26 ?_
      refine lv_iload_n hx hb dX7_copy_29 rfl (lv_at hl 4 rfl) ?_
      obtain ⟨hi_6, h⟩ := h
      refine kAr C S rfl rfl hi_6 dX7_copy_30 ?_
      refine lv_astore (lv' := [(7, .ref (ad (60 + 2 * x3.toNatClampNeg))), (6, .ref (ad (60 + 2 * x1.toNatClampNeg))), (0, .ref (ad 0)), (1, .int x1), (2, .int x2), (3, .int x3), (4, .int x4), (5, .int x5)]) hx hb dX7_copy_31 hl (by decide) rfl (fun ls hl => ?_)
      refine lv_aload hx hb dX7_copy_33 (lv_at hl 1 rfl) ?_
      refine kg6 (k := 1) (v := .int (g_3.1 (60 + 2 * x1.toNatClampNeg) 1)) C S (ly_rows _ (in_lt hi_5)) (by decide) n_X7_copy_X6 m_X7_copy_3 rfl dX7_copy_35 ?_
      refine lv_if_ne (tgt := 49) hx hb dX7_copy_38 (by decide) (fun c1 => ?_) (fun c1 => ?_)
      · have h := h.1 c1
        exact o_X7_copy_49_w C g_3 _ _ _ S (lv_sub hl [2] rfl) h
      · have h := h.2 c1
        refine lv_aload hx hb dX7_copy_41 (lv_at hl 0 rfl) ?_
        refine kg6 (k := 1) (v := .int (g_3.1 (60 + 2 * x3.toNatClampNeg) 1)) C S (ly_rows _ (in_lt hi_6)) (by decide) n_X7_copy_X6 m_X7_copy_3 rfl dX7_copy_43 ?_
        refine lv_if_eq (tgt := 55) hx hb dX7_copy_46 (by decide) (fun c1 => ?_) (fun c1 => ?_)
        · have h := h.1 c1
          refine lv_aload hx hb dX7_copy_55 (lv_at hl 1 rfl) ?_
          refine kg6 (k := 2) (v := .int (g_3.1 (60 + 2 * x1.toNatClampNeg) 2)) C S (ly_rows _ (in_lt hi_5)) (by decide) n_X7_copy_X6 m_X7_copy_4 rfl dX7_copy_57 ?_
          refine lv_aload hx hb dX7_copy_60 (lv_at hl 0 rfl) ?_
          refine kg6 (k := 2) (v := .int (g_3.1 (60 + 2 * x3.toNatClampNeg) 2)) C S (ly_rows _ (in_lt hi_6)) (by decide) n_X7_copy_X6 m_X7_copy_4 rfl dX7_copy_62 ?_
          refine lv_icmp_eq (tgt := 74) hx hb dX7_copy_65 (by decide) (fun c1 => ?_) (fun c1 => ?_)
          · have h := h.1 c1
            refine lv_aload hx hb dX7_copy_74 (lv_at hl 1 rfl) ?_
            refine lv_iload_n hx hb dX7_copy_76 rfl (lv_at hl 4 rfl) ?_
            refine lv_iload hx hb dX7_copy_77 (lv_at hl 7 rfl) ?_
            refine kV_i (As := [.int x2, .int x5]) (rest := []) C S hl.1 (o_X6_spans_c (ly_rows _ (in_lt hi_5)) h) (wd_o6 (ly_rows _ (in_lt hi_5))) rfl (cw_X7_copy_X6_spans C.1.2.2.2.2) rfl rfl (Nat.le_of_ble_eq_true rfl) dX7_copy_79 (fun r_10 g_9 H locs h S => ?_)
            refine lv_if_eq (tgt := 97) hx hb dX7_copy_82 (by decide) (fun c1 => ?_) (fun c1 => ?_)
            · have h := h.1 c1
              exact o_X7_copy_97_w C g_9 _ _ _ S (lv_sub hl [2] rfl) h
            · have h := h.2 c1
              refine lv_aload hx hb dX7_copy_85 (lv_at hl 0 rfl) ?_
              refine lv_iload hx hb dX7_copy_87 (lv_at hl 6 rfl) ?_
              refine lv_iload hx hb dX7_copy_89 (lv_at hl 7 rfl) ?_
              refine kV_i (As := [.int x4, .int x5]) (rest := []) C S hl.1 (o_X6_spans_c (ly_rows _ (in_lt hi_6)) h) (wd_o6 (ly_rows _ (in_lt hi_6))) rfl (cw_X7_copy_X6_spans C.1.2.2.2.2) rfl rfl (Nat.le_of_ble_eq_true rfl) dX7_copy_91 (fun r_14 g_13 H locs h S => ?_)
              refine lv_if_ne (tgt := 103) hx hb dX7_copy_94 (by decide) (fun c1 => ?_) (fun c1 => ?_)
              · have h := h.1 c1
                refine lv_aload hx hb dX7_copy_103 (lv_at hl 1 rfl) ?_
                refine kg6 (k := 0) (v := .ref (ad ((60 + 2 * x1.toNatClampNeg) + 1))) C S (ly_rows _ (in_lt hi_5)) (by decide) n_X7_copy_X6 m_X7_copy_5 rfl dX7_copy_105 ?_
                refine lv_iload_n hx hb dX7_copy_108 rfl (lv_at hl 4 rfl) ?_
                refine lv_aload hx hb dX7_copy_109 (lv_at hl 0 rfl) ?_
                refine kg6 (k := 0) (v := .ref (ad ((60 + 2 * x3.toNatClampNeg) + 1))) C S (ly_rows _ (in_lt hi_6)) (by decide) n_X7_copy_X6 m_X7_copy_5 rfl dX7_copy_111 ?_
                refine lv_iload hx hb dX7_copy_114 (lv_at hl 6 rfl) ?_
                refine lv_iload hx hb dX7_copy_116 (lv_at hl 7 rfl) ?_
                obtain ⟨hi, h⟩ := h
                refine kCpy C S hl.1 ((lyR (ly_rows _ (in_lt hi_5))).1) ((lyR (ly_rows _ (in_lt hi_5))).2) ((lyR (ly_rows _ (in_lt hi_6))).1) ((lyR (ly_rows _ (in_lt hi_6))).2) hi m_X7_copy_6 m_X7_copy_7 m_X7_copy_8 m_X7_copy_9 (Nat.le_of_ble_eq_true rfl) (Nat.le_of_ble_eq_true rfl) dX7_copy_118 (fun g_15 H locs eg_15 S => ?_)
                have h := h g_15 eg_15
                refine lv_aload_n hx hb dX7_copy_121 rfl (lv_at hl 2 rfl) ?_
                refine lv_iload hx hb dX7_copy_122 (lv_at hl 7 rfl) ?_
                refine kV_i (As := [.int x5]) (rest := []) C S hl.1 (o_X7_fine_c h) (wd_o7 rfl) rfl (cw_X7_copy_X7_fine C.1.2.2.2.2) rfl rfl (Nat.le_of_ble_eq_true rfl) dX7_copy_124 (fun r_17 g_16 H locs h S => ?_)
                exact kRi C S h dX7_copy_127
              · have h := h.2 c1
                exact o_X7_copy_97_w C g_13 _ _ _ S (lv_sub hl [2] rfl) h
          · have h := h.2 c1
            refine lv_aload_n hx hb dX7_copy_68 rfl (lv_at hl 2 rfl) ?_
            refine lv_iconst (v := 5) hx hb dX7_copy_69 (by decide) ?_
            refine kV_i (As := [.int 5]) (rest := []) C S hl.1 (o_X7_found_c h) (wd_o7 rfl) rfl (cw_X7_copy_X7_found C.1.2.2.2.2) rfl rfl (Nat.le_of_ble_eq_true rfl) dX7_copy_70 (fun r_19 g_18 H locs h S => ?_)
            exact kRi C S h dX7_copy_73
        · have h := h.2 c1
          exact o_X7_copy_49_w C g_3 _ _ _ S (lv_sub hl [2] rfl) h
    · have h := h.2 c1
      refine kLdc C m_X7_copy_1 dX7_copy_14 ?_
      exact kRi C S h dX7_copy_16
/-! ClawCase.rowsThere()I, height 0 -/
theorem m_X7_rowsThere_1 : Cond.fieldLink RX7 11 "ClawCase" "rows" "[LClawCase$Row;" ∈ wsX7_rowsThere := List.mem_of_getElem? (i := 1) (by decide +kernel)
theorem n_X7_rowsThere_X7 : ∀ w ∈ wsX70, w ∈ wsX7_rowsThere := mem_by [3, 4, 5, 6, 7, 8, 9, 10, 11] (by decide +kernel)
theorem m_X7_rowsThere_2 : Cond.fieldLink RX7 82 "ClawCase$Row" "missing" "Z" ∈ wsX7_rowsThere := List.mem_of_getElem? (i := 2) (by decide +kernel)
theorem n_X7_rowsThere_X6 : ∀ w ∈ wsX60, w ∈ wsX7_rowsThere := mem_by [12, 13, 14, 15] (by decide +kernel)
def o_X7_rowsThere_25 (Q : Int32 → Mm → Prop) (K4 : Mm → Int32 → Int32 → Prop) (g : Mm) (x1 : Int32) (x2 : Int32) : Prop := ∀ x_2 : Int32, x_2 = x2 + 1 → (K4 g x1 x_2)
def o_X7_rowsThere_4 (Q : Int32 → Mm → Prop) : Nat → Mm → Int32 → Int32 → Prop
  | 0, _, _, _ => False
  | n4 + 1, g, x1, x2 => ((8 ≤ x2) → Q x1 g) ∧ ((¬ 8 ≤ x2) → vp_in x2 8 ∧ (((¬ (g.1 (60 + 2 * x2.toNatClampNeg) 1) = 0) → o_X7_rowsThere_25 Q (o_X7_rowsThere_4 Q n4) g x1 x2) ∧ (((g.1 (60 + 2 * x2.toNatClampNeg) 1) = 0) → ∀ x_3 : Int32, x_3 = x1 + 1 → (o_X7_rowsThere_25 Q (o_X7_rowsThere_4 Q n4) g x_3 x2))))
set_option maxHeartbeats 4000000 in
set_option maxRecDepth 100000 in
theorem o_X7_rowsThere_25_w {p : Program} {l : Launch} {e : Env} {s : State} {m : MethodId} {args : Array Value} {below : List Frame} {meth : Method} {c : Code} {dC : Nat → ClassId} {dI : Nat → Nat → Nat} {cy : Nat → ClassId} {ad tz : Nat → Nat} {Q : Int32 → Mm → Prop} {K4 : Mm → Int32 → Int32 → Prop} (C : CX p s m args meth c dC dI cy ad tz cX7_rowsThere 3 (some .int) RX7 wsX7_rowsThere) (hK4 : ∀ (g : Mm) (x1 : Int32) (x2 : Int32) (H : Heap) (locs : List Loc) (ls : Array Slot), St dC dI cy ad s g H locs → lv_has ls 3 [(0, .ref (ad 0)), (1, .int x1), (2, .int x2)] → K4 g x1 x2 → W p l e (rmD 0) s m args below meth c H locs 0 0 (QI dC dI cy ad below args s Q) (F0 m 4 ls [])) : ∀ (g : Mm) (x1 : Int32) (x2 : Int32) (H : Heap) (locs : List Loc) (ls : Array Slot), St dC dI cy ad s g H locs → lv_has ls 3 [(0, .ref (ad 0)), (1, .int x1), (2, .int x2)] → o_X7_rowsThere_25 Q K4 g x1 x2 → W p l e (rmD 0) s m args below meth c H locs 0 0 (QI dC dI cy ad below args s Q) (F0 m 25 ls []) := by
  have hx := C.1.1
  have hb := C.1.2.1
  intro g x1 x2 H locs ls S hl h
  unfold o_X7_rowsThere_25 at h
  obtain ⟨x_2, ex_2⟩ : ∃ y : Int32, y = x2 + 1 := ⟨_, rfl⟩
  have h := h x_2 ex_2
  refine lv_iinc (v := x_2) (lv' := [(2, .int x_2), (0, .ref (ad 0)), (1, .int x1)]) hx hb dX7_rowsThere_25 hl (k := 2) rfl (by rw [ex_2]; rfl) (by decide) rfl (fun ls hl => ?_)
  refine lv_goto (tgt := 4) hx hb dX7_rowsThere_28 (by decide) ?_
  exact hK4 g x1 x_2 _ _ _ S (lv_sub hl [1, 2, 0] rfl) h
set_option maxHeartbeats 4000000 in
set_option maxRecDepth 100000 in
theorem o_X7_rowsThere_4_w {p : Program} {l : Launch} {e : Env} {s : State} {m : MethodId} {args : Array Value} {below : List Frame} {meth : Method} {c : Code} {dC : Nat → ClassId} {dI : Nat → Nat → Nat} {cy : Nat → ClassId} {ad tz : Nat → Nat} {Q : Int32 → Mm → Prop} (C : CX p s m args meth c dC dI cy ad tz cX7_rowsThere 3 (some .int) RX7 wsX7_rowsThere) : ∀ (n : Nat) (g : Mm) (x1 : Int32) (x2 : Int32) (H : Heap) (locs : List Loc) (ls : Array Slot), St dC dI cy ad s g H locs → lv_has ls 3 [(0, .ref (ad 0)), (1, .int x1), (2, .int x2)] → o_X7_rowsThere_4 Q n g x1 x2 → W p l e (rmD 0) s m args below meth c H locs 0 0 (QI dC dI cy ad below args s Q) (F0 m 4 ls []) := by
  have hx := C.1.1
  have hb := C.1.2.1
  intro n4
  induction n4 with
  | zero => intro g x1 x2 H locs ls S hl h; exact h.elim
  | succ n4 ih =>
    intro g x1 x2 H locs ls S hl h
    have h : ((8 ≤ x2) → Q x1 g) ∧ ((¬ 8 ≤ x2) → vp_in x2 8 ∧ (((¬ (g.1 (60 + 2 * x2.toNatClampNeg) 1) = 0) → o_X7_rowsThere_25 Q (o_X7_rowsThere_4 Q n4) g x1 x2) ∧ (((g.1 (60 + 2 * x2.toNatClampNeg) 1) = 0) → ∀ x_3 : Int32, x_3 = x1 + 1 → (o_X7_rowsThere_25 Q (o_X7_rowsThere_4 Q n4) g x_3 x2)))) := h
    refine lv_iload_n hx hb dX7_rowsThere_4 rfl (lv_at hl 2 rfl) ?_
    refine lv_bipush (v := 8) hx hb dX7_rowsThere_5 (by decide) ?_
    refine lv_icmp_ge (tgt := 31) hx hb dX7_rowsThere_7 (by decide) (fun c1 => ?_) (fun c1 => ?_)
    · have h := h.1 c1
      refine lv_iload_n hx hb dX7_rowsThere_31 rfl (lv_at hl 1 rfl) ?_
      exact kRi C S h dX7_rowsThere_32
    · have h := h.2 c1
      refine lv_aload_n hx hb dX7_rowsThere_10 rfl (lv_at hl 0 rfl) ?_
      refine kg7 (k := 0) (v := .ref (ad 1)) C S rfl (by decide) n_X7_rowsThere_X7 m_X7_rowsThere_1 rfl dX7_rowsThere_11 ?_
      refine lv_iload_n hx hb dX7_rowsThere_14 rfl (lv_at hl 2 rfl) ?_
      obtain ⟨hi_1, h⟩ := h
      refine kAr C S rfl rfl hi_1 dX7_rowsThere_15 ?_
      refine kg6 (k := 1) (v := .int (g.1 (60 + 2 * x2.toNatClampNeg) 1)) C S (ly_rows _ (in_lt hi_1)) (by decide) n_X7_rowsThere_X6 m_X7_rowsThere_2 rfl dX7_rowsThere_16 ?_
      refine lv_if_ne (tgt := 25) hx hb dX7_rowsThere_19 (by decide) (fun c1 => ?_) (fun c1 => ?_)
      · have h := h.1 c1
        exact o_X7_rowsThere_25_w C ih g x1 x2 _ _ _ S (lv_sub hl [0, 1, 2] rfl) h
      · have h := h.2 c1
        obtain ⟨x_3, ex_3⟩ : ∃ y : Int32, y = x1 + 1 := ⟨_, rfl⟩
        have h := h x_3 ex_3
        refine lv_iinc (v := x_3) (lv' := [(1, .int x_3), (0, .ref (ad 0)), (2, .int x2)]) hx hb dX7_rowsThere_22 hl (k := 1) rfl (by rw [ex_3]; rfl) (by decide) rfl (fun ls hl => ?_)
        exact o_X7_rowsThere_25_w C ih g x_3 x2 _ _ _ S (lv_sub hl [1, 0, 2] rfl) h
def o_X7_rowsThere (Q : Int32 → Mm → Prop) (g : Mm) : Prop := ∃ n4, o_X7_rowsThere_4 Q n4 g 0 0
set_option maxHeartbeats 4000000 in
set_option maxRecDepth 100000 in
theorem o_X7_rowsThere_c {l : Launch} {dC : Nat → ClassId} {dI : Nat → Nat → Nat} {cy : Nat → ClassId} {ad tz : Nat → Nat} {Q : Int32 → Mm → Prop} {g : Mm} (h : o_X7_rowsThere Q g) : CI l dC dI cy ad tz yX7_rowsThere wsX7_rowsThere (rmD 0) [.ref (ad 0)] g Q := by
  refine CI.of (by decide) rfl rfl (Nat.le_of_ble_eq_true rfl) ?_
  intro p e s m args below meth c ls C hl S
  have hl : lv_has ls 3 [(0, .ref (ad 0))] := hl
  have hx := C.1.1
  have hb := C.1.2.1
  unfold o_X7_rowsThere at h
  refine lv_iconst (v := 0) hx hb dX7_rowsThere_0 (by decide) ?_
  refine lv_istore_n (lv' := [(1, .int 0), (0, .ref (ad 0))]) hx hb dX7_rowsThere_1 rfl hl (by decide) rfl (fun ls hl => ?_)
  refine lv_iconst (v := 0) hx hb dX7_rowsThere_2 (by decide) ?_
  refine lv_istore_n (lv' := [(2, .int 0), (1, .int 0), (0, .ref (ad 0))]) hx hb dX7_rowsThere_3 rfl hl (by decide) rfl (fun ls hl => ?_)
  obtain ⟨n4, h⟩ := h
  refine o_X7_rowsThere_4_w C n4 g 0 0 _ _ _ S (lv_sub hl [2, 1, 0] rfl) h
/-! ClawCase.count(I)I, height 1 -/
theorem cw_X7_count_X7_rowsThere {s : State} {args : Array Value} (ht : ∀ w ∈ wsX7_count, w.before args s = true) : CallW (rmD 1) s args RX7 RX7 278 yX7_rowsThere cX7_rowsThere 3 (some .int) wsX7_rowsThere (rmD (0)) 0 0 0 := cwV 0 ht gX7_count_X7_rowsThere rfl rfl rfl (by decide +kernel) ⟨Nat.le_of_ble_eq_true rfl, Nat.le_of_ble_eq_true rfl⟩
theorem m_X7_count_1 : Cond.fieldLink RX7 25 "ClawCase" "now" "LClawCase$Box;" ∈ wsX7_count := List.mem_of_getElem? (i := 1) (by decide +kernel)
theorem n_X7_count_X7 : ∀ w ∈ wsX70, w ∈ wsX7_count := mem_by [26, 27, 28, 29, 30, 31, 32, 33, 34] (by decide +kernel)
theorem m_X7_count_2 : Cond.fieldLink RX7 137 "ClawCase$Box" "toys" "I" ∈ wsX7_count := List.mem_of_getElem? (i := 2) (by decide +kernel)
theorem n_X7_count_X3 : ∀ w ∈ wsX30, w ∈ wsX7_count := mem_by [35, 36, 37, 38, 39, 40, 41, 42, 43] (by decide +kernel)
theorem m_X7_count_3 : Cond.fieldLink RX7 147 "ClawCase$Box" "plays" "I" ∈ wsX7_count := List.mem_of_getElem? (i := 3) (by decide +kernel)
theorem m_X7_count_4 : Cond.fieldLink RX7 180 "ClawCase$Box" "low" "I" ∈ wsX7_count := List.mem_of_getElem? (i := 4) (by decide +kernel)
theorem m_X7_count_5 : Cond.fieldLink RX7 183 "ClawCase$Box" "high" "I" ∈ wsX7_count := List.mem_of_getElem? (i := 5) (by decide +kernel)
theorem m_X7_count_6 : Cond.fieldLink RX7 282 "ClawCase$Box" "every" "I" ∈ wsX7_count := List.mem_of_getElem? (i := 6) (by decide +kernel)
theorem cw_X7_count_X3_toysAt {s : State} {args : Array Value} (ht : ∀ w ∈ wsX7_count, w.before args s = true) : CallW (rmD 1) s args RX7 RX3 208 yX3_toysAt cX3_toysAt 4 (some .int) wsX3_toysAt (rmD (0)) 0 0 1 := cwV 1 ht gX7_count_X3_toysAt rfl rfl rfl (by decide +kernel) ⟨Nat.le_of_ble_eq_true rfl, Nat.le_of_ble_eq_true rfl⟩
theorem m_X7_count_7 : Cond.fieldLink RX7 32 "ClawCase" "acts" "LClawCase$Acts;" ∈ wsX7_count := List.mem_of_getElem? (i := 7) (by decide +kernel)
theorem m_X7_count_8 : Cond.fieldLink RX7 186 "ClawCase$Acts" "kept" "I" ∈ wsX7_count := List.mem_of_getElem? (i := 8) (by decide +kernel)
theorem n_X7_count_X0 : ∀ w ∈ wsX00, w ∈ wsX7_count := mem_by [44, 45, 46] (by decide +kernel)
theorem m_X7_count_9 : Cond.fieldLink RX7 18 "ClawCase" "reader" "LClawCase$Reader;" ∈ wsX7_count := List.mem_of_getElem? (i := 9) (by decide +kernel)
theorem m_X7_count_10 : Cond.fieldLink RX7 109 "ClawCase$Reader" "bytes" "I" ∈ wsX7_count := List.mem_of_getElem? (i := 10) (by decide +kernel)
theorem n_X7_count_X5 : ∀ w ∈ wsX50, w ∈ wsX7_count := mem_by [47, 48, 49, 50, 51, 52, 53, 54] (by decide +kernel)
theorem m_X7_count_11 : Cond.constant RX7 70 (-1000001) ∈ wsX7_count := List.mem_of_getElem? (i := 11) (by decide +kernel)
def o_X7_count (Q : Int32 → Mm → Prop) (g : Mm) (x1 : Int32) : Prop := (x1 = 0 → o_X7_rowsThere (fun (r_2 : Int32) (g_1 : Mm) => Q r_2 g_1) g) ∧ (x1 = 1 → Q (g.1 9 4) g) ∧ (x1 = 2 → Q (g.1 9 8) g) ∧ (x1 = 3 → Q (g.1 9 5) g) ∧ (x1 = 4 → Q (g.1 9 6) g) ∧ (x1 = 5 → Q (g.1 9 7) g) ∧ (x1 = 6 → o_X3_toysAt (fun (r_4 : Int32) (g_3 : Mm) => Q r_4 g_3) 9 g 0) ∧ (x1 = 7 → o_X3_toysAt (fun (r_6 : Int32) (g_5 : Mm) => Q r_6 g_5) 9 g 9) ∧ (x1 = 8 → Q (g.1 14 2) g) ∧ (x1 = 9 → Q (g.1 2 2) g) ∧ ((¬ x1 = 0 ∧ ¬ x1 = 1 ∧ ¬ x1 = 2 ∧ ¬ x1 = 3 ∧ ¬ x1 = 4 ∧ ¬ x1 = 5 ∧ ¬ x1 = 6 ∧ ¬ x1 = 7 ∧ ¬ x1 = 8 ∧ ¬ x1 = 9) → Q (-1000001) g)
set_option maxHeartbeats 4000000 in
set_option maxRecDepth 100000 in
theorem o_X7_count_c {l : Launch} {dC : Nat → ClassId} {dI : Nat → Nat → Nat} {cy : Nat → ClassId} {ad tz : Nat → Nat} {Q : Int32 → Mm → Prop} {g : Mm} {x1 : Int32} (h : o_X7_count Q g x1) : CI l dC dI cy ad tz yX7_count wsX7_count (rmD 1) [.ref (ad 0), .int x1] g Q := by
  refine CI.of (by decide) rfl rfl (Nat.le_of_ble_eq_true rfl) ?_
  intro p e s m args below meth c ls C hl S
  have hl : lv_has ls 2 [(0, .ref (ad 0)), (1, .int x1)] := hl
  have hx := C.1.1
  have hb := C.1.2.1
  unfold o_X7_count at h
  refine lv_iload_n hx hb dX7_count_0 rfl (lv_at hl 1 rfl) ?_
  by_cases c0 : x1 = 0
  · have h := h.1 c0
    refine lv_tableIn (off := 55) (tgt := 56) hx hb dX7_count_1 (by rw [c0]; decide) (by rw [c0]; decide) (by rw [c0]; decide) (by decide) ?_
    refine lv_aload_n hx hb dX7_count_56 rfl (lv_at hl 0 rfl) ?_
    refine kV_i (As := []) (rest := []) C S hl.1 (o_X7_rowsThere_c h) (wd_o7 rfl) rfl (cw_X7_count_X7_rowsThere C.1.2.2.2.2) rfl rfl (Nat.le_of_ble_eq_true rfl) dX7_count_57 (fun r_2 g_1 H locs h S => ?_)
    exact kRi C S h dX7_count_60
  by_cases c1 : x1 = 1
  · have h := h.2.1 c1
    refine lv_tableIn (off := 60) (tgt := 61) hx hb dX7_count_1 (by rw [c1]; decide) (by rw [c1]; decide) (by rw [c1]; decide) (by decide) ?_
    refine lv_aload_n hx hb dX7_count_61 rfl (lv_at hl 0 rfl) ?_
    refine kg7 (k := 2) (v := .ref (ad 9)) C S rfl (by decide) n_X7_count_X7 m_X7_count_1 rfl dX7_count_62 ?_
    refine kg3 (k := 4) (v := .int (g.1 9 4)) C S rfl (by decide) n_X7_count_X3 m_X7_count_2 rfl dX7_count_65 ?_
    exact kRi C S h dX7_count_68
  by_cases c2 : x1 = 2
  · have h := h.2.2.1 c2
    refine lv_tableIn (off := 68) (tgt := 69) hx hb dX7_count_1 (by rw [c2]; decide) (by rw [c2]; decide) (by rw [c2]; decide) (by decide) ?_
    refine lv_aload_n hx hb dX7_count_69 rfl (lv_at hl 0 rfl) ?_
    refine kg7 (k := 2) (v := .ref (ad 9)) C S rfl (by decide) n_X7_count_X7 m_X7_count_1 rfl dX7_count_70 ?_
    refine kg3 (k := 8) (v := .int (g.1 9 8)) C S rfl (by decide) n_X7_count_X3 m_X7_count_3 rfl dX7_count_73 ?_
    exact kRi C S h dX7_count_76
  by_cases c3 : x1 = 3
  · have h := h.2.2.2.1 c3
    refine lv_tableIn (off := 76) (tgt := 77) hx hb dX7_count_1 (by rw [c3]; decide) (by rw [c3]; decide) (by rw [c3]; decide) (by decide) ?_
    refine lv_aload_n hx hb dX7_count_77 rfl (lv_at hl 0 rfl) ?_
    refine kg7 (k := 2) (v := .ref (ad 9)) C S rfl (by decide) n_X7_count_X7 m_X7_count_1 rfl dX7_count_78 ?_
    refine kg3 (k := 5) (v := .int (g.1 9 5)) C S rfl (by decide) n_X7_count_X3 m_X7_count_4 rfl dX7_count_81 ?_
    exact kRi C S h dX7_count_84
  by_cases c4 : x1 = 4
  · have h := h.2.2.2.2.1 c4
    refine lv_tableIn (off := 84) (tgt := 85) hx hb dX7_count_1 (by rw [c4]; decide) (by rw [c4]; decide) (by rw [c4]; decide) (by decide) ?_
    refine lv_aload_n hx hb dX7_count_85 rfl (lv_at hl 0 rfl) ?_
    refine kg7 (k := 2) (v := .ref (ad 9)) C S rfl (by decide) n_X7_count_X7 m_X7_count_1 rfl dX7_count_86 ?_
    refine kg3 (k := 6) (v := .int (g.1 9 6)) C S rfl (by decide) n_X7_count_X3 m_X7_count_5 rfl dX7_count_89 ?_
    exact kRi C S h dX7_count_92
  by_cases c5 : x1 = 5
  · have h := h.2.2.2.2.2.1 c5
    refine lv_tableIn (off := 92) (tgt := 93) hx hb dX7_count_1 (by rw [c5]; decide) (by rw [c5]; decide) (by rw [c5]; decide) (by decide) ?_
    refine lv_aload_n hx hb dX7_count_93 rfl (lv_at hl 0 rfl) ?_
    refine kg7 (k := 2) (v := .ref (ad 9)) C S rfl (by decide) n_X7_count_X7 m_X7_count_1 rfl dX7_count_94 ?_
    refine kg3 (k := 7) (v := .int (g.1 9 7)) C S rfl (by decide) n_X7_count_X3 m_X7_count_6 rfl dX7_count_97 ?_
    exact kRi C S h dX7_count_100
  by_cases c6 : x1 = 6
  · have h := h.2.2.2.2.2.2.1 c6
    refine lv_tableIn (off := 100) (tgt := 101) hx hb dX7_count_1 (by rw [c6]; decide) (by rw [c6]; decide) (by rw [c6]; decide) (by decide) ?_
    refine lv_aload_n hx hb dX7_count_101 rfl (lv_at hl 0 rfl) ?_
    refine kg7 (k := 2) (v := .ref (ad 9)) C S rfl (by decide) n_X7_count_X7 m_X7_count_1 rfl dX7_count_102 ?_
    refine lv_iconst (v := 0) hx hb dX7_count_105 (by decide) ?_
    refine kV_i (As := [.int 0]) (rest := []) C S hl.1 (o_X3_toysAt_c rfl h) (wd_o3 rfl) rfl (cw_X7_count_X3_toysAt C.1.2.2.2.2) rfl rfl (Nat.le_of_ble_eq_true rfl) dX7_count_106 (fun r_4 g_3 H locs h S => ?_)
    exact kRi C S h dX7_count_109
  by_cases c7 : x1 = 7
  · have h := h.2.2.2.2.2.2.2.1 c7
    refine lv_tableIn (off := 109) (tgt := 110) hx hb dX7_count_1 (by rw [c7]; decide) (by rw [c7]; decide) (by rw [c7]; decide) (by decide) ?_
    refine lv_aload_n hx hb dX7_count_110 rfl (lv_at hl 0 rfl) ?_
    refine kg7 (k := 2) (v := .ref (ad 9)) C S rfl (by decide) n_X7_count_X7 m_X7_count_1 rfl dX7_count_111 ?_
    refine lv_bipush (v := 9) hx hb dX7_count_114 (by decide) ?_
    refine kV_i (As := [.int 9]) (rest := []) C S hl.1 (o_X3_toysAt_c rfl h) (wd_o3 rfl) rfl (cw_X7_count_X3_toysAt C.1.2.2.2.2) rfl rfl (Nat.le_of_ble_eq_true rfl) dX7_count_116 (fun r_6 g_5 H locs h S => ?_)
    exact kRi C S h dX7_count_119
  by_cases c8 : x1 = 8
  · have h := h.2.2.2.2.2.2.2.2.1 c8
    refine lv_tableIn (off := 119) (tgt := 120) hx hb dX7_count_1 (by rw [c8]; decide) (by rw [c8]; decide) (by rw [c8]; decide) (by decide) ?_
    refine lv_aload_n hx hb dX7_count_120 rfl (lv_at hl 0 rfl) ?_
    refine kg7 (k := 3) (v := .ref (ad 14)) C S rfl (by decide) n_X7_count_X7 m_X7_count_7 rfl dX7_count_121 ?_
    refine kg0 (k := 2) (v := .int (g.1 14 2)) C S rfl (by decide) n_X7_count_X0 m_X7_count_8 rfl dX7_count_124 ?_
    exact kRi C S h dX7_count_127
  by_cases c9 : x1 = 9
  · have h := h.2.2.2.2.2.2.2.2.2.1 c9
    refine lv_tableIn (off := 127) (tgt := 128) hx hb dX7_count_1 (by rw [c9]; decide) (by rw [c9]; decide) (by rw [c9]; decide) (by decide) ?_
    refine lv_aload_n hx hb dX7_count_128 rfl (lv_at hl 0 rfl) ?_
    refine kg7 (k := 1) (v := .ref (ad 2)) C S rfl (by decide) n_X7_count_X7 m_X7_count_9 rfl dX7_count_129 ?_
    refine kg5 (k := 2) (v := .int (g.1 2 2)) C S rfl (by decide) n_X7_count_X5 m_X7_count_10 rfl dX7_count_132 ?_
    exact kRi C S h dX7_count_135
  have h := h.2.2.2.2.2.2.2.2.2.2 ⟨c0, c1, c2, c3, c4, c5, c6, c7, c8, c9⟩
  refine lv_tableOut (tgt := 136) hx hb dX7_count_1 (tb_out 0 9 ?_) (by decide) ?_
  · intro k h1 h2
    rcases (show k = 0 ∨ k = 1 ∨ k = 2 ∨ k = 3 ∨ k = 4 ∨ k = 5 ∨ k = 6 ∨ k = 7 ∨ k = 8 ∨ k = 9 by omega) with rfl | rfl | rfl | rfl | rfl | rfl | rfl | rfl | rfl | rfl
    · exact lk_ne c0 (by decide)
    · exact lk_ne c1 (by decide)
    · exact lk_ne c2 (by decide)
    · exact lk_ne c3 (by decide)
    · exact lk_ne c4 (by decide)
    · exact lk_ne c5 (by decide)
    · exact lk_ne c6 (by decide)
    · exact lk_ne c7 (by decide)
    · exact lk_ne c8 (by decide)
    · exact lk_ne c9 (by decide)
  refine kLdc C m_X7_count_11 dX7_count_136 ?_
  exact kRi C S h dX7_count_138
/-! ClawCase.drawn(III)I, height 5 -/
theorem m_X7_drawn_3 : Cond.constant RX7 70 (-1000001) ∈ wsX7_drawn := List.mem_of_getElem? (i := 3) (by decide +kernel)
theorem m_X7_drawn_2 : Cond.constant RX7 249 (999999) ∈ wsX7_drawn := List.mem_of_getElem? (i := 2) (by decide +kernel)
theorem m_X7_drawn_4 : Cond.fieldLink RX7 43 "ClawCase" "foretold" "LClawCase$Foretold;" ∈ wsX7_drawn := List.mem_of_getElem? (i := 4) (by decide +kernel)
theorem n_X7_drawn_X7 : ∀ w ∈ wsX70, w ∈ wsX7_drawn := mem_by [108, 109, 110, 111, 112, 113, 114, 115, 116] (by decide +kernel)
theorem m_X7_drawn_5 : Cond.fieldLink RX7 25 "ClawCase" "now" "LClawCase$Box;" ∈ wsX7_drawn := List.mem_of_getElem? (i := 5) (by decide +kernel)
theorem m_X7_drawn_6 : Cond.fieldLink RX7 254 "ClawCase$Foretold" "trial" "LClawCase$Box;" ∈ wsX7_drawn := List.mem_of_getElem? (i := 6) (by decide +kernel)
theorem n_X7_drawn_X4 : ∀ w ∈ wsX40, w ∈ wsX7_drawn := mem_by [117, 118, 119, 120, 121, 122] (by decide +kernel)
theorem cw_X7_drawn_X3_howMany {s : State} {args : Array Value} (ht : ∀ w ∈ wsX7_drawn, w.before args s = true) : CallW (rmD 5) s args RX7 RX3 176 yX3_howMany cX3_howMany 4 (some .int) wsX3_howMany (rmD (0)) 0 0 1 := cwV 1 ht gX7_drawn_X3_howMany rfl rfl rfl (by decide +kernel) ⟨Nat.le_of_ble_eq_true rfl, Nat.le_of_ble_eq_true rfl⟩
theorem cw_X7_drawn_X4_winsByDraws {s : State} {args : Array Value} (ht : ∀ w ∈ wsX7_drawn, w.before args s = true) : CallW (rmD 5) s args RX7 RX4 250 yX4_winsByDraws cX4_winsByDraws 10 (some .int) wsX4_winsByDraws (rmD (4)) 0 0 3 := cwV 3 ht gX7_drawn_X4_winsByDraws rfl rfl rfl (by decide +kernel) ⟨Nat.le_of_ble_eq_true rfl, Nat.le_of_ble_eq_true rfl⟩
theorem cw_X7_drawn_X7_within {s : State} {args : Array Value} (ht : ∀ w ∈ wsX7_drawn, w.before args s = true) : CallB (rmD 5) s args RX7 66 yX7_within cX7_within 3 (some .boolean) wsX7_within (rmD (0)) 0 0 3 ∧ (Cond.static yX7_within).before args s = true := va_cwS 3 ht gX7_drawn_X7_within rfl rfl rfl (by decide +kernel) ⟨Nat.le_of_ble_eq_true rfl, Nat.le_of_ble_eq_true rfl⟩
theorem m_X7_drawn_1 : Cond.constant RX7 143 (-1000002) ∈ wsX7_drawn := List.mem_of_getElem? (i := 1) (by decide +kernel)
theorem cw_X7_drawn_X7_noCase {s : State} {args : Array Value} (ht : ∀ w ∈ wsX7_drawn, w.before args s = true) : CallW (rmD 5) s args RX7 RX7 140 yX7_noCase cX7_noCase 1 (some .boolean) wsX7_noCase (rmD (0)) 0 0 0 := cwV 0 ht gX7_drawn_X7_noCase rfl rfl rfl (by decide +kernel) ⟨Nat.le_of_ble_eq_true rfl, Nat.le_of_ble_eq_true rfl⟩
def o_X7_drawn (Q : Int32 → Mm → Prop) (g : Mm) (x1 : Int32) (x2 : Int32) (x3 : Int32) : Prop := o_X7_noCase (fun (r_2 : Int32) (g_1 : Mm) => ((r_2 = 0) → o_X7_within (fun (r_4 : Int32) (g_3 : Mm) => ((r_4 = 0) → Q (-1000001) g_3) ∧ ((¬ r_4 = 0) → o_X7_within (fun (r_6 : Int32) (g_5 : Mm) => ((r_6 = 0) → Q (-1000001) g_5) ∧ ((¬ r_6 = 0) → o_X7_within (fun (r_8 : Int32) (g_7 : Mm) => ((¬ r_8 = 0) → o_X4_winsByDraws (fun (r_10 : Int32) (g_9 : Mm) => ((¬ x3 = 0) → o_X3_howMany (fun (r_12 : Int32) (g_11 : Mm) => Q r_12 g_11) 42 g_9 9) ∧ ((x3 = 0) → Q r_10 g_9)) 9 g_7 x1 x2) ∧ ((r_8 = 0) → Q (-1000001) g_7)) g_5 x3 0 1)) g_3 x2 1 999999)) g_1 x1 0 60) ∧ ((¬ r_2 = 0) → Q (-1000002) g_1)) g
set_option maxHeartbeats 4000000 in
set_option maxRecDepth 100000 in
theorem o_X7_drawn_c {l : Launch} {dC : Nat → ClassId} {dI : Nat → Nat → Nat} {cy : Nat → ClassId} {ad tz : Nat → Nat} {Q : Int32 → Mm → Prop} {g : Mm} {x1 : Int32} {x2 : Int32} {x3 : Int32} (h : o_X7_drawn Q g x1 x2 x3) : CI l dC dI cy ad tz yX7_drawn wsX7_drawn (rmD 5) [.ref (ad 0), .int x1, .int x2, .int x3] g Q := by
  refine CI.of (by decide) rfl rfl (Nat.le_of_ble_eq_true rfl) ?_
  intro p e s m args below meth c ls C hl S
  have hl : lv_has ls 5 [(0, .ref (ad 0)), (1, .int x1), (2, .int x2), (3, .int x3)] := hl
  have hx := C.1.1
  have hb := C.1.2.1
  unfold o_X7_drawn at h
  refine lv_aload_n hx hb dX7_drawn_0 rfl (lv_at hl 0 rfl) ?_
  refine kV_i (As := []) (rest := []) C S hl.1 (o_X7_noCase_c h) (wd_o7 rfl) rfl (cw_X7_drawn_X7_noCase C.1.2.2.2.2) rfl rfl (Nat.le_of_ble_eq_true rfl) dX7_drawn_1 (fun r_2 g_1 H locs h S => ?_)
  refine lv_if_eq (tgt := 10) hx hb dX7_drawn_4 (by decide) (fun c1 => ?_) (fun c1 => ?_)
  · have h := h.1 c1
    refine lv_iload_n hx hb dX7_drawn_10 rfl (lv_at hl 1 rfl) ?_
    refine lv_iconst (v := 0) hx hb dX7_drawn_11 (by decide) ?_
    refine lv_bipush (v := 60) hx hb dX7_drawn_12 (by decide) ?_
    refine kS_i (As := [.int x1, .int 0, .int 60]) (rest := []) C S hl.1 (o_X7_within_c h) (cw_X7_drawn_X7_within C.1.2.2.2.2) rfl rfl (Nat.le_of_ble_eq_true rfl) dX7_drawn_14 (fun r_4 g_3 H locs h S => ?_)
    refine lv_if_eq (tgt := 39) hx hb dX7_drawn_17 (by decide) (fun c1 => ?_) (fun c1 => ?_)
    · have h := h.1 c1
      refine kLdc C m_X7_drawn_3 dX7_drawn_39 ?_
      exact kRi C S h dX7_drawn_41
    · have h := h.2 c1
      refine lv_iload_n hx hb dX7_drawn_20 rfl (lv_at hl 2 rfl) ?_
      refine lv_iconst (v := 1) hx hb dX7_drawn_21 (by decide) ?_
      refine kLdc C m_X7_drawn_2 dX7_drawn_22 ?_
      refine kS_i (As := [.int x2, .int 1, .int 999999]) (rest := []) C S hl.1 (o_X7_within_c h) (cw_X7_drawn_X7_within C.1.2.2.2.2) rfl rfl (Nat.le_of_ble_eq_true rfl) dX7_drawn_24 (fun r_6 g_5 H locs h S => ?_)
      refine lv_if_eq (tgt := 39) hx hb dX7_drawn_27 (by decide) (fun c1 => ?_) (fun c1 => ?_)
      · have h := h.1 c1
        refine kLdc C m_X7_drawn_3 dX7_drawn_39 ?_
        exact kRi C S h dX7_drawn_41
      · have h := h.2 c1
        refine lv_iload_n hx hb dX7_drawn_30 rfl (lv_at hl 3 rfl) ?_
        refine lv_iconst (v := 0) hx hb dX7_drawn_31 (by decide) ?_
        refine lv_iconst (v := 1) hx hb dX7_drawn_32 (by decide) ?_
        refine kS_i (As := [.int x3, .int 0, .int 1]) (rest := []) C S hl.1 (o_X7_within_c h) (cw_X7_drawn_X7_within C.1.2.2.2.2) rfl rfl (Nat.le_of_ble_eq_true rfl) dX7_drawn_33 (fun r_8 g_7 H locs h S => ?_)
        refine lv_if_ne (tgt := 42) hx hb dX7_drawn_36 (by decide) (fun c1 => ?_) (fun c1 => ?_)
        · have h := h.1 c1
          refine lv_aload_n hx hb dX7_drawn_42 rfl (lv_at hl 0 rfl) ?_
          refine kg7 (k := 5) (v := .ref (ad 41)) C S rfl (by decide) n_X7_drawn_X7 m_X7_drawn_4 rfl dX7_drawn_43 ?_
          refine lv_aload_n hx hb dX7_drawn_46 rfl (lv_at hl 0 rfl) ?_
          refine kg7 (k := 2) (v := .ref (ad 9)) C S rfl (by decide) n_X7_drawn_X7 m_X7_drawn_5 rfl dX7_drawn_47 ?_
          refine lv_iload_n hx hb dX7_drawn_50 rfl (lv_at hl 1 rfl) ?_
          refine lv_iload_n hx hb dX7_drawn_51 rfl (lv_at hl 2 rfl) ?_
          refine kV_i (As := [.ref (ad 9), .int x1, .int x2]) (rest := []) C S hl.1 (o_X4_winsByDraws_c rfl h) (wd_o4 rfl) rfl (cw_X7_drawn_X4_winsByDraws C.1.2.2.2.2) rfl rfl (Nat.le_of_ble_eq_true rfl) dX7_drawn_52 (fun r_10 g_9 H locs h S => ?_)
          refine lv_istore (lv' := [(4, .int r_10), (0, .ref (ad 0)), (1, .int x1), (2, .int x2), (3, .int x3)]) hx hb dX7_drawn_55 hl (by decide) rfl (fun ls hl => ?_)
          refine lv_iload_n hx hb dX7_drawn_57 rfl (lv_at hl 4 rfl) ?_
          refine lv_if_ne (tgt := 66) hx hb dX7_drawn_58 (by decide) (fun c1 => ?_) (fun c1 => ?_)
          · have h := h.1 c1
            refine lv_aload_n hx hb dX7_drawn_66 rfl (lv_at hl 1 rfl) ?_
            refine kg7 (k := 5) (v := .ref (ad 41)) C S rfl (by decide) n_X7_drawn_X7 m_X7_drawn_4 rfl dX7_drawn_67 ?_
            refine kg4 (k := 0) (v := .ref (ad 42)) C S rfl (by decide) n_X7_drawn_X4 m_X7_drawn_6 rfl dX7_drawn_70 ?_
            refine lv_bipush (v := 9) hx hb dX7_drawn_73 (by decide) ?_
            refine kV_i (As := [.int 9]) (rest := []) C S hl.1 (o_X3_howMany_c rfl h) (wd_o3 rfl) rfl (cw_X7_drawn_X3_howMany C.1.2.2.2.2) rfl rfl (Nat.le_of_ble_eq_true rfl) dX7_drawn_75 (fun r_12 g_11 H locs h S => ?_)
            exact kRi C S h dX7_drawn_78
          · have h := h.2 c1
            refine lv_iload hx hb dX7_drawn_61 (lv_at hl 0 rfl) ?_
            refine lv_goto (tgt := 78) hx hb dX7_drawn_63 (by decide) ?_
            exact kRi C S h dX7_drawn_78
        · have h := h.2 c1
          refine kLdc C m_X7_drawn_3 dX7_drawn_39 ?_
          exact kRi C S h dX7_drawn_41
  · have h := h.2 c1
    refine kLdc C m_X7_drawn_1 dX7_drawn_7 ?_
    exact kRi C S h dX7_drawn_9
/-! ClawCase.drop(I)I, height 2 -/
theorem m_X7_drop_2 : Cond.fieldLink RX7 11 "ClawCase" "rows" "[LClawCase$Row;" ∈ wsX7_drop := List.mem_of_getElem? (i := 2) (by decide +kernel)
theorem n_X7_drop_X7 : ∀ w ∈ wsX70, w ∈ wsX7_drop := mem_by [22, 23, 24, 25, 26, 27, 28, 29, 30] (by decide +kernel)
theorem m_X7_drop_3 : Cond.fieldLink RX7 82 "ClawCase$Row" "missing" "Z" ∈ wsX7_drop := List.mem_of_getElem? (i := 3) (by decide +kernel)
theorem n_X7_drop_X6 : ∀ w ∈ wsX60, w ∈ wsX7_drop := mem_by [31, 32, 33, 34] (by decide +kernel)
theorem m_X7_drop_4 : Cond.fieldLink RX7 106 "ClawCase$Row" "size" "I" ∈ wsX7_drop := List.mem_of_getElem? (i := 4) (by decide +kernel)
theorem cw_X7_drop_X7_fine {s : State} {args : Array Value} (ht : ∀ w ∈ wsX7_drop, w.before args s = true) : CallW (rmD 2) s args RX7 RX7 79 yX7_fine cX7_fine 2 (some .int) wsX7_fine (rmD (0)) 0 0 1 := cwV 1 ht gX7_drop_X7_fine rfl rfl rfl (by decide +kernel) ⟨Nat.le_of_ble_eq_true rfl, Nat.le_of_ble_eq_true rfl⟩
theorem cw_X7_drop_X7_found {s : State} {args : Array Value} (ht : ∀ w ∈ wsX7_drop, w.before args s = true) : CallW (rmD 2) s args RX7 RX7 71 yX7_found cX7_found 2 (some .int) wsX7_found (rmD (0)) 0 0 1 := cwV 1 ht gX7_drop_X7_found rfl rfl rfl (by decide +kernel) ⟨Nat.le_of_ble_eq_true rfl, Nat.le_of_ble_eq_true rfl⟩
theorem m_X7_drop_1 : Cond.constant RX7 70 (-1000001) ∈ wsX7_drop := List.mem_of_getElem? (i := 1) (by decide +kernel)
theorem cw_X7_drop_X7_isRow {s : State} {args : Array Value} (ht : ∀ w ∈ wsX7_drop, w.before args s = true) : CallB (rmD 2) s args RX7 62 yX7_isRow cX7_isRow 1 (some .boolean) wsX7_isRow (rmD (1)) 0 0 1 ∧ (Cond.static yX7_isRow).before args s = true := va_cwS 1 ht gX7_drop_X7_isRow rfl rfl rfl (by decide +kernel) ⟨Nat.le_of_ble_eq_true rfl, Nat.le_of_ble_eq_true rfl⟩
def o_X7_drop (Q : Int32 → Mm → Prop) (g : Mm) (x1 : Int32) : Prop := o_X7_isRow (fun (r_2 : Int32) (g_1 : Mm) => ((¬ r_2 = 0) → vp_in x1 8 ∧ ((((g_1.1 (60 + 2 * x1.toNatClampNeg) 1) = 0) → vp_in x1 8 ∧ (∀ g_5 : Mm, g_5 = mset g_1 (60 + 2 * x1.toNatClampNeg) 1 1 → (vp_in x1 8 ∧ (o_X7_fine (fun (r_8 : Int32) (g_7 : Mm) => Q r_8 g_7) g_5 (g_5.1 (60 + 2 * x1.toNatClampNeg) 3))))) ∧ ((¬ (g_1.1 (60 + 2 * x1.toNatClampNeg) 1) = 0) → o_X7_found (fun (r_10 : Int32) (g_9 : Mm) => Q r_10 g_9) g_1 1))) ∧ ((r_2 = 0) → Q (-1000001) g_1)) g x1
set_option maxHeartbeats 4000000 in
set_option maxRecDepth 100000 in
theorem o_X7_drop_c {l : Launch} {dC : Nat → ClassId} {dI : Nat → Nat → Nat} {cy : Nat → ClassId} {ad tz : Nat → Nat} {Q : Int32 → Mm → Prop} {g : Mm} {x1 : Int32} (h : o_X7_drop Q g x1) : CI l dC dI cy ad tz yX7_drop wsX7_drop (rmD 2) [.ref (ad 0), .int x1] g Q := by
  refine CI.of (by decide) rfl rfl (Nat.le_of_ble_eq_true rfl) ?_
  intro p e s m args below meth c ls C hl S
  have hl : lv_has ls 2 [(0, .ref (ad 0)), (1, .int x1)] := hl
  have hx := C.1.1
  have hb := C.1.2.1
  unfold o_X7_drop at h
  refine lv_iload_n hx hb dX7_drop_0 rfl (lv_at hl 1 rfl) ?_
  refine kS_i (As := [.int x1]) (rest := []) C S hl.1 (o_X7_isRow_c h) (cw_X7_drop_X7_isRow C.1.2.2.2.2) rfl rfl (Nat.le_of_ble_eq_true rfl) dX7_drop_1 (fun r_2 g_1 H locs h S => ?_)
  refine lv_if_ne (tgt := 10) hx hb dX7_drop_4 (by decide) (fun c1 => ?_) (fun c1 => ?_)
  · have h := h.1 c1
    refine lv_aload_n hx hb dX7_drop_10 rfl (lv_at hl 0 rfl) ?_
    refine kg7 (k := 0) (v := .ref (ad 1)) C S rfl (by decide) n_X7_drop_X7 m_X7_drop_2 rfl dX7_drop_11 ?_
    refine lv_iload_n hx hb dX7_drop_14 rfl (lv_at hl 1 rfl) ?_
    obtain ⟨hi_3, h⟩ := h
    refine kAr C S rfl rfl hi_3 dX7_drop_15 ?_
    refine kg6 (k := 1) (v := .int (g_1.1 (60 + 2 * x1.toNatClampNeg) 1)) C S (ly_rows _ (in_lt hi_3)) (by decide) n_X7_drop_X6 m_X7_drop_3 rfl dX7_drop_16 ?_
    refine lv_if_eq (tgt := 28) hx hb dX7_drop_19 (by decide) (fun c1 => ?_) (fun c1 => ?_)
    · have h := h.1 c1
      refine lv_aload_n hx hb dX7_drop_28 rfl (lv_at hl 0 rfl) ?_
      refine kg7 (k := 0) (v := .ref (ad 1)) C S rfl (by decide) n_X7_drop_X7 m_X7_drop_2 rfl dX7_drop_29 ?_
      refine lv_iload_n hx hb dX7_drop_32 rfl (lv_at hl 1 rfl) ?_
      obtain ⟨hi_4, h⟩ := h
      refine kAr C S rfl rfl hi_4 dX7_drop_33 ?_
      refine lv_iconst (v := 1) hx hb dX7_drop_34 (by decide) ?_
      refine kp6_1 C S (ly_rows _ (in_lt hi_4)) n_X7_drop_X6 m_X7_drop_3 ⟨rfl, rfl⟩ dX7_drop_35 (fun g_5 H locs eg_5 S => ?_)
      have h := h g_5 eg_5
      refine lv_aload_n hx hb dX7_drop_38 rfl (lv_at hl 0 rfl) ?_
      refine lv_aload_n hx hb dX7_drop_39 rfl (lv_at hl 0 rfl) ?_
      refine kg7 (k := 0) (v := .ref (ad 1)) C S rfl (by decide) n_X7_drop_X7 m_X7_drop_2 rfl dX7_drop_40 ?_
      refine lv_iload_n hx hb dX7_drop_43 rfl (lv_at hl 1 rfl) ?_
      obtain ⟨hi_6, h⟩ := h
      refine kAr C S rfl rfl hi_6 dX7_drop_44 ?_
      refine kg6 (k := 3) (v := .int (g_5.1 (60 + 2 * x1.toNatClampNeg) 3)) C S (ly_rows _ (in_lt hi_6)) (by decide) n_X7_drop_X6 m_X7_drop_4 rfl dX7_drop_45 ?_
      refine kV_i (As := [.int (g_5.1 (60 + 2 * x1.toNatClampNeg) 3)]) (rest := []) C S hl.1 (o_X7_fine_c h) (wd_o7 rfl) rfl (cw_X7_drop_X7_fine C.1.2.2.2.2) rfl rfl (Nat.le_of_ble_eq_true rfl) dX7_drop_48 (fun r_8 g_7 H locs h S => ?_)
      exact kRi C S h dX7_drop_51
    · have h := h.2 c1
      refine lv_aload_n hx hb dX7_drop_22 rfl (lv_at hl 0 rfl) ?_
      refine lv_iconst (v := 1) hx hb dX7_drop_23 (by decide) ?_
      refine kV_i (As := [.int 1]) (rest := []) C S hl.1 (o_X7_found_c h) (wd_o7 rfl) rfl (cw_X7_drop_X7_found C.1.2.2.2.2) rfl rfl (Nat.le_of_ble_eq_true rfl) dX7_drop_24 (fun r_10 g_9 H locs h S => ?_)
      exact kRi C S h dX7_drop_27
  · have h := h.2 c1
    refine kLdc C m_X7_drop_1 dX7_drop_7 ?_
    exact kRi C S h dX7_drop_9
/-! ClawCase.enough(I)I, height 2 -/
theorem m_X7_enough_3 : Cond.fieldLink RX7 25 "ClawCase" "now" "LClawCase$Box;" ∈ wsX7_enough := List.mem_of_getElem? (i := 3) (by decide +kernel)
theorem n_X7_enough_X7 : ∀ w ∈ wsX70, w ∈ wsX7_enough := mem_by [32, 33, 34, 35, 36, 37, 38, 39, 40] (by decide +kernel)
theorem m_X7_enough_4 : Cond.constant RX7 179 (-1000000) ∈ wsX7_enough := List.mem_of_getElem? (i := 4) (by decide +kernel)
theorem cw_X7_enough_X3_need {s : State} {args : Array Value} (ht : ∀ w ∈ wsX7_enough, w.before args s = true) : CallW (rmD 2) s args RX7 RX3 196 yX3_need cX3_need 2 (some .int) wsX3_need (rmD (0)) 0 0 1 := cwV 1 ht gX7_enough_X3_need rfl rfl rfl (by decide +kernel) ⟨Nat.le_of_ble_eq_true rfl, Nat.le_of_ble_eq_true rfl⟩
theorem cw_X7_enough_X3_uppermost {s : State} {args : Array Value} (ht : ∀ w ∈ wsX7_enough, w.before args s = true) : CallW (rmD 2) s args RX7 RX3 205 yX3_uppermost cX3_uppermost 4 (some .int) wsX3_uppermost (rmD (0)) 0 0 1 := cwV 1 ht gX7_enough_X3_uppermost rfl rfl rfl (by decide +kernel) ⟨Nat.le_of_ble_eq_true rfl, Nat.le_of_ble_eq_true rfl⟩
theorem m_X7_enough_2 : Cond.constant RX7 70 (-1000001) ∈ wsX7_enough := List.mem_of_getElem? (i := 2) (by decide +kernel)
theorem cw_X7_enough_X7_isColumn {s : State} {args : Array Value} (ht : ∀ w ∈ wsX7_enough, w.before args s = true) : CallB (rmD 2) s args RX7 144 yX7_isColumn cX7_isColumn 1 (some .boolean) wsX7_isColumn (rmD (1)) 0 0 1 ∧ (Cond.static yX7_isColumn).before args s = true := va_cwS 1 ht gX7_enough_X7_isColumn rfl rfl rfl (by decide +kernel) ⟨Nat.le_of_ble_eq_true rfl, Nat.le_of_ble_eq_true rfl⟩
theorem m_X7_enough_1 : Cond.constant RX7 143 (-1000002) ∈ wsX7_enough := List.mem_of_getElem? (i := 1) (by decide +kernel)
theorem cw_X7_enough_X7_noCase {s : State} {args : Array Value} (ht : ∀ w ∈ wsX7_enough, w.before args s = true) : CallW (rmD 2) s args RX7 RX7 140 yX7_noCase cX7_noCase 1 (some .boolean) wsX7_noCase (rmD (0)) 0 0 0 := cwV 0 ht gX7_enough_X7_noCase rfl rfl rfl (by decide +kernel) ⟨Nat.le_of_ble_eq_true rfl, Nat.le_of_ble_eq_true rfl⟩
def o_X7_enough (Q : Int32 → Mm → Prop) (g : Mm) (x1 : Int32) : Prop := o_X7_noCase (fun (r_2 : Int32) (g_1 : Mm) => ((r_2 = 0) → o_X7_isColumn (fun (r_4 : Int32) (g_3 : Mm) => ((¬ r_4 = 0) → o_X3_uppermost (fun (r_6 : Int32) (g_5 : Mm) => ((¬ r_6 = (-1000000)) → o_X3_need (fun (r_8 : Int32) (g_7 : Mm) => Q ((r_8 + x1) - 1) g_7) 9 g_5 r_6) ∧ ((r_6 = (-1000000)) → Q (-1000000) g_5)) 9 g_3 x1) ∧ ((r_4 = 0) → Q (-1000001) g_3)) g_1 x1) ∧ ((¬ r_2 = 0) → Q (-1000002) g_1)) g
set_option maxHeartbeats 4000000 in
set_option maxRecDepth 100000 in
theorem o_X7_enough_c {l : Launch} {dC : Nat → ClassId} {dI : Nat → Nat → Nat} {cy : Nat → ClassId} {ad tz : Nat → Nat} {Q : Int32 → Mm → Prop} {g : Mm} {x1 : Int32} (h : o_X7_enough Q g x1) : CI l dC dI cy ad tz yX7_enough wsX7_enough (rmD 2) [.ref (ad 0), .int x1] g Q := by
  refine CI.of (by decide) rfl rfl (Nat.le_of_ble_eq_true rfl) ?_
  intro p e s m args below meth c ls C hl S
  have hl : lv_has ls 3 [(0, .ref (ad 0)), (1, .int x1)] := hl
  have hx := C.1.1
  have hb := C.1.2.1
  unfold o_X7_enough at h
  refine lv_aload_n hx hb dX7_enough_0 rfl (lv_at hl 0 rfl) ?_
  refine kV_i (As := []) (rest := []) C S hl.1 (o_X7_noCase_c h) (wd_o7 rfl) rfl (cw_X7_enough_X7_noCase C.1.2.2.2.2) rfl rfl (Nat.le_of_ble_eq_true rfl) dX7_enough_1 (fun r_2 g_1 H locs h S => ?_)
  refine lv_if_eq (tgt := 10) hx hb dX7_enough_4 (by decide) (fun c1 => ?_) (fun c1 => ?_)
  · have h := h.1 c1
    refine lv_iload_n hx hb dX7_enough_10 rfl (lv_at hl 1 rfl) ?_
    refine kS_i (As := [.int x1]) (rest := []) C S hl.1 (o_X7_isColumn_c h) (cw_X7_enough_X7_isColumn C.1.2.2.2.2) rfl rfl (Nat.le_of_ble_eq_true rfl) dX7_enough_11 (fun r_4 g_3 H locs h S => ?_)
    refine lv_if_ne (tgt := 20) hx hb dX7_enough_14 (by decide) (fun c1 => ?_) (fun c1 => ?_)
    · have h := h.1 c1
      refine lv_aload_n hx hb dX7_enough_20 rfl (lv_at hl 0 rfl) ?_
      refine kg7 (k := 2) (v := .ref (ad 9)) C S rfl (by decide) n_X7_enough_X7 m_X7_enough_3 rfl dX7_enough_21 ?_
      refine lv_iload_n hx hb dX7_enough_24 rfl (lv_at hl 1 rfl) ?_
      refine kV_i (As := [.int x1]) (rest := []) C S hl.1 (o_X3_uppermost_c rfl h) (wd_o3 rfl) rfl (cw_X7_enough_X3_uppermost C.1.2.2.2.2) rfl rfl (Nat.le_of_ble_eq_true rfl) dX7_enough_25 (fun r_6 g_5 H locs h S => ?_)
      refine lv_istore_n (lv' := [(2, .int r_6), (0, .ref (ad 0)), (1, .int x1)]) hx hb dX7_enough_28 rfl hl (by decide) rfl (fun ls hl => ?_)
      refine lv_iload_n hx hb dX7_enough_29 rfl (lv_at hl 0 rfl) ?_
      refine kLdc C m_X7_enough_4 dX7_enough_30 ?_
      refine lv_icmp_ne (tgt := 40) hx hb dX7_enough_32 (by decide) (fun c1 => ?_) (fun c1 => ?_)
      · have h := h.1 c1
        refine lv_aload_n hx hb dX7_enough_40 rfl (lv_at hl 1 rfl) ?_
        refine kg7 (k := 2) (v := .ref (ad 9)) C S rfl (by decide) n_X7_enough_X7 m_X7_enough_3 rfl dX7_enough_41 ?_
        refine lv_iload_n hx hb dX7_enough_44 rfl (lv_at hl 0 rfl) ?_
        refine kV_i (As := [.int r_6]) (rest := []) C S hl.1 (o_X3_need_c rfl h) (wd_o3 rfl) rfl (cw_X7_enough_X3_need C.1.2.2.2.2) rfl rfl (Nat.le_of_ble_eq_true rfl) dX7_enough_45 (fun r_8 g_7 H locs h S => ?_)
        refine lv_iload_n hx hb dX7_enough_48 rfl (lv_at hl 2 rfl) ?_
        refine lv_iadd hx hb dX7_enough_49 ?_
        refine lv_iconst (v := 1) hx hb dX7_enough_50 (by decide) ?_
        refine lv_isub hx hb dX7_enough_51 ?_
        exact kRi C S h dX7_enough_52
      · have h := h.2 c1
        refine kLdc C m_X7_enough_4 dX7_enough_35 ?_
        refine lv_goto (tgt := 52) hx hb dX7_enough_37 (by decide) ?_
        exact kRi C S h dX7_enough_52
    · have h := h.2 c1
      refine kLdc C m_X7_enough_2 dX7_enough_17 ?_
      exact kRi C S h dX7_enough_19
  · have h := h.2 c1
    refine kLdc C m_X7_enough_1 dX7_enough_7 ?_
    exact kRi C S h dX7_enough_9
