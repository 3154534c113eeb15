/-! ClawCaseModel.row(III)I, height 2 -/
theorem m_X8_row_2 : Cond.constant RX8 71 (-1000001) ∈ wsX8_row := List.mem_of_getElem? (i := 2) (by decide +kernel)
theorem m_X8_row_1 : Cond.constantLong RX8 69 (2) ∈ wsX8_row := List.mem_of_getElem? (i := 1) (by decide +kernel)
theorem m_X8_row_3 : Cond.fieldLink RX8 29 "ClawCaseModel" "isThere" "[Z" ∈ wsX8_row := List.mem_of_getElem? (i := 3) (by decide +kernel)
theorem n_X8_row_X8 : ∀ w ∈ wsX80, w ∈ wsX8_row := mem_by [25, 26, 27, 28, 29, 30, 31, 32, 33, 34, 35, 36, 37, 38, 39, 40, 41, 42, 43, 44, 45, 46, 47, 48] (by decide +kernel)
theorem m_X8_row_4 : Cond.fieldLink RX8 23 "ClawCaseModel" "lanes" "[I" ∈ wsX8_row := List.mem_of_getElem? (i := 4) (by decide +kernel)
theorem m_X8_row_5 : Cond.fieldLink RX8 26 "ClawCaseModel" "longs" "[I" ∈ wsX8_row := List.mem_of_getElem? (i := 5) (by decide +kernel)
theorem m_X8_row_6 : Cond.fieldLink RX8 32 "ClawCaseModel" "items" "[I" ∈ wsX8_row := List.mem_of_getElem? (i := 6) (by decide +kernel)
theorem cw_X8_row_X8_well {s : State} {args : Array Value} (ht : ∀ w ∈ wsX8_row, w.before args s = true) : CallW (rmD 2) s args RX8 RX8 76 yX8_well cX8_well 2 (some .int) wsX8_well (rmD (0)) 0 0 1 := cwV 1 ht gX8_row_X8_well rfl rfl rfl (by decide +kernel) ⟨Nat.le_of_ble_eq_true rfl, Nat.le_of_ble_eq_true rfl⟩
theorem cw_X8_row_X8_found {s : State} {args : Array Value} (ht : ∀ w ∈ wsX8_row, w.before args s = true) : CallW (rmD 2) s args RX8 RX8 72 yX8_found cX8_found 2 (some .int) wsX8_found (rmD (0)) 0 0 1 := cwV 1 ht gX8_row_X8_found rfl rfl rfl (by decide +kernel) ⟨Nat.le_of_ble_eq_true rfl, Nat.le_of_ble_eq_true rfl⟩
theorem cw_X8_row_X8_in {s : State} {args : Array Value} (ht : ∀ w ∈ wsX8_row, w.before args s = true) : CallB (rmD 2) s args RX8 61 yX8_in cX8_in 6 (some .boolean) wsX8_in (rmD (0)) 0 0 3 ∧ (Cond.static yX8_in).before args s = true := va_cwS 3 ht gX8_row_X8_in rfl rfl rfl (by decide +kernel) ⟨Nat.le_of_ble_eq_true rfl, Nat.le_of_ble_eq_true rfl⟩
theorem cw_X8_row_X8_isRow {s : State} {args : Array Value} (ht : ∀ w ∈ wsX8_row, w.before args s = true) : CallB (rmD 2) s args RX8 65 yX8_isRow cX8_isRow 1 (some .boolean) wsX8_isRow (rmD (1)) 0 0 1 ∧ (Cond.static yX8_isRow).before args s = true := va_cwS 1 ht gX8_row_X8_isRow rfl rfl rfl (by decide +kernel) ⟨Nat.le_of_ble_eq_true rfl, Nat.le_of_ble_eq_true rfl⟩
def o_X8_row_62 (Q : Int32 → Mm → Prop) (K88 : Mm → Int32 → Prop) : Nat → Mm → Int32 → Int32 → Int32 → Prop
  | 0, _, _, _, _ => False
  | n62 + 1, g, x1, x3, x4 => ((40 ≤ x4) → K88 g x3) ∧ ((¬ 40 ≤ x4) → vp_in ((40 * x1) + x4) 320 ∧ (∀ g_8 : Mm, g_8 = mset g 94 ((40 * x1) + x4 : Int32).toNatClampNeg 0 → (∀ x_9 : Int32, x_9 = x4 + 1 → (o_X8_row_62 Q K88 n62 g_8 x1 x3 x_9))))
set_option maxHeartbeats 4000000 in
set_option maxRecDepth 100000 in
theorem o_X8_row_62_w {p : Program} {l : Launch} {e : Env} {s : State} {m : MethodId} {args : Array Value} {below : List Frame} {meth : Method} {c : Code} {dC : Nat → ClassId} {dI : Nat → Nat → Nat} {cy : Nat → ClassId} {ad tz : Nat → Nat} {Q : Int32 → Mm → Prop} {K88 : Mm → Int32 → Prop} (C : CX p s m args meth c dC dI cy ad tz cX8_row 5 (some .int) RX8 wsX8_row) (hK88 : ∀ (g : Mm) (x3 : Int32) (H : Heap) (locs : List Loc) (ls : Array Slot), St dC dI cy ad s g H locs → lv_has ls 5 [(0, .ref (ad 86)), (3, .int x3)] → K88 g x3 → W p l e (rmD 2) s m args below meth c H locs 0 0 (QI dC dI cy ad below args s Q) (F0 m 88 ls [])) : ∀ (n : Nat) (g : Mm) (x1 : Int32) (x3 : Int32) (x4 : Int32) (H : Heap) (locs : List Loc) (ls : Array Slot), St dC dI cy ad s g H locs → lv_has ls 5 [(0, .ref (ad 86)), (1, .int x1), (3, .int x3), (4, .int x4)] → o_X8_row_62 Q K88 n g x1 x3 x4 → W p l e (rmD 2) s m args below meth c H locs 0 0 (QI dC dI cy ad below args s Q) (F0 m 62 ls []) := by
  have hx := C.1.1
  have hb := C.1.2.1
  intro n62
  induction n62 with
  | zero => intro g x1 x3 x4 H locs ls S hl h; exact h.elim
  | succ n62 ih =>
    intro g x1 x3 x4 H locs ls S hl h
    have h : ((40 ≤ x4) → K88 g x3) ∧ ((¬ 40 ≤ x4) → vp_in ((40 * x1) + x4) 320 ∧ (∀ g_8 : Mm, g_8 = mset g 94 ((40 * x1) + x4 : Int32).toNatClampNeg 0 → (∀ x_9 : Int32, x_9 = x4 + 1 → (o_X8_row_62 Q K88 n62 g_8 x1 x3 x_9)))) := h
    refine lv_iload hx hb dX8_row_62 (lv_at hl 3 rfl) ?_
    refine lv_bipush (v := 40) hx hb dX8_row_64 (by decide) ?_
    refine lv_icmp_ge (tgt := 88) hx hb dX8_row_66 (by decide) (fun c1 => ?_) (fun c1 => ?_)
    · have h := h.1 c1
      exact hK88 g x3 _ _ _ S (lv_sub hl [0, 2] rfl) h
    · have h := h.2 c1
      refine lv_aload_n hx hb dX8_row_69 rfl (lv_at hl 0 rfl) ?_
      refine kg8 (k := 9) (v := .ref (ad 94)) C S rfl (by decide) n_X8_row_X8 m_X8_row_6 rfl dX8_row_70 ?_
      refine lv_bipush (v := 40) hx hb dX8_row_73 (by decide) ?_
      refine lv_iload_n hx hb dX8_row_75 rfl (lv_at hl 1 rfl) ?_
      refine lv_imul hx hb dX8_row_76 ?_
      refine lv_iload hx hb dX8_row_77 (lv_at hl 3 rfl) ?_
      refine lv_iadd hx hb dX8_row_79 ?_
      refine lv_iconst (v := 0) hx hb dX8_row_80 (by decide) ?_
      obtain ⟨hi, h⟩ := h
      refine kSi C S rfl rfl hi dX8_row_81 (fun g_8 H locs eg_8 S => ?_)
      have h := h g_8 eg_8
      obtain ⟨x_9, ex_9⟩ : ∃ y : Int32, y = x4 + 1 := ⟨_, rfl⟩
      have h := h x_9 ex_9
      refine lv_iinc (v := x_9) (lv' := [(4, .int x_9), (0, .ref (ad 86)), (1, .int x1), (3, .int x3)]) hx hb dX8_row_82 hl (k := 3) rfl (by rw [ex_9]; rfl) (by decide) rfl (fun ls hl => ?_)
      refine lv_goto (tgt := 62) hx hb dX8_row_85 (by decide) ?_
      exact ih g_8 x1 x3 x_9 _ _ _ S (lv_sub hl [1, 2, 3, 0] rfl) h
def o_X8_row (Q : Int32 → Mm → Prop) (g : Mm) (x1 : Int32) (x2 : Int32) (x3 : Int32) : Prop := o_X8_isRow (fun (r_2 : Int32) (g_1 : Mm) => ((r_2 = 0) → Q (-1000001) g_1) ∧ ((¬ r_2 = 0) → o_X8_in (fun (r_4 : Int32) (g_3 : Mm) => ((r_4 = 0) → Q (-1000001) g_3) ∧ ((¬ r_4 = 0) → ((x3 ≤ 40) → ((0 ≤ x3) → vp_in x1 8 ∧ (∀ g_5 : Mm, g_5 = mset g_3 93 x1.toNatClampNeg (vp_nar .boolean 1) → (vp_in x1 8 ∧ (∀ g_6 : Mm, g_6 = mset g_5 91 x1.toNatClampNeg x2 → (vp_in x1 8 ∧ (∀ g_7 : Mm, g_7 = mset g_6 92 x1.toNatClampNeg x3 → (∃ n62, o_X8_row_62 Q (fun (g : Mm) (x3 : Int32) => o_X8_well (fun (r_11 : Int32) (g_10 : Mm) => Q r_11 g_10) g x3) n62 g_7 x1 x3 0))))))) ∧ ((¬ 0 ≤ x3) → o_X8_found (fun (r_13 : Int32) (g_12 : Mm) => Q r_13 g_12) g_3 4)) ∧ ((¬ x3 ≤ 40) → Q (-1000001) g_3))) g_1 ((x2 : Int32).toInt64) 0 2)) g x1
set_option maxHeartbeats 4000000 in
set_option maxRecDepth 100000 in
theorem o_X8_row_c {l : Launch} {dC : Nat → ClassId} {dI : Nat → Nat → Nat} {cy : Nat → ClassId} {ad tz : Nat → Nat} {Q : Int32 → Mm → Prop} {g : Mm} {x1 : Int32} {x2 : Int32} {x3 : Int32} (h : o_X8_row Q g x1 x2 x3) : CI l dC dI cy ad tz yX8_row wsX8_row (rmD 2) [.ref (ad 86), .int x1, .int x2, .int x3] g Q := by
  refine CI.of (by decide) rfl rfl (Nat.le_of_ble_eq_true rfl) ?_
  intro p e s m args below meth c ls C hl S
  have hl : lv_has ls 5 [(0, .ref (ad 86)), (1, .int x1), (2, .int x2), (3, .int x3)] := hl
  have hx := C.1.1
  have hb := C.1.2.1
  unfold o_X8_row at h
  refine lv_iload_n hx hb dX8_row_0 rfl (lv_at hl 1 rfl) ?_
  refine kS_i (As := [.int x1]) (rest := []) C S hl.1 (o_X8_isRow_c h) (cw_X8_row_X8_isRow C.1.2.2.2.2) rfl rfl (Nat.le_of_ble_eq_true rfl) dX8_row_1 (fun r_2 g_1 H locs h S => ?_)
  refine lv_if_eq (tgt := 25) hx hb dX8_row_4 (by decide) (fun c1 => ?_) (fun c1 => ?_)
  · have h := h.1 c1
    refine kLdc C m_X8_row_2 dX8_row_25 ?_
    exact kRi C S h dX8_row_27
  · have h := h.2 c1
    refine lv_iload_n hx hb dX8_row_7 rfl (lv_at hl 2 rfl) ?_
    refine lv_i2l hx hb dX8_row_8 rfl ?_
    refine lv_lconst (v := 0) hx hb dX8_row_9 (by decide) ?_
    refine kLdc2 C m_X8_row_1 dX8_row_10 ?_
    refine kS_i (As := [.long ((x2 : Int32).toInt64), .long 0, .long 2]) (rest := []) C S hl.1 (o_X8_in_c h) (cw_X8_row_X8_in C.1.2.2.2.2) rfl rfl (Nat.le_of_ble_eq_true rfl) dX8_row_13 (fun r_4 g_3 H locs h S => ?_)
    refine lv_if_eq (tgt := 25) hx hb dX8_row_16 (by decide) (fun c1 => ?_) (fun c1 => ?_)
    · have h := h.1 c1
      refine kLdc C m_X8_row_2 dX8_row_25 ?_
      exact kRi C S h dX8_row_27
    · have h := h.2 c1
      refine lv_iload_n hx hb dX8_row_19 rfl (lv_at hl 3 rfl) ?_
      refine lv_bipush (v := 40) hx hb dX8_row_20 (by decide) ?_
      refine lv_icmp_le (tgt := 28) hx hb dX8_row_22 (by decide) (fun c1 => ?_) (fun c1 => ?_)
      · have h := h.1 c1
        refine lv_iload_n hx hb dX8_row_28 rfl (lv_at hl 3 rfl) ?_
        refine lv_if_ge (tgt := 38) hx hb dX8_row_29 (by decide) (fun c1 => ?_) (fun c1 => ?_)
        · have h := h.1 c1
          refine lv_aload_n hx hb dX8_row_38 rfl (lv_at hl 0 rfl) ?_
          refine kg8 (k := 8) (v := .ref (ad 93)) C S rfl (by decide) n_X8_row_X8 m_X8_row_3 rfl dX8_row_39 ?_
          refine lv_iload_n hx hb dX8_row_42 rfl (lv_at hl 1 rfl) ?_
          refine lv_iconst (v := 1) hx hb dX8_row_43 (by decide) ?_
          obtain ⟨hi, h⟩ := h
          refine kSz C S rfl rfl hi dX8_row_44 (fun g_5 H locs eg_5 S => ?_)
          have h := h g_5 eg_5
          refine lv_aload_n hx hb dX8_row_45 rfl (lv_at hl 0 rfl) ?_
          refine kg8 (k := 6) (v := .ref (ad 91)) C S rfl (by decide) n_X8_row_X8 m_X8_row_4 rfl dX8_row_46 ?_
          refine lv_iload_n hx hb dX8_row_49 rfl (lv_at hl 1 rfl) ?_
          refine lv_iload_n hx hb dX8_row_50 rfl (lv_at hl 2 rfl) ?_
          obtain ⟨hi, h⟩ := h
          refine kSi C S rfl rfl hi dX8_row_51 (fun g_6 H locs eg_6 S => ?_)
          have h := h g_6 eg_6
          refine lv_aload_n hx hb dX8_row_52 rfl (lv_at hl 0 rfl) ?_
          refine kg8 (k := 7) (v := .ref (ad 92)) C S rfl (by decide) n_X8_row_X8 m_X8_row_5 rfl dX8_row_53 ?_
          refine lv_iload_n hx hb dX8_row_56 rfl (lv_at hl 1 rfl) ?_
          refine lv_iload_n hx hb dX8_row_57 rfl (lv_at hl 3 rfl) ?_
          obtain ⟨hi, h⟩ := h
          refine kSi C S rfl rfl hi dX8_row_58 (fun g_7 H locs eg_7 S => ?_)
          have h := h g_7 eg_7
          refine lv_iconst (v := 0) hx hb dX8_row_59 (by decide) ?_
          refine lv_istore (lv' := [(4, .int 0), (0, .ref (ad 86)), (1, .int x1), (2, .int x2), (3, .int x3)]) hx hb dX8_row_60 hl (by decide) rfl (fun ls hl => ?_)
          obtain ⟨n62, h⟩ := h
          refine o_X8_row_62_w C ?_ n62 g_7 x1 x3 0 _ _ _ S (lv_sub hl [1, 2, 4, 0] rfl) h
          · intro g x3 H locs ls S hl h
            refine lv_aload_n hx hb dX8_row_88 rfl (lv_at hl 0 rfl) ?_
            refine lv_iload_n hx hb dX8_row_89 rfl (lv_at hl 1 rfl) ?_
            refine kV_i (As := [.int x3]) (rest := []) C S hl.1 (o_X8_well_c h) (wd_o8 rfl) rfl (cw_X8_row_X8_well C.1.2.2.2.2) rfl rfl (Nat.le_of_ble_eq_true rfl) dX8_row_90 (fun r_11 g_10 H locs h S => ?_)
            exact kRi C S h dX8_row_93
        · have h := h.2 c1
          refine lv_aload_n hx hb dX8_row_32 rfl (lv_at hl 0 rfl) ?_
          refine lv_iconst (v := 4) hx hb dX8_row_33 (by decide) ?_
          refine kV_i (As := [.int 4]) (rest := []) C S hl.1 (o_X8_found_c h) (wd_o8 rfl) rfl (cw_X8_row_X8_found C.1.2.2.2.2) rfl rfl (Nat.le_of_ble_eq_true rfl) dX8_row_34 (fun r_13 g_12 H locs h S => ?_)
          exact kRi C S h dX8_row_37
      · have h := h.2 c1
        refine kLdc C m_X8_row_2 dX8_row_25 ?_
        exact kRi C S h dX8_row_27
/-! ClawCaseModel.set(III)I, height 2 -/
theorem m_X8_set_2 : Cond.fieldLink RX8 29 "ClawCaseModel" "isThere" "[Z" ∈ wsX8_set := List.mem_of_getElem? (i := 2) (by decide +kernel)
theorem n_X8_set_X8 : ∀ w ∈ wsX80, w ∈ wsX8_set := mem_by [24, 25, 26, 27, 28, 29, 30, 31, 32, 33, 34, 35, 36, 37, 38, 39, 40, 41, 42, 43, 44, 45, 46, 47] (by decide +kernel)
theorem m_X8_set_3 : Cond.fieldLink RX8 26 "ClawCaseModel" "longs" "[I" ∈ wsX8_set := List.mem_of_getElem? (i := 3) (by decide +kernel)
theorem m_X8_set_4 : Cond.fieldLink RX8 23 "ClawCaseModel" "lanes" "[I" ∈ wsX8_set := List.mem_of_getElem? (i := 4) (by decide +kernel)
theorem m_X8_set_5 : Cond.fieldLink RX8 32 "ClawCaseModel" "items" "[I" ∈ wsX8_set := List.mem_of_getElem? (i := 5) (by decide +kernel)
theorem cw_X8_set_X8_well {s : State} {args : Array Value} (ht : ∀ w ∈ wsX8_set, w.before args s = true) : CallW (rmD 2) s args RX8 RX8 76 yX8_well cX8_well 2 (some .int) wsX8_well (rmD (0)) 0 0 1 := cwV 1 ht gX8_set_X8_well rfl rfl rfl (by decide +kernel) ⟨Nat.le_of_ble_eq_true rfl, Nat.le_of_ble_eq_true rfl⟩
theorem cw_X8_set_X8_found {s : State} {args : Array Value} (ht : ∀ w ∈ wsX8_set, w.before args s = true) : CallW (rmD 2) s args RX8 RX8 72 yX8_found cX8_found 2 (some .int) wsX8_found (rmD (0)) 0 0 1 := cwV 1 ht gX8_set_X8_found rfl rfl rfl (by decide +kernel) ⟨Nat.le_of_ble_eq_true rfl, Nat.le_of_ble_eq_true rfl⟩
theorem cw_X8_set_X8_in {s : State} {args : Array Value} (ht : ∀ w ∈ wsX8_set, w.before args s = true) : CallB (rmD 2) s args RX8 61 yX8_in cX8_in 6 (some .boolean) wsX8_in (rmD (0)) 0 0 3 ∧ (Cond.static yX8_in).before args s = true := va_cwS 3 ht gX8_set_X8_in rfl rfl rfl (by decide +kernel) ⟨Nat.le_of_ble_eq_true rfl, Nat.le_of_ble_eq_true rfl⟩
theorem m_X8_set_1 : Cond.constant RX8 71 (-1000001) ∈ wsX8_set := List.mem_of_getElem? (i := 1) (by decide +kernel)
theorem cw_X8_set_X8_isRow {s : State} {args : Array Value} (ht : ∀ w ∈ wsX8_set, w.before args s = true) : CallB (rmD 2) s args RX8 65 yX8_isRow cX8_isRow 1 (some .boolean) wsX8_isRow (rmD (1)) 0 0 1 ∧ (Cond.static yX8_isRow).before args s = true := va_cwS 1 ht gX8_set_X8_isRow rfl rfl rfl (by decide +kernel) ⟨Nat.le_of_ble_eq_true rfl, Nat.le_of_ble_eq_true rfl⟩
def o_X8_set_89 (Q : Int32 → Mm → Prop) (g : Mm) (x1 : Int32) (x2 : Int32) (s0 : Int32) : Prop := vp_in ((40 * x1) + x2) 320 ∧ (∀ g_5 : Mm, g_5 = mset g 94 ((40 * x1) + x2 : Int32).toNatClampNeg s0 → (o_X8_well (fun (r_7 : Int32) (g_6 : Mm) => Q r_7 g_6) g_5 s0))
set_option maxHeartbeats 4000000 in
set_option maxRecDepth 100000 in
theorem o_X8_set_89_w {p : Program} {l : Launch} {e : Env} {s : State} {m : MethodId} {args : Array Value} {below : List Frame} {meth : Method} {c : Code} {dC : Nat → ClassId} {dI : Nat → Nat → Nat} {cy : Nat → ClassId} {ad tz : Nat → Nat} {Q : Int32 → Mm → Prop} (C : CX p s m args meth c dC dI cy ad tz cX8_set 5 (some .int) RX8 wsX8_set) : ∀ (g : Mm) (x1 : Int32) (x2 : Int32) (s0 : Int32) (H : Heap) (locs : List Loc) (ls : Array Slot), St dC dI cy ad s g H locs → lv_has ls 5 [(0, .ref (ad 86)), (1, .int x1), (2, .int x2)] → o_X8_set_89 Q g x1 x2 s0 → W p l e (rmD 2) s m args below meth c H locs 0 0 (QI dC dI cy ad below args s Q) (F0 m 89 ls [.int s0]) := by
  have hx := C.1.1
  have hb := C.1.2.1
  intro g x1 x2 s0 H locs ls S hl h
  unfold o_X8_set_89 at h
  refine lv_istore (lv' := [(4, .int s0), (0, .ref (ad 86)), (1, .int x1), (2, .int x2)]) hx hb dX8_set_89 hl (by decide) rfl (fun ls hl => ?_)
  refine lv_aload_n hx hb dX8_set_91 rfl (lv_at hl 1 rfl) ?_
  refine kg8 (k := 9) (v := .ref (ad 94)) C S rfl (by decide) n_X8_set_X8 m_X8_set_5 rfl dX8_set_92 ?_
  refine lv_bipush (v := 40) hx hb dX8_set_95 (by decide) ?_
  refine lv_iload_n hx hb dX8_set_97 rfl (lv_at hl 2 rfl) ?_
  refine lv_imul hx hb dX8_set_98 ?_
  refine lv_iload_n hx hb dX8_set_99 rfl (lv_at hl 3 rfl) ?_
  refine lv_iadd hx hb dX8_set_100 ?_
  refine lv_iload hx hb dX8_set_101 (lv_at hl 0 rfl) ?_
  obtain ⟨hi, h⟩ := h
  refine kSi C S rfl rfl hi dX8_set_103 (fun g_5 H locs eg_5 S => ?_)
  have h := h g_5 eg_5
  refine lv_aload_n hx hb dX8_set_104 rfl (lv_at hl 1 rfl) ?_
  refine lv_iload hx hb dX8_set_105 (lv_at hl 0 rfl) ?_
  refine kV_i (As := [.int s0]) (rest := []) C S hl.1 (o_X8_well_c h) (wd_o8 rfl) rfl (cw_X8_set_X8_well C.1.2.2.2.2) rfl rfl (Nat.le_of_ble_eq_true rfl) dX8_set_107 (fun r_7 g_6 H locs h S => ?_)
  exact kRi C S h dX8_set_110
def o_X8_set (Q : Int32 → Mm → Prop) (g : Mm) (x1 : Int32) (x2 : Int32) (x3 : Int32) : Prop := o_X8_isRow (fun (r_2 : Int32) (g_1 : Mm) => ((¬ r_2 = 0) → vp_in x1 8 ∧ (((¬ (g_1.1 93 x1.toNatClampNeg) = 0) → vp_in x1 8 ∧ (o_X8_in (fun (r_4 : Int32) (g_3 : Mm) => ((¬ r_4 = 0) → vp_in x1 8 ∧ (((¬ (g_3.1 91 x1.toNatClampNeg) = 0) → vp_in x1 8 ∧ (((¬ (g_3.1 91 x1.toNatClampNeg) = 1) → o_X8_set_89 Q g_3 x1 x2 x3) ∧ (((g_3.1 91 x1.toNatClampNeg) = 1) → o_X8_set_89 Q g_3 x1 x2 ((x3 <<< (16 &&& 31)) >>> (16 &&& 31))))) ∧ (((g_3.1 91 x1.toNatClampNeg) = 0) → o_X8_set_89 Q g_3 x1 x2 ((x3 <<< (24 &&& 31)) >>> (24 &&& 31))))) ∧ ((r_4 = 0) → o_X8_found (fun (r_9 : Int32) (g_8 : Mm) => Q r_9 g_8) g_3 2)) g_1 ((x2 : Int32).toInt64) 0 (((g_1.1 92 x1.toNatClampNeg) - 1 : Int32).toInt64))) ∧ (((g_1.1 93 x1.toNatClampNeg) = 0) → o_X8_found (fun (r_11 : Int32) (g_10 : Mm) => Q r_11 g_10) g_1 1))) ∧ ((r_2 = 0) → Q (-1000001) g_1)) g x1
set_option maxHeartbeats 4000000 in
set_option maxRecDepth 100000 in
theorem o_X8_set_c {l : Launch} {dC : Nat → ClassId} {dI : Nat → Nat → Nat} {cy : Nat → ClassId} {ad tz : Nat → Nat} {Q : Int32 → Mm → Prop} {g : Mm} {x1 : Int32} {x2 : Int32} {x3 : Int32} (h : o_X8_set Q g x1 x2 x3) : CI l dC dI cy ad tz yX8_set wsX8_set (rmD 2) [.ref (ad 86), .int x1, .int x2, .int x3] g Q := by
  refine CI.of (by decide) rfl rfl (Nat.le_of_ble_eq_true rfl) ?_
  intro p e s m args below meth c ls C hl S
  have hl : lv_has ls 5 [(0, .ref (ad 86)), (1, .int x1), (2, .int x2), (3, .int x3)] := hl
  have hx := C.1.1
  have hb := C.1.2.1
  unfold o_X8_set at h
  refine lv_iload_n hx hb dX8_set_0 rfl (lv_at hl 1 rfl) ?_
  refine kS_i (As := [.int x1]) (rest := []) C S hl.1 (o_X8_isRow_c h) (cw_X8_set_X8_isRow C.1.2.2.2.2) rfl rfl (Nat.le_of_ble_eq_true rfl) dX8_set_1 (fun r_2 g_1 H locs h S => ?_)
  refine lv_if_ne (tgt := 10) hx hb dX8_set_4 (by decide) (fun c1 => ?_) (fun c1 => ?_)
  · have h := h.1 c1
    refine lv_aload_n hx hb dX8_set_10 rfl (lv_at hl 0 rfl) ?_
    refine kg8 (k := 8) (v := .ref (ad 93)) C S rfl (by decide) n_X8_set_X8 m_X8_set_2 rfl dX8_set_11 ?_
    refine lv_iload_n hx hb dX8_set_14 rfl (lv_at hl 1 rfl) ?_
    obtain ⟨hi, h⟩ := h
    refine kLz C S rfl rfl hi dX8_set_15 ?_
    refine lv_if_ne (tgt := 25) hx hb dX8_set_16 (by decide) (fun c1 => ?_) (fun c1 => ?_)
    · have h := h.1 c1
      refine lv_iload_n hx hb dX8_set_25 rfl (lv_at hl 2 rfl) ?_
      refine lv_i2l hx hb dX8_set_26 rfl ?_
      refine lv_lconst (v := 0) hx hb dX8_set_27 (by decide) ?_
      refine lv_aload_n hx hb dX8_set_28 rfl (lv_at hl 0 rfl) ?_
      refine kg8 (k := 7) (v := .ref (ad 92)) C S rfl (by decide) n_X8_set_X8 m_X8_set_3 rfl dX8_set_29 ?_
      refine lv_iload_n hx hb dX8_set_32 rfl (lv_at hl 1 rfl) ?_
      obtain ⟨hi, h⟩ := h
      refine kLi C S rfl rfl hi dX8_set_33 ?_
      refine lv_iconst (v := 1) hx hb dX8_set_34 (by decide) ?_
      refine lv_isub hx hb dX8_set_35 ?_
      refine lv_i2l hx hb dX8_set_36 rfl ?_
      refine kS_i (As := [.long ((x2 : Int32).toInt64), .long 0, .long (((g_1.1 92 x1.toNatClampNeg) - 1 : Int32).toInt64)]) (rest := []) C S hl.1 (o_X8_in_c h) (cw_X8_set_X8_in C.1.2.2.2.2) rfl rfl (Nat.le_of_ble_eq_true rfl) dX8_set_37 (fun r_4 g_3 H locs h S => ?_)
      refine lv_if_ne (tgt := 49) hx hb dX8_set_40 (by decide) (fun c1 => ?_) (fun c1 => ?_)
      · have h := h.1 c1
        refine lv_aload_n hx hb dX8_set_49 rfl (lv_at hl 0 rfl) ?_
        refine kg8 (k := 6) (v := .ref (ad 91)) C S rfl (by decide) n_X8_set_X8 m_X8_set_4 rfl dX8_set_50 ?_
        refine lv_iload_n hx hb dX8_set_53 rfl (lv_at hl 1 rfl) ?_
        obtain ⟨hi, h⟩ := h
        refine kLi C S rfl rfl hi dX8_set_54 ?_
        refine lv_if_ne (tgt := 68) hx hb dX8_set_55 (by decide) (fun c1 => ?_) (fun c1 => ?_)
        · have h := h.1 c1
          refine lv_aload_n hx hb dX8_set_68 rfl (lv_at hl 0 rfl) ?_
          refine kg8 (k := 6) (v := .ref (ad 91)) C S rfl (by decide) n_X8_set_X8 m_X8_set_4 rfl dX8_set_69 ?_
          refine lv_iload_n hx hb dX8_set_72 rfl (lv_at hl 1 rfl) ?_
          obtain ⟨hi, h⟩ := h
          refine kLi C S rfl rfl hi dX8_set_73 ?_
          refine lv_iconst (v := 1) hx hb dX8_set_74 (by decide) ?_
          refine lv_icmp_ne (tgt := 88) hx hb dX8_set_75 (by decide) (fun c1 => ?_) (fun c1 => ?_)
          · have h := h.1 c1
            refine lv_iload_n hx hb dX8_set_88 rfl (lv_at hl 3 rfl) ?_
            exact o_X8_set_89_w C g_3 x1 x2 x3 _ _ _ S (lv_sub hl [0, 1, 2] rfl) h
          · have h := h.2 c1
            refine lv_iload_n hx hb dX8_set_78 rfl (lv_at hl 3 rfl) ?_
            refine lv_bipush (v := 16) hx hb dX8_set_79 (by decide) ?_
            refine lv_ishl hx hb dX8_set_81 ?_
            refine lv_bipush (v := 16) hx hb dX8_set_82 (by decide) ?_
            refine lv_ishr hx hb dX8_set_84 ?_
            refine lv_goto (tgt := 89) hx hb dX8_set_85 (by decide) ?_
            exact o_X8_set_89_w C g_3 x1 x2 ((x3 <<< (16 &&& 31)) >>> (16 &&& 31)) _ _ _ S (lv_sub hl [0, 1, 2] rfl) h
        · have h := h.2 c1
          refine lv_iload_n hx hb dX8_set_58 rfl (lv_at hl 3 rfl) ?_
          refine lv_bipush (v := 24) hx hb dX8_set_59 (by decide) ?_
          refine lv_ishl hx hb dX8_set_61 ?_
          refine lv_bipush (v := 24) hx hb dX8_set_62 (by decide) ?_
          refine lv_ishr hx hb dX8_set_64 ?_
          refine lv_goto (tgt := 89) hx hb dX8_set_65 (by decide) ?_
          exact o_X8_set_89_w C g_3 x1 x2 ((x3 <<< (24 &&& 31)) >>> (24 &&& 31)) _ _ _ S (lv_sub hl [0, 1, 2] rfl) h
      · have h := h.2 c1
        refine lv_aload_n hx hb dX8_set_43 rfl (lv_at hl 0 rfl) ?_
        refine lv_iconst (v := 2) hx hb dX8_set_44 (by decide) ?_
        refine kV_i (As := [.int 2]) (rest := []) C S hl.1 (o_X8_found_c h) (wd_o8 rfl) rfl (cw_X8_set_X8_found C.1.2.2.2.2) rfl rfl (Nat.le_of_ble_eq_true rfl) dX8_set_45 (fun r_9 g_8 H locs h S => ?_)
        exact kRi C S h dX8_set_48
    · have h := h.2 c1
      refine lv_aload_n hx hb dX8_set_19 rfl (lv_at hl 0 rfl) ?_
      refine lv_iconst (v := 1) hx hb dX8_set_20 (by decide) ?_
      refine kV_i (As := [.int 1]) (rest := []) C S hl.1 (o_X8_found_c h) (wd_o8 rfl) rfl (cw_X8_set_X8_found C.1.2.2.2.2) rfl rfl (Nat.le_of_ble_eq_true rfl) dX8_set_21 (fun r_11 g_10 H locs h S => ?_)
      exact kRi C S h dX8_set_24
  · have h := h.2 c1
    refine kLdc C m_X8_set_1 dX8_set_7 ?_
    exact kRi C S h dX8_set_9
/-! ClawCaseModel.shareOf(II)I, height 1 -/
theorem m_X8_shareOf_1 : Cond.fieldLink RX8 7 "ClawCaseModel" "now" "[I" ∈ wsX8_shareOf := List.mem_of_getElem? (i := 1) (by decide +kernel)
theorem n_X8_shareOf_X8 : ∀ w ∈ wsX80, w ∈ wsX8_shareOf := mem_by [11, 12, 13, 14, 15, 16, 17, 18, 19, 20, 21, 22, 23, 24, 25, 26, 27, 28, 29, 30, 31, 32, 33, 34] (by decide +kernel)
theorem cw_X8_shareOf_X8_toys {s : State} {args : Array Value} (ht : ∀ w ∈ wsX8_shareOf, w.before args s = true) : CallW (rmD 1) s args RX8 RX8 140 yX8_toys cX8_toys 1 (some .int) wsX8_toys (rmD (0)) 0 0 0 := cwV 0 ht gX8_shareOf_X8_toys rfl rfl rfl (by decide +kernel) ⟨Nat.le_of_ble_eq_true rfl, Nat.le_of_ble_eq_true rfl⟩
theorem cw_X8_shareOf_X8_wonWeight {s : State} {args : Array Value} (ht : ∀ w ∈ wsX8_shareOf, w.before args s = true) : CallW (rmD 1) s args RX8 RX8 213 yX8_wonWeight cX8_wonWeight 5 (some .int) wsX8_wonWeight (rmD (0)) 0 0 2 := cwV 2 ht gX8_shareOf_X8_wonWeight rfl rfl rfl (by decide +kernel) ⟨Nat.le_of_ble_eq_true rfl, Nat.le_of_ble_eq_true rfl⟩
def o_X8_shareOf_94 (Q : Int32 → Mm → Prop) (K19 : Mm → Int32 → Int32 → Int32 → Int32 → Int32 → Int32 → Prop) (K103 : Mm → Int32 → Int32 → Int32 → Int32 → Int32 → Prop) (g : Mm) (x1 : Int32) (x2 : Int32) (x3 : Int32) (x4 : Int32) (x6 : Int32) (s0 : Int32) (s1 : Int32) : Prop := ∀ x_6 : Int32, x_6 = (s0 + s1) → (∀ x_7 : Int32, x_7 = x6 + 1 → (K19 g x1 x2 x3 x4 x_6 x_7))
def o_X8_shareOf_93 (Q : Int32 → Mm → Prop) (K19 : Mm → Int32 → Int32 → Int32 → Int32 → Int32 → Int32 → Prop) (K103 : Mm → Int32 → Int32 → Int32 → Int32 → Int32 → Prop) (g : Mm) (x1 : Int32) (x2 : Int32) (x3 : Int32) (x4 : Int32) (x6 : Int32) (s0 : Int32) : Prop := o_X8_shareOf_94 Q K19 K103 g x1 x2 x3 x4 x6 s0 0
def o_X8_shareOf_73 (Q : Int32 → Mm → Prop) (K19 : Mm → Int32 → Int32 → Int32 → Int32 → Int32 → Int32 → Prop) (K103 : Mm → Int32 → Int32 → Int32 → Int32 → Int32 → Prop) (g : Mm) (x1 : Int32) (x2 : Int32) (x3 : Int32) (x5 : Int32) (x6 : Int32) (x7 : Int32) (s0 : Int32) (s1 : Int32) : Prop := ∀ x_5 : Int32, x_5 = (s0 - s1) → (((x7 = 0) → o_X8_shareOf_93 Q K19 K103 g x1 x2 x3 x_5 x6 x5) ∧ ((¬ x7 = 0) → ((x1 ≤ x6) → o_X8_shareOf_93 Q K19 K103 g x1 x2 x3 x_5 x6 x5) ∧ ((¬ x1 ≤ x6) → o_X8_shareOf_94 Q K19 K103 g x1 x2 x3 x_5 x6 x5 1)))
def o_X8_shareOf_46 (Q : Int32 → Mm → Prop) (K19 : Mm → Int32 → Int32 → Int32 → Int32 → Int32 → Int32 → Prop) (K103 : Mm → Int32 → Int32 → Int32 → Int32 → Int32 → Prop) (g : Mm) (x1 : Int32) (x2 : Int32) (x3 : Int32) (x4 : Int32) (x5 : Int32) (x6 : Int32) (s0 : Int32) : Prop := ((s0 = 0) → o_X8_shareOf_73 Q K19 K103 g x1 x2 x3 x5 x6 s0 x4 0) ∧ ((¬ s0 = 0) → vp_in (8 + x6) 33 ∧ (¬ (x3 : Int32) = 0 ∧ (o_X8_shareOf_73 Q K19 K103 g x1 x2 x3 x5 x6 s0 x4 ((x2 * (g.1 87 (8 + x6 : Int32).toNatClampNeg)) / x3))))
def o_X8_shareOf_19 (Q : Int32 → Mm → Prop) (K103 : Mm → Int32 → Int32 → Int32 → Int32 → Int32 → Prop) : Nat → Mm → Int32 → Int32 → Int32 → Int32 → Int32 → Int32 → Prop
  | 0, _, _, _, _, _, _, _ => False
  | n19 + 1, g, x1, x2, x3, x4, x5, x6 => o_X8_toys (fun (r_4 : Int32) (g_3 : Mm) => ((r_4 ≤ x6) → K103 g_3 x1 x2 x3 x4 x5) ∧ ((¬ r_4 ≤ x6) → vp_in (19 + x6) 33 ∧ (((¬ (g_3.1 87 (19 + x6 : Int32).toNatClampNeg) = 0) → o_X8_shareOf_46 Q (o_X8_shareOf_19 Q K103 n19) K103 g_3 x1 x2 x3 x4 x5 x6 0) ∧ (((g_3.1 87 (19 + x6 : Int32).toNatClampNeg) = 0) → o_X8_shareOf_46 Q (o_X8_shareOf_19 Q K103 n19) K103 g_3 x1 x2 x3 x4 x5 x6 1)))) g
set_option maxHeartbeats 4000000 in
set_option maxRecDepth 100000 in
theorem o_X8_shareOf_94_w {p : Program} {l : Launch} {e : Env} {s : State} {m : MethodId} {args : Array Value} {below : List Frame} {meth : Method} {c : Code} {dC : Nat → ClassId} {dI : Nat → Nat → Nat} {cy : Nat → ClassId} {ad tz : Nat → Nat} {Q : Int32 → Mm → Prop} {K19 : Mm → Int32 → Int32 → Int32 → Int32 → Int32 → Int32 → Prop} {K103 : Mm → Int32 → Int32 → Int32 → Int32 → Int32 → Prop} (C : CX p s m args meth c dC dI cy ad tz cX8_shareOf 8 (some .int) RX8 wsX8_shareOf) (hK19 : ∀ (g : Mm) (x1 : Int32) (x2 : Int32) (x3 : Int32) (x4 : Int32) (x5 : Int32) (x6 : Int32) (H : Heap) (locs : List Loc) (ls : Array Slot), St dC dI cy ad s g H locs → lv_has ls 8 [(0, .ref (ad 86)), (1, .int x1), (2, .int x2), (3, .int x3), (4, .int x4), (5, .int x5), (6, .int x6)] → K19 g x1 x2 x3 x4 x5 x6 → W p l e (rmD 1) s m args below meth c H locs 0 0 (QI dC dI cy ad below args s Q) (F0 m 19 ls [])) (hK103 : ∀ (g : Mm) (x1 : Int32) (x2 : Int32) (x3 : Int32) (x4 : Int32) (x5 : Int32) (H : Heap) (locs : List Loc) (ls : Array Slot), St dC dI cy ad s g H locs → lv_has ls 8 [(0, .ref (ad 86)), (1, .int x1), (2, .int x2), (3, .int x3), (4, .int x4), (5, .int x5)] → K103 g x1 x2 x3 x4 x5 → W p l e (rmD 1) s m args below meth c H locs 0 0 (QI dC dI cy ad below args s Q) (F0 m 103 ls [])) : ∀ (g : Mm) (x1 : Int32) (x2 : Int32) (x3 : Int32) (x4 : Int32) (x6 : Int32) (s0 : Int32) (s1 : Int32) (H : Heap) (locs : List Loc) (ls : Array Slot), St dC dI cy ad s g H locs → lv_has ls 8 [(0, .ref (ad 86)), (1, .int x1), (2, .int x2), (3, .int x3), (4, .int x4), (6, .int x6)] → o_X8_shareOf_94 Q K19 K103 g x1 x2 x3 x4 x6 s0 s1 → W p l e (rmD 1) s m args below meth c H locs 0 0 (QI dC dI cy ad below args s Q) (F0 m 94 ls [.int s1, .int s0]) := by
  have hx := C.1.1
  have hb := C.1.2.1
  intro g x1 x2 x3 x4 x6 s0 s1 H locs ls S hl h
  unfold o_X8_shareOf_94 at h
  refine lv_iadd hx hb dX8_shareOf_94 ?_
  refine lv_topi (fun x_6 ex_6 => ?_)
  have h := h x_6 ex_6
  refine lv_istore (lv' := [(5, .int x_6), (0, .ref (ad 86)), (1, .int x1), (2, .int x2), (3, .int x3), (4, .int x4), (6, .int x6)]) hx hb dX8_shareOf_95 hl (by decide) rfl (fun ls hl => ?_)
  obtain ⟨x_7, ex_7⟩ : ∃ y : Int32, y = x6 + 1 := ⟨_, rfl⟩
  have h := h x_7 ex_7
  refine lv_iinc (v := x_7) (lv' := [(6, .int x_7), (5, .int x_6), (0, .ref (ad 86)), (1, .int x1), (2, .int x2), (3, .int x3), (4, .int x4)]) hx hb dX8_shareOf_97 hl (k := 6) rfl (by rw [ex_7]; rfl) (by decide) rfl (fun ls hl => ?_)
  refine lv_goto (tgt := 19) hx hb dX8_shareOf_100 (by decide) ?_
  exact hK19 g x1 x2 x3 x4 x_6 x_7 _ _ _ S (lv_sub hl [2, 3, 4, 5, 6, 1, 0] rfl) h
set_option maxHeartbeats 4000000 in
set_option maxRecDepth 100000 in
theorem o_X8_shareOf_93_w {p : Program} {l : Launch} {e : Env} {s : State} {m : MethodId} {args : Array Value} {below : List Frame} {meth : Method} {c : Code} {dC : Nat → ClassId} {dI : Nat → Nat → Nat} {cy : Nat → ClassId} {ad tz : Nat → Nat} {Q : Int32 → Mm → Prop} {K19 : Mm → Int32 → Int32 → Int32 → Int32 → Int32 → Int32 → Prop} {K103 : Mm → Int32 → Int32 → Int32 → Int32 → Int32 → Prop} (C : CX p s m args meth c dC dI cy ad tz cX8_shareOf 8 (some .int) RX8 wsX8_shareOf) (hK19 : ∀ (g : Mm) (x1 : Int32) (x2 : Int32) (x3 : Int32) (x4 : Int32) (x5 : Int32) (x6 : Int32) (H : Heap) (locs : List Loc) (ls : Array Slot), St dC dI cy ad s g H locs → lv_has ls 8 [(0, .ref (ad 86)), (1, .int x1), (2, .int x2), (3, .int x3), (4, .int x4), (5, .int x5), (6, .int x6)] → K19 g x1 x2 x3 x4 x5 x6 → W p l e (rmD 1) s m args below meth c H locs 0 0 (QI dC dI cy ad below args s Q) (F0 m 19 ls [])) (hK103 : ∀ (g : Mm) (x1 : Int32) (x2 : Int32) (x3 : Int32) (x4 : Int32) (x5 : Int32) (H : Heap) (locs : List Loc) (ls : Array Slot), St dC dI cy ad s g H locs → lv_has ls 8 [(0, .ref (ad 86)), (1, .int x1), (2, .int x2), (3, .int x3), (4, .int x4), (5, .int x5)] → K103 g x1 x2 x3 x4 x5 → W p l e (rmD 1) s m args below meth c H locs 0 0 (QI dC dI cy ad below args s Q) (F0 m 103 ls [])) : ∀ (g : Mm) (x1 : Int32) (x2 : Int32) (x3 : Int32) (x4 : Int32) (x6 : Int32) (s0 : Int32) (H : Heap) (locs : List Loc) (ls : Array Slot), St dC dI cy ad s g H locs → lv_has ls 8 [(0, .ref (ad 86)), (1, .int x1), (2, .int x2), (3, .int x3), (4, .int x4), (6, .int x6)] → o_X8_shareOf_93 Q K19 K103 g x1 x2 x3 x4 x6 s0 → W p l e (rmD 1) s m args below meth c H locs 0 0 (QI dC dI cy ad below args s Q) (F0 m 93 ls [.int s0]) := by
  have hx := C.1.1
  have hb := C.1.2.1
  intro g x1 x2 x3 x4 x6 s0 H locs ls S hl h
  unfold o_X8_shareOf_93 at h
  refine lv_iconst (v := 0) hx hb dX8_shareOf_93 (by decide) ?_
  exact o_X8_shareOf_94_w C hK19 hK103 g x1 x2 x3 x4 x6 s0 0 _ _ _ S (lv_sub hl [0, 1, 2, 3, 4, 5] rfl) h
set_option maxHeartbeats 4000000 in
set_option maxRecDepth 100000 in
theorem o_X8_shareOf_73_w {p : Program} {l : Launch} {e : Env} {s : State} {m : MethodId} {args : Array Value} {below : List Frame} {meth : Method} {c : Code} {dC : Nat → ClassId} {dI : Nat → Nat → Nat} {cy : Nat → ClassId} {ad tz : Nat → Nat} {Q : Int32 → Mm → Prop} {K19 : Mm → Int32 → Int32 → Int32 → Int32 → Int32 → Int32 → Prop} {K103 : Mm → Int32 → Int32 → Int32 → Int32 → Int32 → Prop} (C : CX p s m args meth c dC dI cy ad tz cX8_shareOf 8 (some .int) RX8 wsX8_shareOf) (hK19 : ∀ (g : Mm) (x1 : Int32) (x2 : Int32) (x3 : Int32) (x4 : Int32) (x5 : Int32) (x6 : Int32) (H : Heap) (locs : List Loc) (ls : Array Slot), St dC dI cy ad s g H locs → lv_has ls 8 [(0, .ref (ad 86)), (1, .int x1), (2, .int x2), (3, .int x3), (4, .int x4), (5, .int x5), (6, .int x6)] → K19 g x1 x2 x3 x4 x5 x6 → W p l e (rmD 1) s m args below meth c H locs 0 0 (QI dC dI cy ad below args s Q) (F0 m 19 ls [])) (hK103 : ∀ (g : Mm) (x1 : Int32) (x2 : Int32) (x3 : Int32) (x4 : Int32) (x5 : Int32) (H : Heap) (locs : List Loc) (ls : Array Slot), St dC dI cy ad s g H locs → lv_has ls 8 [(0, .ref (ad 86)), (1, .int x1), (2, .int x2), (3, .int x3), (4, .int x4), (5, .int x5)] → K103 g x1 x2 x3 x4 x5 → W p l e (rmD 1) s m args below meth c H locs 0 0 (QI dC dI cy ad below args s Q) (F0 m 103 ls [])) : ∀ (g : Mm) (x1 : Int32) (x2 : Int32) (x3 : Int32) (x5 : Int32) (x6 : Int32) (x7 : Int32) (s0 : Int32) (s1 : Int32) (H : Heap) (locs : List Loc) (ls : Array Slot), St dC dI cy ad s g H locs → lv_has ls 8 [(0, .ref (ad 86)), (1, .int x1), (2, .int x2), (3, .int x3), (5, .int x5), (6, .int x6), (7, .int x7)] → o_X8_shareOf_73 Q K19 K103 g x1 x2 x3 x5 x6 x7 s0 s1 → W p l e (rmD 1) s m args below meth c H locs 0 0 (QI dC dI cy ad below args s Q) (F0 m 73 ls [.int s1, .int s0]) := by
  have hx := C.1.1
  have hb := C.1.2.1
  intro g x1 x2 x3 x5 x6 x7 s0 s1 H locs ls S hl h
  unfold o_X8_shareOf_73 at h
  refine lv_isub hx hb dX8_shareOf_73 ?_
  refine lv_topi (fun x_5 ex_5 => ?_)
  have h := h x_5 ex_5
  refine lv_istore (lv' := [(4, .int x_5), (0, .ref (ad 86)), (1, .int x1), (2, .int x2), (3, .int x3), (5, .int x5), (6, .int x6), (7, .int x7)]) hx hb dX8_shareOf_74 hl (by decide) rfl (fun ls hl => ?_)
  refine lv_iload hx hb dX8_shareOf_76 (lv_at hl 5 rfl) ?_
  refine lv_iload hx hb dX8_shareOf_78 (lv_at hl 7 rfl) ?_
  refine lv_if_eq (tgt := 93) hx hb dX8_shareOf_80 (by decide) (fun c1 => ?_) (fun c1 => ?_)
  · have h := h.1 c1
    exact o_X8_shareOf_93_w C hK19 hK103 g x1 x2 x3 x_5 x6 x5 _ _ _ S (lv_sub hl [1, 2, 3, 4, 0, 6] rfl) h
  · have h := h.2 c1
    refine lv_iload hx hb dX8_shareOf_83 (lv_at hl 6 rfl) ?_
    refine lv_iload_n hx hb dX8_shareOf_85 rfl (lv_at hl 2 rfl) ?_
    refine lv_icmp_ge (tgt := 93) hx hb dX8_shareOf_86 (by decide) (fun c1 => ?_) (fun c1 => ?_)
    · have h := h.1 c1
      exact o_X8_shareOf_93_w C hK19 hK103 g x1 x2 x3 x_5 x6 x5 _ _ _ S (lv_sub hl [1, 2, 3, 4, 0, 6] rfl) h
    · have h := h.2 c1
      refine lv_iconst (v := 1) hx hb dX8_shareOf_89 (by decide) ?_
      refine lv_goto (tgt := 94) hx hb dX8_shareOf_90 (by decide) ?_
      exact o_X8_shareOf_94_w C hK19 hK103 g x1 x2 x3 x_5 x6 x5 1 _ _ _ S (lv_sub hl [1, 2, 3, 4, 0, 6] rfl) h
set_option maxHeartbeats 4000000 in
set_option maxRecDepth 100000 in
theorem o_X8_shareOf_46_w {p : Program} {l : Launch} {e : Env} {s : State} {m : MethodId} {args : Array Value} {below : List Frame} {meth : Method} {c : Code} {dC : Nat → ClassId} {dI : Nat → Nat → Nat} {cy : Nat → ClassId} {ad tz : Nat → Nat} {Q : Int32 → Mm → Prop} {K19 : Mm → Int32 → Int32 → Int32 → Int32 → Int32 → Int32 → Prop} {K103 : Mm → Int32 → Int32 → Int32 → Int32 → Int32 → Prop} (C : CX p s m args meth c dC dI cy ad tz cX8_shareOf 8 (some .int) RX8 wsX8_shareOf) (hK19 : ∀ (g : Mm) (x1 : Int32) (x2 : Int32) (x3 : Int32) (x4 : Int32) (x5 : Int32) (x6 : Int32) (H : Heap) (locs : List Loc) (ls : Array Slot), St dC dI cy ad s g H locs → lv_has ls 8 [(0, .ref (ad 86)), (1, .int x1), (2, .int x2), (3, .int x3), (4, .int x4), (5, .int x5), (6, .int x6)] → K19 g x1 x2 x3 x4 x5 x6 → W p l e (rmD 1) s m args below meth c H locs 0 0 (QI dC dI cy ad below args s Q) (F0 m 19 ls [])) (hK103 : ∀ (g : Mm) (x1 : Int32) (x2 : Int32) (x3 : Int32) (x4 : Int32) (x5 : Int32) (H : Heap) (locs : List Loc) (ls : Array Slot), St dC dI cy ad s g H locs → lv_has ls 8 [(0, .ref (ad 86)), (1, .int x1), (2, .int x2), (3, .int x3), (4, .int x4), (5, .int x5)] → K103 g x1 x2 x3 x4 x5 → W p l e (rmD 1) s m args below meth c H locs 0 0 (QI dC dI cy ad below args s Q) (F0 m 103 ls [])) : ∀ (g : Mm) (x1 : Int32) (x2 : Int32) (x3 : Int32) (x4 : Int32) (x5 : Int32) (x6 : Int32) (s0 : Int32) (H : Heap) (locs : List Loc) (ls : Array Slot), St dC dI cy ad s g H locs → lv_has ls 8 [(0, .ref (ad 86)), (1, .int x1), (2, .int x2), (3, .int x3), (4, .int x4), (5, .int x5), (6, .int x6)] → o_X8_shareOf_46 Q K19 K103 g x1 x2 x3 x4 x5 x6 s0 → W p l e (rmD 1) s m args below meth c H locs 0 0 (QI dC dI cy ad below args s Q) (F0 m 46 ls [.int s0]) := by
  have hx := C.1.1
  have hb := C.1.2.1
  intro g x1 x2 x3 x4 x5 x6 s0 H locs ls S hl h
  unfold o_X8_shareOf_46 at h
  refine lv_istore (lv' := [(7, .int s0), (0, .ref (ad 86)), (1, .int x1), (2, .int x2), (3, .int x3), (4, .int x4), (5, .int x5), (6, .int x6)]) hx hb dX8_shareOf_46 hl (by decide) rfl (fun ls hl => ?_)
  refine lv_iload hx hb dX8_shareOf_48 (lv_at hl 5 rfl) ?_
  refine lv_iload hx hb dX8_shareOf_50 (lv_at hl 0 rfl) ?_
  refine lv_if_eq (tgt := 72) hx hb dX8_shareOf_52 (by decide) (fun c1 => ?_) (fun c1 => ?_)
  · have h := h.1 c1
    refine lv_iconst (v := 0) hx hb dX8_shareOf_72 (by decide) ?_
    exact o_X8_shareOf_73_w C hK19 hK103 g x1 x2 x3 x5 x6 s0 x4 0 _ _ _ S (lv_sub hl [1, 2, 3, 4, 6, 7, 0] rfl) h
  · have h := h.2 c1
    refine lv_iload_n hx hb dX8_shareOf_55 rfl (lv_at hl 3 rfl) ?_
    refine lv_aload_n hx hb dX8_shareOf_56 rfl (lv_at hl 1 rfl) ?_
    refine kg8 (k := 0) (v := .ref (ad 87)) C S rfl (by decide) n_X8_shareOf_X8 m_X8_shareOf_1 rfl dX8_shareOf_57 ?_
    refine lv_bipush (v := 8) hx hb dX8_shareOf_60 (by decide) ?_
    refine lv_iload hx hb dX8_shareOf_62 (lv_at hl 7 rfl) ?_
    refine lv_iadd hx hb dX8_shareOf_64 ?_
    obtain ⟨hi, h⟩ := h
    refine kLi C S rfl rfl hi dX8_shareOf_65 ?_
    refine lv_imul hx hb dX8_shareOf_66 ?_
    refine lv_iload_n hx hb dX8_shareOf_67 rfl (lv_at hl 4 rfl) ?_
    obtain ⟨h0, h⟩ := h
    refine lv_idiv hx hb dX8_shareOf_68 h0 ?_
    refine lv_goto (tgt := 73) hx hb dX8_shareOf_69 (by decide) ?_
    exact o_X8_shareOf_73_w C hK19 hK103 g x1 x2 x3 x5 x6 s0 x4 ((x2 * (g.1 87 (8 + x6 : Int32).toNatClampNeg)) / x3) _ _ _ S (lv_sub hl [1, 2, 3, 4, 6, 7, 0] rfl) h
set_option maxHeartbeats 4000000 in
set_option maxRecDepth 100000 in
theorem o_X8_shareOf_19_w {p : Program} {l : Launch} {e : Env} {s : State} {m : MethodId} {args : Array Value} {below : List Frame} {meth : Method} {c : Code} {dC : Nat → ClassId} {dI : Nat → Nat → Nat} {cy : Nat → ClassId} {ad tz : Nat → Nat} {Q : Int32 → Mm → Prop} {K103 : Mm → Int32 → Int32 → Int32 → Int32 → Int32 → Prop} (C : CX p s m args meth c dC dI cy ad tz cX8_shareOf 8 (some .int) RX8 wsX8_shareOf) (hK103 : ∀ (g : Mm) (x1 : Int32) (x2 : Int32) (x3 : Int32) (x4 : Int32) (x5 : Int32) (H : Heap) (locs : List Loc) (ls : Array Slot), St dC dI cy ad s g H locs → lv_has ls 8 [(0, .ref (ad 86)), (1, .int x1), (2, .int x2), (3, .int x3), (4, .int x4), (5, .int x5)] → K103 g x1 x2 x3 x4 x5 → W p l e (rmD 1) s m args below meth c H locs 0 0 (QI dC dI cy ad below args s Q) (F0 m 103 ls [])) : ∀ (n : Nat) (g : Mm) (x1 : Int32) (x2 : Int32) (x3 : Int32) (x4 : Int32) (x5 : Int32) (x6 : Int32) (H : Heap) (locs : List Loc) (ls : Array Slot), St dC dI cy ad s g H locs → lv_has ls 8 [(0, .ref (ad 86)), (1, .int x1), (2, .int x2), (3, .int x3), (4, .int x4), (5, .int x5), (6, .int x6)] → o_X8_shareOf_19 Q K103 n g x1 x2 x3 x4 x5 x6 → W p l e (rmD 1) s m args below meth c H locs 0 0 (QI dC dI cy ad below args s Q) (F0 m 19 ls []) := by
  have hx := C.1.1
  have hb := C.1.2.1
  intro n19
  induction n19 with
  | zero => intro g x1 x2 x3 x4 x5 x6 H locs ls S hl h; exact h.elim
  | succ n19 ih =>
    intro g x1 x2 x3 x4 x5 x6 H locs ls S hl h
    have h : o_X8_toys (fun (r_4 : Int32) (g_3 : Mm) => ((r_4 ≤ x6) → K103 g_3 x1 x2 x3 x4 x5) ∧ ((¬ r_4 ≤ x6) → vp_in (19 + x6) 33 ∧ (((¬ (g_3.1 87 (19 + x6 : Int32).toNatClampNeg) = 0) → o_X8_shareOf_46 Q (o_X8_shareOf_19 Q K103 n19) K103 g_3 x1 x2 x3 x4 x5 x6 0) ∧ (((g_3.1 87 (19 + x6 : Int32).toNatClampNeg) = 0) → o_X8_shareOf_46 Q (o_X8_shareOf_19 Q K103 n19) K103 g_3 x1 x2 x3 x4 x5 x6 1)))) g := h
    refine lv_iload hx hb dX8_shareOf_19 (lv_at hl 6 rfl) ?_
    refine lv_aload_n hx hb dX8_shareOf_21 rfl (lv_at hl 0 rfl) ?_
    refine kV_i (As := []) (rest := [.int x6]) C S hl.1 (o_X8_toys_c h) (wd_o8 rfl) rfl (cw_X8_shareOf_X8_toys C.1.2.2.2.2) rfl rfl (Nat.le_of_ble_eq_true rfl) dX8_shareOf_22 (fun r_4 g_3 H locs h S => ?_)
    refine lv_icmp_ge (tgt := 103) hx hb dX8_shareOf_25 (by decide) (fun c1 => ?_) (fun c1 => ?_)
    · have h := h.1 c1
      exact hK103 g_3 x1 x2 x3 x4 x5 _ _ _ S (lv_sub hl [0, 1, 2, 3, 4, 5] rfl) h
    · have h := h.2 c1
      refine lv_aload_n hx hb dX8_shareOf_28 rfl (lv_at hl 0 rfl) ?_
      refine kg8 (k := 0) (v := .ref (ad 87)) C S rfl (by decide) n_X8_shareOf_X8 m_X8_shareOf_1 rfl dX8_shareOf_29 ?_
      refine lv_bipush (v := 19) hx hb dX8_shareOf_32 (by decide) ?_
      refine lv_iload hx hb dX8_shareOf_34 (lv_at hl 6 rfl) ?_
      refine lv_iadd hx hb dX8_shareOf_36 ?_
      obtain ⟨hi, h⟩ := h
      refine kLi C S rfl rfl hi dX8_shareOf_37 ?_
      refine lv_if_ne (tgt := 45) hx hb dX8_shareOf_38 (by decide) (fun c1 => ?_) (fun c1 => ?_)
      · have h := h.1 c1
        refine lv_iconst (v := 0) hx hb dX8_shareOf_45 (by decide) ?_
        exact o_X8_shareOf_46_w C ih hK103 g_3 x1 x2 x3 x4 x5 x6 0 _ _ _ S (lv_sub hl [0, 1, 2, 3, 4, 5, 6] rfl) h
      · have h := h.2 c1
        refine lv_iconst (v := 1) hx hb dX8_shareOf_41 (by decide) ?_
        refine lv_goto (tgt := 46) hx hb dX8_shareOf_42 (by decide) ?_
        exact o_X8_shareOf_46_w C ih hK103 g_3 x1 x2 x3 x4 x5 x6 1 _ _ _ S (lv_sub hl [0, 1, 2, 3, 4, 5, 6] rfl) h
def o_X8_shareOf (Q : Int32 → Mm → Prop) (g : Mm) (x1 : Int32) (x2 : Int32) : Prop := o_X8_wonWeight (fun (r_2 : Int32) (g_1 : Mm) => ∃ n19, o_X8_shareOf_19 Q (fun (g : Mm) (x1 : Int32) (x2 : Int32) (x3 : Int32) (x4 : Int32) (x5 : Int32) => vp_in (8 + x1) 33 ∧ (¬ (x3 : Int32) = 0 ∧ (((x4 ≤ x5) → Q (((x2 * (g.1 87 (8 + x1 : Int32).toNatClampNeg)) / x3) + 0) g) ∧ ((¬ x4 ≤ x5) → Q (((x2 * (g.1 87 (8 + x1 : Int32).toNatClampNeg)) / x3) + 1) g)))) n19 g_1 x1 x2 r_2 x2 0 0) 87 g 1
set_option maxHeartbeats 4000000 in
set_option maxRecDepth 100000 in
theorem o_X8_shareOf_c {l : Launch} {dC : Nat → ClassId} {dI : Nat → Nat → Nat} {cy : Nat → ClassId} {ad tz : Nat → Nat} {Q : Int32 → Mm → Prop} {g : Mm} {x1 : Int32} {x2 : Int32} (h : o_X8_shareOf Q g x1 x2) : CI l dC dI cy ad tz yX8_shareOf wsX8_shareOf (rmD 1) [.ref (ad 86), .int x1, .int x2] g Q := by
  refine CI.of (by decide) rfl rfl (Nat.le_of_ble_eq_true rfl) ?_
  intro p e s m args below meth c ls C hl S
  have hl : lv_has ls 8 [(0, .ref (ad 86)), (1, .int x1), (2, .int x2)] := hl
  have hx := C.1.1
  have hb := C.1.2.1
  unfold o_X8_shareOf at h
  refine lv_aload_n hx hb dX8_shareOf_0 rfl (lv_at hl 0 rfl) ?_
  refine lv_aload_n hx hb dX8_shareOf_1 rfl (lv_at hl 0 rfl) ?_
  refine kg8 (k := 0) (v := .ref (ad 87)) C S rfl (by decide) n_X8_shareOf_X8 m_X8_shareOf_1 rfl dX8_shareOf_2 ?_
  refine lv_iconst (v := 1) hx hb dX8_shareOf_5 (by decide) ?_
  refine kV_i (As := [.ref (ad 87), .int 1]) (rest := []) C S hl.1 (o_X8_wonWeight_c rfl rfl h) (wd_o8 rfl) rfl (cw_X8_shareOf_X8_wonWeight C.1.2.2.2.2) rfl rfl (Nat.le_of_ble_eq_true rfl) dX8_shareOf_6 (fun r_2 g_1 H locs h S => ?_)
  refine lv_istore_n (lv' := [(3, .int r_2), (0, .ref (ad 86)), (1, .int x1), (2, .int x2)]) hx hb dX8_shareOf_9 rfl hl (by decide) rfl (fun ls hl => ?_)
  refine lv_iload_n hx hb dX8_shareOf_10 rfl (lv_at hl 3 rfl) ?_
  refine lv_istore (lv' := [(4, .int x2), (3, .int r_2), (0, .ref (ad 86)), (1, .int x1), (2, .int x2)]) hx hb dX8_shareOf_11 hl (by decide) rfl (fun ls hl => ?_)
  refine lv_iconst (v := 0) hx hb dX8_shareOf_13 (by decide) ?_
  refine lv_istore (lv' := [(5, .int 0), (4, .int x2), (3, .int r_2), (0, .ref (ad 86)), (1, .int x1), (2, .int x2)]) hx hb dX8_shareOf_14 hl (by decide) rfl (fun ls hl => ?_)
  refine lv_iconst (v := 0) hx hb dX8_shareOf_16 (by decide) ?_
  refine lv_istore (lv' := [(6, .int 0), (5, .int 0), (4, .int x2), (3, .int r_2), (0, .ref (ad 86)), (1, .int x1), (2, .int x2)]) hx hb dX8_shareOf_17 hl (by decide) rfl (fun ls hl => ?_)
  obtain ⟨n19, h⟩ := h
  refine o_X8_shareOf_19_w C ?_ n19 g_1 x1 x2 r_2 x2 0 0 _ _ _ S (lv_sub hl [4, 5, 6, 3, 2, 1, 0] rfl) h
  · intro g x1 x2 x3 x4 x5 H locs ls S hl h
    refine lv_iload_n hx hb dX8_shareOf_103 rfl (lv_at hl 2 rfl) ?_
    refine lv_aload_n hx hb dX8_shareOf_104 rfl (lv_at hl 0 rfl) ?_
    refine kg8 (k := 0) (v := .ref (ad 87)) C S rfl (by decide) n_X8_shareOf_X8 m_X8_shareOf_1 rfl dX8_shareOf_105 ?_
    refine lv_bipush (v := 8) hx hb dX8_shareOf_108 (by decide) ?_
    refine lv_iload_n hx hb dX8_shareOf_110 rfl (lv_at hl 1 rfl) ?_
    refine lv_iadd hx hb dX8_shareOf_111 ?_
    obtain ⟨hi, h⟩ := h
    refine kLi C S rfl rfl hi dX8_shareOf_112 ?_
    refine lv_imul hx hb dX8_shareOf_113 ?_
    refine lv_iload_n hx hb dX8_shareOf_114 rfl (lv_at hl 3 rfl) ?_
    obtain ⟨h0, h⟩ := h
    refine lv_idiv hx hb dX8_shareOf_115 h0 ?_
    refine lv_iload hx hb dX8_shareOf_116 (lv_at hl 5 rfl) ?_
    refine lv_iload hx hb dX8_shareOf_118 (lv_at hl 4 rfl) ?_
    refine lv_icmp_ge (tgt := 127) hx hb dX8_shareOf_120 (by decide) (fun c1 => ?_) (fun c1 => ?_)
    · have h := h.1 c1
      refine lv_iconst (v := 0) hx hb dX8_shareOf_127 (by decide) ?_
      refine lv_iadd hx hb dX8_shareOf_128 ?_
      exact kRi C S h dX8_shareOf_129
    · have h := h.2 c1
      refine lv_iconst (v := 1) hx hb dX8_shareOf_123 (by decide) ?_
      refine lv_goto (tgt := 128) hx hb dX8_shareOf_124 (by decide) ?_
      refine lv_iadd hx hb dX8_shareOf_128 ?_
      exact kRi C S h dX8_shareOf_129
/-! ClawCaseModel.share(II)I, height 2 -/
theorem m_X8_share_2 : Cond.constant RX8 71 (-1000001) ∈ wsX8_share := List.mem_of_getElem? (i := 2) (by decide +kernel)
theorem m_X8_share_1 : Cond.constantLong RX8 217 (999) ∈ wsX8_share := List.mem_of_getElem? (i := 1) (by decide +kernel)
theorem m_X8_share_3 : Cond.fieldLink RX8 7 "ClawCaseModel" "now" "[I" ∈ wsX8_share := List.mem_of_getElem? (i := 3) (by decide +kernel)
theorem n_X8_share_X8 : ∀ w ∈ wsX80, w ∈ wsX8_share := mem_by [24, 25, 26, 27, 28, 29, 30, 31, 32, 33, 34, 35, 36, 37, 38, 39, 40, 41, 42, 43, 44, 45, 46, 47] (by decide +kernel)
theorem cw_X8_share_X8_shareOf {s : State} {args : Array Value} (ht : ∀ w ∈ wsX8_share, w.before args s = true) : CallW (rmD 2) s args RX8 RX8 219 yX8_shareOf cX8_shareOf 8 (some .int) wsX8_shareOf (rmD (1)) 0 0 2 := cwV 2 ht gX8_share_X8_shareOf rfl rfl rfl (by decide +kernel) ⟨Nat.le_of_ble_eq_true rfl, Nat.le_of_ble_eq_true rfl⟩
theorem cw_X8_share_X8_in {s : State} {args : Array Value} (ht : ∀ w ∈ wsX8_share, w.before args s = true) : CallB (rmD 2) s args RX8 61 yX8_in cX8_in 6 (some .boolean) wsX8_in (rmD (0)) 0 0 3 ∧ (Cond.static yX8_in).before args s = true := va_cwS 3 ht gX8_share_X8_in rfl rfl rfl (by decide +kernel) ⟨Nat.le_of_ble_eq_true rfl, Nat.le_of_ble_eq_true rfl⟩
theorem cw_X8_share_X8_isToy {s : State} {args : Array Value} (ht : ∀ w ∈ wsX8_share, w.before args s = true) : CallW (rmD 2) s args RX8 RX8 187 yX8_isToy cX8_isToy 2 (some .boolean) wsX8_isToy (rmD (1)) 0 0 1 := cwV 1 ht gX8_share_X8_isToy rfl rfl rfl (by decide +kernel) ⟨Nat.le_of_ble_eq_true rfl, Nat.le_of_ble_eq_true rfl⟩
def o_X8_share (Q : Int32 → Mm → Prop) (g : Mm) (x1 : Int32) (x2 : Int32) : Prop := o_X8_isToy (fun (r_2 : Int32) (g_1 : Mm) => ((r_2 = 0) → Q (-1000001) g_1) ∧ ((¬ r_2 = 0) → o_X8_in (fun (r_4 : Int32) (g_3 : Mm) => ((¬ r_4 = 0) → vp_in (19 + x1) 33 ∧ (((¬ (g_3.1 87 (19 + x1 : Int32).toNatClampNeg) = 0) → Q 0 g_3) ∧ (((g_3.1 87 (19 + x1 : Int32).toNatClampNeg) = 0) → o_X8_shareOf (fun (r_6 : Int32) (g_5 : Mm) => Q r_6 g_5) g_3 x1 x2))) ∧ ((r_4 = 0) → Q (-1000001) g_3)) g_1 ((x2 : Int32).toInt64) 0 999)) g x1
set_option maxHeartbeats 4000000 in
set_option maxRecDepth 100000 in
theorem o_X8_share_c {l : Launch} {dC : Nat → ClassId} {dI : Nat → Nat → Nat} {cy : Nat → ClassId} {ad tz : Nat → Nat} {Q : Int32 → Mm → Prop} {g : Mm} {x1 : Int32} {x2 : Int32} (h : o_X8_share Q g x1 x2) : CI l dC dI cy ad tz yX8_share wsX8_share (rmD 2) [.ref (ad 86), .int x1, .int x2] g Q := by
  refine CI.of (by decide) rfl rfl (Nat.le_of_ble_eq_true rfl) ?_
  intro p e s m args below meth c ls C hl S
  have hl : lv_has ls 3 [(0, .ref (ad 86)), (1, .int x1), (2, .int x2)] := hl
  have hx := C.1.1
  have hb := C.1.2.1
  unfold o_X8_share at h
  refine lv_aload_n hx hb dX8_share_0 rfl (lv_at hl 0 rfl) ?_
  refine lv_iload_n hx hb dX8_share_1 rfl (lv_at hl 1 rfl) ?_
  refine kV_i (As := [.int x1]) (rest := []) C S hl.1 (o_X8_isToy_c h) (wd_o8 rfl) rfl (cw_X8_share_X8_isToy C.1.2.2.2.2) rfl rfl (Nat.le_of_ble_eq_true rfl) dX8_share_2 (fun r_2 g_1 H locs h S => ?_)
  refine lv_if_eq (tgt := 20) hx hb dX8_share_5 (by decide) (fun c1 => ?_) (fun c1 => ?_)
  · have h := h.1 c1
    refine kLdc C m_X8_share_2 dX8_share_20 ?_
    exact kRi C S h dX8_share_22
  · have h := h.2 c1
    refine lv_iload_n hx hb dX8_share_8 rfl (lv_at hl 2 rfl) ?_
    refine lv_i2l hx hb dX8_share_9 rfl ?_
    refine lv_lconst (v := 0) hx hb dX8_share_10 (by decide) ?_
    refine kLdc2 C m_X8_share_1 dX8_share_11 ?_
    refine kS_i (As := [.long ((x2 : Int32).toInt64), .long 0, .long 999]) (rest := []) C S hl.1 (o_X8_in_c h) (cw_X8_share_X8_in C.1.2.2.2.2) rfl rfl (Nat.le_of_ble_eq_true rfl) dX8_share_14 (fun r_4 g_3 H locs h S => ?_)
    refine lv_if_ne (tgt := 23) hx hb dX8_share_17 (by decide) (fun c1 => ?_) (fun c1 => ?_)
    · have h := h.1 c1
      refine lv_aload_n hx hb dX8_share_23 rfl (lv_at hl 0 rfl) ?_
      refine kg8 (k := 0) (v := .ref (ad 87)) C S rfl (by decide) n_X8_share_X8 m_X8_share_3 rfl dX8_share_24 ?_
      refine lv_bipush (v := 19) hx hb dX8_share_27 (by decide) ?_
      refine lv_iload_n hx hb dX8_share_29 rfl (lv_at hl 1 rfl) ?_
      refine lv_iadd hx hb dX8_share_30 ?_
      obtain ⟨hi, h⟩ := h
      refine kLi C S rfl rfl hi dX8_share_31 ?_
      refine lv_if_ne (tgt := 44) hx hb dX8_share_32 (by decide) (fun c1 => ?_) (fun c1 => ?_)
      · have h := h.1 c1
        refine lv_iconst (v := 0) hx hb dX8_share_44 (by decide) ?_
        exact kRi C S h dX8_share_45
      · have h := h.2 c1
        refine lv_aload_n hx hb dX8_share_35 rfl (lv_at hl 0 rfl) ?_
        refine lv_iload_n hx hb dX8_share_36 rfl (lv_at hl 1 rfl) ?_
        refine lv_iload_n hx hb dX8_share_37 rfl (lv_at hl 2 rfl) ?_
        refine kV_i (As := [.int x1, .int x2]) (rest := []) C S hl.1 (o_X8_shareOf_c h) (wd_o8 rfl) rfl (cw_X8_share_X8_shareOf C.1.2.2.2.2) rfl rfl (Nat.le_of_ble_eq_true rfl) dX8_share_38 (fun r_6 g_5 H locs h S => ?_)
        refine lv_goto (tgt := 45) hx hb dX8_share_41 (by decide) ?_
        exact kRi C S h dX8_share_45
    · have h := h.2 c1
      refine kLdc C m_X8_share_2 dX8_share_20 ?_
      exact kRi C S h dX8_share_22
/-! ClawCaseModel.status()I, height 0 -/
theorem m_X8_status_1 : Cond.fieldLink RX8 54 "ClawCaseModel" "found0" "I" ∈ wsX8_status := List.mem_of_getElem? (i := 1) (by decide +kernel)
theorem n_X8_status_X8 : ∀ w ∈ wsX80, w ∈ wsX8_status := mem_by [2, 3, 4, 5, 6, 7, 8, 9, 10, 11, 12, 13, 14, 15, 16, 17, 18, 19, 20, 21, 22, 23, 24, 25] (by decide +kernel)
def o_X8_status (Q : Int32 → Mm → Prop) (g : Mm) : Prop := Q (g.1 86 5) g
set_option maxHeartbeats 4000000 in
set_option maxRecDepth 100000 in
theorem o_X8_status_c {l : Launch} {dC : Nat → ClassId} {dI : Nat → Nat → Nat} {cy : Nat → ClassId} {ad tz : Nat → Nat} {Q : Int32 → Mm → Prop} {g : Mm} (h : o_X8_status Q g) : CI l dC dI cy ad tz yX8_status wsX8_status (rmD 0) [.ref (ad 86)] g Q := by
  refine CI.of (by decide) rfl rfl (Nat.le_of_ble_eq_true rfl) ?_
  intro p e s m args below meth c ls C hl S
  have hl : lv_has ls 1 [(0, .ref (ad 86))] := hl
  have hx := C.1.1
  have hb := C.1.2.1
  unfold o_X8_status at h
  refine lv_aload_n hx hb dX8_status_0 rfl (lv_at hl 0 rfl) ?_
  refine kg8 (k := 5) (v := .int (g.1 86 5)) C S rfl (by decide) n_X8_status_X8 m_X8_status_1 rfl dX8_status_1 ?_
  exact kRi C S h dX8_status_4
/-! ClawCaseModel.toy(II)I, height 2 -/
theorem m_X8_toy_2 : Cond.constant RX8 71 (-1000001) ∈ wsX8_toy := List.mem_of_getElem? (i := 2) (by decide +kernel)
theorem m_X8_toy_1 : Cond.constantLong RX8 192 (4) ∈ wsX8_toy := List.mem_of_getElem? (i := 1) (by decide +kernel)
theorem m_X8_toy_3 : Cond.fieldLink RX8 7 "ClawCaseModel" "now" "[I" ∈ wsX8_toy := List.mem_of_getElem? (i := 3) (by decide +kernel)
theorem n_X8_toy_X8 : ∀ w ∈ wsX80, w ∈ wsX8_toy := mem_by [29, 30, 31, 32, 33, 34, 35, 36, 37, 38, 39, 40, 41, 42, 43, 44, 45, 46, 47, 48, 49, 50, 51, 52] (by decide +kernel)
theorem cw_X8_toy_X8_needOf {s : State} {args : Array Value} (ht : ∀ w ∈ wsX8_toy, w.before args s = true) : CallB (rmD 2) s args RX8 156 yX8_needOf cX8_needOf 2 (some .int) wsX8_needOf (rmD (1)) 0 0 2 ∧ (Cond.static yX8_needOf).before args s = true := va_cwS 2 ht gX8_toy_X8_needOf rfl rfl rfl (by decide +kernel) ⟨Nat.le_of_ble_eq_true rfl, Nat.le_of_ble_eq_true rfl⟩
theorem cw_X8_toy_X8_lyingIn {s : State} {args : Array Value} (ht : ∀ w ∈ wsX8_toy, w.before args s = true) : CallB (rmD 2) s args RX8 149 yX8_lyingIn cX8_lyingIn 4 (some .int) wsX8_lyingIn (rmD (0)) 0 0 2 ∧ (Cond.static yX8_lyingIn).before args s = true := va_cwS 2 ht gX8_toy_X8_lyingIn rfl rfl rfl (by decide +kernel) ⟨Nat.le_of_ble_eq_true rfl, Nat.le_of_ble_eq_true rfl⟩
theorem cw_X8_toy_X8_isColumn {s : State} {args : Array Value} (ht : ∀ w ∈ wsX8_toy, w.before args s = true) : CallB (rmD 2) s args RX8 177 yX8_isColumn cX8_isColumn 1 (some .boolean) wsX8_isColumn (rmD (1)) 0 0 1 ∧ (Cond.static yX8_isColumn).before args s = true := va_cwS 1 ht gX8_toy_X8_isColumn rfl rfl rfl (by decide +kernel) ⟨Nat.le_of_ble_eq_true rfl, Nat.le_of_ble_eq_true rfl⟩
theorem cw_X8_toy_X8_in {s : State} {args : Array Value} (ht : ∀ w ∈ wsX8_toy, w.before args s = true) : CallB (rmD 2) s args RX8 61 yX8_in cX8_in 6 (some .boolean) wsX8_in (rmD (0)) 0 0 3 ∧ (Cond.static yX8_in).before args s = true := va_cwS 3 ht gX8_toy_X8_in rfl rfl rfl (by decide +kernel) ⟨Nat.le_of_ble_eq_true rfl, Nat.le_of_ble_eq_true rfl⟩
theorem cw_X8_toy_X8_isToy {s : State} {args : Array Value} (ht : ∀ w ∈ wsX8_toy, w.before args s = true) : CallW (rmD 2) s args RX8 RX8 187 yX8_isToy cX8_isToy 2 (some .boolean) wsX8_isToy (rmD (1)) 0 0 1 := cwV 1 ht gX8_toy_X8_isToy rfl rfl rfl (by decide +kernel) ⟨Nat.le_of_ble_eq_true rfl, Nat.le_of_ble_eq_true rfl⟩
def o_X8_toy (Q : Int32 → Mm → Prop) (g : Mm) (x1 : Int32) (x2 : Int32) : Prop := o_X8_isToy (fun (r_2 : Int32) (g_1 : Mm) => ((r_2 = 0) → Q (-1000001) g_1) ∧ ((¬ r_2 = 0) → o_X8_in (fun (r_4 : Int32) (g_3 : Mm) => ((¬ r_4 = 0) → vp_in (19 + x1) 33 ∧ (∀ x_5 : Int32, x_5 = (g_3.1 87 (19 + x1 : Int32).toNatClampNeg) → ((x2 = 0 → vp_in (8 + x1) 33 ∧ (Q (g_3.1 87 (8 + x1 : Int32).toNatClampNeg) g_3)) ∧ (x2 = 1 → Q x_5 g_3) ∧ (x2 = 2 → o_X8_needOf (fun (r_7 : Int32) (g_6 : Mm) => Q r_7 g_6) 87 g_3 x1) ∧ (x2 = 3 → o_X8_isColumn (fun (r_9 : Int32) (g_8 : Mm) => ((r_9 = 0) → Q 0 g_8) ∧ ((¬ r_9 = 0) → o_X8_lyingIn (fun (r_11 : Int32) (g_10 : Mm) => vp_in (26 + x1) 33 ∧ (Q ((r_11 - 1) - (g_10.1 87 (26 + x1 : Int32).toNatClampNeg)) g_10)) 87 g_8 x_5)) g_3 x_5) ∧ ((¬ x2 = 0 ∧ ¬ x2 = 1 ∧ ¬ x2 = 2 ∧ ¬ x2 = 3) → vp_in (26 + x1) 33 ∧ (Q (g_3.1 87 (26 + x1 : Int32).toNatClampNeg) g_3))))) ∧ ((r_4 = 0) → Q (-1000001) g_3)) g_1 ((x2 : Int32).toInt64) 0 4)) g x1
set_option maxHeartbeats 4000000 in
set_option maxRecDepth 100000 in
theorem o_X8_toy_c {l : Launch} {dC : Nat → ClassId} {dI : Nat → Nat → Nat} {cy : Nat → ClassId} {ad tz : Nat → Nat} {Q : Int32 → Mm → Prop} {g : Mm} {x1 : Int32} {x2 : Int32} (h : o_X8_toy Q g x1 x2) : CI l dC dI cy ad tz yX8_toy wsX8_toy (rmD 2) [.ref (ad 86), .int x1, .int x2] g Q := by
  refine CI.of (by decide) rfl rfl (Nat.le_of_ble_eq_true rfl) ?_
  intro p e s m args below meth c ls C hl S
  have hl : lv_has ls 4 [(0, .ref (ad 86)), (1, .int x1), (2, .int x2)] := hl
  have hx := C.1.1
  have hb := C.1.2.1
  unfold o_X8_toy at h
  refine lv_aload_n hx hb dX8_toy_0 rfl (lv_at hl 0 rfl) ?_
  refine lv_iload_n hx hb dX8_toy_1 rfl (lv_at hl 1 rfl) ?_
  refine kV_i (As := [.int x1]) (rest := []) C S hl.1 (o_X8_isToy_c h) (wd_o8 rfl) rfl (cw_X8_toy_X8_isToy C.1.2.2.2.2) rfl rfl (Nat.le_of_ble_eq_true rfl) dX8_toy_2 (fun r_2 g_1 H locs h S => ?_)
  refine lv_if_eq (tgt := 20) hx hb dX8_toy_5 (by decide) (fun c1 => ?_) (fun c1 => ?_)
  · have h := h.1 c1
    refine kLdc C m_X8_toy_2 dX8_toy_20 ?_
    exact kRi C S h dX8_toy_22
  · have h := h.2 c1
    refine lv_iload_n hx hb dX8_toy_8 rfl (lv_at hl 2 rfl) ?_
    refine lv_i2l hx hb dX8_toy_9 rfl ?_
    refine lv_lconst (v := 0) hx hb dX8_toy_10 (by decide) ?_
    refine kLdc2 C m_X8_toy_1 dX8_toy_11 ?_
    refine kS_i (As := [.long ((x2 : Int32).toInt64), .long 0, .long 4]) (rest := []) C S hl.1 (o_X8_in_c h) (cw_X8_toy_X8_in C.1.2.2.2.2) rfl rfl (Nat.le_of_ble_eq_true rfl) dX8_toy_14 (fun r_4 g_3 H locs h S => ?_)
    refine lv_if_ne (tgt := 23) hx hb dX8_toy_17 (by decide) (fun c1 => ?_) (fun c1 => ?_)
    · have h := h.1 c1
      refine lv_aload_n hx hb dX8_toy_23 rfl (lv_at hl 0 rfl) ?_
      refine kg8 (k := 0) (v := .ref (ad 87)) C S rfl (by decide) n_X8_toy_X8 m_X8_toy_3 rfl dX8_toy_24 ?_
      refine lv_bipush (v := 19) hx hb dX8_toy_27 (by decide) ?_
      refine lv_iload_n hx hb dX8_toy_29 rfl (lv_at hl 1 rfl) ?_
      refine lv_iadd hx hb dX8_toy_30 ?_
      obtain ⟨hi, h⟩ := h
      refine kLi C S rfl rfl hi dX8_toy_31 ?_
      refine lv_topi (fun x_5 ex_5 => ?_)
      have h := h x_5 ex_5
      refine lv_istore_n (lv' := [(3, .int x_5), (0, .ref (ad 86)), (1, .int x1), (2, .int x2)]) hx hb dX8_toy_32 rfl hl (by decide) rfl (fun ls hl => ?_)
      refine lv_iload_n hx hb dX8_toy_33 rfl (lv_at hl 3 rfl) ?_
      by_cases c0 : x2 = 0
      · have h := h.1 c0
        refine lv_tableIn (off := 30) (tgt := 64) hx hb dX8_toy_34 (by rw [c0]; decide) (by rw [c0]; decide) (by rw [c0]; decide) (by decide) ?_
        refine lv_aload_n hx hb dX8_toy_64 rfl (lv_at hl 1 rfl) ?_
        refine kg8 (k := 0) (v := .ref (ad 87)) C S rfl (by decide) n_X8_toy_X8 m_X8_toy_3 rfl dX8_toy_65 ?_
        refine lv_bipush (v := 8) hx hb dX8_toy_68 (by decide) ?_
        refine lv_iload_n hx hb dX8_toy_70 rfl (lv_at hl 2 rfl) ?_
        refine lv_iadd hx hb dX8_toy_71 ?_
        obtain ⟨hi, h⟩ := h
        refine kLi C S rfl rfl hi dX8_toy_72 ?_
        exact kRi C S h dX8_toy_73
      by_cases c1 : x2 = 1
      · have h := h.2.1 c1
        refine lv_tableIn (off := 40) (tgt := 74) hx hb dX8_toy_34 (by rw [c1]; decide) (by rw [c1]; decide) (by rw [c1]; decide) (by decide) ?_
        refine lv_iload_n hx hb dX8_toy_74 rfl (lv_at hl 0 rfl) ?_
        exact kRi C S h dX8_toy_75
      by_cases c2 : x2 = 2
      · have h := h.2.2.1 c2
        refine lv_tableIn (off := 42) (tgt := 76) hx hb dX8_toy_34 (by rw [c2]; decide) (by rw [c2]; decide) (by rw [c2]; decide) (by decide) ?_
        refine lv_aload_n hx hb dX8_toy_76 rfl (lv_at hl 1 rfl) ?_
        refine kg8 (k := 0) (v := .ref (ad 87)) C S rfl (by decide) n_X8_toy_X8 m_X8_toy_3 rfl dX8_toy_77 ?_
        refine lv_iload_n hx hb dX8_toy_80 rfl (lv_at hl 2 rfl) ?_
        refine kS_i (As := [.ref (ad 87), .int x1]) (rest := []) C S hl.1 (o_X8_needOf_c rfl rfl h) (cw_X8_toy_X8_needOf C.1.2.2.2.2) rfl rfl (Nat.le_of_ble_eq_true rfl) dX8_toy_81 (fun r_7 g_6 H locs h S => ?_)
        exact kRi C S h dX8_toy_84
      by_cases c3 : x2 = 3
      · have h := h.2.2.2.1 c3
        refine lv_tableIn (off := 51) (tgt := 85) hx hb dX8_toy_34 (by rw [c3]; decide) (by rw [c3]; decide) (by rw [c3]; decide) (by decide) ?_
        refine lv_iload_n hx hb dX8_toy_85 rfl (lv_at hl 0 rfl) ?_
        refine kS_i (As := [.int x_5]) (rest := []) C S hl.1 (o_X8_isColumn_c h) (cw_X8_toy_X8_isColumn C.1.2.2.2.2) rfl rfl (Nat.le_of_ble_eq_true rfl) dX8_toy_86 (fun r_9 g_8 H locs h S => ?_)
        refine lv_if_eq (tgt := 115) hx hb dX8_toy_89 (by decide) (fun c1 => ?_) (fun c1 => ?_)
        · have h := h.1 c1
          refine lv_iconst (v := 0) hx hb dX8_toy_115 (by decide) ?_
          exact kRi C S h dX8_toy_116
        · have h := h.2 c1
          refine lv_aload_n hx hb dX8_toy_92 rfl (lv_at hl 1 rfl) ?_
          refine kg8 (k := 0) (v := .ref (ad 87)) C S rfl (by decide) n_X8_toy_X8 m_X8_toy_3 rfl dX8_toy_93 ?_
          refine lv_iload_n hx hb dX8_toy_96 rfl (lv_at hl 0 rfl) ?_
          refine kS_i (As := [.ref (ad 87), .int x_5]) (rest := []) C S hl.1 (o_X8_lyingIn_c rfl rfl h) (cw_X8_toy_X8_lyingIn C.1.2.2.2.2) rfl rfl (Nat.le_of_ble_eq_true rfl) dX8_toy_97 (fun r_11 g_10 H locs h S => ?_)
          refine lv_iconst (v := 1) hx hb dX8_toy_100 (by decide) ?_
          refine lv_isub hx hb dX8_toy_101 ?_
          refine lv_aload_n hx hb dX8_toy_102 rfl (lv_at hl 1 rfl) ?_
          refine kg8 (k := 0) (v := .ref (ad 87)) C S rfl (by decide) n_X8_toy_X8 m_X8_toy_3 rfl dX8_toy_103 ?_
          refine lv_bipush (v := 26) hx hb dX8_toy_106 (by decide) ?_
          refine lv_iload_n hx hb dX8_toy_108 rfl (lv_at hl 2 rfl) ?_
          refine lv_iadd hx hb dX8_toy_109 ?_
          obtain ⟨hi, h⟩ := h
          refine kLi C S rfl rfl hi dX8_toy_110 ?_
          refine lv_isub hx hb dX8_toy_111 ?_
          refine lv_goto (tgt := 116) hx hb dX8_toy_112 (by decide) ?_
          exact kRi C S h dX8_toy_116
      have h := h.2.2.2.2 ⟨c0, c1, c2, c3⟩
      refine lv_tableOut (tgt := 117) hx hb dX8_toy_34 (tb_out 0 3 ?_) (by decide) ?_
      · intro k h1 h2
        rcases (show k = 0 ∨ k = 1 ∨ k = 2 ∨ k = 3 by omega) with rfl | rfl | rfl | rfl
        · exact lk_ne c0 (by decide)
        · exact lk_ne c1 (by decide)
        · exact lk_ne c2 (by decide)
        · exact lk_ne c3 (by decide)
      refine lv_aload_n hx hb dX8_toy_117 rfl (lv_at hl 1 rfl) ?_
      refine kg8 (k := 0) (v := .ref (ad 87)) C S rfl (by decide) n_X8_toy_X8 m_X8_toy_3 rfl dX8_toy_118 ?_
      refine lv_bipush (v := 26) hx hb dX8_toy_121 (by decide) ?_
      refine lv_iload_n hx hb dX8_toy_123 rfl (lv_at hl 2 rfl) ?_
      refine lv_iadd hx hb dX8_toy_124 ?_
      obtain ⟨hi, h⟩ := h
      refine kLi C S rfl rfl hi dX8_toy_125 ?_
      exact kRi C S h dX8_toy_126
    · have h := h.2 c1
      refine kLdc C m_X8_toy_2 dX8_toy_20 ?_
      exact kRi C S h dX8_toy_22
/-! ClawCaseModel.trace(I)I, height 1 -/
theorem m_X8_trace_1 : Cond.fieldLink RX8 253 "ClawCaseModel" "traceLong" "I" ∈ wsX8_trace := List.mem_of_getElem? (i := 1) (by decide +kernel)
theorem n_X8_trace_X8 : ∀ w ∈ wsX80, w ∈ wsX8_trace := mem_by [8, 9, 10, 11, 12, 13, 14, 15, 16, 17, 18, 19, 20, 21, 22, 23, 24, 25, 26, 27, 28, 29, 30, 31] (by decide +kernel)
theorem m_X8_trace_3 : Cond.constant RX8 186 (-1000000) ∈ wsX8_trace := List.mem_of_getElem? (i := 3) (by decide +kernel)
theorem m_X8_trace_2 : Cond.fieldLink RX8 51 "ClawCaseModel" "traced" "[I" ∈ wsX8_trace := List.mem_of_getElem? (i := 2) (by decide +kernel)
theorem cw_X8_trace_X8_in {s : State} {args : Array Value} (ht : ∀ w ∈ wsX8_trace, w.before args s = true) : CallB (rmD 1) s args RX8 61 yX8_in cX8_in 6 (some .boolean) wsX8_in (rmD (0)) 0 0 3 ∧ (Cond.static yX8_in).before args s = true := va_cwS 3 ht gX8_trace_X8_in rfl rfl rfl (by decide +kernel) ⟨Nat.le_of_ble_eq_true rfl, Nat.le_of_ble_eq_true rfl⟩
def o_X8_trace (Q : Int32 → Mm → Prop) (g : Mm) (x1 : Int32) : Prop := o_X8_in (fun (r_2 : Int32) (g_1 : Mm) => ((r_2 = 0) → Q (-1000000) g_1) ∧ ((¬ r_2 = 0) → vp_in x1 16 ∧ (Q (g_1.1 99 x1.toNatClampNeg) g_1))) g ((x1 : Int32).toInt64) 0 (((g.1 86 23) - 1 : Int32).toInt64)
set_option maxHeartbeats 4000000 in
set_option maxRecDepth 100000 in
theorem o_X8_trace_c {l : Launch} {dC : Nat → ClassId} {dI : Nat → Nat → Nat} {cy : Nat → ClassId} {ad tz : Nat → Nat} {Q : Int32 → Mm → Prop} {g : Mm} {x1 : Int32} (h : o_X8_trace Q g x1) : CI l dC dI cy ad tz yX8_trace wsX8_trace (rmD 1) [.ref (ad 86), .int x1] g Q := by
  refine CI.of (by decide) rfl rfl (Nat.le_of_ble_eq_true rfl) ?_
  intro p e s m args below meth c ls C hl S
  have hl : lv_has ls 2 [(0, .ref (ad 86)), (1, .int x1)] := hl
  have hx := C.1.1
  have hb := C.1.2.1
  unfold o_X8_trace at h
  refine lv_iload_n hx hb dX8_trace_0 rfl (lv_at hl 1 rfl) ?_
  refine lv_i2l hx hb dX8_trace_1 rfl ?_
  refine lv_lconst (v := 0) hx hb dX8_trace_2 (by decide) ?_
  refine lv_aload_n hx hb dX8_trace_3 rfl (lv_at hl 0 rfl) ?_
  refine kg8 (k := 23) (v := .int (g.1 86 23)) C S rfl (by decide) n_X8_trace_X8 m_X8_trace_1 rfl dX8_trace_4 ?_
  refine lv_iconst (v := 1) hx hb dX8_trace_7 (by decide) ?_
  refine lv_isub hx hb dX8_trace_8 ?_
  refine lv_i2l hx hb dX8_trace_9 rfl ?_
  refine kS_i (As := [.long ((x1 : Int32).toInt64), .long 0, .long (((g.1 86 23) - 1 : Int32).toInt64)]) (rest := []) C S hl.1 (o_X8_in_c h) (cw_X8_trace_X8_in C.1.2.2.2.2) rfl rfl (Nat.le_of_ble_eq_true rfl) dX8_trace_10 (fun r_2 g_1 H locs h S => ?_)
  refine lv_if_eq (tgt := 25) hx hb dX8_trace_13 (by decide) (fun c1 => ?_) (fun c1 => ?_)
  · have h := h.1 c1
    refine kLdc C m_X8_trace_3 dX8_trace_25 ?_
    exact kRi C S h dX8_trace_27
  · have h := h.2 c1
    refine lv_aload_n hx hb dX8_trace_16 rfl (lv_at hl 0 rfl) ?_
    refine kg8 (k := 22) (v := .ref (ad 99)) C S rfl (by decide) n_X8_trace_X8 m_X8_trace_2 rfl dX8_trace_17 ?_
    refine lv_iload_n hx hb dX8_trace_20 rfl (lv_at hl 1 rfl) ?_
    obtain ⟨hi, h⟩ := h
    refine kLi C S rfl rfl hi dX8_trace_21 ?_
    refine lv_goto (tgt := 27) hx hb dX8_trace_22 (by decide) ?_
    exact kRi C S h dX8_trace_27
/-! ClawCaseModel.undo()I, height 0 -/
theorem m_X8_undo_1 : Cond.fieldLink RX8 137 "ClawCaseModel" "manyActs" "I" ∈ wsX8_undo := List.mem_of_getElem? (i := 1) (by decide +kernel)
theorem n_X8_undo_X8 : ∀ w ∈ wsX80, w ∈ wsX8_undo := mem_by [5, 6, 7, 8, 9, 10, 11, 12, 13, 14, 15, 16, 17, 18, 19, 20, 21, 22, 23, 24, 25, 26, 27, 28] (by decide +kernel)
theorem m_X8_undo_3 : Cond.fieldLink RX8 7 "ClawCaseModel" "now" "[I" ∈ wsX8_undo := List.mem_of_getElem? (i := 3) (by decide +kernel)
theorem m_X8_undo_4 : Cond.fieldLink RX8 20 "ClawCaseModel" "acts" "[I" ∈ wsX8_undo := List.mem_of_getElem? (i := 4) (by decide +kernel)
theorem m_X8_undo_2 : Cond.constant RX8 176 (-1000002) ∈ wsX8_undo := List.mem_of_getElem? (i := 2) (by decide +kernel)
def o_X8_undo_22 (Q : Int32 → Mm → Prop) : Nat → Mm → Int32 → Prop
  | 0, _, _ => False
  | n22 + 1, g, x1 => ((33 ≤ x1) → Q (g.1 86 4) g) ∧ ((¬ 33 ≤ x1) → vp_in ((33 * (g.1 86 4)) + x1) 792 ∧ (vp_in x1 33 ∧ (∀ g_2 : Mm, g_2 = mset g 87 x1.toNatClampNeg (g.1 90 ((33 * (g.1 86 4)) + x1 : Int32).toNatClampNeg) → (∀ x_3 : Int32, x_3 = x1 + 1 → (o_X8_undo_22 Q n22 g_2 x_3)))))
set_option maxHeartbeats 4000000 in
set_option maxRecDepth 100000 in
theorem o_X8_undo_22_w {p : Program} {l : Launch} {e : Env} {s : State} {m : MethodId} {args : Array Value} {below : List Frame} {meth : Method} {c : Code} {dC : Nat → ClassId} {dI : Nat → Nat → Nat} {cy : Nat → ClassId} {ad tz : Nat → Nat} {Q : Int32 → Mm → Prop} (C : CX p s m args meth c dC dI cy ad tz cX8_undo 2 (some .int) RX8 wsX8_undo) : ∀ (n : Nat) (g : Mm) (x1 : Int32) (H : Heap) (locs : List Loc) (ls : Array Slot), St dC dI cy ad s g H locs → lv_has ls 2 [(0, .ref (ad 86)), (1, .int x1)] → o_X8_undo_22 Q n g x1 → W p l e (rmD 0) s m args below meth c H locs 0 0 (QI dC dI cy ad below args s Q) (F0 m 22 ls []) := by
  have hx := C.1.1
  have hb := C.1.2.1
  intro n22
  induction n22 with
  | zero => intro g x1 H locs ls S hl h; exact h.elim
  | succ n22 ih =>
    intro g x1 H locs ls S hl h
    have h : ((33 ≤ x1) → Q (g.1 86 4) g) ∧ ((¬ 33 ≤ x1) → vp_in ((33 * (g.1 86 4)) + x1) 792 ∧ (vp_in x1 33 ∧ (∀ g_2 : Mm, g_2 = mset g 87 x1.toNatClampNeg (g.1 90 ((33 * (g.1 86 4)) + x1 : Int32).toNatClampNeg) → (∀ x_3 : Int32, x_3 = x1 + 1 → (o_X8_undo_22 Q n22 g_2 x_3))))) := h
    refine lv_iload_n hx hb dX8_undo_22 rfl (lv_at hl 1 rfl) ?_
    refine lv_bipush (v := 33) hx hb dX8_undo_23 (by decide) ?_
    refine lv_icmp_ge (tgt := 54) hx hb dX8_undo_25 (by decide) (fun c1 => ?_) (fun c1 => ?_)
    · have h := h.1 c1
      refine lv_aload_n hx hb dX8_undo_54 rfl (lv_at hl 0 rfl) ?_
      refine kg8 (k := 4) (v := .int (g.1 86 4)) C S rfl (by decide) n_X8_undo_X8 m_X8_undo_1 rfl dX8_undo_55 ?_
      exact kRi C S h dX8_undo_58
    · have h := h.2 c1
      refine lv_aload_n hx hb dX8_undo_28 rfl (lv_at hl 0 rfl) ?_
      refine kg8 (k := 0) (v := .ref (ad 87)) C S rfl (by decide) n_X8_undo_X8 m_X8_undo_3 rfl dX8_undo_29 ?_
      refine lv_iload_n hx hb dX8_undo_32 rfl (lv_at hl 1 rfl) ?_
      refine lv_aload_n hx hb dX8_undo_33 rfl (lv_at hl 0 rfl) ?_
      refine kg8 (k := 3) (v := .ref (ad 90)) C S rfl (by decide) n_X8_undo_X8 m_X8_undo_4 rfl dX8_undo_34 ?_
      refine lv_bipush (v := 33) hx hb dX8_undo_37 (by decide) ?_
      refine lv_aload_n hx hb dX8_undo_39 rfl (lv_at hl 0 rfl) ?_
      refine kg8 (k := 4) (v := .int (g.1 86 4)) C S rfl (by decide) n_X8_undo_X8 m_X8_undo_1 rfl dX8_undo_40 ?_
      refine lv_imul hx hb dX8_undo_43 ?_
      refine lv_iload_n hx hb dX8_undo_44 rfl (lv_at hl 1 rfl) ?_
      refine lv_iadd hx hb dX8_undo_45 ?_
      obtain ⟨hi, h⟩ := h
      refine kLi C S rfl rfl hi dX8_undo_46 ?_
      obtain ⟨hi, h⟩ := h
      refine kSi C S rfl rfl hi dX8_undo_47 (fun g_2 H locs eg_2 S => ?_)
      have h := h g_2 eg_2
      obtain ⟨x_3, ex_3⟩ : ∃ y : Int32, y = x1 + 1 := ⟨_, rfl⟩
      have h := h x_3 ex_3
      refine lv_iinc (v := x_3) (lv' := [(1, .int x_3), (0, .ref (ad 86))]) hx hb dX8_undo_48 hl (k := 1) rfl (by rw [ex_3]; rfl) (by decide) rfl (fun ls hl => ?_)
      refine lv_goto (tgt := 22) hx hb dX8_undo_51 (by decide) ?_
      exact ih g_2 x_3 _ _ _ S (lv_sub hl [1, 0] rfl) h
def o_X8_undo (Q : Int32 → Mm → Prop) (g : Mm) : Prop := ((¬ (g.1 86 4) = 0) → ∀ g_1 : Mm, g_1 = mset g 86 4 ((g.1 86 4) - 1) → (∃ n22, o_X8_undo_22 Q n22 g_1 0)) ∧ (((g.1 86 4) = 0) → Q (-1000002) g)
set_option maxHeartbeats 4000000 in
set_option maxRecDepth 100000 in
theorem o_X8_undo_c {l : Launch} {dC : Nat → ClassId} {dI : Nat → Nat → Nat} {cy : Nat → ClassId} {ad tz : Nat → Nat} {Q : Int32 → Mm → Prop} {g : Mm} (h : o_X8_undo Q g) : CI l dC dI cy ad tz yX8_undo wsX8_undo (rmD 0) [.ref (ad 86)] g Q := by
  refine CI.of (by decide) rfl rfl (Nat.le_of_ble_eq_true rfl) ?_
  intro p e s m args below meth c ls C hl S
  have hl : lv_has ls 2 [(0, .ref (ad 86))] := hl
  have hx := C.1.1
  have hb := C.1.2.1
  unfold o_X8_undo at h
  refine lv_aload_n hx hb dX8_undo_0 rfl (lv_at hl 0 rfl) ?_
  refine kg8 (k := 4) (v := .int (g.1 86 4)) C S rfl (by decide) n_X8_undo_X8 m_X8_undo_1 rfl dX8_undo_1 ?_
  refine lv_if_ne (tgt := 10) hx hb dX8_undo_4 (by decide) (fun c1 => ?_) (fun c1 => ?_)
  · have h := h.1 c1
    refine lv_aload_n hx hb dX8_undo_10 rfl (lv_at hl 0 rfl) ?_
    refine lv_dup hx hb dX8_undo_11 rfl ?_
    refine kg8 (k := 4) (v := .int (g.1 86 4)) C S rfl (by decide) n_X8_undo_X8 m_X8_undo_1 rfl dX8_undo_12 ?_
    refine lv_iconst (v := 1) hx hb dX8_undo_15 (by decide) ?_
    refine lv_isub hx hb dX8_undo_16 ?_
    refine kp8_4 C S rfl n_X8_undo_X8 m_X8_undo_1 dX8_undo_17 (fun g_1 H locs eg_1 S => ?_)
    have h := h g_1 eg_1
    refine lv_iconst (v := 0) hx hb dX8_undo_20 (by decide) ?_
    refine lv_istore_n (lv' := [(1, .int 0), (0, .ref (ad 86))]) hx hb dX8_undo_21 rfl hl (by decide) rfl (fun ls hl => ?_)
    obtain ⟨n22, h⟩ := h
    refine o_X8_undo_22_w C n22 g_1 0 _ _ _ S (lv_sub hl [1, 0] rfl) h
  · have h := h.2 c1
    refine kLdc C m_X8_undo_2 dX8_undo_7 ?_
    exact kRi C S h dX8_undo_9
/-! ClawCaseModel.win(II)I, height 5 -/
theorem m_X8_win_1 : Cond.constant RX8 71 (-1000001) ∈ wsX8_win := List.mem_of_getElem? (i := 1) (by decide +kernel)
theorem m_X8_win_3 : Cond.constant RX8 186 (-1000000) ∈ wsX8_win := List.mem_of_getElem? (i := 3) (by decide +kernel)
theorem m_X8_win_2 : Cond.fieldLink RX8 44 "ClawCaseModel" "hand" "[I" ∈ wsX8_win := List.mem_of_getElem? (i := 2) (by decide +kernel)
theorem n_X8_win_X8 : ∀ w ∈ wsX80, w ∈ wsX8_win := mem_by [61, 62, 63, 64, 65, 66, 67, 68, 69, 70, 71, 72, 73, 74, 75, 76, 77, 78, 79, 80, 81, 82, 83, 84] (by decide +kernel)
theorem cw_X8_win_X8_goBy {s : State} {args : Array Value} (ht : ∀ w ∈ wsX8_win, w.before args s = true) : CallW (rmD 5) s args RX8 RX8 205 yX8_goBy cX8_goBy 7 none wsX8_goBy (rmD (4)) 0 0 2 := cwV 2 ht gX8_win_X8_goBy rfl rfl rfl (by decide +kernel) ⟨Nat.le_of_ble_eq_true rfl, Nat.le_of_ble_eq_true rfl⟩
theorem cw_X8_win_X8_power {s : State} {args : Array Value} (ht : ∀ w ∈ wsX8_win, w.before args s = true) : CallB (rmD 5) s args RX8 202 yX8_power cX8_power 3 (some .int) wsX8_power (rmD (0)) 0 0 1 ∧ (Cond.static yX8_power).before args s = true := va_cwS 1 ht gX8_win_X8_power rfl rfl rfl (by decide +kernel) ⟨Nat.le_of_ble_eq_true rfl, Nat.le_of_ble_eq_true rfl⟩
theorem cw_X8_win_X8_columnBy {s : State} {args : Array Value} (ht : ∀ w ∈ wsX8_win, w.before args s = true) : CallB (rmD 5) s args RX8 209 yX8_columnBy cX8_columnBy 3 (some .int) wsX8_columnBy (rmD (1)) 0 0 3 ∧ (Cond.static yX8_columnBy).before args s = true := va_cwS 3 ht gX8_win_X8_columnBy rfl rfl rfl (by decide +kernel) ⟨Nat.le_of_ble_eq_true rfl, Nat.le_of_ble_eq_true rfl⟩
theorem cw_X8_win_X8_isToy {s : State} {args : Array Value} (ht : ∀ w ∈ wsX8_win, w.before args s = true) : CallW (rmD 5) s args RX8 RX8 187 yX8_isToy cX8_isToy 2 (some .boolean) wsX8_isToy (rmD (1)) 0 0 1 := cwV 1 ht gX8_win_X8_isToy rfl rfl rfl (by decide +kernel) ⟨Nat.le_of_ble_eq_true rfl, Nat.le_of_ble_eq_true rfl⟩
def o_X8_win_26 (Q : Int32 → Mm → Prop) (K54 : Mm → Int32 → Int32 → Int32 → Prop) (K87 : Mm → Int32 → Int32 → Int32 → Prop) : Nat → Mm → Int32 → Int32 → Int32 → Int32 → Prop
  | 0, _, _, _, _, _ => False
  | n26 + 1, g, x1, x2, x3, x4 => o_X8_power (fun (r_4 : Int32) (g_3 : Mm) => ((r_4 ≤ x4) → K87 g_3 x1 x2 x3) ∧ ((¬ r_4 ≤ x4) → o_X8_goBy (fun (g_5 : Mm) => vp_in (19 + x1) 33 ∧ (((¬ (g_5.1 98 (19 + x1 : Int32).toNatClampNeg) = 0) → ∀ x_7 : Int32, x_7 = x4 + 1 → (o_X8_win_26 Q K54 K87 n26 g_5 x1 x2 x3 x_7)) ∧ (((g_5.1 98 (19 + x1 : Int32).toNatClampNeg) = 0) → K54 g_5 x2 x3 x4))) g_3 x3 x4)) g x3
def o_X8_win_18 (Q : Int32 → Mm → Prop) (K54 : Mm → Int32 → Int32 → Int32 → Prop) : Nat → Mm → Int32 → Int32 → Int32 → Prop
  | 0, _, _, _, _ => False
  | n18 + 1, g, x1, x2, x3 => ((5 ≤ x3) → Q (-1000000) g) ∧ ((¬ 5 ≤ x3) → ∃ n26, o_X8_win_26 Q (fun (g : Mm) (x2 : Int32) (x3 : Int32) (x4 : Int32) => K54 g x2 x3 x4) (fun (g : Mm) (x1 : Int32) (x2 : Int32) (x3 : Int32) => ∀ x_8 : Int32, x_8 = x3 + 1 → (o_X8_win_18 Q K54 n18 g x1 x2 x_8)) n26 g x1 x2 x3 0)
set_option maxHeartbeats 4000000 in
set_option maxRecDepth 100000 in
theorem o_X8_win_26_w {p : Program} {l : Launch} {e : Env} {s : State} {m : MethodId} {args : Array Value} {below : List Frame} {meth : Method} {c : Code} {dC : Nat → ClassId} {dI : Nat → Nat → Nat} {cy : Nat → ClassId} {ad tz : Nat → Nat} {Q : Int32 → Mm → Prop} {K54 : Mm → Int32 → Int32 → Int32 → Prop} {K87 : Mm → Int32 → Int32 → Int32 → Prop} (C : CX p s m args meth c dC dI cy ad tz cX8_win 5 (some .int) RX8 wsX8_win) (hK54 : ∀ (g : Mm) (x2 : Int32) (x3 : Int32) (x4 : Int32) (H : Heap) (locs : List Loc) (ls : Array Slot), St dC dI cy ad s g H locs → lv_has ls 5 [(2, .int x2), (3, .int x3), (4, .int x4)] → K54 g x2 x3 x4 → W p l e (rmD 5) s m args below meth c H locs 0 0 (QI dC dI cy ad below args s Q) (F0 m 54 ls [])) (hK87 : ∀ (g : Mm) (x1 : Int32) (x2 : Int32) (x3 : Int32) (H : Heap) (locs : List Loc) (ls : Array Slot), St dC dI cy ad s g H locs → lv_has ls 5 [(0, .ref (ad 86)), (1, .int x1), (2, .int x2), (3, .int x3)] → K87 g x1 x2 x3 → W p l e (rmD 5) s m args below meth c H locs 0 0 (QI dC dI cy ad below args s Q) (F0 m 87 ls [])) : ∀ (n : Nat) (g : Mm) (x1 : Int32) (x2 : Int32) (x3 : Int32) (x4 : Int32) (H : Heap) (locs : List Loc) (ls : Array Slot), St dC dI cy ad s g H locs → lv_has ls 5 [(0, .ref (ad 86)), (1, .int x1), (2, .int x2), (3, .int x3), (4, .int x4)] → o_X8_win_26 Q K54 K87 n g x1 x2 x3 x4 → W p l e (rmD 5) s m args below meth c H locs 0 0 (QI dC dI cy ad below args s Q) (F0 m 26 ls []) := by
  have hx := C.1.1
  have hb := C.1.2.1
  intro n26
  induction n26 with
  | zero => intro g x1 x2 x3 x4 H locs ls S hl h; exact h.elim
  | succ n26 ih =>
    intro g x1 x2 x3 x4 H locs ls S hl h
    have h : o_X8_power (fun (r_4 : Int32) (g_3 : Mm) => ((r_4 ≤ x4) → K87 g_3 x1 x2 x3) ∧ ((¬ r_4 ≤ x4) → o_X8_goBy (fun (g_5 : Mm) => vp_in (19 + x1) 33 ∧ (((¬ (g_5.1 98 (19 + x1 : Int32).toNatClampNeg) = 0) → ∀ x_7 : Int32, x_7 = x4 + 1 → (o_X8_win_26 Q K54 K87 n26 g_5 x1 x2 x3 x_7)) ∧ (((g_5.1 98 (19 + x1 : Int32).toNatClampNeg) = 0) → K54 g_5 x2 x3 x4))) g_3 x3 x4)) g x3 := h
    refine lv_iload hx hb dX8_win_26 (lv_at hl 4 rfl) ?_
    refine lv_iload_n hx hb dX8_win_28 rfl (lv_at hl 3 rfl) ?_
    refine kS_i (As := [.int x3]) (rest := [.int x4]) C S hl.1 (o_X8_power_c h) (cw_X8_win_X8_power C.1.2.2.2.2) rfl rfl (Nat.le_of_ble_eq_true rfl) dX8_win_29 (fun r_4 g_3 H locs h S => ?_)
    refine lv_icmp_ge (tgt := 87) hx hb dX8_win_32 (by decide) (fun c1 => ?_) (fun c1 => ?_)
    · have h := h.1 c1
      exact hK87 g_3 x1 x2 x3 _ _ _ S (lv_sub hl [0, 1, 2, 3] rfl) h
    · have h := h.2 c1
      refine lv_aload_n hx hb dX8_win_35 rfl (lv_at hl 0 rfl) ?_
      refine lv_iload_n hx hb dX8_win_36 rfl (lv_at hl 3 rfl) ?_
      refine lv_iload hx hb dX8_win_37 (lv_at hl 4 rfl) ?_
      refine kV_v (As := [.int x3, .int x4]) (rest := []) C S hl.1 (o_X8_goBy_c h) (wd_o8 rfl) rfl (cw_X8_win_X8_goBy C.1.2.2.2.2) rfl rfl (Nat.le_of_ble_eq_true rfl) dX8_win_39 (fun g_5 H locs h S => ?_)
      refine lv_aload_n hx hb dX8_win_42 rfl (lv_at hl 0 rfl) ?_
      refine kg8 (k := 19) (v := .ref (ad 98)) C S rfl (by decide) n_X8_win_X8 m_X8_win_2 rfl dX8_win_43 ?_
      refine lv_bipush (v := 19) hx hb dX8_win_46 (by decide) ?_
      refine lv_iload_n hx hb dX8_win_48 rfl (lv_at hl 1 rfl) ?_
      refine lv_iadd hx hb dX8_win_49 ?_
      obtain ⟨hi, h⟩ := h
      refine kLi C S rfl rfl hi dX8_win_50 ?_
      refine lv_if_ne (tgt := 81) hx hb dX8_win_51 (by decide) (fun c1 => ?_) (fun c1 => ?_)
      · have h := h.1 c1
        obtain ⟨x_7, ex_7⟩ : ∃ y : Int32, y = x4 + 1 := ⟨_, rfl⟩
        have h := h x_7 ex_7
        refine lv_iinc (v := x_7) (lv' := [(4, .int x_7), (0, .ref (ad 86)), (1, .int x1), (2, .int x2), (3, .int x3)]) hx hb dX8_win_81 hl (k := 4) rfl (by rw [ex_7]; rfl) (by decide) rfl (fun ls hl => ?_)
        refine lv_goto (tgt := 26) hx hb dX8_win_84 (by decide) ?_
        exact ih g_5 x1 x2 x3 x_7 _ _ _ S (lv_sub hl [1, 2, 3, 4, 0] rfl) h
      · have h := h.2 c1
        exact hK54 g_5 x2 x3 x4 _ _ _ S (lv_sub hl [2, 3, 4] rfl) h
set_option maxHeartbeats 4000000 in
set_option maxRecDepth 100000 in
theorem o_X8_win_18_w {p : Program} {l : Launch} {e : Env} {s : State} {m : MethodId} {args : Array Value} {below : List Frame} {meth : Method} {c : Code} {dC : Nat → ClassId} {dI : Nat → Nat → Nat} {cy : Nat → ClassId} {ad tz : Nat → Nat} {Q : Int32 → Mm → Prop} {K54 : Mm → Int32 → Int32 → Int32 → Prop} (C : CX p s m args meth c dC dI cy ad tz cX8_win 5 (some .int) RX8 wsX8_win) (hK54 : ∀ (g : Mm) (x2 : Int32) (x3 : Int32) (x4 : Int32) (H : Heap) (locs : List Loc) (ls : Array Slot), St dC dI cy ad s g H locs → lv_has ls 5 [(2, .int x2), (3, .int x3), (4, .int x4)] → K54 g x2 x3 x4 → W p l e (rmD 5) s m args below meth c H locs 0 0 (QI dC dI cy ad below args s Q) (F0 m 54 ls [])) : ∀ (n : Nat) (g : Mm) (x1 : Int32) (x2 : Int32) (x3 : Int32) (H : Heap) (locs : List Loc) (ls : Array Slot), St dC dI cy ad s g H locs → lv_has ls 5 [(0, .ref (ad 86)), (1, .int x1), (2, .int x2), (3, .int x3)] → o_X8_win_18 Q K54 n g x1 x2 x3 → W p l e (rmD 5) s m args below meth c H locs 0 0 (QI dC dI cy ad below args s Q) (F0 m 18 ls []) := by
  have hx := C.1.1
  have hb := C.1.2.1
  intro n18
  induction n18 with
  | zero => intro g x1 x2 x3 H locs ls S hl h; exact h.elim
  | succ n18 ih =>
    intro g x1 x2 x3 H locs ls S hl h
    have h : ((5 ≤ x3) → Q (-1000000) g) ∧ ((¬ 5 ≤ x3) → ∃ n26, o_X8_win_26 Q (fun (g : Mm) (x2 : Int32) (x3 : Int32) (x4 : Int32) => K54 g x2 x3 x4) (fun (g : Mm) (x1 : Int32) (x2 : Int32) (x3 : Int32) => ∀ x_8 : Int32, x_8 = x3 + 1 → (o_X8_win_18 Q K54 n18 g x1 x2 x_8)) n26 g x1 x2 x3 0) := h
    refine lv_iload_n hx hb dX8_win_18 rfl (lv_at hl 3 rfl) ?_
    refine lv_iconst (v := 5) hx hb dX8_win_19 (by decide) ?_
    refine lv_icmp_ge (tgt := 93) hx hb dX8_win_20 (by decide) (fun c1 => ?_) (fun c1 => ?_)
    · have h := h.1 c1
      refine kLdc C m_X8_win_3 dX8_win_93 ?_
      exact kRi C S h dX8_win_95
    · have h := h.2 c1
      refine lv_iconst (v := 0) hx hb dX8_win_23 (by decide) ?_
      refine lv_istore (lv' := [(4, .int 0), (0, .ref (ad 86)), (1, .int x1), (2, .int x2), (3, .int x3)]) hx hb dX8_win_24 hl (by decide) rfl (fun ls hl => ?_)
      obtain ⟨n26, h⟩ := h
      refine o_X8_win_26_w C ?_ ?_ n26 g x1 x2 x3 0 _ _ _ S (lv_sub hl [1, 2, 3, 4, 0] rfl) h
      · intro g x2 x3 x4 H locs ls S hl h
        exact hK54 g x2 x3 x4 _ _ _ S (lv_sub hl [0, 1, 2] rfl) h
      · intro g x1 x2 x3 H locs ls S hl h
        obtain ⟨x_8, ex_8⟩ : ∃ y : Int32, y = x3 + 1 := ⟨_, rfl⟩
        have h := h x_8 ex_8
        refine lv_iinc (v := x_8) (lv' := [(3, .int x_8), (0, .ref (ad 86)), (1, .int x1), (2, .int x2)]) hx hb dX8_win_87 hl (k := 3) rfl (by rw [ex_8]; rfl) (by decide) rfl (fun ls hl => ?_)
        refine lv_goto (tgt := 18) hx hb dX8_win_90 (by decide) ?_
        exact ih g x1 x2 x_8 _ _ _ S (lv_sub hl [1, 2, 3, 0] rfl) h
def o_X8_win (Q : Int32 → Mm → Prop) (g : Mm) (x1 : Int32) (x2 : Int32) : Prop := o_X8_isToy (fun (r_2 : Int32) (g_1 : Mm) => ((r_2 = 0) → Q (-1000001) g_1) ∧ ((¬ r_2 = 0) → (((-1) ≤ x2) → ∃ n18, o_X8_win_18 Q (fun (g : Mm) (x2 : Int32) (x3 : Int32) (x4 : Int32) => ((¬ x2 = (-1)) → ((x2 < x3) → o_X8_columnBy (fun (r_10 : Int32) (g_9 : Mm) => Q r_10 g_9) g x3 x4 x2) ∧ ((¬ x2 < x3) → Q (-1000000) g)) ∧ ((x2 = (-1)) → Q x3 g)) n18 g_1 x1 x2 0) ∧ ((¬ (-1) ≤ x2) → Q (-1000001) g_1))) g x1
set_option maxHeartbeats 4000000 in
set_option maxRecDepth 100000 in
theorem o_X8_win_c {l : Launch} {dC : Nat → ClassId} {dI : Nat → Nat → Nat} {cy : Nat → ClassId} {ad tz : Nat → Nat} {Q : Int32 → Mm → Prop} {g : Mm} {x1 : Int32} {x2 : Int32} (h : o_X8_win Q g x1 x2) : CI l dC dI cy ad tz yX8_win wsX8_win (rmD 5) [.ref (ad 86), .int x1, .int x2] g Q := by
  refine CI.of (by decide) rfl rfl (Nat.le_of_ble_eq_true rfl) ?_
  intro p e s m args below meth c ls C hl S
  have hl : lv_has ls 5 [(0, .ref (ad 86)), (1, .int x1), (2, .int x2)] := hl
  have hx := C.1.1
  have hb := C.1.2.1
  unfold o_X8_win at h
  refine lv_aload_n hx hb dX8_win_0 rfl (lv_at hl 0 rfl) ?_
  refine lv_iload_n hx hb dX8_win_1 rfl (lv_at hl 1 rfl) ?_
  refine kV_i (As := [.int x1]) (rest := []) C S hl.1 (o_X8_isToy_c h) (wd_o8 rfl) rfl (cw_X8_win_X8_isToy C.1.2.2.2.2) rfl rfl (Nat.le_of_ble_eq_true rfl) dX8_win_2 (fun r_2 g_1 H locs h S => ?_)
  refine lv_if_eq (tgt := 13) hx hb dX8_win_5 (by decide) (fun c1 => ?_) (fun c1 => ?_)
  · have h := h.1 c1
    refine kLdc C m_X8_win_1 dX8_win_13 ?_
    exact kRi C S h dX8_win_15
  · have h := h.2 c1
    refine lv_iload_n hx hb dX8_win_8 rfl (lv_at hl 2 rfl) ?_
    refine lv_iconst (v := (-1)) hx hb dX8_win_9 (by decide) ?_
    refine lv_icmp_ge (tgt := 16) hx hb dX8_win_10 (by decide) (fun c1 => ?_) (fun c1 => ?_)
    · have h := h.1 c1
      refine lv_iconst (v := 0) hx hb dX8_win_16 (by decide) ?_
      refine lv_istore_n (lv' := [(3, .int 0), (0, .ref (ad 86)), (1, .int x1), (2, .int x2)]) hx hb dX8_win_17 rfl hl (by decide) rfl (fun ls hl => ?_)
      obtain ⟨n18, h⟩ := h
      refine o_X8_win_18_w C ?_ n18 g_1 x1 x2 0 _ _ _ S (lv_sub hl [1, 2, 3, 0] rfl) h
      · intro g x2 x3 x4 H locs ls S hl h
        refine lv_iload_n hx hb dX8_win_54 rfl (lv_at hl 0 rfl) ?_
        refine lv_iconst (v := (-1)) hx hb dX8_win_55 (by decide) ?_
        refine lv_icmp_ne (tgt := 63) hx hb dX8_win_56 (by decide) (fun c1 => ?_) (fun c1 => ?_)
        · have h := h.1 c1
          refine lv_iload_n hx hb dX8_win_63 rfl (lv_at hl 0 rfl) ?_
          refine lv_iload_n hx hb dX8_win_64 rfl (lv_at hl 1 rfl) ?_
          refine lv_icmp_lt (tgt := 73) hx hb dX8_win_65 (by decide) (fun c1 => ?_) (fun c1 => ?_)
          · have h := h.1 c1
            refine lv_iload_n hx hb dX8_win_73 rfl (lv_at hl 1 rfl) ?_
            refine lv_iload hx hb dX8_win_74 (lv_at hl 2 rfl) ?_
            refine lv_iload_n hx hb dX8_win_76 rfl (lv_at hl 0 rfl) ?_
            refine kS_i (As := [.int x3, .int x4, .int x2]) (rest := []) C S hl.1 (o_X8_columnBy_c h) (cw_X8_win_X8_columnBy C.1.2.2.2.2) rfl rfl (Nat.le_of_ble_eq_true rfl) dX8_win_77 (fun r_10 g_9 H locs h S => ?_)
            exact kRi C S h dX8_win_80
          · have h := h.2 c1
            refine kLdc C m_X8_win_3 dX8_win_68 ?_
            refine lv_goto (tgt := 80) hx hb dX8_win_70 (by decide) ?_
            exact kRi C S h dX8_win_80
        · have h := h.2 c1
          refine lv_iload_n hx hb dX8_win_59 rfl (lv_at hl 1 rfl) ?_
          refine lv_goto (tgt := 80) hx hb dX8_win_60 (by decide) ?_
          exact kRi C S h dX8_win_80
    · have h := h.2 c1
      refine kLdc C m_X8_win_1 dX8_win_13 ?_
      exact kRi C S h dX8_win_15
