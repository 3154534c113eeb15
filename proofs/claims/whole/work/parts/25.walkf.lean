/-! ClawCaseModel.manyRows()I, height 0 -/
theorem m_X8_manyRows_1 : Cond.fieldLink RX8 29 "ClawCaseModel" "isThere" "[Z" ∈ wsX8_manyRows := List.mem_of_getElem? (i := 1) (by decide +kernel)
theorem n_X8_manyRows_X8 : ∀ w ∈ wsX80, w ∈ wsX8_manyRows := mem_by [2, 3, 4, 5, 6, 7, 8, 9, 10, 11, 12, 13, 14, 15, 16, 17, 18, 19, 20, 21, 22, 23, 24, 25] (by decide +kernel)
def o_X8_manyRows_25 (Q : Int32 → Mm → Prop) (K4 : Mm → Int32 → Int32 → Prop) (g : Mm) (x2 : Int32) (s0 : Int32) (s1 : Int32) : Prop := ∀ x_1 : Int32, x_1 = (s0 + s1) → (∀ x_2 : Int32, x_2 = x2 + 1 → (K4 g x_1 x_2))
def o_X8_manyRows_4 (Q : Int32 → Mm → Prop) : Nat → Mm → Int32 → Int32 → Prop
  | 0, _, _, _ => False
  | n4 + 1, g, x1, x2 => ((8 ≤ x2) → Q x1 g) ∧ ((¬ 8 ≤ x2) → vp_in x2 8 ∧ ((((g.1 93 x2.toNatClampNeg) = 0) → o_X8_manyRows_25 Q (o_X8_manyRows_4 Q n4) g x2 x1 0) ∧ ((¬ (g.1 93 x2.toNatClampNeg) = 0) → o_X8_manyRows_25 Q (o_X8_manyRows_4 Q n4) g x2 x1 1)))
set_option maxHeartbeats 4000000 in
set_option maxRecDepth 100000 in
theorem o_X8_manyRows_25_w {p : Program} {l : Launch} {e : Env} {s : State} {m : MethodId} {args : Array Value} {below : List Frame} {meth : Method} {c : Code} {dC : Nat → ClassId} {dI : Nat → Nat → Nat} {cy : Nat → ClassId} {ad tz : Nat → Nat} {Q : Int32 → Mm → Prop} {K4 : Mm → Int32 → Int32 → Prop} (C : CX p s m args meth c dC dI cy ad tz cX8_manyRows 3 (some .int) RX8 wsX8_manyRows) (hK4 : ∀ (g : Mm) (x1 : Int32) (x2 : Int32) (H : Heap) (locs : List Loc) (ls : Array Slot), St dC dI cy ad s g H locs → lv_has ls 3 [(0, .ref (ad 86)), (1, .int x1), (2, .int x2)] → K4 g x1 x2 → W p l e (rmD 0) s m args below meth c H locs 0 0 (QI dC dI cy ad below args s Q) (F0 m 4 ls [])) : ∀ (g : Mm) (x2 : Int32) (s0 : Int32) (s1 : Int32) (H : Heap) (locs : List Loc) (ls : Array Slot), St dC dI cy ad s g H locs → lv_has ls 3 [(0, .ref (ad 86)), (2, .int x2)] → o_X8_manyRows_25 Q K4 g x2 s0 s1 → W p l e (rmD 0) s m args below meth c H locs 0 0 (QI dC dI cy ad below args s Q) (F0 m 25 ls [.int s1, .int s0]) := by
  have hx := C.1.1
  have hb := C.1.2.1
  intro g x2 s0 s1 H locs ls S hl h
  unfold o_X8_manyRows_25 at h
  refine lv_iadd hx hb dX8_manyRows_25 ?_
  refine lv_topi (fun x_1 ex_1 => ?_)
  have h := h x_1 ex_1
  refine lv_istore_n (lv' := [(1, .int x_1), (0, .ref (ad 86)), (2, .int x2)]) hx hb dX8_manyRows_26 rfl hl (by decide) rfl (fun ls hl => ?_)
  obtain ⟨x_2, ex_2⟩ : ∃ y : Int32, y = x2 + 1 := ⟨_, rfl⟩
  have h := h x_2 ex_2
  refine lv_iinc (v := x_2) (lv' := [(2, .int x_2), (1, .int x_1), (0, .ref (ad 86))]) hx hb dX8_manyRows_27 hl (k := 2) rfl (by rw [ex_2]; rfl) (by decide) rfl (fun ls hl => ?_)
  refine lv_goto (tgt := 4) hx hb dX8_manyRows_30 (by decide) ?_
  exact hK4 g x_1 x_2 _ _ _ S (lv_sub hl [2, 1, 0] rfl) h
set_option maxHeartbeats 4000000 in
set_option maxRecDepth 100000 in
theorem o_X8_manyRows_4_w {p : Program} {l : Launch} {e : Env} {s : State} {m : MethodId} {args : Array Value} {below : List Frame} {meth : Method} {c : Code} {dC : Nat → ClassId} {dI : Nat → Nat → Nat} {cy : Nat → ClassId} {ad tz : Nat → Nat} {Q : Int32 → Mm → Prop} (C : CX p s m args meth c dC dI cy ad tz cX8_manyRows 3 (some .int) RX8 wsX8_manyRows) : ∀ (n : Nat) (g : Mm) (x1 : Int32) (x2 : Int32) (H : Heap) (locs : List Loc) (ls : Array Slot), St dC dI cy ad s g H locs → lv_has ls 3 [(0, .ref (ad 86)), (1, .int x1), (2, .int x2)] → o_X8_manyRows_4 Q n g x1 x2 → W p l e (rmD 0) s m args below meth c H locs 0 0 (QI dC dI cy ad below args s Q) (F0 m 4 ls []) := by
  have hx := C.1.1
  have hb := C.1.2.1
  intro n4
  induction n4 with
  | zero => intro g x1 x2 H locs ls S hl h; exact h.elim
  | succ n4 ih =>
    intro g x1 x2 H locs ls S hl h
    have h : ((8 ≤ x2) → Q x1 g) ∧ ((¬ 8 ≤ x2) → vp_in x2 8 ∧ ((((g.1 93 x2.toNatClampNeg) = 0) → o_X8_manyRows_25 Q (o_X8_manyRows_4 Q n4) g x2 x1 0) ∧ ((¬ (g.1 93 x2.toNatClampNeg) = 0) → o_X8_manyRows_25 Q (o_X8_manyRows_4 Q n4) g x2 x1 1))) := h
    refine lv_iload_n hx hb dX8_manyRows_4 rfl (lv_at hl 2 rfl) ?_
    refine lv_bipush (v := 8) hx hb dX8_manyRows_5 (by decide) ?_
    refine lv_icmp_ge (tgt := 33) hx hb dX8_manyRows_7 (by decide) (fun c1 => ?_) (fun c1 => ?_)
    · have h := h.1 c1
      refine lv_iload_n hx hb dX8_manyRows_33 rfl (lv_at hl 1 rfl) ?_
      exact kRi C S h dX8_manyRows_34
    · have h := h.2 c1
      refine lv_iload_n hx hb dX8_manyRows_10 rfl (lv_at hl 1 rfl) ?_
      refine lv_aload_n hx hb dX8_manyRows_11 rfl (lv_at hl 0 rfl) ?_
      refine kg8 (k := 8) (v := .ref (ad 93)) C S rfl (by decide) n_X8_manyRows_X8 m_X8_manyRows_1 rfl dX8_manyRows_12 ?_
      refine lv_iload_n hx hb dX8_manyRows_15 rfl (lv_at hl 2 rfl) ?_
      obtain ⟨hi, h⟩ := h
      refine kLz C S rfl rfl hi dX8_manyRows_16 ?_
      refine lv_if_eq (tgt := 24) hx hb dX8_manyRows_17 (by decide) (fun c1 => ?_) (fun c1 => ?_)
      · have h := h.1 c1
        refine lv_iconst (v := 0) hx hb dX8_manyRows_24 (by decide) ?_
        exact o_X8_manyRows_25_w C ih g x2 x1 0 _ _ _ S (lv_sub hl [0, 2] rfl) h
      · have h := h.2 c1
        refine lv_iconst (v := 1) hx hb dX8_manyRows_20 (by decide) ?_
        refine lv_goto (tgt := 25) hx hb dX8_manyRows_21 (by decide) ?_
        exact o_X8_manyRows_25_w C ih g x2 x1 1 _ _ _ S (lv_sub hl [0, 2] rfl) h
def o_X8_manyRows (Q : Int32 → Mm → Prop) (g : Mm) : Prop := ∃ n4, o_X8_manyRows_4 Q n4 g 0 0
set_option maxHeartbeats 4000000 in
set_option maxRecDepth 100000 in
theorem o_X8_manyRows_c {l : Launch} {dC : Nat → ClassId} {dI : Nat → Nat → Nat} {cy : Nat → ClassId} {ad tz : Nat → Nat} {Q : Int32 → Mm → Prop} {g : Mm} (h : o_X8_manyRows Q g) : CI l dC dI cy ad tz yX8_manyRows wsX8_manyRows (rmD 0) [.ref (ad 86)] g Q := by
  refine CI.of (by decide) rfl rfl (Nat.le_of_ble_eq_true rfl) ?_
  intro p e s m args below meth c ls C hl S
  have hl : lv_has ls 3 [(0, .ref (ad 86))] := hl
  have hx := C.1.1
  have hb := C.1.2.1
  unfold o_X8_manyRows at h
  refine lv_iconst (v := 0) hx hb dX8_manyRows_0 (by decide) ?_
  refine lv_istore_n (lv' := [(1, .int 0), (0, .ref (ad 86))]) hx hb dX8_manyRows_1 rfl hl (by decide) rfl (fun ls hl => ?_)
  refine lv_iconst (v := 0) hx hb dX8_manyRows_2 (by decide) ?_
  refine lv_istore_n (lv' := [(2, .int 0), (1, .int 0), (0, .ref (ad 86))]) hx hb dX8_manyRows_3 rfl hl (by decide) rfl (fun ls hl => ?_)
  obtain ⟨n4, h⟩ := h
  refine o_X8_manyRows_4_w C n4 g 0 0 _ _ _ S (lv_sub hl [2, 1, 0] rfl) h
/-! ClawCaseModel.count(I)I, height 2 -/
theorem cw_X8_count_X8_manyRows {s : State} {args : Array Value} (ht : ∀ w ∈ wsX8_count, w.before args s = true) : CallW (rmD 2) s args RX8 RX8 283 yX8_manyRows cX8_manyRows 3 (some .int) wsX8_manyRows (rmD (0)) 0 0 0 := cwV 0 ht gX8_count_X8_manyRows rfl rfl rfl (by decide +kernel) ⟨Nat.le_of_ble_eq_true rfl, Nat.le_of_ble_eq_true rfl⟩
theorem cw_X8_count_X8_toys {s : State} {args : Array Value} (ht : ∀ w ∈ wsX8_count, w.before args s = true) : CallW (rmD 2) s args RX8 RX8 140 yX8_toys cX8_toys 1 (some .int) wsX8_toys (rmD (0)) 0 0 0 := cwV 0 ht gX8_count_X8_toys rfl rfl rfl (by decide +kernel) ⟨Nat.le_of_ble_eq_true rfl, Nat.le_of_ble_eq_true rfl⟩
theorem m_X8_count_1 : Cond.fieldLink RX8 7 "ClawCaseModel" "now" "[I" ∈ wsX8_count := List.mem_of_getElem? (i := 1) (by decide +kernel)
theorem n_X8_count_X8 : ∀ w ∈ wsX80, w ∈ wsX8_count := mem_by [19, 20, 21, 22, 23, 24, 25, 26, 27, 28, 29, 30, 31, 32, 33, 34, 35, 36, 37, 38, 39, 40, 41, 42] (by decide +kernel)
theorem cw_X8_count_X8_setIn {s : State} {args : Array Value} (ht : ∀ w ∈ wsX8_count, w.before args s = true) : CallW (rmD 2) s args RX8 RX8 194 yX8_setIn cX8_setIn 4 (some .int) wsX8_setIn (rmD (1)) 0 0 1 := cwV 1 ht gX8_count_X8_setIn rfl rfl rfl (by decide +kernel) ⟨Nat.le_of_ble_eq_true rfl, Nat.le_of_ble_eq_true rfl⟩
theorem m_X8_count_2 : Cond.fieldLink RX8 137 "ClawCaseModel" "manyActs" "I" ∈ wsX8_count := List.mem_of_getElem? (i := 2) (by decide +kernel)
theorem m_X8_count_3 : Cond.fieldLink RX8 81 "ClawCaseModel" "tapeLong" "I" ∈ wsX8_count := List.mem_of_getElem? (i := 3) (by decide +kernel)
theorem m_X8_count_4 : Cond.constant RX8 71 (-1000001) ∈ wsX8_count := List.mem_of_getElem? (i := 4) (by decide +kernel)
def o_X8_count (Q : Int32 → Mm → Prop) (g : Mm) (x1 : Int32) : Prop := (x1 = 0 → o_X8_manyRows (fun (r_2 : Int32) (g_1 : Mm) => Q r_2 g_1) g) ∧ (x1 = 1 → o_X8_toys (fun (r_4 : Int32) (g_3 : Mm) => Q r_4 g_3) g) ∧ (x1 = 2 → vp_in 15 33 ∧ (Q (g.1 87 (15 : Int32).toNatClampNeg) g)) ∧ (x1 = 3 → vp_in 16 33 ∧ (Q (g.1 87 (16 : Int32).toNatClampNeg) g)) ∧ (x1 = 4 → vp_in 17 33 ∧ (Q (g.1 87 (17 : Int32).toNatClampNeg) g)) ∧ (x1 = 5 → vp_in 18 33 ∧ (Q (g.1 87 (18 : Int32).toNatClampNeg) g)) ∧ (x1 = 6 → o_X8_setIn (fun (r_6 : Int32) (g_5 : Mm) => Q r_6 g_5) g 0) ∧ (x1 = 7 → o_X8_setIn (fun (r_8 : Int32) (g_7 : Mm) => Q r_8 g_7) g 9) ∧ (x1 = 8 → Q (g.1 86 4) g) ∧ (x1 = 9 → Q (g.1 86 12) g) ∧ ((¬ x1 = 0 ∧ ¬ x1 = 1 ∧ ¬ x1 = 2 ∧ ¬ x1 = 3 ∧ ¬ x1 = 4 ∧ ¬ x1 = 5 ∧ ¬ x1 = 6 ∧ ¬ x1 = 7 ∧ ¬ x1 = 8 ∧ ¬ x1 = 9) → Q (-1000001) g)
set_option maxHeartbeats 4000000 in
set_option maxRecDepth 100000 in
theorem o_X8_count_c {l : Launch} {dC : Nat → ClassId} {dI : Nat → Nat → Nat} {cy : Nat → ClassId} {ad tz : Nat → Nat} {Q : Int32 → Mm → Prop} {g : Mm} {x1 : Int32} (h : o_X8_count Q g x1) : CI l dC dI cy ad tz yX8_count wsX8_count (rmD 2) [.ref (ad 86), .int x1] g Q := by
  refine CI.of (by decide) rfl rfl (Nat.le_of_ble_eq_true rfl) ?_
  intro p e s m args below meth c ls C hl S
  have hl : lv_has ls 2 [(0, .ref (ad 86)), (1, .int x1)] := hl
  have hx := C.1.1
  have hb := C.1.2.1
  unfold o_X8_count at h
  refine lv_iload_n hx hb dX8_count_0 rfl (lv_at hl 1 rfl) ?_
  by_cases c0 : x1 = 0
  · have h := h.1 c0
    refine lv_tableIn (off := 55) (tgt := 56) hx hb dX8_count_1 (by rw [c0]; decide) (by rw [c0]; decide) (by rw [c0]; decide) (by decide) ?_
    refine lv_aload_n hx hb dX8_count_56 rfl (lv_at hl 0 rfl) ?_
    refine kV_i (As := []) (rest := []) C S hl.1 (o_X8_manyRows_c h) (wd_o8 rfl) rfl (cw_X8_count_X8_manyRows C.1.2.2.2.2) rfl rfl (Nat.le_of_ble_eq_true rfl) dX8_count_57 (fun r_2 g_1 H locs h S => ?_)
    exact kRi C S h dX8_count_60
  by_cases c1 : x1 = 1
  · have h := h.2.1 c1
    refine lv_tableIn (off := 60) (tgt := 61) hx hb dX8_count_1 (by rw [c1]; decide) (by rw [c1]; decide) (by rw [c1]; decide) (by decide) ?_
    refine lv_aload_n hx hb dX8_count_61 rfl (lv_at hl 0 rfl) ?_
    refine kV_i (As := []) (rest := []) C S hl.1 (o_X8_toys_c h) (wd_o8 rfl) rfl (cw_X8_count_X8_toys C.1.2.2.2.2) rfl rfl (Nat.le_of_ble_eq_true rfl) dX8_count_62 (fun r_4 g_3 H locs h S => ?_)
    exact kRi C S h dX8_count_65
  by_cases c2 : x1 = 2
  · have h := h.2.2.1 c2
    refine lv_tableIn (off := 65) (tgt := 66) hx hb dX8_count_1 (by rw [c2]; decide) (by rw [c2]; decide) (by rw [c2]; decide) (by decide) ?_
    refine lv_aload_n hx hb dX8_count_66 rfl (lv_at hl 0 rfl) ?_
    refine kg8 (k := 0) (v := .ref (ad 87)) C S rfl (by decide) n_X8_count_X8 m_X8_count_1 rfl dX8_count_67 ?_
    refine lv_bipush (v := 15) hx hb dX8_count_70 (by decide) ?_
    obtain ⟨hi, h⟩ := h
    refine kLi C S rfl rfl hi dX8_count_72 ?_
    exact kRi C S h dX8_count_73
  by_cases c3 : x1 = 3
  · have h := h.2.2.2.1 c3
    refine lv_tableIn (off := 73) (tgt := 74) hx hb dX8_count_1 (by rw [c3]; decide) (by rw [c3]; decide) (by rw [c3]; decide) (by decide) ?_
    refine lv_aload_n hx hb dX8_count_74 rfl (lv_at hl 0 rfl) ?_
    refine kg8 (k := 0) (v := .ref (ad 87)) C S rfl (by decide) n_X8_count_X8 m_X8_count_1 rfl dX8_count_75 ?_
    refine lv_bipush (v := 16) hx hb dX8_count_78 (by decide) ?_
    obtain ⟨hi, h⟩ := h
    refine kLi C S rfl rfl hi dX8_count_80 ?_
    exact kRi C S h dX8_count_81
  by_cases c4 : x1 = 4
  · have h := h.2.2.2.2.1 c4
    refine lv_tableIn (off := 81) (tgt := 82) hx hb dX8_count_1 (by rw [c4]; decide) (by rw [c4]; decide) (by rw [c4]; decide) (by decide) ?_
    refine lv_aload_n hx hb dX8_count_82 rfl (lv_at hl 0 rfl) ?_
    refine kg8 (k := 0) (v := .ref (ad 87)) C S rfl (by decide) n_X8_count_X8 m_X8_count_1 rfl dX8_count_83 ?_
    refine lv_bipush (v := 17) hx hb dX8_count_86 (by decide) ?_
    obtain ⟨hi, h⟩ := h
    refine kLi C S rfl rfl hi dX8_count_88 ?_
    exact kRi C S h dX8_count_89
  by_cases c5 : x1 = 5
  · have h := h.2.2.2.2.2.1 c5
    refine lv_tableIn (off := 89) (tgt := 90) hx hb dX8_count_1 (by rw [c5]; decide) (by rw [c5]; decide) (by rw [c5]; decide) (by decide) ?_
    refine lv_aload_n hx hb dX8_count_90 rfl (lv_at hl 0 rfl) ?_
    refine kg8 (k := 0) (v := .ref (ad 87)) C S rfl (by decide) n_X8_count_X8 m_X8_count_1 rfl dX8_count_91 ?_
    refine lv_bipush (v := 18) hx hb dX8_count_94 (by decide) ?_
    obtain ⟨hi, h⟩ := h
    refine kLi C S rfl rfl hi dX8_count_96 ?_
    exact kRi C S h dX8_count_97
  by_cases c6 : x1 = 6
  · have h := h.2.2.2.2.2.2.1 c6
    refine lv_tableIn (off := 97) (tgt := 98) hx hb dX8_count_1 (by rw [c6]; decide) (by rw [c6]; decide) (by rw [c6]; decide) (by decide) ?_
    refine lv_aload_n hx hb dX8_count_98 rfl (lv_at hl 0 rfl) ?_
    refine lv_iconst (v := 0) hx hb dX8_count_99 (by decide) ?_
    refine kV_i (As := [.int 0]) (rest := []) C S hl.1 (o_X8_setIn_c h) (wd_o8 rfl) rfl (cw_X8_count_X8_setIn C.1.2.2.2.2) rfl rfl (Nat.le_of_ble_eq_true rfl) dX8_count_100 (fun r_6 g_5 H locs h S => ?_)
    exact kRi C S h dX8_count_103
  by_cases c7 : x1 = 7
  · have h := h.2.2.2.2.2.2.2.1 c7
    refine lv_tableIn (off := 103) (tgt := 104) hx hb dX8_count_1 (by rw [c7]; decide) (by rw [c7]; decide) (by rw [c7]; decide) (by decide) ?_
    refine lv_aload_n hx hb dX8_count_104 rfl (lv_at hl 0 rfl) ?_
    refine lv_bipush (v := 9) hx hb dX8_count_105 (by decide) ?_
    refine kV_i (As := [.int 9]) (rest := []) C S hl.1 (o_X8_setIn_c h) (wd_o8 rfl) rfl (cw_X8_count_X8_setIn C.1.2.2.2.2) rfl rfl (Nat.le_of_ble_eq_true rfl) dX8_count_107 (fun r_8 g_7 H locs h S => ?_)
    exact kRi C S h dX8_count_110
  by_cases c8 : x1 = 8
  · have h := h.2.2.2.2.2.2.2.2.1 c8
    refine lv_tableIn (off := 110) (tgt := 111) hx hb dX8_count_1 (by rw [c8]; decide) (by rw [c8]; decide) (by rw [c8]; decide) (by decide) ?_
    refine lv_aload_n hx hb dX8_count_111 rfl (lv_at hl 0 rfl) ?_
    refine kg8 (k := 4) (v := .int (g.1 86 4)) C S rfl (by decide) n_X8_count_X8 m_X8_count_2 rfl dX8_count_112 ?_
    exact kRi C S h dX8_count_115
  by_cases c9 : x1 = 9
  · have h := h.2.2.2.2.2.2.2.2.2.1 c9
    refine lv_tableIn (off := 115) (tgt := 116) hx hb dX8_count_1 (by rw [c9]; decide) (by rw [c9]; decide) (by rw [c9]; decide) (by decide) ?_
    refine lv_aload_n hx hb dX8_count_116 rfl (lv_at hl 0 rfl) ?_
    refine kg8 (k := 12) (v := .int (g.1 86 12)) C S rfl (by decide) n_X8_count_X8 m_X8_count_3 rfl dX8_count_117 ?_
    exact kRi C S h dX8_count_120
  have h := h.2.2.2.2.2.2.2.2.2.2 ⟨c0, c1, c2, c3, c4, c5, c6, c7, c8, c9⟩
  refine lv_tableOut (tgt := 121) hx hb dX8_count_1 (tb_out 0 9 ?_) (by decide) ?_
  · intro k h1 h2
    rcases (show k = 0 ∨ k = 1 ∨ k = 2 ∨ k = 3 ∨ k = 4 ∨ k = 5 ∨ k = 6 ∨ k = 7 ∨ k = 8 ∨ k = 9 by omega) with rfl | rfl | rfl | rfl | rfl | rfl | rfl | rfl | rfl | rfl
    · exact lk_ne c0 (by decide)
    · exact lk_ne c1 (by decide)
    · exact lk_ne c2 (by decide)
    · exact lk_ne c3 (by decide)
    · exact lk_ne c4 (by decide)
    · exact lk_ne c5 (by decide)
    · exact lk_ne c6 (by decide)
    · exact lk_ne c7 (by decide)
    · exact lk_ne c8 (by decide)
    · exact lk_ne c9 (by decide)
  refine kLdc C m_X8_count_4 dX8_count_121 ?_
  exact kRi C S h dX8_count_123
/-! ClawCaseModel.gripOf([II)I, height 0 -/
def o_X8_gripOf (Q : Int32 → Mm → Prop) (a0 : Nat) (g : Mm) (x1 : Int32) : Prop := vp_in 18 33 ∧ (¬ (g.1 a0 (18 : Int32).toNatClampNeg : Int32) = 0 ∧ (((¬ (x1 - x1 / (g.1 a0 (18 : Int32).toNatClampNeg) * (g.1 a0 (18 : Int32).toNatClampNeg)) = 0) → vp_in 16 33 ∧ (Q (g.1 a0 (16 : Int32).toNatClampNeg) g)) ∧ (((x1 - x1 / (g.1 a0 (18 : Int32).toNatClampNeg) * (g.1 a0 (18 : Int32).toNatClampNeg)) = 0) → vp_in 17 33 ∧ (Q (g.1 a0 (17 : Int32).toNatClampNeg) g))))
set_option maxHeartbeats 4000000 in
set_option maxRecDepth 100000 in
theorem o_X8_gripOf_c {l : Launch} {dC : Nat → ClassId} {dI : Nat → Nat → Nat} {cy : Nat → ClassId} {ad tz : Nat → Nat} {Q : Int32 → Mm → Prop} {a0 : Nat} {g : Mm} {x1 : Int32} (ha0 : ly a0 = 9) (hn0 : ln a0 = 33) (h : o_X8_gripOf Q a0 g x1) : CI l dC dI cy ad tz yX8_gripOf wsX8_gripOf (rmD 0) [.ref (ad a0), .int x1] g Q := by
  refine CI.of (by decide) rfl rfl (Nat.le_of_ble_eq_true rfl) ?_
  intro p e s m args below meth c ls C hl S
  have hl : lv_has ls 2 [(0, .ref (ad a0)), (1, .int x1)] := hl
  have hx := C.1.1
  have hb := C.1.2.1
  unfold o_X8_gripOf at h
  refine lv_iload_n hx hb dX8_gripOf_0 rfl (lv_at hl 1 rfl) ?_
  refine lv_aload_n hx hb dX8_gripOf_1 rfl (lv_at hl 0 rfl) ?_
  refine lv_bipush (v := 18) hx hb dX8_gripOf_2 (by decide) ?_
  obtain ⟨hi, h⟩ := h
  refine kLi C S ha0 hn0 hi dX8_gripOf_4 ?_
  obtain ⟨h0, h⟩ := h
  refine lv_irem hx hb dX8_gripOf_5 h0 ?_
  refine lv_if_ne (tgt := 16) hx hb dX8_gripOf_6 (by decide) (fun c1 => ?_) (fun c1 => ?_)
  · have h := h.1 c1
    refine lv_aload_n hx hb dX8_gripOf_16 rfl (lv_at hl 0 rfl) ?_
    refine lv_bipush (v := 16) hx hb dX8_gripOf_17 (by decide) ?_
    obtain ⟨hi, h⟩ := h
    refine kLi C S ha0 hn0 hi dX8_gripOf_19 ?_
    exact kRi C S h dX8_gripOf_20
  · have h := h.2 c1
    refine lv_aload_n hx hb dX8_gripOf_9 rfl (lv_at hl 0 rfl) ?_
    refine lv_bipush (v := 17) hx hb dX8_gripOf_10 (by decide) ?_
    obtain ⟨hi, h⟩ := h
    refine kLi C S ha0 hn0 hi dX8_gripOf_12 ?_
    refine lv_goto (tgt := 20) hx hb dX8_gripOf_13 (by decide) ?_
    exact kRi C S h dX8_gripOf_20
/-! ClawCaseModel.goNext([II)I, height 3 -/
theorem cw_X8_goNext_X8_goPlay {s : State} {args : Array Value} (ht : ∀ w ∈ wsX8_goNext, w.before args s = true) : CallB (rmD 3) s args RX8 172 yX8_goPlay cX8_goPlay 7 (some .int) wsX8_goPlay (rmD (2)) 0 0 3 ∧ (Cond.static yX8_goPlay).before args s = true := va_cwS 3 ht gX8_goNext_X8_goPlay rfl rfl rfl (by decide +kernel) ⟨Nat.le_of_ble_eq_true rfl, Nat.le_of_ble_eq_true rfl⟩
theorem cw_X8_goNext_X8_gripOf {s : State} {args : Array Value} (ht : ∀ w ∈ wsX8_goNext, w.before args s = true) : CallB (rmD 3) s args RX8 169 yX8_gripOf cX8_gripOf 2 (some .int) wsX8_gripOf (rmD (0)) 0 0 2 ∧ (Cond.static yX8_gripOf).before args s = true := va_cwS 2 ht gX8_goNext_X8_gripOf rfl rfl rfl (by decide +kernel) ⟨Nat.le_of_ble_eq_true rfl, Nat.le_of_ble_eq_true rfl⟩
def o_X8_goNext (Q : Int32 → Mm → Prop) (a0 : Nat) (g : Mm) (x1 : Int32) : Prop := vp_in 15 33 ∧ (o_X8_gripOf (fun (r_2 : Int32) (g_1 : Mm) => o_X8_goPlay (fun (r_4 : Int32) (g_3 : Mm) => Q r_4 g_3) a0 g_1 x1 r_2) a0 g ((g.1 a0 (15 : Int32).toNatClampNeg) + 1))
set_option maxHeartbeats 4000000 in
set_option maxRecDepth 100000 in
theorem o_X8_goNext_c {l : Launch} {dC : Nat → ClassId} {dI : Nat → Nat → Nat} {cy : Nat → ClassId} {ad tz : Nat → Nat} {Q : Int32 → Mm → Prop} {a0 : Nat} {g : Mm} {x1 : Int32} (ha0 : ly a0 = 9) (hn0 : ln a0 = 33) (h : o_X8_goNext Q a0 g x1) : CI l dC dI cy ad tz yX8_goNext wsX8_goNext (rmD 3) [.ref (ad a0), .int x1] g Q := by
  refine CI.of (by decide) rfl rfl (Nat.le_of_ble_eq_true rfl) ?_
  intro p e s m args below meth c ls C hl S
  have hl : lv_has ls 2 [(0, .ref (ad a0)), (1, .int x1)] := hl
  have hx := C.1.1
  have hb := C.1.2.1
  unfold o_X8_goNext at h
  refine lv_aload_n hx hb dX8_goNext_0 rfl (lv_at hl 0 rfl) ?_
  refine lv_iload_n hx hb dX8_goNext_1 rfl (lv_at hl 1 rfl) ?_
  refine lv_aload_n hx hb dX8_goNext_2 rfl (lv_at hl 0 rfl) ?_
  refine lv_aload_n hx hb dX8_goNext_3 rfl (lv_at hl 0 rfl) ?_
  refine lv_bipush (v := 15) hx hb dX8_goNext_4 (by decide) ?_
  obtain ⟨hi, h⟩ := h
  refine kLi C S ha0 hn0 hi dX8_goNext_6 ?_
  refine lv_iconst (v := 1) hx hb dX8_goNext_7 (by decide) ?_
  refine lv_iadd hx hb dX8_goNext_8 ?_
  refine kS_i (As := [.ref (ad a0), .int ((g.1 a0 (15 : Int32).toNatClampNeg) + 1)]) (rest := [.int x1, .ref (ad a0)]) C S hl.1 (o_X8_gripOf_c ha0 hn0 h) (cw_X8_goNext_X8_gripOf C.1.2.2.2.2) rfl rfl (Nat.le_of_ble_eq_true rfl) dX8_goNext_9 (fun r_2 g_1 H locs h S => ?_)
  refine kS_i (As := [.ref (ad a0), .int x1, .int r_2]) (rest := []) C S hl.1 (o_X8_goPlay_c ha0 hn0 h) (cw_X8_goNext_X8_goPlay C.1.2.2.2.2) rfl rfl (Nat.le_of_ble_eq_true rfl) dX8_goNext_12 (fun r_4 g_3 H locs h S => ?_)
  exact kRi C S h dX8_goNext_15
/-! ClawCaseModel.drawn(III)I, height 4 -/
theorem m_X8_drawn_2 : Cond.constantLong RX8 200 (60) ∈ wsX8_drawn := List.mem_of_getElem? (i := 2) (by decide +kernel)
theorem m_X8_drawn_4 : Cond.constant RX8 71 (-1000001) ∈ wsX8_drawn := List.mem_of_getElem? (i := 4) (by decide +kernel)
theorem m_X8_drawn_3 : Cond.constantLong RX8 244 (999999) ∈ wsX8_drawn := List.mem_of_getElem? (i := 3) (by decide +kernel)
theorem m_X8_drawn_5 : Cond.constantLong RX8 246 (16807) ∈ wsX8_drawn := List.mem_of_getElem? (i := 5) (by decide +kernel)
theorem m_X8_drawn_6 : Cond.constantLong RX8 248 (2147483647) ∈ wsX8_drawn := List.mem_of_getElem? (i := 6) (by decide +kernel)
theorem m_X8_drawn_7 : Cond.fieldLink RX8 44 "ClawCaseModel" "hand" "[I" ∈ wsX8_drawn := List.mem_of_getElem? (i := 7) (by decide +kernel)
theorem n_X8_drawn_X8 : ∀ w ∈ wsX80, w ∈ wsX8_drawn := mem_by [56, 57, 58, 59, 60, 61, 62, 63, 64, 65, 66, 67, 68, 69, 70, 71, 72, 73, 74, 75, 76, 77, 78, 79] (by decide +kernel)
theorem m_X8_drawn_9 : Cond.constantLong RX8 69 (2) ∈ wsX8_drawn := List.mem_of_getElem? (i := 9) (by decide +kernel)
theorem m_X8_drawn_8 : Cond.constantLong RX8 143 (5) ∈ wsX8_drawn := List.mem_of_getElem? (i := 8) (by decide +kernel)
theorem cw_X8_drawn_X8_goNext {s : State} {args : Array Value} (ht : ∀ w ∈ wsX8_drawn, w.before args s = true) : CallB (rmD 4) s args RX8 183 yX8_goNext cX8_goNext 2 (some .int) wsX8_goNext (rmD (3)) 0 0 2 ∧ (Cond.static yX8_goNext).before args s = true := va_cwS 2 ht gX8_drawn_X8_goNext rfl rfl rfl (by decide +kernel) ⟨Nat.le_of_ble_eq_true rfl, Nat.le_of_ble_eq_true rfl⟩
theorem cw_X8_drawn_X8_lay {s : State} {args : Array Value} (ht : ∀ w ∈ wsX8_drawn, w.before args s = true) : CallB (rmD 4) s args RX8 162 yX8_lay cX8_lay 3 none wsX8_lay (rmD (1)) 0 0 3 ∧ (Cond.static yX8_lay).before args s = true := va_cwS 3 ht gX8_drawn_X8_lay rfl rfl rfl (by decide +kernel) ⟨Nat.le_of_ble_eq_true rfl, Nat.le_of_ble_eq_true rfl⟩
theorem cw_X8_drawn_X8_isColumn {s : State} {args : Array Value} (ht : ∀ w ∈ wsX8_drawn, w.before args s = true) : CallB (rmD 4) s args RX8 177 yX8_isColumn cX8_isColumn 1 (some .boolean) wsX8_isColumn (rmD (1)) 0 0 1 ∧ (Cond.static yX8_isColumn).before args s = true := va_cwS 1 ht gX8_drawn_X8_isColumn rfl rfl rfl (by decide +kernel) ⟨Nat.le_of_ble_eq_true rfl, Nat.le_of_ble_eq_true rfl⟩
theorem cw_X8_drawn_X8_toys {s : State} {args : Array Value} (ht : ∀ w ∈ wsX8_drawn, w.before args s = true) : CallW (rmD 4) s args RX8 RX8 140 yX8_toys cX8_toys 1 (some .int) wsX8_toys (rmD (0)) 0 0 0 := cwV 0 ht gX8_drawn_X8_toys rfl rfl rfl (by decide +kernel) ⟨Nat.le_of_ble_eq_true rfl, Nat.le_of_ble_eq_true rfl⟩
theorem cw_X8_drawn_X8_layHand {s : State} {args : Array Value} (ht : ∀ w ∈ wsX8_drawn, w.before args s = true) : CallW (rmD 4) s args RX8 RX8 197 yX8_layHand cX8_layHand 2 none wsX8_layHand (rmD (0)) 0 0 0 := cwV 0 ht gX8_drawn_X8_layHand rfl rfl rfl (by decide +kernel) ⟨Nat.le_of_ble_eq_true rfl, Nat.le_of_ble_eq_true rfl⟩
theorem cw_X8_drawn_X8_in {s : State} {args : Array Value} (ht : ∀ w ∈ wsX8_drawn, w.before args s = true) : CallB (rmD 4) s args RX8 61 yX8_in cX8_in 6 (some .boolean) wsX8_in (rmD (0)) 0 0 3 ∧ (Cond.static yX8_in).before args s = true := va_cwS 3 ht gX8_drawn_X8_in rfl rfl rfl (by decide +kernel) ⟨Nat.le_of_ble_eq_true rfl, Nat.le_of_ble_eq_true rfl⟩
theorem m_X8_drawn_1 : Cond.constant RX8 176 (-1000002) ∈ wsX8_drawn := List.mem_of_getElem? (i := 1) (by decide +kernel)
def o_X8_drawn_171 (Q : Int32 → Mm → Prop) (K61 : Mm → Int32 → Int32 → Int64 → Int32 → Int32 → Prop) (K180 : Mm → Int32 → Int32 → Prop) (g : Mm) (x1 : Int32) (x3 : Int32) (y4 : Int64) (x7 : Int32) (s0 : Int32) (s1 : Int32) : Prop := ∀ x_20 : Int32, x_20 = (s0 + s1) → (∀ x_21 : Int32, x_21 = x7 + 1 → (K61 g x1 x3 y4 x_20 x_21))
def o_X8_drawn_170 (Q : Int32 → Mm → Prop) (K61 : Mm → Int32 → Int32 → Int64 → Int32 → Int32 → Prop) (K180 : Mm → Int32 → Int32 → Prop) (g : Mm) (x1 : Int32) (x3 : Int32) (y4 : Int64) (x7 : Int32) (s0 : Int32) : Prop := o_X8_drawn_171 Q K61 K180 g x1 x3 y4 x7 s0 0
def o_X8_drawn_124 (Q : Int32 → Mm → Prop) (K61 : Mm → Int32 → Int32 → Int64 → Int32 → Int32 → Prop) (K180 : Mm → Int32 → Int32 → Prop) (g : Mm) (x1 : Int32) (x3 : Int32) (y4 : Int64) (x6 : Int32) (x7 : Int32) : Prop := ¬ (2 : Int64) = 0 ∧ (¬ (5 : Int64) = 0 ∧ (o_X8_goNext (fun (r_19 : Int32) (g_18 : Mm) => ((r_19 < 0) → o_X8_drawn_170 Q K61 K180 g_18 x1 x3 y4 x7 x6) ∧ ((¬ r_19 < 0) → vp_in (19 + r_19) 33 ∧ (((¬ (g_18.1 98 (19 + r_19 : Int32).toNatClampNeg) = 0) → o_X8_drawn_170 Q K61 K180 g_18 x1 x3 y4 x7 x6) ∧ (((g_18.1 98 (19 + r_19 : Int32).toNatClampNeg) = 0) → o_X8_drawn_171 Q K61 K180 g_18 x1 x3 y4 x7 x6 1)))) 98 g ((((y4 / 2) - (y4 / 2) / 5 * 5 : Int64).toInt32) + 1)))
def o_X8_drawn_61 (Q : Int32 → Mm → Prop) (K180 : Mm → Int32 → Int32 → Prop) : Nat → Mm → Int32 → Int32 → Int64 → Int32 → Int32 → Prop
  | 0, _, _, _, _, _, _ => False
  | n61 + 1, g, x1, x3, y4, x6, x7 => ((x1 ≤ x7) → K180 g x3 x6) ∧ ((¬ x1 ≤ x7) → ¬ (2147483647 : Int64) = 0 ∧ (∀ y_12 : Int64, y_12 = ((y4 * 16807) - (y4 * 16807) / 2147483647 * 2147483647) → (o_X8_toys (fun (r_14 : Int32) (g_13 : Mm) => ¬ ((r_14 : Int32).toInt64 : Int64) = 0 ∧ (∀ x_15 : Int32, x_15 = ((y_12 - y_12 / ((r_14 : Int32).toInt64) * ((r_14 : Int32).toInt64) : Int64).toInt32) → (vp_in (19 + x_15) 33 ∧ (o_X8_isColumn (fun (r_17 : Int32) (g_16 : Mm) => ((¬ r_17 = 0) → o_X8_drawn_124 Q (o_X8_drawn_61 Q K180 n61) K180 g_16 x1 x3 y_12 x6 x7) ∧ ((r_17 = 0) → ¬ (5 : Int64) = 0 ∧ (o_X8_lay (fun (g_22 : Mm) => o_X8_drawn_124 Q (o_X8_drawn_61 Q K180 n61) K180 g_22 x1 x3 y_12 x6 x7) 98 g_16 x_15 (((y_12 - y_12 / 5 * 5 : Int64).toInt32) + 1)))) g_13 (g_13.1 98 (19 + x_15 : Int32).toNatClampNeg))))) g)))
def o_X8_drawn_217 (Q : Int32 → Mm → Prop) (K186 : Mm → Int32 → Int32 → Int32 → Int32 → Prop) (K226 : Mm → Int32 → Int32 → Int32 → Prop) (g : Mm) (x3 : Int32) (x6 : Int32) (x8 : Int32) (s0 : Int32) (s1 : Int32) : Prop := ∀ x_26 : Int32, x_26 = (s0 + s1) → (∀ x_27 : Int32, x_27 = x8 + 1 → (K186 g x3 x6 x_26 x_27))
def o_X8_drawn_186 (Q : Int32 → Mm → Prop) (K226 : Mm → Int32 → Int32 → Int32 → Prop) : Nat → Mm → Int32 → Int32 → Int32 → Int32 → Prop
  | 0, _, _, _, _, _ => False
  | n186 + 1, g, x3, x6, x7, x8 => o_X8_toys (fun (r_25 : Int32) (g_24 : Mm) => ((r_25 ≤ x8) → K226 g_24 x3 x6 x7) ∧ ((¬ r_25 ≤ x8) → vp_in (19 + x8) 33 ∧ (((¬ (g_24.1 98 (19 + x8 : Int32).toNatClampNeg) = 9) → o_X8_drawn_217 Q (o_X8_drawn_186 Q K226 n186) K226 g_24 x3 x6 x8 x7 0) ∧ (((g_24.1 98 (19 + x8 : Int32).toNatClampNeg) = 9) → o_X8_drawn_217 Q (o_X8_drawn_186 Q K226 n186) K226 g_24 x3 x6 x8 x7 1)))) g
set_option maxHeartbeats 4000000 in
set_option maxRecDepth 100000 in
theorem o_X8_drawn_171_w {p : Program} {l : Launch} {e : Env} {s : State} {m : MethodId} {args : Array Value} {below : List Frame} {meth : Method} {c : Code} {dC : Nat → ClassId} {dI : Nat → Nat → Nat} {cy : Nat → ClassId} {ad tz : Nat → Nat} {Q : Int32 → Mm → Prop} {K61 : Mm → Int32 → Int32 → Int64 → Int32 → Int32 → Prop} {K180 : Mm → Int32 → Int32 → Prop} (C : CX p s m args meth c dC dI cy ad tz cX8_drawn 10 (some .int) RX8 wsX8_drawn) (hK61 : ∀ (g : Mm) (x1 : Int32) (x3 : Int32) (y4 : Int64) (x6 : Int32) (x7 : Int32) (H : Heap) (locs : List Loc) (ls : Array Slot), St dC dI cy ad s g H locs → lv_has ls 10 [(0, .ref (ad 86)), (1, .int x1), (3, .int x3), (4, .long y4), (6, .int x6), (7, .int x7)] → K61 g x1 x3 y4 x6 x7 → W p l e (rmD 4) s m args below meth c H locs 0 0 (QI dC dI cy ad below args s Q) (F0 m 61 ls [])) (hK180 : ∀ (g : Mm) (x3 : Int32) (x6 : Int32) (H : Heap) (locs : List Loc) (ls : Array Slot), St dC dI cy ad s g H locs → lv_has ls 10 [(0, .ref (ad 86)), (3, .int x3), (6, .int x6)] → K180 g x3 x6 → W p l e (rmD 4) s m args below meth c H locs 0 0 (QI dC dI cy ad below args s Q) (F0 m 180 ls [])) : ∀ (g : Mm) (x1 : Int32) (x3 : Int32) (y4 : Int64) (x7 : Int32) (s0 : Int32) (s1 : Int32) (H : Heap) (locs : List Loc) (ls : Array Slot), St dC dI cy ad s g H locs → lv_has ls 10 [(0, .ref (ad 86)), (1, .int x1), (3, .int x3), (4, .long y4), (7, .int x7)] → o_X8_drawn_171 Q K61 K180 g x1 x3 y4 x7 s0 s1 → W p l e (rmD 4) s m args below meth c H locs 0 0 (QI dC dI cy ad below args s Q) (F0 m 171 ls [.int s1, .int s0]) := by
  have hx := C.1.1
  have hb := C.1.2.1
  intro g x1 x3 y4 x7 s0 s1 H locs ls S hl h
  unfold o_X8_drawn_171 at h
  refine lv_iadd hx hb dX8_drawn_171 ?_
  refine lv_topi (fun x_20 ex_20 => ?_)
  have h := h x_20 ex_20
  refine lv_istore (lv' := [(6, .int x_20), (0, .ref (ad 86)), (1, .int x1), (3, .int x3), (4, .long y4), (7, .int x7)]) hx hb dX8_drawn_172 hl (by decide) rfl (fun ls hl => ?_)
  obtain ⟨x_21, ex_21⟩ : ∃ y : Int32, y = x7 + 1 := ⟨_, rfl⟩
  have h := h x_21 ex_21
  refine lv_iinc (v := x_21) (lv' := [(7, .int x_21), (6, .int x_20), (0, .ref (ad 86)), (1, .int x1), (3, .int x3), (4, .long y4)]) hx hb dX8_drawn_174 hl (k := 5) rfl (by rw [ex_21]; rfl) (by decide) rfl (fun ls hl => ?_)
  refine lv_goto (tgt := 61) hx hb dX8_drawn_177 (by decide) ?_
  exact hK61 g x1 x3 y4 x_20 x_21 _ _ _ S (lv_sub hl [2, 3, 4, 5, 1, 0] rfl) h
set_option maxHeartbeats 4000000 in
set_option maxRecDepth 100000 in
theorem o_X8_drawn_170_w {p : Program} {l : Launch} {e : Env} {s : State} {m : MethodId} {args : Array Value} {below : List Frame} {meth : Method} {c : Code} {dC : Nat → ClassId} {dI : Nat → Nat → Nat} {cy : Nat → ClassId} {ad tz : Nat → Nat} {Q : Int32 → Mm → Prop} {K61 : Mm → Int32 → Int32 → Int64 → Int32 → Int32 → Prop} {K180 : Mm → Int32 → Int32 → Prop} (C : CX p s m args meth c dC dI cy ad tz cX8_drawn 10 (some .int) RX8 wsX8_drawn) (hK61 : ∀ (g : Mm) (x1 : Int32) (x3 : Int32) (y4 : Int64) (x6 : Int32) (x7 : Int32) (H : Heap) (locs : List Loc) (ls : Array Slot), St dC dI cy ad s g H locs → lv_has ls 10 [(0, .ref (ad 86)), (1, .int x1), (3, .int x3), (4, .long y4), (6, .int x6), (7, .int x7)] → K61 g x1 x3 y4 x6 x7 → W p l e (rmD 4) s m args below meth c H locs 0 0 (QI dC dI cy ad below args s Q) (F0 m 61 ls [])) (hK180 : ∀ (g : Mm) (x3 : Int32) (x6 : Int32) (H : Heap) (locs : List Loc) (ls : Array Slot), St dC dI cy ad s g H locs → lv_has ls 10 [(0, .ref (ad 86)), (3, .int x3), (6, .int x6)] → K180 g x3 x6 → W p l e (rmD 4) s m args below meth c H locs 0 0 (QI dC dI cy ad below args s Q) (F0 m 180 ls [])) : ∀ (g : Mm) (x1 : Int32) (x3 : Int32) (y4 : Int64) (x7 : Int32) (s0 : Int32) (H : Heap) (locs : List Loc) (ls : Array Slot), St dC dI cy ad s g H locs → lv_has ls 10 [(0, .ref (ad 86)), (1, .int x1), (3, .int x3), (4, .long y4), (7, .int x7)] → o_X8_drawn_170 Q K61 K180 g x1 x3 y4 x7 s0 → W p l e (rmD 4) s m args below meth c H locs 0 0 (QI dC dI cy ad below args s Q) (F0 m 170 ls [.int s0]) := by
  have hx := C.1.1
  have hb := C.1.2.1
  intro g x1 x3 y4 x7 s0 H locs ls S hl h
  unfold o_X8_drawn_170 at h
  refine lv_iconst (v := 0) hx hb dX8_drawn_170 (by decide) ?_
  exact o_X8_drawn_171_w C hK61 hK180 g x1 x3 y4 x7 s0 0 _ _ _ S (lv_sub hl [0, 1, 2, 3, 4] rfl) h
set_option maxHeartbeats 4000000 in
set_option maxRecDepth 100000 in
theorem o_X8_drawn_124_w {p : Program} {l : Launch} {e : Env} {s : State} {m : MethodId} {args : Array Value} {below : List Frame} {meth : Method} {c : Code} {dC : Nat → ClassId} {dI : Nat → Nat → Nat} {cy : Nat → ClassId} {ad tz : Nat → Nat} {Q : Int32 → Mm → Prop} {K61 : Mm → Int32 → Int32 → Int64 → Int32 → Int32 → Prop} {K180 : Mm → Int32 → Int32 → Prop} (C : CX p s m args meth c dC dI cy ad tz cX8_drawn 10 (some .int) RX8 wsX8_drawn) (hK61 : ∀ (g : Mm) (x1 : Int32) (x3 : Int32) (y4 : Int64) (x6 : Int32) (x7 : Int32) (H : Heap) (locs : List Loc) (ls : Array Slot), St dC dI cy ad s g H locs → lv_has ls 10 [(0, .ref (ad 86)), (1, .int x1), (3, .int x3), (4, .long y4), (6, .int x6), (7, .int x7)] → K61 g x1 x3 y4 x6 x7 → W p l e (rmD 4) s m args below meth c H locs 0 0 (QI dC dI cy ad below args s Q) (F0 m 61 ls [])) (hK180 : ∀ (g : Mm) (x3 : Int32) (x6 : Int32) (H : Heap) (locs : List Loc) (ls : Array Slot), St dC dI cy ad s g H locs → lv_has ls 10 [(0, .ref (ad 86)), (3, .int x3), (6, .int x6)] → K180 g x3 x6 → W p l e (rmD 4) s m args below meth c H locs 0 0 (QI dC dI cy ad below args s Q) (F0 m 180 ls [])) : ∀ (g : Mm) (x1 : Int32) (x3 : Int32) (y4 : Int64) (x6 : Int32) (x7 : Int32) (H : Heap) (locs : List Loc) (ls : Array Slot), St dC dI cy ad s g H locs → lv_has ls 10 [(0, .ref (ad 86)), (1, .int x1), (3, .int x3), (4, .long y4), (6, .int x6), (7, .int x7)] → o_X8_drawn_124 Q K61 K180 g x1 x3 y4 x6 x7 → W p l e (rmD 4) s m args below meth c H locs 0 0 (QI dC dI cy ad below args s Q) (F0 m 124 ls []) := by
  have hx := C.1.1
  have hb := C.1.2.1
  intro g x1 x3 y4 x6 x7 H locs ls S hl h
  unfold o_X8_drawn_124 at h
  refine lv_aload_n hx hb dX8_drawn_124 rfl (lv_at hl 0 rfl) ?_
  refine kg8 (k := 19) (v := .ref (ad 98)) C S rfl (by decide) n_X8_drawn_X8 m_X8_drawn_7 rfl dX8_drawn_125 ?_
  refine lv_lload hx hb dX8_drawn_128 (lv_at hl 3 rfl) ?_
  refine kLdc2 C m_X8_drawn_9 dX8_drawn_130 ?_
  obtain ⟨h0, h⟩ := h
  refine lv_ldiv hx hb dX8_drawn_133 h0 ?_
  refine kLdc2 C m_X8_drawn_8 dX8_drawn_134 ?_
  obtain ⟨h0, h⟩ := h
  refine lv_lrem hx hb dX8_drawn_137 h0 ?_
  refine lv_l2i hx hb dX8_drawn_138 rfl ?_
  refine lv_iconst (v := 1) hx hb dX8_drawn_139 (by decide) ?_
  refine lv_iadd hx hb dX8_drawn_140 ?_
  refine kS_i (As := [.ref (ad 98), .int ((((y4 / 2) - (y4 / 2) / 5 * 5 : Int64).toInt32) + 1)]) (rest := []) C S hl.1 (o_X8_goNext_c rfl rfl h) (cw_X8_drawn_X8_goNext C.1.2.2.2.2) rfl rfl (Nat.le_of_ble_eq_true rfl) dX8_drawn_141 (fun r_19 g_18 H locs h S => ?_)
  refine lv_istore (lv' := [(9, .int r_19), (0, .ref (ad 86)), (1, .int x1), (3, .int x3), (4, .long y4), (6, .int x6), (7, .int x7)]) hx hb dX8_drawn_144 hl (by decide) rfl (fun ls hl => ?_)
  refine lv_iload hx hb dX8_drawn_146 (lv_at hl 5 rfl) ?_
  refine lv_iload hx hb dX8_drawn_148 (lv_at hl 0 rfl) ?_
  refine lv_if_lt (tgt := 170) hx hb dX8_drawn_150 (by decide) (fun c1 => ?_) (fun c1 => ?_)
  · have h := h.1 c1
    exact o_X8_drawn_170_w C hK61 hK180 g_18 x1 x3 y4 x7 x6 _ _ _ S (lv_sub hl [1, 2, 3, 4, 6] rfl) h
  · have h := h.2 c1
    refine lv_aload_n hx hb dX8_drawn_153 rfl (lv_at hl 1 rfl) ?_
    refine kg8 (k := 19) (v := .ref (ad 98)) C S rfl (by decide) n_X8_drawn_X8 m_X8_drawn_7 rfl dX8_drawn_154 ?_
    refine lv_bipush (v := 19) hx hb dX8_drawn_157 (by decide) ?_
    refine lv_iload hx hb dX8_drawn_159 (lv_at hl 0 rfl) ?_
    refine lv_iadd hx hb dX8_drawn_161 ?_
    obtain ⟨hi, h⟩ := h
    refine kLi C S rfl rfl hi dX8_drawn_162 ?_
    refine lv_if_ne (tgt := 170) hx hb dX8_drawn_163 (by decide) (fun c1 => ?_) (fun c1 => ?_)
    · have h := h.1 c1
      exact o_X8_drawn_170_w C hK61 hK180 g_18 x1 x3 y4 x7 x6 _ _ _ S (lv_sub hl [1, 2, 3, 4, 6] rfl) h
    · have h := h.2 c1
      refine lv_iconst (v := 1) hx hb dX8_drawn_166 (by decide) ?_
      refine lv_goto (tgt := 171) hx hb dX8_drawn_167 (by decide) ?_
      exact o_X8_drawn_171_w C hK61 hK180 g_18 x1 x3 y4 x7 x6 1 _ _ _ S (lv_sub hl [1, 2, 3, 4, 6] rfl) h
set_option maxHeartbeats 4000000 in
set_option maxRecDepth 100000 in
theorem o_X8_drawn_61_w {p : Program} {l : Launch} {e : Env} {s : State} {m : MethodId} {args : Array Value} {below : List Frame} {meth : Method} {c : Code} {dC : Nat → ClassId} {dI : Nat → Nat → Nat} {cy : Nat → ClassId} {ad tz : Nat → Nat} {Q : Int32 → Mm → Prop} {K180 : Mm → Int32 → Int32 → Prop} (C : CX p s m args meth c dC dI cy ad tz cX8_drawn 10 (some .int) RX8 wsX8_drawn) (hK180 : ∀ (g : Mm) (x3 : Int32) (x6 : Int32) (H : Heap) (locs : List Loc) (ls : Array Slot), St dC dI cy ad s g H locs → lv_has ls 10 [(0, .ref (ad 86)), (3, .int x3), (6, .int x6)] → K180 g x3 x6 → W p l e (rmD 4) s m args below meth c H locs 0 0 (QI dC dI cy ad below args s Q) (F0 m 180 ls [])) : ∀ (n : Nat) (g : Mm) (x1 : Int32) (x3 : Int32) (y4 : Int64) (x6 : Int32) (x7 : Int32) (H : Heap) (locs : List Loc) (ls : Array Slot), St dC dI cy ad s g H locs → lv_has ls 10 [(0, .ref (ad 86)), (1, .int x1), (3, .int x3), (4, .long y4), (6, .int x6), (7, .int x7)] → o_X8_drawn_61 Q K180 n g x1 x3 y4 x6 x7 → W p l e (rmD 4) s m args below meth c H locs 0 0 (QI dC dI cy ad below args s Q) (F0 m 61 ls []) := by
  have hx := C.1.1
  have hb := C.1.2.1
  intro n61
  induction n61 with
  | zero => intro g x1 x3 y4 x6 x7 H locs ls S hl h; exact h.elim
  | succ n61 ih =>
    intro g x1 x3 y4 x6 x7 H locs ls S hl h
    have h : ((x1 ≤ x7) → K180 g x3 x6) ∧ ((¬ x1 ≤ x7) → ¬ (2147483647 : Int64) = 0 ∧ (∀ y_12 : Int64, y_12 = ((y4 * 16807) - (y4 * 16807) / 2147483647 * 2147483647) → (o_X8_toys (fun (r_14 : Int32) (g_13 : Mm) => ¬ ((r_14 : Int32).toInt64 : Int64) = 0 ∧ (∀ x_15 : Int32, x_15 = ((y_12 - y_12 / ((r_14 : Int32).toInt64) * ((r_14 : Int32).toInt64) : Int64).toInt32) → (vp_in (19 + x_15) 33 ∧ (o_X8_isColumn (fun (r_17 : Int32) (g_16 : Mm) => ((¬ r_17 = 0) → o_X8_drawn_124 Q (o_X8_drawn_61 Q K180 n61) K180 g_16 x1 x3 y_12 x6 x7) ∧ ((r_17 = 0) → ¬ (5 : Int64) = 0 ∧ (o_X8_lay (fun (g_22 : Mm) => o_X8_drawn_124 Q (o_X8_drawn_61 Q K180 n61) K180 g_22 x1 x3 y_12 x6 x7) 98 g_16 x_15 (((y_12 - y_12 / 5 * 5 : Int64).toInt32) + 1)))) g_13 (g_13.1 98 (19 + x_15 : Int32).toNatClampNeg))))) g))) := h
    refine lv_iload hx hb dX8_drawn_61 (lv_at hl 5 rfl) ?_
    refine lv_iload_n hx hb dX8_drawn_63 rfl (lv_at hl 1 rfl) ?_
    refine lv_icmp_ge (tgt := 180) hx hb dX8_drawn_64 (by decide) (fun c1 => ?_) (fun c1 => ?_)
    · have h := h.1 c1
      exact hK180 g x3 x6 _ _ _ S (lv_sub hl [0, 2, 4] rfl) h
    · have h := h.2 c1
      refine lv_lload hx hb dX8_drawn_67 (lv_at hl 3 rfl) ?_
      refine kLdc2 C m_X8_drawn_5 dX8_drawn_69 ?_
      refine lv_lmul hx hb dX8_drawn_72 ?_
      refine kLdc2 C m_X8_drawn_6 dX8_drawn_73 ?_
      obtain ⟨h0, h⟩ := h
      refine lv_lrem hx hb dX8_drawn_76 h0 ?_
      refine lv_topl (fun y_12 ey_12 => ?_)
      have h := h y_12 ey_12
      refine lv_lstore (lv' := [(4, .long y_12), (0, .ref (ad 86)), (1, .int x1), (3, .int x3), (6, .int x6), (7, .int x7)]) hx hb dX8_drawn_77 hl (by decide) rfl (fun ls hl => ?_)
      refine lv_lload hx hb dX8_drawn_79 (lv_at hl 0 rfl) ?_
      refine lv_aload_n hx hb dX8_drawn_81 rfl (lv_at hl 1 rfl) ?_
      refine kV_i (As := []) (rest := [.long y_12]) C S hl.1 (o_X8_toys_c h) (wd_o8 rfl) rfl (cw_X8_drawn_X8_toys C.1.2.2.2.2) rfl rfl (Nat.le_of_ble_eq_true rfl) dX8_drawn_82 (fun r_14 g_13 H locs h S => ?_)
      refine lv_i2l hx hb dX8_drawn_85 rfl ?_
      obtain ⟨h0, h⟩ := h
      refine lv_lrem hx hb dX8_drawn_86 h0 ?_
      refine lv_l2i hx hb dX8_drawn_87 rfl ?_
      refine lv_topi (fun x_15 ex_15 => ?_)
      have h := h x_15 ex_15
      refine lv_istore (lv' := [(8, .int x_15), (4, .long y_12), (0, .ref (ad 86)), (1, .int x1), (3, .int x3), (6, .int x6), (7, .int x7)]) hx hb dX8_drawn_88 hl (by decide) rfl (fun ls hl => ?_)
      refine lv_aload_n hx hb dX8_drawn_90 rfl (lv_at hl 2 rfl) ?_
      refine kg8 (k := 19) (v := .ref (ad 98)) C S rfl (by decide) n_X8_drawn_X8 m_X8_drawn_7 rfl dX8_drawn_91 ?_
      refine lv_bipush (v := 19) hx hb dX8_drawn_94 (by decide) ?_
      refine lv_iload hx hb dX8_drawn_96 (lv_at hl 0 rfl) ?_
      refine lv_iadd hx hb dX8_drawn_98 ?_
      obtain ⟨hi, h⟩ := h
      refine kLi C S rfl rfl hi dX8_drawn_99 ?_
      refine kS_i (As := [.int (g_13.1 98 (19 + x_15 : Int32).toNatClampNeg)]) (rest := []) C S hl.1 (o_X8_isColumn_c h) (cw_X8_drawn_X8_isColumn C.1.2.2.2.2) rfl rfl (Nat.le_of_ble_eq_true rfl) dX8_drawn_100 (fun r_17 g_16 H locs h S => ?_)
      refine lv_if_ne (tgt := 124) hx hb dX8_drawn_103 (by decide) (fun c1 => ?_) (fun c1 => ?_)
      · have h := h.1 c1
        exact o_X8_drawn_124_w C ih hK180 g_16 x1 x3 y_12 x6 x7 _ _ _ S (lv_sub hl [2, 3, 4, 1, 5, 6] rfl) h
      · have h := h.2 c1
        refine lv_aload_n hx hb dX8_drawn_106 rfl (lv_at hl 2 rfl) ?_
        refine kg8 (k := 19) (v := .ref (ad 98)) C S rfl (by decide) n_X8_drawn_X8 m_X8_drawn_7 rfl dX8_drawn_107 ?_
        refine lv_iload hx hb dX8_drawn_110 (lv_at hl 0 rfl) ?_
        refine lv_lload hx hb dX8_drawn_112 (lv_at hl 1 rfl) ?_
        refine kLdc2 C m_X8_drawn_8 dX8_drawn_114 ?_
        obtain ⟨h0, h⟩ := h
        refine lv_lrem hx hb dX8_drawn_117 h0 ?_
        refine lv_l2i hx hb dX8_drawn_118 rfl ?_
        refine lv_iconst (v := 1) hx hb dX8_drawn_119 (by decide) ?_
        refine lv_iadd hx hb dX8_drawn_120 ?_
        refine kS_v (As := [.ref (ad 98), .int x_15, .int (((y_12 - y_12 / 5 * 5 : Int64).toInt32) + 1)]) (rest := []) C S hl.1 (o_X8_lay_c rfl rfl h) (cw_X8_drawn_X8_lay C.1.2.2.2.2) rfl rfl (Nat.le_of_ble_eq_true rfl) dX8_drawn_121 (fun g_22 H locs h S => ?_)
        exact o_X8_drawn_124_w C ih hK180 g_22 x1 x3 y_12 x6 x7 _ _ _ S (lv_sub hl [2, 3, 4, 1, 5, 6] rfl) h
set_option maxHeartbeats 4000000 in
set_option maxRecDepth 100000 in
theorem o_X8_drawn_217_w {p : Program} {l : Launch} {e : Env} {s : State} {m : MethodId} {args : Array Value} {below : List Frame} {meth : Method} {c : Code} {dC : Nat → ClassId} {dI : Nat → Nat → Nat} {cy : Nat → ClassId} {ad tz : Nat → Nat} {Q : Int32 → Mm → Prop} {K186 : Mm → Int32 → Int32 → Int32 → Int32 → Prop} {K226 : Mm → Int32 → Int32 → Int32 → Prop} (C : CX p s m args meth c dC dI cy ad tz cX8_drawn 10 (some .int) RX8 wsX8_drawn) (hK186 : ∀ (g : Mm) (x3 : Int32) (x6 : Int32) (x7 : Int32) (x8 : Int32) (H : Heap) (locs : List Loc) (ls : Array Slot), St dC dI cy ad s g H locs → lv_has ls 10 [(0, .ref (ad 86)), (3, .int x3), (6, .int x6), (7, .int x7), (8, .int x8)] → K186 g x3 x6 x7 x8 → W p l e (rmD 4) s m args below meth c H locs 0 0 (QI dC dI cy ad below args s Q) (F0 m 186 ls [])) (hK226 : ∀ (g : Mm) (x3 : Int32) (x6 : Int32) (x7 : Int32) (H : Heap) (locs : List Loc) (ls : Array Slot), St dC dI cy ad s g H locs → lv_has ls 10 [(3, .int x3), (6, .int x6), (7, .int x7)] → K226 g x3 x6 x7 → W p l e (rmD 4) s m args below meth c H locs 0 0 (QI dC dI cy ad below args s Q) (F0 m 226 ls [])) : ∀ (g : Mm) (x3 : Int32) (x6 : Int32) (x8 : Int32) (s0 : Int32) (s1 : Int32) (H : Heap) (locs : List Loc) (ls : Array Slot), St dC dI cy ad s g H locs → lv_has ls 10 [(0, .ref (ad 86)), (3, .int x3), (6, .int x6), (8, .int x8)] → o_X8_drawn_217 Q K186 K226 g x3 x6 x8 s0 s1 → W p l e (rmD 4) s m args below meth c H locs 0 0 (QI dC dI cy ad below args s Q) (F0 m 217 ls [.int s1, .int s0]) := by
  have hx := C.1.1
  have hb := C.1.2.1
  intro g x3 x6 x8 s0 s1 H locs ls S hl h
  unfold o_X8_drawn_217 at h
  refine lv_iadd hx hb dX8_drawn_217 ?_
  refine lv_topi (fun x_26 ex_26 => ?_)
  have h := h x_26 ex_26
  refine lv_istore (lv' := [(7, .int x_26), (0, .ref (ad 86)), (3, .int x3), (6, .int x6), (8, .int x8)]) hx hb dX8_drawn_218 hl (by decide) rfl (fun ls hl => ?_)
  obtain ⟨x_27, ex_27⟩ : ∃ y : Int32, y = x8 + 1 := ⟨_, rfl⟩
  have h := h x_27 ex_27
  refine lv_iinc (v := x_27) (lv' := [(8, .int x_27), (7, .int x_26), (0, .ref (ad 86)), (3, .int x3), (6, .int x6)]) hx hb dX8_drawn_220 hl (k := 4) rfl (by rw [ex_27]; rfl) (by decide) rfl (fun ls hl => ?_)
  refine lv_goto (tgt := 186) hx hb dX8_drawn_223 (by decide) ?_
  exact hK186 g x3 x6 x_26 x_27 _ _ _ S (lv_sub hl [2, 3, 4, 1, 0] rfl) h
set_option maxHeartbeats 4000000 in
set_option maxRecDepth 100000 in
theorem o_X8_drawn_186_w {p : Program} {l : Launch} {e : Env} {s : State} {m : MethodId} {args : Array Value} {below : List Frame} {meth : Method} {c : Code} {dC : Nat → ClassId} {dI : Nat → Nat → Nat} {cy : Nat → ClassId} {ad tz : Nat → Nat} {Q : Int32 → Mm → Prop} {K226 : Mm → Int32 → Int32 → Int32 → Prop} (C : CX p s m args meth c dC dI cy ad tz cX8_drawn 10 (some .int) RX8 wsX8_drawn) (hK226 : ∀ (g : Mm) (x3 : Int32) (x6 : Int32) (x7 : Int32) (H : Heap) (locs : List Loc) (ls : Array Slot), St dC dI cy ad s g H locs → lv_has ls 10 [(3, .int x3), (6, .int x6), (7, .int x7)] → K226 g x3 x6 x7 → W p l e (rmD 4) s m args below meth c H locs 0 0 (QI dC dI cy ad below args s Q) (F0 m 226 ls [])) : ∀ (n : Nat) (g : Mm) (x3 : Int32) (x6 : Int32) (x7 : Int32) (x8 : Int32) (H : Heap) (locs : List Loc) (ls : Array Slot), St dC dI cy ad s g H locs → lv_has ls 10 [(0, .ref (ad 86)), (3, .int x3), (6, .int x6), (7, .int x7), (8, .int x8)] → o_X8_drawn_186 Q K226 n g x3 x6 x7 x8 → W p l e (rmD 4) s m args below meth c H locs 0 0 (QI dC dI cy ad below args s Q) (F0 m 186 ls []) := by
  have hx := C.1.1
  have hb := C.1.2.1
  intro n186
  induction n186 with
  | zero => intro g x3 x6 x7 x8 H locs ls S hl h; exact h.elim
  | succ n186 ih =>
    intro g x3 x6 x7 x8 H locs ls S hl h
    have h : o_X8_toys (fun (r_25 : Int32) (g_24 : Mm) => ((r_25 ≤ x8) → K226 g_24 x3 x6 x7) ∧ ((¬ r_25 ≤ x8) → vp_in (19 + x8) 33 ∧ (((¬ (g_24.1 98 (19 + x8 : Int32).toNatClampNeg) = 9) → o_X8_drawn_217 Q (o_X8_drawn_186 Q K226 n186) K226 g_24 x3 x6 x8 x7 0) ∧ (((g_24.1 98 (19 + x8 : Int32).toNatClampNeg) = 9) → o_X8_drawn_217 Q (o_X8_drawn_186 Q K226 n186) K226 g_24 x3 x6 x8 x7 1)))) g := h
    refine lv_iload hx hb dX8_drawn_186 (lv_at hl 4 rfl) ?_
    refine lv_aload_n hx hb dX8_drawn_188 rfl (lv_at hl 0 rfl) ?_
    refine kV_i (As := []) (rest := [.int x8]) C S hl.1 (o_X8_toys_c h) (wd_o8 rfl) rfl (cw_X8_drawn_X8_toys C.1.2.2.2.2) rfl rfl (Nat.le_of_ble_eq_true rfl) dX8_drawn_189 (fun r_25 g_24 H locs h S => ?_)
    refine lv_icmp_ge (tgt := 226) hx hb dX8_drawn_192 (by decide) (fun c1 => ?_) (fun c1 => ?_)
    · have h := h.1 c1
      exact hK226 g_24 x3 x6 x7 _ _ _ S (lv_sub hl [1, 2, 3] rfl) h
    · have h := h.2 c1
      refine lv_iload hx hb dX8_drawn_195 (lv_at hl 3 rfl) ?_
      refine lv_aload_n hx hb dX8_drawn_197 rfl (lv_at hl 0 rfl) ?_
      refine kg8 (k := 19) (v := .ref (ad 98)) C S rfl (by decide) n_X8_drawn_X8 m_X8_drawn_7 rfl dX8_drawn_198 ?_
      refine lv_bipush (v := 19) hx hb dX8_drawn_201 (by decide) ?_
      refine lv_iload hx hb dX8_drawn_203 (lv_at hl 4 rfl) ?_
      refine lv_iadd hx hb dX8_drawn_205 ?_
      obtain ⟨hi, h⟩ := h
      refine kLi C S rfl rfl hi dX8_drawn_206 ?_
      refine lv_bipush (v := 9) hx hb dX8_drawn_207 (by decide) ?_
      refine lv_icmp_ne (tgt := 216) hx hb dX8_drawn_209 (by decide) (fun c1 => ?_) (fun c1 => ?_)
      · have h := h.1 c1
        refine lv_iconst (v := 0) hx hb dX8_drawn_216 (by decide) ?_
        exact o_X8_drawn_217_w C ih hK226 g_24 x3 x6 x8 x7 0 _ _ _ S (lv_sub hl [0, 1, 2, 4] rfl) h
      · have h := h.2 c1
        refine lv_iconst (v := 1) hx hb dX8_drawn_212 (by decide) ?_
        refine lv_goto (tgt := 217) hx hb dX8_drawn_213 (by decide) ?_
        exact o_X8_drawn_217_w C ih hK226 g_24 x3 x6 x8 x7 1 _ _ _ S (lv_sub hl [0, 1, 2, 4] rfl) h
def o_X8_drawn (Q : Int32 → Mm → Prop) (g : Mm) (x1 : Int32) (x2 : Int32) (x3 : Int32) : Prop := o_X8_toys (fun (r_2 : Int32) (g_1 : Mm) => ((¬ r_2 = 0) → o_X8_in (fun (r_4 : Int32) (g_3 : Mm) => ((r_4 = 0) → Q (-1000001) g_3) ∧ ((¬ r_4 = 0) → o_X8_in (fun (r_6 : Int32) (g_5 : Mm) => ((r_6 = 0) → Q (-1000001) g_5) ∧ ((¬ r_6 = 0) → o_X8_in (fun (r_8 : Int32) (g_7 : Mm) => ((¬ r_8 = 0) → ∀ y_9 : Int64, y_9 = ((x2 : Int32).toInt64) → (o_X8_layHand (fun (g_10 : Mm) => ∃ n61, o_X8_drawn_61 Q (fun (g : Mm) (x3 : Int32) (x6 : Int32) => ∃ n186, o_X8_drawn_186 Q (fun (g : Mm) (x3 : Int32) (x6 : Int32) (x7 : Int32) => ((¬ x3 = 0) → Q x7 g) ∧ ((x3 = 0) → Q x6 g)) n186 g x3 x6 0 0) n61 g_10 x1 x3 y_9 0 0) g_7)) ∧ ((r_8 = 0) → Q (-1000001) g_7)) g_5 ((x3 : Int32).toInt64) 0 1)) g_3 ((x2 : Int32).toInt64) 1 999999)) g_1 ((x1 : Int32).toInt64) 0 60) ∧ ((r_2 = 0) → Q (-1000002) g_1)) g
set_option maxHeartbeats 4000000 in
set_option maxRecDepth 100000 in
theorem o_X8_drawn_c {l : Launch} {dC : Nat → ClassId} {dI : Nat → Nat → Nat} {cy : Nat → ClassId} {ad tz : Nat → Nat} {Q : Int32 → Mm → Prop} {g : Mm} {x1 : Int32} {x2 : Int32} {x3 : Int32} (h : o_X8_drawn Q g x1 x2 x3) : CI l dC dI cy ad tz yX8_drawn wsX8_drawn (rmD 4) [.ref (ad 86), .int x1, .int x2, .int x3] g Q := by
  refine CI.of (by decide) rfl rfl (Nat.le_of_ble_eq_true rfl) ?_
  intro p e s m args below meth c ls C hl S
  have hl : lv_has ls 10 [(0, .ref (ad 86)), (1, .int x1), (2, .int x2), (3, .int x3)] := hl
  have hx := C.1.1
  have hb := C.1.2.1
  unfold o_X8_drawn at h
  refine lv_aload_n hx hb dX8_drawn_0 rfl (lv_at hl 0 rfl) ?_
  refine kV_i (As := []) (rest := []) C S hl.1 (o_X8_toys_c h) (wd_o8 rfl) rfl (cw_X8_drawn_X8_toys C.1.2.2.2.2) rfl rfl (Nat.le_of_ble_eq_true rfl) dX8_drawn_1 (fun r_2 g_1 H locs h S => ?_)
  refine lv_if_ne (tgt := 10) hx hb dX8_drawn_4 (by decide) (fun c1 => ?_) (fun c1 => ?_)
  · have h := h.1 c1
    refine lv_iload_n hx hb dX8_drawn_10 rfl (lv_at hl 1 rfl) ?_
    refine lv_i2l hx hb dX8_drawn_11 rfl ?_
    refine lv_lconst (v := 0) hx hb dX8_drawn_12 (by decide) ?_
    refine kLdc2 C m_X8_drawn_2 dX8_drawn_13 ?_
    refine kS_i (As := [.long ((x1 : Int32).toInt64), .long 0, .long 60]) (rest := []) C S hl.1 (o_X8_in_c h) (cw_X8_drawn_X8_in C.1.2.2.2.2) rfl rfl (Nat.le_of_ble_eq_true rfl) dX8_drawn_16 (fun r_4 g_3 H locs h S => ?_)
    refine lv_if_eq (tgt := 44) hx hb dX8_drawn_19 (by decide) (fun c1 => ?_) (fun c1 => ?_)
    · have h := h.1 c1
      refine kLdc C m_X8_drawn_4 dX8_drawn_44 ?_
      exact kRi C S h dX8_drawn_46
    · have h := h.2 c1
      refine lv_iload_n hx hb dX8_drawn_22 rfl (lv_at hl 2 rfl) ?_
      refine lv_i2l hx hb dX8_drawn_23 rfl ?_
      refine lv_lconst (v := 1) hx hb dX8_drawn_24 (by decide) ?_
      refine kLdc2 C m_X8_drawn_3 dX8_drawn_25 ?_
      refine kS_i (As := [.long ((x2 : Int32).toInt64), .long 1, .long 999999]) (rest := []) C S hl.1 (o_X8_in_c h) (cw_X8_drawn_X8_in C.1.2.2.2.2) rfl rfl (Nat.le_of_ble_eq_true rfl) dX8_drawn_28 (fun r_6 g_5 H locs h S => ?_)
      refine lv_if_eq (tgt := 44) hx hb dX8_drawn_31 (by decide) (fun c1 => ?_) (fun c1 => ?_)
      · have h := h.1 c1
        refine kLdc C m_X8_drawn_4 dX8_drawn_44 ?_
        exact kRi C S h dX8_drawn_46
      · have h := h.2 c1
        refine lv_iload_n hx hb dX8_drawn_34 rfl (lv_at hl 3 rfl) ?_
        refine lv_i2l hx hb dX8_drawn_35 rfl ?_
        refine lv_lconst (v := 0) hx hb dX8_drawn_36 (by decide) ?_
        refine lv_lconst (v := 1) hx hb dX8_drawn_37 (by decide) ?_
        refine kS_i (As := [.long ((x3 : Int32).toInt64), .long 0, .long 1]) (rest := []) C S hl.1 (o_X8_in_c h) (cw_X8_drawn_X8_in C.1.2.2.2.2) rfl rfl (Nat.le_of_ble_eq_true rfl) dX8_drawn_38 (fun r_8 g_7 H locs h S => ?_)
        refine lv_if_ne (tgt := 47) hx hb dX8_drawn_41 (by decide) (fun c1 => ?_) (fun c1 => ?_)
        · have h := h.1 c1
          refine lv_iload_n hx hb dX8_drawn_47 rfl (lv_at hl 2 rfl) ?_
          refine lv_i2l hx hb dX8_drawn_48 rfl ?_
          refine lv_topl (fun y_9 ey_9 => ?_)
          have h := h y_9 ey_9
          refine lv_lstore (lv' := [(4, .long y_9), (0, .ref (ad 86)), (1, .int x1), (2, .int x2), (3, .int x3)]) hx hb dX8_drawn_49 hl (by decide) rfl (fun ls hl => ?_)
          refine lv_iconst (v := 0) hx hb dX8_drawn_51 (by decide) ?_
          refine lv_istore (lv' := [(6, .int 0), (4, .long y_9), (0, .ref (ad 86)), (1, .int x1), (2, .int x2), (3, .int x3)]) hx hb dX8_drawn_52 hl (by decide) rfl (fun ls hl => ?_)
          refine lv_aload_n hx hb dX8_drawn_54 rfl (lv_at hl 2 rfl) ?_
          refine kV_v (As := []) (rest := []) C S hl.1 (o_X8_layHand_c h) (wd_o8 rfl) rfl (cw_X8_drawn_X8_layHand C.1.2.2.2.2) rfl rfl (Nat.le_of_ble_eq_true rfl) dX8_drawn_55 (fun g_10 H locs h S => ?_)
          refine lv_iconst (v := 0) hx hb dX8_drawn_58 (by decide) ?_
          refine lv_istore (lv' := [(7, .int 0), (6, .int 0), (4, .long y_9), (0, .ref (ad 86)), (1, .int x1), (2, .int x2), (3, .int x3)]) hx hb dX8_drawn_59 hl (by decide) rfl (fun ls hl => ?_)
          obtain ⟨n61, h⟩ := h
          refine o_X8_drawn_61_w C ?_ n61 g_10 x1 x3 y_9 0 0 _ _ _ S (lv_sub hl [3, 4, 6, 2, 1, 0] rfl) h
          · intro g x3 x6 H locs ls S hl h
            refine lv_iconst (v := 0) hx hb dX8_drawn_180 (by decide) ?_
            refine lv_istore (lv' := [(7, .int 0), (0, .ref (ad 86)), (3, .int x3), (6, .int x6)]) hx hb dX8_drawn_181 hl (by decide) rfl (fun ls hl => ?_)
            refine lv_iconst (v := 0) hx hb dX8_drawn_183 (by decide) ?_
            refine lv_istore (lv' := [(8, .int 0), (7, .int 0), (0, .ref (ad 86)), (3, .int x3), (6, .int x6)]) hx hb dX8_drawn_184 hl (by decide) rfl (fun ls hl => ?_)
            obtain ⟨n186, h⟩ := h
            refine o_X8_drawn_186_w C ?_ n186 g x3 x6 0 0 _ _ _ S (lv_sub hl [2, 3, 4, 1, 0] rfl) h
            · intro g x3 x6 x7 H locs ls S hl h
              refine lv_iload_n hx hb dX8_drawn_226 rfl (lv_at hl 0 rfl) ?_
              refine lv_if_ne (tgt := 235) hx hb dX8_drawn_227 (by decide) (fun c1 => ?_) (fun c1 => ?_)
              · have h := h.1 c1
                refine lv_iload hx hb dX8_drawn_235 (lv_at hl 2 rfl) ?_
                exact kRi C S h dX8_drawn_237
              · have h := h.2 c1
                refine lv_iload hx hb dX8_drawn_230 (lv_at hl 1 rfl) ?_
                refine lv_goto (tgt := 237) hx hb dX8_drawn_232 (by decide) ?_
                exact kRi C S h dX8_drawn_237
        · have h := h.2 c1
          refine kLdc C m_X8_drawn_4 dX8_drawn_44 ?_
          exact kRi C S h dX8_drawn_46
  · have h := h.2 c1
    refine kLdc C m_X8_drawn_1 dX8_drawn_7 ?_
    exact kRi C S h dX8_drawn_9
/-! ClawCaseModel.drop(I)I, height 2 -/
theorem m_X8_drop_2 : Cond.fieldLink RX8 29 "ClawCaseModel" "isThere" "[Z" ∈ wsX8_drop := List.mem_of_getElem? (i := 2) (by decide +kernel)
theorem n_X8_drop_X8 : ∀ w ∈ wsX80, w ∈ wsX8_drop := mem_by [22, 23, 24, 25, 26, 27, 28, 29, 30, 31, 32, 33, 34, 35, 36, 37, 38, 39, 40, 41, 42, 43, 44, 45] (by decide +kernel)
theorem m_X8_drop_3 : Cond.fieldLink RX8 26 "ClawCaseModel" "longs" "[I" ∈ wsX8_drop := List.mem_of_getElem? (i := 3) (by decide +kernel)
theorem cw_X8_drop_X8_well {s : State} {args : Array Value} (ht : ∀ w ∈ wsX8_drop, w.before args s = true) : CallW (rmD 2) s args RX8 RX8 76 yX8_well cX8_well 2 (some .int) wsX8_well (rmD (0)) 0 0 1 := cwV 1 ht gX8_drop_X8_well rfl rfl rfl (by decide +kernel) ⟨Nat.le_of_ble_eq_true rfl, Nat.le_of_ble_eq_true rfl⟩
theorem cw_X8_drop_X8_found {s : State} {args : Array Value} (ht : ∀ w ∈ wsX8_drop, w.before args s = true) : CallW (rmD 2) s args RX8 RX8 72 yX8_found cX8_found 2 (some .int) wsX8_found (rmD (0)) 0 0 1 := cwV 1 ht gX8_drop_X8_found rfl rfl rfl (by decide +kernel) ⟨Nat.le_of_ble_eq_true rfl, Nat.le_of_ble_eq_true rfl⟩
theorem m_X8_drop_1 : Cond.constant RX8 71 (-1000001) ∈ wsX8_drop := List.mem_of_getElem? (i := 1) (by decide +kernel)
theorem cw_X8_drop_X8_isRow {s : State} {args : Array Value} (ht : ∀ w ∈ wsX8_drop, w.before args s = true) : CallB (rmD 2) s args RX8 65 yX8_isRow cX8_isRow 1 (some .boolean) wsX8_isRow (rmD (1)) 0 0 1 ∧ (Cond.static yX8_isRow).before args s = true := va_cwS 1 ht gX8_drop_X8_isRow rfl rfl rfl (by decide +kernel) ⟨Nat.le_of_ble_eq_true rfl, Nat.le_of_ble_eq_true rfl⟩
def o_X8_drop (Q : Int32 → Mm → Prop) (g : Mm) (x1 : Int32) : Prop := o_X8_isRow (fun (r_2 : Int32) (g_1 : Mm) => ((¬ r_2 = 0) → vp_in x1 8 ∧ (((¬ (g_1.1 93 x1.toNatClampNeg) = 0) → vp_in x1 8 ∧ (∀ g_3 : Mm, g_3 = mset g_1 93 x1.toNatClampNeg (vp_nar .boolean 0) → (vp_in x1 8 ∧ (o_X8_well (fun (r_5 : Int32) (g_4 : Mm) => Q r_5 g_4) g_3 (g_3.1 92 x1.toNatClampNeg))))) ∧ (((g_1.1 93 x1.toNatClampNeg) = 0) → o_X8_found (fun (r_7 : Int32) (g_6 : Mm) => Q r_7 g_6) g_1 1))) ∧ ((r_2 = 0) → Q (-1000001) g_1)) g x1
set_option maxHeartbeats 4000000 in
set_option maxRecDepth 100000 in
theorem o_X8_drop_c {l : Launch} {dC : Nat → ClassId} {dI : Nat → Nat → Nat} {cy : Nat → ClassId} {ad tz : Nat → Nat} {Q : Int32 → Mm → Prop} {g : Mm} {x1 : Int32} (h : o_X8_drop Q g x1) : CI l dC dI cy ad tz yX8_drop wsX8_drop (rmD 2) [.ref (ad 86), .int x1] g Q := by
  refine CI.of (by decide) rfl rfl (Nat.le_of_ble_eq_true rfl) ?_
  intro p e s m args below meth c ls C hl S
  have hl : lv_has ls 2 [(0, .ref (ad 86)), (1, .int x1)] := hl
  have hx := C.1.1
  have hb := C.1.2.1
  unfold o_X8_drop at h
  refine lv_iload_n hx hb dX8_drop_0 rfl (lv_at hl 1 rfl) ?_
  refine kS_i (As := [.int x1]) (rest := []) C S hl.1 (o_X8_isRow_c h) (cw_X8_drop_X8_isRow C.1.2.2.2.2) rfl rfl (Nat.le_of_ble_eq_true rfl) dX8_drop_1 (fun r_2 g_1 H locs h S => ?_)
  refine lv_if_ne (tgt := 10) hx hb dX8_drop_4 (by decide) (fun c1 => ?_) (fun c1 => ?_)
  · have h := h.1 c1
    refine lv_aload_n hx hb dX8_drop_10 rfl (lv_at hl 0 rfl) ?_
    refine kg8 (k := 8) (v := .ref (ad 93)) C S rfl (by decide) n_X8_drop_X8 m_X8_drop_2 rfl dX8_drop_11 ?_
    refine lv_iload_n hx hb dX8_drop_14 rfl (lv_at hl 1 rfl) ?_
    obtain ⟨hi, h⟩ := h
    refine kLz C S rfl rfl hi dX8_drop_15 ?_
    refine lv_if_ne (tgt := 25) hx hb dX8_drop_16 (by decide) (fun c1 => ?_) (fun c1 => ?_)
    · have h := h.1 c1
      refine lv_aload_n hx hb dX8_drop_25 rfl (lv_at hl 0 rfl) ?_
      refine kg8 (k := 8) (v := .ref (ad 93)) C S rfl (by decide) n_X8_drop_X8 m_X8_drop_2 rfl dX8_drop_26 ?_
      refine lv_iload_n hx hb dX8_drop_29 rfl (lv_at hl 1 rfl) ?_
      refine lv_iconst (v := 0) hx hb dX8_drop_30 (by decide) ?_
      obtain ⟨hi, h⟩ := h
      refine kSz C S rfl rfl hi dX8_drop_31 (fun g_3 H locs eg_3 S => ?_)
      have h := h g_3 eg_3
      refine lv_aload_n hx hb dX8_drop_32 rfl (lv_at hl 0 rfl) ?_
      refine lv_aload_n hx hb dX8_drop_33 rfl (lv_at hl 0 rfl) ?_
      refine kg8 (k := 7) (v := .ref (ad 92)) C S rfl (by decide) n_X8_drop_X8 m_X8_drop_3 rfl dX8_drop_34 ?_
      refine lv_iload_n hx hb dX8_drop_37 rfl (lv_at hl 1 rfl) ?_
      obtain ⟨hi, h⟩ := h
      refine kLi C S rfl rfl hi dX8_drop_38 ?_
      refine kV_i (As := [.int (g_3.1 92 x1.toNatClampNeg)]) (rest := []) C S hl.1 (o_X8_well_c h) (wd_o8 rfl) rfl (cw_X8_drop_X8_well C.1.2.2.2.2) rfl rfl (Nat.le_of_ble_eq_true rfl) dX8_drop_39 (fun r_5 g_4 H locs h S => ?_)
      exact kRi C S h dX8_drop_42
    · have h := h.2 c1
      refine lv_aload_n hx hb dX8_drop_19 rfl (lv_at hl 0 rfl) ?_
      refine lv_iconst (v := 1) hx hb dX8_drop_20 (by decide) ?_
      refine kV_i (As := [.int 1]) (rest := []) C S hl.1 (o_X8_found_c h) (wd_o8 rfl) rfl (cw_X8_drop_X8_found C.1.2.2.2.2) rfl rfl (Nat.le_of_ble_eq_true rfl) dX8_drop_21 (fun r_7 g_6 H locs h S => ?_)
      exact kRi C S h dX8_drop_24
  · have h := h.2 c1
    refine kLdc C m_X8_drop_1 dX8_drop_7 ?_
    exact kRi C S h dX8_drop_9
/-! ClawCaseModel.enough(I)I, height 3 -/
theorem m_X8_enough_4 : Cond.constant RX8 186 (-1000000) ∈ wsX8_enough := List.mem_of_getElem? (i := 4) (by decide +kernel)
theorem m_X8_enough_3 : Cond.fieldLink RX8 44 "ClawCaseModel" "hand" "[I" ∈ wsX8_enough := List.mem_of_getElem? (i := 3) (by decide +kernel)
theorem n_X8_enough_X8 : ∀ w ∈ wsX80, w ∈ wsX8_enough := mem_by [46, 47, 48, 49, 50, 51, 52, 53, 54, 55, 56, 57, 58, 59, 60, 61, 62, 63, 64, 65, 66, 67, 68, 69] (by decide +kernel)
theorem cw_X8_enough_X8_goPlay {s : State} {args : Array Value} (ht : ∀ w ∈ wsX8_enough, w.before args s = true) : CallB (rmD 3) s args RX8 172 yX8_goPlay cX8_goPlay 7 (some .int) wsX8_goPlay (rmD (2)) 0 0 3 ∧ (Cond.static yX8_goPlay).before args s = true := va_cwS 3 ht gX8_enough_X8_goPlay rfl rfl rfl (by decide +kernel) ⟨Nat.le_of_ble_eq_true rfl, Nat.le_of_ble_eq_true rfl⟩
theorem cw_X8_enough_X8_layHand {s : State} {args : Array Value} (ht : ∀ w ∈ wsX8_enough, w.before args s = true) : CallW (rmD 3) s args RX8 RX8 197 yX8_layHand cX8_layHand 2 none wsX8_layHand (rmD (0)) 0 0 0 := cwV 0 ht gX8_enough_X8_layHand rfl rfl rfl (by decide +kernel) ⟨Nat.le_of_ble_eq_true rfl, Nat.le_of_ble_eq_true rfl⟩
theorem m_X8_enough_2 : Cond.constant RX8 71 (-1000001) ∈ wsX8_enough := List.mem_of_getElem? (i := 2) (by decide +kernel)
theorem cw_X8_enough_X8_isColumn {s : State} {args : Array Value} (ht : ∀ w ∈ wsX8_enough, w.before args s = true) : CallB (rmD 3) s args RX8 177 yX8_isColumn cX8_isColumn 1 (some .boolean) wsX8_isColumn (rmD (1)) 0 0 1 ∧ (Cond.static yX8_isColumn).before args s = true := va_cwS 1 ht gX8_enough_X8_isColumn rfl rfl rfl (by decide +kernel) ⟨Nat.le_of_ble_eq_true rfl, Nat.le_of_ble_eq_true rfl⟩
theorem m_X8_enough_1 : Cond.constant RX8 176 (-1000002) ∈ wsX8_enough := List.mem_of_getElem? (i := 1) (by decide +kernel)
theorem cw_X8_enough_X8_toys {s : State} {args : Array Value} (ht : ∀ w ∈ wsX8_enough, w.before args s = true) : CallW (rmD 3) s args RX8 RX8 140 yX8_toys cX8_toys 1 (some .int) wsX8_toys (rmD (0)) 0 0 0 := cwV 0 ht gX8_enough_X8_toys rfl rfl rfl (by decide +kernel) ⟨Nat.le_of_ble_eq_true rfl, Nat.le_of_ble_eq_true rfl⟩
def o_X8_enough_60 (Q : Int32 → Mm → Prop) (K22 : Mm → Int32 → Int32 → Prop) (g : Mm) (x1 : Int32) (x2 : Int32) : Prop := ∀ x_9 : Int32, x_9 = x2 + 1 → (K22 g x1 x_9)
def o_X8_enough_22 (Q : Int32 → Mm → Prop) : Nat → Mm → Int32 → Int32 → Prop
  | 0, _, _, _ => False
  | n22 + 1, g, x1, x2 => ((20 < x2) → Q (-1000000) g) ∧ ((¬ 20 < x2) → o_X8_layHand (fun (g_5 : Mm) => o_X8_goPlay (fun (r_8 : Int32) (g_7 : Mm) => ((r_8 < 0) → o_X8_enough_60 Q (o_X8_enough_22 Q n22) g_7 x1 x2) ∧ ((¬ r_8 < 0) → vp_in (19 + r_8) 33 ∧ (((¬ (g_7.1 98 (19 + r_8 : Int32).toNatClampNeg) = 0) → o_X8_enough_60 Q (o_X8_enough_22 Q n22) g_7 x1 x2) ∧ (((g_7.1 98 (19 + r_8 : Int32).toNatClampNeg) = 0) → Q x2 g_7)))) 98 g_5 x1 x2) g)
set_option maxHeartbeats 4000000 in
set_option maxRecDepth 100000 in
theorem o_X8_enough_60_w {p : Program} {l : Launch} {e : Env} {s : State} {m : MethodId} {args : Array Value} {below : List Frame} {meth : Method} {c : Code} {dC : Nat → ClassId} {dI : Nat → Nat → Nat} {cy : Nat → ClassId} {ad tz : Nat → Nat} {Q : Int32 → Mm → Prop} {K22 : Mm → Int32 → Int32 → Prop} (C : CX p s m args meth c dC dI cy ad tz cX8_enough 4 (some .int) RX8 wsX8_enough) (hK22 : ∀ (g : Mm) (x1 : Int32) (x2 : Int32) (H : Heap) (locs : List Loc) (ls : Array Slot), St dC dI cy ad s g H locs → lv_has ls 4 [(0, .ref (ad 86)), (1, .int x1), (2, .int x2)] → K22 g x1 x2 → W p l e (rmD 3) s m args below meth c H locs 0 0 (QI dC dI cy ad below args s Q) (F0 m 22 ls [])) : ∀ (g : Mm) (x1 : Int32) (x2 : Int32) (H : Heap) (locs : List Loc) (ls : Array Slot), St dC dI cy ad s g H locs → lv_has ls 4 [(0, .ref (ad 86)), (1, .int x1), (2, .int x2)] → o_X8_enough_60 Q K22 g x1 x2 → W p l e (rmD 3) s m args below meth c H locs 0 0 (QI dC dI cy ad below args s Q) (F0 m 60 ls []) := by
  have hx := C.1.1
  have hb := C.1.2.1
  intro g x1 x2 H locs ls S hl h
  unfold o_X8_enough_60 at h
  obtain ⟨x_9, ex_9⟩ : ∃ y : Int32, y = x2 + 1 := ⟨_, rfl⟩
  have h := h x_9 ex_9
  refine lv_iinc (v := x_9) (lv' := [(2, .int x_9), (0, .ref (ad 86)), (1, .int x1)]) hx hb dX8_enough_60 hl (k := 2) rfl (by rw [ex_9]; rfl) (by decide) rfl (fun ls hl => ?_)
  refine lv_goto (tgt := 22) hx hb dX8_enough_63 (by decide) ?_
  exact hK22 g x1 x_9 _ _ _ S (lv_sub hl [1, 2, 0] rfl) h
set_option maxHeartbeats 4000000 in
set_option maxRecDepth 100000 in
theorem o_X8_enough_22_w {p : Program} {l : Launch} {e : Env} {s : State} {m : MethodId} {args : Array Value} {below : List Frame} {meth : Method} {c : Code} {dC : Nat → ClassId} {dI : Nat → Nat → Nat} {cy : Nat → ClassId} {ad tz : Nat → Nat} {Q : Int32 → Mm → Prop} (C : CX p s m args meth c dC dI cy ad tz cX8_enough 4 (some .int) RX8 wsX8_enough) : ∀ (n : Nat) (g : Mm) (x1 : Int32) (x2 : Int32) (H : Heap) (locs : List Loc) (ls : Array Slot), St dC dI cy ad s g H locs → lv_has ls 4 [(0, .ref (ad 86)), (1, .int x1), (2, .int x2)] → o_X8_enough_22 Q n g x1 x2 → W p l e (rmD 3) s m args below meth c H locs 0 0 (QI dC dI cy ad below args s Q) (F0 m 22 ls []) := by
  have hx := C.1.1
  have hb := C.1.2.1
  intro n22
  induction n22 with
  | zero => intro g x1 x2 H locs ls S hl h; exact h.elim
  | succ n22 ih =>
    intro g x1 x2 H locs ls S hl h
    have h : ((20 < x2) → Q (-1000000) g) ∧ ((¬ 20 < x2) → o_X8_layHand (fun (g_5 : Mm) => o_X8_goPlay (fun (r_8 : Int32) (g_7 : Mm) => ((r_8 < 0) → o_X8_enough_60 Q (o_X8_enough_22 Q n22) g_7 x1 x2) ∧ ((¬ r_8 < 0) → vp_in (19 + r_8) 33 ∧ (((¬ (g_7.1 98 (19 + r_8 : Int32).toNatClampNeg) = 0) → o_X8_enough_60 Q (o_X8_enough_22 Q n22) g_7 x1 x2) ∧ (((g_7.1 98 (19 + r_8 : Int32).toNatClampNeg) = 0) → Q x2 g_7)))) 98 g_5 x1 x2) g) := h
    refine lv_iload_n hx hb dX8_enough_22 rfl (lv_at hl 2 rfl) ?_
    refine lv_bipush (v := 20) hx hb dX8_enough_23 (by decide) ?_
    refine lv_icmp_gt (tgt := 66) hx hb dX8_enough_25 (by decide) (fun c1 => ?_) (fun c1 => ?_)
    · have h := h.1 c1
      refine kLdc C m_X8_enough_4 dX8_enough_66 ?_
      exact kRi C S h dX8_enough_68
    · have h := h.2 c1
      refine lv_aload_n hx hb dX8_enough_28 rfl (lv_at hl 0 rfl) ?_
      refine kV_v (As := []) (rest := []) C S hl.1 (o_X8_layHand_c h) (wd_o8 rfl) rfl (cw_X8_enough_X8_layHand C.1.2.2.2.2) rfl rfl (Nat.le_of_ble_eq_true rfl) dX8_enough_29 (fun g_5 H locs h S => ?_)
      refine lv_aload_n hx hb dX8_enough_32 rfl (lv_at hl 0 rfl) ?_
      refine kg8 (k := 19) (v := .ref (ad 98)) C S rfl (by decide) n_X8_enough_X8 m_X8_enough_3 rfl dX8_enough_33 ?_
      refine lv_iload_n hx hb dX8_enough_36 rfl (lv_at hl 1 rfl) ?_
      refine lv_iload_n hx hb dX8_enough_37 rfl (lv_at hl 2 rfl) ?_
      refine kS_i (As := [.ref (ad 98), .int x1, .int x2]) (rest := []) C S hl.1 (o_X8_goPlay_c rfl rfl h) (cw_X8_enough_X8_goPlay C.1.2.2.2.2) rfl rfl (Nat.le_of_ble_eq_true rfl) dX8_enough_38 (fun r_8 g_7 H locs h S => ?_)
      refine lv_istore_n (lv' := [(3, .int r_8), (0, .ref (ad 86)), (1, .int x1), (2, .int x2)]) hx hb dX8_enough_41 rfl hl (by decide) rfl (fun ls hl => ?_)
      refine lv_iload_n hx hb dX8_enough_42 rfl (lv_at hl 0 rfl) ?_
      refine lv_if_lt (tgt := 60) hx hb dX8_enough_43 (by decide) (fun c1 => ?_) (fun c1 => ?_)
      · have h := h.1 c1
        exact o_X8_enough_60_w C ih g_7 x1 x2 _ _ _ S (lv_sub hl [1, 2, 3] rfl) h
      · have h := h.2 c1
        refine lv_aload_n hx hb dX8_enough_46 rfl (lv_at hl 1 rfl) ?_
        refine kg8 (k := 19) (v := .ref (ad 98)) C S rfl (by decide) n_X8_enough_X8 m_X8_enough_3 rfl dX8_enough_47 ?_
        refine lv_bipush (v := 19) hx hb dX8_enough_50 (by decide) ?_
        refine lv_iload_n hx hb dX8_enough_52 rfl (lv_at hl 0 rfl) ?_
        refine lv_iadd hx hb dX8_enough_53 ?_
        obtain ⟨hi, h⟩ := h
        refine kLi C S rfl rfl hi dX8_enough_54 ?_
        refine lv_if_ne (tgt := 60) hx hb dX8_enough_55 (by decide) (fun c1 => ?_) (fun c1 => ?_)
        · have h := h.1 c1
          exact o_X8_enough_60_w C ih g_7 x1 x2 _ _ _ S (lv_sub hl [1, 2, 3] rfl) h
        · have h := h.2 c1
          refine lv_iload_n hx hb dX8_enough_58 rfl (lv_at hl 3 rfl) ?_
          exact kRi C S h dX8_enough_59
def o_X8_enough (Q : Int32 → Mm → Prop) (g : Mm) (x1 : Int32) : Prop := o_X8_toys (fun (r_2 : Int32) (g_1 : Mm) => ((¬ r_2 = 0) → o_X8_isColumn (fun (r_4 : Int32) (g_3 : Mm) => ((¬ r_4 = 0) → ∃ n22, o_X8_enough_22 Q n22 g_3 x1 0) ∧ ((r_4 = 0) → Q (-1000001) g_3)) g_1 x1) ∧ ((r_2 = 0) → Q (-1000002) g_1)) g
set_option maxHeartbeats 4000000 in
set_option maxRecDepth 100000 in
theorem o_X8_enough_c {l : Launch} {dC : Nat → ClassId} {dI : Nat → Nat → Nat} {cy : Nat → ClassId} {ad tz : Nat → Nat} {Q : Int32 → Mm → Prop} {g : Mm} {x1 : Int32} (h : o_X8_enough Q g x1) : CI l dC dI cy ad tz yX8_enough wsX8_enough (rmD 3) [.ref (ad 86), .int x1] g Q := by
  refine CI.of (by decide) rfl rfl (Nat.le_of_ble_eq_true rfl) ?_
  intro p e s m args below meth c ls C hl S
  have hl : lv_has ls 4 [(0, .ref (ad 86)), (1, .int x1)] := hl
  have hx := C.1.1
  have hb := C.1.2.1
  unfold o_X8_enough at h
  refine lv_aload_n hx hb dX8_enough_0 rfl (lv_at hl 0 rfl) ?_
  refine kV_i (As := []) (rest := []) C S hl.1 (o_X8_toys_c h) (wd_o8 rfl) rfl (cw_X8_enough_X8_toys C.1.2.2.2.2) rfl rfl (Nat.le_of_ble_eq_true rfl) dX8_enough_1 (fun r_2 g_1 H locs h S => ?_)
  refine lv_if_ne (tgt := 10) hx hb dX8_enough_4 (by decide) (fun c1 => ?_) (fun c1 => ?_)
  · have h := h.1 c1
    refine lv_iload_n hx hb dX8_enough_10 rfl (lv_at hl 1 rfl) ?_
    refine kS_i (As := [.int x1]) (rest := []) C S hl.1 (o_X8_isColumn_c h) (cw_X8_enough_X8_isColumn C.1.2.2.2.2) rfl rfl (Nat.le_of_ble_eq_true rfl) dX8_enough_11 (fun r_4 g_3 H locs h S => ?_)
    refine lv_if_ne (tgt := 20) hx hb dX8_enough_14 (by decide) (fun c1 => ?_) (fun c1 => ?_)
    · have h := h.1 c1
      refine lv_iconst (v := 0) hx hb dX8_enough_20 (by decide) ?_
      refine lv_istore_n (lv' := [(2, .int 0), (0, .ref (ad 86)), (1, .int x1)]) hx hb dX8_enough_21 rfl hl (by decide) rfl (fun ls hl => ?_)
      obtain ⟨n22, h⟩ := h
      refine o_X8_enough_22_w C n22 g_3 x1 0 _ _ _ S (lv_sub hl [1, 2, 0] rfl) h
    · have h := h.2 c1
      refine kLdc C m_X8_enough_2 dX8_enough_17 ?_
      exact kRi C S h dX8_enough_19
  · have h := h.2 c1
    refine kLdc C m_X8_enough_1 dX8_enough_7 ?_
    exact kRi C S h dX8_enough_9
/-! ClawCaseModel.fault()I, height 0 -/
theorem m_X8_fault_1 : Cond.fieldLink RX8 133 "ClawCaseModel" "latestFault" "I" ∈ wsX8_fault := List.mem_of_getElem? (i := 1) (by decide +kernel)
theorem n_X8_fault_X8 : ∀ w ∈ wsX80, w ∈ wsX8_fault := mem_by [2, 3, 4, 5, 6, 7, 8, 9, 10, 11, 12, 13, 14, 15, 16, 17, 18, 19, 20, 21, 22, 23, 24, 25] (by decide +kernel)
def o_X8_fault (Q : Int32 → Mm → Prop) (g : Mm) : Prop := Q (g.1 86 13) g
set_option maxHeartbeats 4000000 in
set_option maxRecDepth 100000 in
theorem o_X8_fault_c {l : Launch} {dC : Nat → ClassId} {dI : Nat → Nat → Nat} {cy : Nat → ClassId} {ad tz : Nat → Nat} {Q : Int32 → Mm → Prop} {g : Mm} (h : o_X8_fault Q g) : CI l dC dI cy ad tz yX8_fault wsX8_fault (rmD 0) [.ref (ad 86)] g Q := by
  refine CI.of (by decide) rfl rfl (Nat.le_of_ble_eq_true rfl) ?_
  intro p e s m args below meth c ls C hl S
  have hl : lv_has ls 1 [(0, .ref (ad 86))] := hl
  have hx := C.1.1
  have hb := C.1.2.1
  unfold o_X8_fault at h
  refine lv_aload_n hx hb dX8_fault_0 rfl (lv_at hl 0 rfl) ?_
  refine kg8 (k := 13) (v := .int (g.1 86 13)) C S rfl (by decide) n_X8_fault_X8 m_X8_fault_1 rfl dX8_fault_1 ?_
  exact kRi C S h dX8_fault_4
/-! ClawCaseModel.feed(I)I, height 1 -/
theorem m_X8_feed_1 : Cond.constantLong RX8 79 (255) ∈ wsX8_feed := List.mem_of_getElem? (i := 1) (by decide +kernel)
theorem m_X8_feed_3 : Cond.fieldLink RX8 81 "ClawCaseModel" "tapeLong" "I" ∈ wsX8_feed := List.mem_of_getElem? (i := 3) (by decide +kernel)
theorem n_X8_feed_X8 : ∀ w ∈ wsX80, w ∈ wsX8_feed := mem_by [10, 11, 12, 13, 14, 15, 16, 17, 18, 19, 20, 21, 22, 23, 24, 25, 26, 27, 28, 29, 30, 31, 32, 33] (by decide +kernel)
theorem m_X8_feed_5 : Cond.fieldLink RX8 38 "ClawCaseModel" "tape" "[I" ∈ wsX8_feed := List.mem_of_getElem? (i := 5) (by decide +kernel)
theorem m_X8_feed_4 : Cond.constant RX8 84 (-1000003) ∈ wsX8_feed := List.mem_of_getElem? (i := 4) (by decide +kernel)
theorem m_X8_feed_2 : Cond.constant RX8 71 (-1000001) ∈ wsX8_feed := List.mem_of_getElem? (i := 2) (by decide +kernel)
theorem cw_X8_feed_X8_in {s : State} {args : Array Value} (ht : ∀ w ∈ wsX8_feed, w.before args s = true) : CallB (rmD 1) s args RX8 61 yX8_in cX8_in 6 (some .boolean) wsX8_in (rmD (0)) 0 0 3 ∧ (Cond.static yX8_in).before args s = true := va_cwS 3 ht gX8_feed_X8_in rfl rfl rfl (by decide +kernel) ⟨Nat.le_of_ble_eq_true rfl, Nat.le_of_ble_eq_true rfl⟩
def o_X8_feed (Q : Int32 → Mm → Prop) (g : Mm) (x1 : Int32) : Prop := o_X8_in (fun (r_2 : Int32) (g_1 : Mm) => ((¬ r_2 = 0) → ((¬ (g_1.1 86 12) = 70) → vp_in (g_1.1 86 12) 70 ∧ (∀ g_3 : Mm, g_3 = mset g_1 96 (g_1.1 86 12 : Int32).toNatClampNeg x1 → (∀ g_4 : Mm, g_4 = mset g_3 86 12 ((g_3.1 86 12) + 1) → (Q (g_4.1 86 12) g_4)))) ∧ (((g_1.1 86 12) = 70) → Q (-1000003) g_1)) ∧ ((r_2 = 0) → Q (-1000001) g_1)) g ((x1 : Int32).toInt64) 0 255
set_option maxHeartbeats 4000000 in
set_option maxRecDepth 100000 in
theorem o_X8_feed_c {l : Launch} {dC : Nat → ClassId} {dI : Nat → Nat → Nat} {cy : Nat → ClassId} {ad tz : Nat → Nat} {Q : Int32 → Mm → Prop} {g : Mm} {x1 : Int32} (h : o_X8_feed Q g x1) : CI l dC dI cy ad tz yX8_feed wsX8_feed (rmD 1) [.ref (ad 86), .int x1] g Q := by
  refine CI.of (by decide) rfl rfl (Nat.le_of_ble_eq_true rfl) ?_
  intro p e s m args below meth c ls C hl S
  have hl : lv_has ls 2 [(0, .ref (ad 86)), (1, .int x1)] := hl
  have hx := C.1.1
  have hb := C.1.2.1
  unfold o_X8_feed at h
  refine lv_iload_n hx hb dX8_feed_0 rfl (lv_at hl 1 rfl) ?_
  refine lv_i2l hx hb dX8_feed_1 rfl ?_
  refine lv_lconst (v := 0) hx hb dX8_feed_2 (by decide) ?_
  refine kLdc2 C m_X8_feed_1 dX8_feed_3 ?_
  refine kS_i (As := [.long ((x1 : Int32).toInt64), .long 0, .long 255]) (rest := []) C S hl.1 (o_X8_in_c h) (cw_X8_feed_X8_in C.1.2.2.2.2) rfl rfl (Nat.le_of_ble_eq_true rfl) dX8_feed_6 (fun r_2 g_1 H locs h S => ?_)
  refine lv_if_ne (tgt := 15) hx hb dX8_feed_9 (by decide) (fun c1 => ?_) (fun c1 => ?_)
  · have h := h.1 c1
    refine lv_aload_n hx hb dX8_feed_15 rfl (lv_at hl 0 rfl) ?_
    refine kg8 (k := 12) (v := .int (g_1.1 86 12)) C S rfl (by decide) n_X8_feed_X8 m_X8_feed_3 rfl dX8_feed_16 ?_
    refine lv_bipush (v := 70) hx hb dX8_feed_19 (by decide) ?_
    refine lv_icmp_ne (tgt := 27) hx hb dX8_feed_21 (by decide) (fun c1 => ?_) (fun c1 => ?_)
    · have h := h.1 c1
      refine lv_aload_n hx hb dX8_feed_27 rfl (lv_at hl 0 rfl) ?_
      refine kg8 (k := 11) (v := .ref (ad 96)) C S rfl (by decide) n_X8_feed_X8 m_X8_feed_5 rfl dX8_feed_28 ?_
      refine lv_aload_n hx hb dX8_feed_31 rfl (lv_at hl 0 rfl) ?_
      refine kg8 (k := 12) (v := .int (g_1.1 86 12)) C S rfl (by decide) n_X8_feed_X8 m_X8_feed_3 rfl dX8_feed_32 ?_
      refine lv_iload_n hx hb dX8_feed_35 rfl (lv_at hl 1 rfl) ?_
      obtain ⟨hi, h⟩ := h
      refine kSi C S rfl rfl hi dX8_feed_36 (fun g_3 H locs eg_3 S => ?_)
      have h := h g_3 eg_3
      refine lv_aload_n hx hb dX8_feed_37 rfl (lv_at hl 0 rfl) ?_
      refine lv_dup hx hb dX8_feed_38 rfl ?_
      refine kg8 (k := 12) (v := .int (g_3.1 86 12)) C S rfl (by decide) n_X8_feed_X8 m_X8_feed_3 rfl dX8_feed_39 ?_
      refine lv_iconst (v := 1) hx hb dX8_feed_42 (by decide) ?_
      refine lv_iadd hx hb dX8_feed_43 ?_
      refine kp8_12 C S rfl n_X8_feed_X8 m_X8_feed_3 dX8_feed_44 (fun g_4 H locs eg_4 S => ?_)
      have h := h g_4 eg_4
      refine lv_aload_n hx hb dX8_feed_47 rfl (lv_at hl 0 rfl) ?_
      refine kg8 (k := 12) (v := .int (g_4.1 86 12)) C S rfl (by decide) n_X8_feed_X8 m_X8_feed_3 rfl dX8_feed_48 ?_
      exact kRi C S h dX8_feed_51
    · have h := h.2 c1
      refine kLdc C m_X8_feed_4 dX8_feed_24 ?_
      exact kRi C S h dX8_feed_26
  · have h := h.2 c1
    refine kLdc C m_X8_feed_2 dX8_feed_12 ?_
    exact kRi C S h dX8_feed_14
/-! ClawCaseModel.isSo(III)Z, height 4 -/
theorem m_X8_isSo_1 : Cond.fieldLink RX8 44 "ClawCaseModel" "hand" "[I" ∈ wsX8_isSo := List.mem_of_getElem? (i := 1) (by decide +kernel)
theorem n_X8_isSo_X8 : ∀ w ∈ wsX80, w ∈ wsX8_isSo := mem_by [34, 35, 36, 37, 38, 39, 40, 41, 42, 43, 44, 45, 46, 47, 48, 49, 50, 51, 52, 53, 54, 55, 56, 57] (by decide +kernel)
theorem m_X8_isSo_2 : Cond.fieldLink RX8 32 "ClawCaseModel" "items" "[I" ∈ wsX8_isSo := List.mem_of_getElem? (i := 2) (by decide +kernel)
theorem cw_X8_isSo_X8_goNext {s : State} {args : Array Value} (ht : ∀ w ∈ wsX8_isSo, w.before args s = true) : CallB (rmD 4) s args RX8 183 yX8_goNext cX8_goNext 2 (some .int) wsX8_goNext (rmD (3)) 0 0 2 ∧ (Cond.static yX8_goNext).before args s = true := va_cwS 2 ht gX8_isSo_X8_goNext rfl rfl rfl (by decide +kernel) ⟨Nat.le_of_ble_eq_true rfl, Nat.le_of_ble_eq_true rfl⟩
def o_X8_isSo_58 (Q : Int32 → Mm → Prop) (K6 : Mm → Int32 → Int32 → Int32 → Int32 → Int32 → Prop) (g : Mm) (x1 : Int32) (x2 : Int32) (x3 : Int32) (x5 : Int32) (s0 : Int32) : Prop := ∀ x_3 : Int32, x_3 = x5 + 1 → (K6 g x1 x2 x3 s0 x_3)
def o_X8_isSo_57 (Q : Int32 → Mm → Prop) (K6 : Mm → Int32 → Int32 → Int32 → Int32 → Int32 → Prop) (g : Mm) (x1 : Int32) (x2 : Int32) (x3 : Int32) (x5 : Int32) : Prop := o_X8_isSo_58 Q K6 g x1 x2 x3 x5 0
def o_X8_isSo_6 (Q : Int32 → Mm → Prop) : Nat → Mm → Int32 → Int32 → Int32 → Int32 → Int32 → Prop
  | 0, _, _, _, _, _, _ => False
  | n6 + 1, g, x1, x2, x3, x4, x5 => ((x3 ≤ x5) → narrow .boolean (.int x4) = .int x4 ∧ (Q x4 g)) ∧ ((¬ x3 ≤ x5) → ¬ (5 : Int32) = 0 ∧ (o_X8_goNext (fun (r_2 : Int32) (g_1 : Mm) => ((x4 = 0) → o_X8_isSo_57 Q (o_X8_isSo_6 Q n6) g_1 x1 x2 x3 x5) ∧ ((¬ x4 = 0) → vp_in (19 + x1) 33 ∧ (vp_in (x2 + x5) 320 ∧ (((¬ (g_1.1 98 (19 + x1 : Int32).toNatClampNeg) = (g_1.1 94 (x2 + x5 : Int32).toNatClampNeg)) → o_X8_isSo_57 Q (o_X8_isSo_6 Q n6) g_1 x1 x2 x3 x5) ∧ (((g_1.1 98 (19 + x1 : Int32).toNatClampNeg) = (g_1.1 94 (x2 + x5 : Int32).toNatClampNeg)) → o_X8_isSo_58 Q (o_X8_isSo_6 Q n6) g_1 x1 x2 x3 x5 1))))) 98 g ((x5 - x5 / 5 * 5) + 1)))
set_option maxHeartbeats 4000000 in
set_option maxRecDepth 100000 in
theorem o_X8_isSo_58_w {p : Program} {l : Launch} {e : Env} {s : State} {m : MethodId} {args : Array Value} {below : List Frame} {meth : Method} {c : Code} {dC : Nat → ClassId} {dI : Nat → Nat → Nat} {cy : Nat → ClassId} {ad tz : Nat → Nat} {Q : Int32 → Mm → Prop} {K6 : Mm → Int32 → Int32 → Int32 → Int32 → Int32 → Prop} (C : CX p s m args meth c dC dI cy ad tz cX8_isSo 7 (some .boolean) RX8 wsX8_isSo) (hK6 : ∀ (g : Mm) (x1 : Int32) (x2 : Int32) (x3 : Int32) (x4 : Int32) (x5 : Int32) (H : Heap) (locs : List Loc) (ls : Array Slot), St dC dI cy ad s g H locs → lv_has ls 7 [(0, .ref (ad 86)), (1, .int x1), (2, .int x2), (3, .int x3), (4, .int x4), (5, .int x5)] → K6 g x1 x2 x3 x4 x5 → W p l e (rmD 4) s m args below meth c H locs 0 0 (QI dC dI cy ad below args s Q) (F0 m 6 ls [])) : ∀ (g : Mm) (x1 : Int32) (x2 : Int32) (x3 : Int32) (x5 : Int32) (s0 : Int32) (H : Heap) (locs : List Loc) (ls : Array Slot), St dC dI cy ad s g H locs → lv_has ls 7 [(0, .ref (ad 86)), (1, .int x1), (2, .int x2), (3, .int x3), (5, .int x5)] → o_X8_isSo_58 Q K6 g x1 x2 x3 x5 s0 → W p l e (rmD 4) s m args below meth c H locs 0 0 (QI dC dI cy ad below args s Q) (F0 m 58 ls [.int s0]) := by
  have hx := C.1.1
  have hb := C.1.2.1
  intro g x1 x2 x3 x5 s0 H locs ls S hl h
  unfold o_X8_isSo_58 at h
  refine lv_istore (lv' := [(4, .int s0), (0, .ref (ad 86)), (1, .int x1), (2, .int x2), (3, .int x3), (5, .int x5)]) hx hb dX8_isSo_58 hl (by decide) rfl (fun ls hl => ?_)
  obtain ⟨x_3, ex_3⟩ : ∃ y : Int32, y = x5 + 1 := ⟨_, rfl⟩
  have h := h x_3 ex_3
  refine lv_iinc (v := x_3) (lv' := [(5, .int x_3), (4, .int s0), (0, .ref (ad 86)), (1, .int x1), (2, .int x2), (3, .int x3)]) hx hb dX8_isSo_60 hl (k := 5) rfl (by rw [ex_3]; rfl) (by decide) rfl (fun ls hl => ?_)
  refine lv_goto (tgt := 6) hx hb dX8_isSo_63 (by decide) ?_
  exact hK6 g x1 x2 x3 s0 x_3 _ _ _ S (lv_sub hl [2, 3, 4, 5, 1, 0] rfl) h
set_option maxHeartbeats 4000000 in
set_option maxRecDepth 100000 in
theorem o_X8_isSo_57_w {p : Program} {l : Launch} {e : Env} {s : State} {m : MethodId} {args : Array Value} {below : List Frame} {meth : Method} {c : Code} {dC : Nat → ClassId} {dI : Nat → Nat → Nat} {cy : Nat → ClassId} {ad tz : Nat → Nat} {Q : Int32 → Mm → Prop} {K6 : Mm → Int32 → Int32 → Int32 → Int32 → Int32 → Prop} (C : CX p s m args meth c dC dI cy ad tz cX8_isSo 7 (some .boolean) RX8 wsX8_isSo) (hK6 : ∀ (g : Mm) (x1 : Int32) (x2 : Int32) (x3 : Int32) (x4 : Int32) (x5 : Int32) (H : Heap) (locs : List Loc) (ls : Array Slot), St dC dI cy ad s g H locs → lv_has ls 7 [(0, .ref (ad 86)), (1, .int x1), (2, .int x2), (3, .int x3), (4, .int x4), (5, .int x5)] → K6 g x1 x2 x3 x4 x5 → W p l e (rmD 4) s m args below meth c H locs 0 0 (QI dC dI cy ad below args s Q) (F0 m 6 ls [])) : ∀ (g : Mm) (x1 : Int32) (x2 : Int32) (x3 : Int32) (x5 : Int32) (H : Heap) (locs : List Loc) (ls : Array Slot), St dC dI cy ad s g H locs → lv_has ls 7 [(0, .ref (ad 86)), (1, .int x1), (2, .int x2), (3, .int x3), (5, .int x5)] → o_X8_isSo_57 Q K6 g x1 x2 x3 x5 → W p l e (rmD 4) s m args below meth c H locs 0 0 (QI dC dI cy ad below args s Q) (F0 m 57 ls []) := by
  have hx := C.1.1
  have hb := C.1.2.1
  intro g x1 x2 x3 x5 H locs ls S hl h
  unfold o_X8_isSo_57 at h
  refine lv_iconst (v := 0) hx hb dX8_isSo_57 (by decide) ?_
  exact o_X8_isSo_58_w C hK6 g x1 x2 x3 x5 0 _ _ _ S (lv_sub hl [0, 1, 2, 3, 4] rfl) h
set_option maxHeartbeats 4000000 in
set_option maxRecDepth 100000 in
theorem o_X8_isSo_6_w {p : Program} {l : Launch} {e : Env} {s : State} {m : MethodId} {args : Array Value} {below : List Frame} {meth : Method} {c : Code} {dC : Nat → ClassId} {dI : Nat → Nat → Nat} {cy : Nat → ClassId} {ad tz : Nat → Nat} {Q : Int32 → Mm → Prop} (C : CX p s m args meth c dC dI cy ad tz cX8_isSo 7 (some .boolean) RX8 wsX8_isSo) : ∀ (n : Nat) (g : Mm) (x1 : Int32) (x2 : Int32) (x3 : Int32) (x4 : Int32) (x5 : Int32) (H : Heap) (locs : List Loc) (ls : Array Slot), St dC dI cy ad s g H locs → lv_has ls 7 [(0, .ref (ad 86)), (1, .int x1), (2, .int x2), (3, .int x3), (4, .int x4), (5, .int x5)] → o_X8_isSo_6 Q n g x1 x2 x3 x4 x5 → W p l e (rmD 4) s m args below meth c H locs 0 0 (QI dC dI cy ad below args s Q) (F0 m 6 ls []) := by
  have hx := C.1.1
  have hb := C.1.2.1
  intro n6
  induction n6 with
  | zero => intro g x1 x2 x3 x4 x5 H locs ls S hl h; exact h.elim
  | succ n6 ih =>
    intro g x1 x2 x3 x4 x5 H locs ls S hl h
    have h : ((x3 ≤ x5) → narrow .boolean (.int x4) = .int x4 ∧ (Q x4 g)) ∧ ((¬ x3 ≤ x5) → ¬ (5 : Int32) = 0 ∧ (o_X8_goNext (fun (r_2 : Int32) (g_1 : Mm) => ((x4 = 0) → o_X8_isSo_57 Q (o_X8_isSo_6 Q n6) g_1 x1 x2 x3 x5) ∧ ((¬ x4 = 0) → vp_in (19 + x1) 33 ∧ (vp_in (x2 + x5) 320 ∧ (((¬ (g_1.1 98 (19 + x1 : Int32).toNatClampNeg) = (g_1.1 94 (x2 + x5 : Int32).toNatClampNeg)) → o_X8_isSo_57 Q (o_X8_isSo_6 Q n6) g_1 x1 x2 x3 x5) ∧ (((g_1.1 98 (19 + x1 : Int32).toNatClampNeg) = (g_1.1 94 (x2 + x5 : Int32).toNatClampNeg)) → o_X8_isSo_58 Q (o_X8_isSo_6 Q n6) g_1 x1 x2 x3 x5 1))))) 98 g ((x5 - x5 / 5 * 5) + 1))) := h
    refine lv_iload hx hb dX8_isSo_6 (lv_at hl 5 rfl) ?_
    refine lv_iload_n hx hb dX8_isSo_8 rfl (lv_at hl 3 rfl) ?_
    refine lv_icmp_ge (tgt := 66) hx hb dX8_isSo_9 (by decide) (fun c1 => ?_) (fun c1 => ?_)
    · have h := h.1 c1
      refine lv_iload hx hb dX8_isSo_66 (lv_at hl 4 rfl) ?_
      obtain ⟨hz, h⟩ := h
      exact kRz C S hz h dX8_isSo_68
    · have h := h.2 c1
      refine lv_aload_n hx hb dX8_isSo_12 rfl (lv_at hl 0 rfl) ?_
      refine kg8 (k := 19) (v := .ref (ad 98)) C S rfl (by decide) n_X8_isSo_X8 m_X8_isSo_1 rfl dX8_isSo_13 ?_
      refine lv_iload hx hb dX8_isSo_16 (lv_at hl 5 rfl) ?_
      refine lv_iconst (v := 5) hx hb dX8_isSo_18 (by decide) ?_
      obtain ⟨h0, h⟩ := h
      refine lv_irem hx hb dX8_isSo_19 h0 ?_
      refine lv_iconst (v := 1) hx hb dX8_isSo_20 (by decide) ?_
      refine lv_iadd hx hb dX8_isSo_21 ?_
      refine kS_i (As := [.ref (ad 98), .int ((x5 - x5 / 5 * 5) + 1)]) (rest := []) C S hl.1 (o_X8_goNext_c rfl rfl h) (cw_X8_isSo_X8_goNext C.1.2.2.2.2) rfl rfl (Nat.le_of_ble_eq_true rfl) dX8_isSo_22 (fun r_2 g_1 H locs h S => ?_)
      refine lv_istore (lv' := [(6, .int r_2), (0, .ref (ad 86)), (1, .int x1), (2, .int x2), (3, .int x3), (4, .int x4), (5, .int x5)]) hx hb dX8_isSo_25 hl (by decide) rfl (fun ls hl => ?_)
      refine lv_iload hx hb dX8_isSo_27 (lv_at hl 5 rfl) ?_
      refine lv_if_eq (tgt := 57) hx hb dX8_isSo_29 (by decide) (fun c1 => ?_) (fun c1 => ?_)
      · have h := h.1 c1
        exact o_X8_isSo_57_w C ih g_1 x1 x2 x3 x5 _ _ _ S (lv_sub hl [1, 2, 3, 4, 6] rfl) h
      · have h := h.2 c1
        refine lv_aload_n hx hb dX8_isSo_32 rfl (lv_at hl 1 rfl) ?_
        refine kg8 (k := 19) (v := .ref (ad 98)) C S rfl (by decide) n_X8_isSo_X8 m_X8_isSo_1 rfl dX8_isSo_33 ?_
        refine lv_bipush (v := 19) hx hb dX8_isSo_36 (by decide) ?_
        refine lv_iload_n hx hb dX8_isSo_38 rfl (lv_at hl 2 rfl) ?_
        refine lv_iadd hx hb dX8_isSo_39 ?_
        obtain ⟨hi, h⟩ := h
        refine kLi C S rfl rfl hi dX8_isSo_40 ?_
        refine lv_aload_n hx hb dX8_isSo_41 rfl (lv_at hl 1 rfl) ?_
        refine kg8 (k := 9) (v := .ref (ad 94)) C S rfl (by decide) n_X8_isSo_X8 m_X8_isSo_2 rfl dX8_isSo_42 ?_
        refine lv_iload_n hx hb dX8_isSo_45 rfl (lv_at hl 3 rfl) ?_
        refine lv_iload hx hb dX8_isSo_46 (lv_at hl 6 rfl) ?_
        refine lv_iadd hx hb dX8_isSo_48 ?_
        obtain ⟨hi, h⟩ := h
        refine kLi C S rfl rfl hi dX8_isSo_49 ?_
        refine lv_icmp_ne (tgt := 57) hx hb dX8_isSo_50 (by decide) (fun c1 => ?_) (fun c1 => ?_)
        · have h := h.1 c1
          exact o_X8_isSo_57_w C ih g_1 x1 x2 x3 x5 _ _ _ S (lv_sub hl [1, 2, 3, 4, 6] rfl) h
        · have h := h.2 c1
          refine lv_iconst (v := 1) hx hb dX8_isSo_53 (by decide) ?_
          refine lv_goto (tgt := 58) hx hb dX8_isSo_54 (by decide) ?_
          exact o_X8_isSo_58_w C ih g_1 x1 x2 x3 x5 1 _ _ _ S (lv_sub hl [1, 2, 3, 4, 6] rfl) h
def o_X8_isSo (Q : Int32 → Mm → Prop) (g : Mm) (x1 : Int32) (x2 : Int32) (x3 : Int32) : Prop := ∃ n6, o_X8_isSo_6 Q n6 g x1 x2 x3 1 0
set_option maxHeartbeats 4000000 in
set_option maxRecDepth 100000 in
theorem o_X8_isSo_c {l : Launch} {dC : Nat → ClassId} {dI : Nat → Nat → Nat} {cy : Nat → ClassId} {ad tz : Nat → Nat} {Q : Int32 → Mm → Prop} {g : Mm} {x1 : Int32} {x2 : Int32} {x3 : Int32} (h : o_X8_isSo Q g x1 x2 x3) : CI l dC dI cy ad tz yX8_isSo wsX8_isSo (rmD 4) [.ref (ad 86), .int x1, .int x2, .int x3] g Q := by
  refine CI.of (by decide) rfl rfl (Nat.le_of_ble_eq_true rfl) ?_
  intro p e s m args below meth c ls C hl S
  have hl : lv_has ls 7 [(0, .ref (ad 86)), (1, .int x1), (2, .int x2), (3, .int x3)] := hl
  have hx := C.1.1
  have hb := C.1.2.1
  unfold o_X8_isSo at h
  refine lv_iconst (v := 1) hx hb dX8_isSo_0 (by decide) ?_
  refine lv_istore (lv' := [(4, .int 1), (0, .ref (ad 86)), (1, .int x1), (2, .int x2), (3, .int x3)]) hx hb dX8_isSo_1 hl (by decide) rfl (fun ls hl => ?_)
  refine lv_iconst (v := 0) hx hb dX8_isSo_3 (by decide) ?_
  refine lv_istore (lv' := [(5, .int 0), (4, .int 1), (0, .ref (ad 86)), (1, .int x1), (2, .int x2), (3, .int x3)]) hx hb dX8_isSo_4 hl (by decide) rfl (fun ls hl => ?_)
  obtain ⟨n6, h⟩ := h
  refine o_X8_isSo_6_w C n6 g x1 x2 x3 1 0 _ _ _ S (lv_sub hl [2, 3, 4, 5, 1, 0] rfl) h
/-! ClawCaseModel.fits(IIIII)I, height 5 -/
theorem m_X8_fits_3 : Cond.constant RX8 71 (-1000001) ∈ wsX8_fits := List.mem_of_getElem? (i := 3) (by decide +kernel)
theorem m_X8_fits_1 : Cond.constantLong RX8 222 (12) ∈ wsX8_fits := List.mem_of_getElem? (i := 1) (by decide +kernel)
theorem m_X8_fits_2 : Cond.constantLong RX8 224 (3) ∈ wsX8_fits := List.mem_of_getElem? (i := 2) (by decide +kernel)
theorem m_X8_fits_4 : Cond.fieldLink RX8 29 "ClawCaseModel" "isThere" "[Z" ∈ wsX8_fits := List.mem_of_getElem? (i := 4) (by decide +kernel)
theorem n_X8_fits_X8 : ∀ w ∈ wsX80, w ∈ wsX8_fits := mem_by [74, 75, 76, 77, 78, 79, 80, 81, 82, 83, 84, 85, 86, 87, 88, 89, 90, 91, 92, 93, 94, 95, 96, 97] (by decide +kernel)
theorem m_X8_fits_5 : Cond.fieldLink RX8 26 "ClawCaseModel" "longs" "[I" ∈ wsX8_fits := List.mem_of_getElem? (i := 5) (by decide +kernel)
theorem m_X8_fits_7 : Cond.fieldLink RX8 44 "ClawCaseModel" "hand" "[I" ∈ wsX8_fits := List.mem_of_getElem? (i := 7) (by decide +kernel)
theorem cw_X8_fits_X8_isSo {s : State} {args : Array Value} (ht : ∀ w ∈ wsX8_fits, w.before args s = true) : CallW (rmD 5) s args RX8 RX8 226 yX8_isSo cX8_isSo 7 (some .boolean) wsX8_isSo (rmD (4)) 0 0 3 := cwV 3 ht gX8_fits_X8_isSo rfl rfl rfl (by decide +kernel) ⟨Nat.le_of_ble_eq_true rfl, Nat.le_of_ble_eq_true rfl⟩
theorem cw_X8_fits_X8_layHand {s : State} {args : Array Value} (ht : ∀ w ∈ wsX8_fits, w.before args s = true) : CallW (rmD 5) s args RX8 RX8 197 yX8_layHand cX8_layHand 2 none wsX8_layHand (rmD (0)) 0 0 0 := cwV 0 ht gX8_fits_X8_layHand rfl rfl rfl (by decide +kernel) ⟨Nat.le_of_ble_eq_true rfl, Nat.le_of_ble_eq_true rfl⟩
theorem m_X8_fits_6 : Cond.constantLong RX8 143 (5) ∈ wsX8_fits := List.mem_of_getElem? (i := 6) (by decide +kernel)
theorem cw_X8_fits_X8_in {s : State} {args : Array Value} (ht : ∀ w ∈ wsX8_fits, w.before args s = true) : CallB (rmD 5) s args RX8 61 yX8_in cX8_in 6 (some .boolean) wsX8_in (rmD (0)) 0 0 3 ∧ (Cond.static yX8_in).before args s = true := va_cwS 3 ht gX8_fits_X8_in rfl rfl rfl (by decide +kernel) ⟨Nat.le_of_ble_eq_true rfl, Nat.le_of_ble_eq_true rfl⟩
theorem cw_X8_fits_X8_well {s : State} {args : Array Value} (ht : ∀ w ∈ wsX8_fits, w.before args s = true) : CallW (rmD 5) s args RX8 RX8 76 yX8_well cX8_well 2 (some .int) wsX8_well (rmD (0)) 0 0 1 := cwV 1 ht gX8_fits_X8_well rfl rfl rfl (by decide +kernel) ⟨Nat.le_of_ble_eq_true rfl, Nat.le_of_ble_eq_true rfl⟩
theorem cw_X8_fits_X8_found {s : State} {args : Array Value} (ht : ∀ w ∈ wsX8_fits, w.before args s = true) : CallW (rmD 5) s args RX8 RX8 72 yX8_found cX8_found 2 (some .int) wsX8_found (rmD (0)) 0 0 1 := cwV 1 ht gX8_fits_X8_found rfl rfl rfl (by decide +kernel) ⟨Nat.le_of_ble_eq_true rfl, Nat.le_of_ble_eq_true rfl⟩
theorem cw_X8_fits_X8_isRow {s : State} {args : Array Value} (ht : ∀ w ∈ wsX8_fits, w.before args s = true) : CallB (rmD 5) s args RX8 65 yX8_isRow cX8_isRow 1 (some .boolean) wsX8_isRow (rmD (1)) 0 0 1 ∧ (Cond.static yX8_isRow).before args s = true := va_cwS 1 ht gX8_fits_X8_isRow rfl rfl rfl (by decide +kernel) ⟨Nat.le_of_ble_eq_true rfl, Nat.le_of_ble_eq_true rfl⟩
theorem cw_X8_fits_X8_isToy {s : State} {args : Array Value} (ht : ∀ w ∈ wsX8_fits, w.before args s = true) : CallW (rmD 5) s args RX8 RX8 187 yX8_isToy cX8_isToy 2 (some .boolean) wsX8_isToy (rmD (1)) 0 0 1 := cwV 1 ht gX8_fits_X8_isToy rfl rfl rfl (by decide +kernel) ⟨Nat.le_of_ble_eq_true rfl, Nat.le_of_ble_eq_true rfl⟩
def o_X8_fits_209 (Q : Int32 → Mm → Prop) (K90 : Mm → Int32 → Int32 → Int32 → Int32 → Int32 → Int32 → Int32 → Prop) (K215 : Mm → Int32 → Prop) (g : Mm) (x1 : Int32) (x2 : Int32) (x3 : Int32) (x4 : Int32) (x5 : Int32) (x6 : Int32) (x7 : Int32) : Prop := ∀ x_13 : Int32, x_13 = x7 + 1 → (K90 g x1 x2 x3 x4 x5 x6 x_13)
def o_X8_fits_206 (Q : Int32 → Mm → Prop) (K90 : Mm → Int32 → Int32 → Int32 → Int32 → Int32 → Int32 → Int32 → Prop) (K215 : Mm → Int32 → Prop) (g : Mm) (x1 : Int32) (x2 : Int32) (x3 : Int32) (x4 : Int32) (x5 : Int32) (x7 : Int32) (s0 : Int32) (s1 : Int32) : Prop := ∀ x_17 : Int32, x_17 = (s0 ||| s1) → (o_X8_fits_209 Q K90 K215 g x1 x2 x3 x4 x5 x_17 x7)
def o_X8_fits_177 (Q : Int32 → Mm → Prop) (K90 : Mm → Int32 → Int32 → Int32 → Int32 → Int32 → Int32 → Int32 → Prop) (K215 : Mm → Int32 → Prop) (g : Mm) (x1 : Int32) (x2 : Int32) (x3 : Int32) (x4 : Int32) (x5 : Int32) (x6 : Int32) (x7 : Int32) (s1 : Int32) : Prop := vp_in s1 33 ∧ (∀ g_14 : Mm, g_14 = mset g 98 s1.toNatClampNeg x7 → (o_X8_isSo (fun (r_16 : Int32) (g_15 : Mm) => ((r_16 = 0) → o_X8_fits_206 Q K90 K215 g_15 x1 x2 x3 x4 x5 x7 x6 0) ∧ ((¬ r_16 = 0) → o_X8_fits_206 Q K90 K215 g_15 x1 x2 x3 x4 x5 x7 x6 (1 <<< (x7 &&& 31)))) g_14 x1 ((40 * x2) + x3) x4))
def o_X8_fits_131 (Q : Int32 → Mm → Prop) (K90 : Mm → Int32 → Int32 → Int32 → Int32 → Int32 → Int32 → Int32 → Prop) (K215 : Mm → Int32 → Prop) (g : Mm) (x1 : Int32) (x2 : Int32) (x3 : Int32) (x4 : Int32) (x5 : Int32) (x6 : Int32) (x7 : Int32) (s0 : Int32) : Prop := o_X8_layHand (fun (g_11 : Mm) => ((s0 = 0) → o_X8_fits_209 Q K90 K215 g_11 x1 x2 x3 x4 x5 x6 x7) ∧ ((¬ s0 = 0) → ((¬ x5 = 0) → ((¬ x5 = 1) → o_X8_fits_177 Q K90 K215 g_11 x1 x2 x3 x4 x5 x6 x7 ((16 + x5) - 2)) ∧ ((x5 = 1) → o_X8_fits_177 Q K90 K215 g_11 x1 x2 x3 x4 x5 x6 x7 (8 + x1))) ∧ ((x5 = 0) → o_X8_fits_177 Q K90 K215 g_11 x1 x2 x3 x4 x5 x6 x7 (1 + x1)))) g
def o_X8_fits_126 (Q : Int32 → Mm → Prop) (K90 : Mm → Int32 → Int32 → Int32 → Int32 → Int32 → Int32 → Int32 → Prop) (K215 : Mm → Int32 → Prop) (g : Mm) (x1 : Int32) (x2 : Int32) (x3 : Int32) (x4 : Int32) (x5 : Int32) (x6 : Int32) (x7 : Int32) : Prop := o_X8_fits_131 Q K90 K215 g x1 x2 x3 x4 x5 x6 x7 1
def o_X8_fits_90 (Q : Int32 → Mm → Prop) (K215 : Mm → Int32 → Prop) : Nat → Mm → Int32 → Int32 → Int32 → Int32 → Int32 → Int32 → Int32 → Prop
  | 0, _, _, _, _, _, _, _, _ => False
  | n90 + 1, g, x1, x2, x3, x4, x5, x6, x7 => ((10 ≤ x7) → K215 g x6) ∧ ((¬ 10 ≤ x7) → ((¬ x5 = 0) → ((1 < x5) → o_X8_fits_126 Q (o_X8_fits_90 Q K215 n90) K215 g x1 x2 x3 x4 x5 x6 x7) ∧ ((¬ 1 < x5) → ((x7 ≤ 0) → o_X8_fits_131 Q (o_X8_fits_90 Q K215 n90) K215 g x1 x2 x3 x4 x5 x6 x7 0) ∧ ((¬ x7 ≤ 0) → o_X8_fits_126 Q (o_X8_fits_90 Q K215 n90) K215 g x1 x2 x3 x4 x5 x6 x7))) ∧ ((x5 = 0) → o_X8_in (fun (r_19 : Int32) (g_18 : Mm) => o_X8_fits_131 Q (o_X8_fits_90 Q K215 n90) K215 g_18 x1 x2 x3 x4 x5 x6 x7 r_19) g ((x7 : Int32).toInt64) 1 5))
set_option maxHeartbeats 4000000 in
set_option maxRecDepth 100000 in
theorem o_X8_fits_209_w {p : Program} {l : Launch} {e : Env} {s : State} {m : MethodId} {args : Array Value} {below : List Frame} {meth : Method} {c : Code} {dC : Nat → ClassId} {dI : Nat → Nat → Nat} {cy : Nat → ClassId} {ad tz : Nat → Nat} {Q : Int32 → Mm → Prop} {K90 : Mm → Int32 → Int32 → Int32 → Int32 → Int32 → Int32 → Int32 → Prop} {K215 : Mm → Int32 → Prop} (C : CX p s m args meth c dC dI cy ad tz cX8_fits 9 (some .int) RX8 wsX8_fits) (hK90 : ∀ (g : Mm) (x1 : Int32) (x2 : Int32) (x3 : Int32) (x4 : Int32) (x5 : Int32) (x6 : Int32) (x7 : Int32) (H : Heap) (locs : List Loc) (ls : Array Slot), St dC dI cy ad s g H locs → lv_has ls 9 [(0, .ref (ad 86)), (1, .int x1), (2, .int x2), (3, .int x3), (4, .int x4), (5, .int x5), (6, .int x6), (7, .int x7)] → K90 g x1 x2 x3 x4 x5 x6 x7 → W p l e (rmD 5) s m args below meth c H locs 0 0 (QI dC dI cy ad below args s Q) (F0 m 90 ls [])) (hK215 : ∀ (g : Mm) (x6 : Int32) (H : Heap) (locs : List Loc) (ls : Array Slot), St dC dI cy ad s g H locs → lv_has ls 9 [(0, .ref (ad 86)), (6, .int x6)] → K215 g x6 → W p l e (rmD 5) s m args below meth c H locs 0 0 (QI dC dI cy ad below args s Q) (F0 m 215 ls [])) : ∀ (g : Mm) (x1 : Int32) (x2 : Int32) (x3 : Int32) (x4 : Int32) (x5 : Int32) (x6 : Int32) (x7 : Int32) (H : Heap) (locs : List Loc) (ls : Array Slot), St dC dI cy ad s g H locs → lv_has ls 9 [(0, .ref (ad 86)), (1, .int x1), (2, .int x2), (3, .int x3), (4, .int x4), (5, .int x5), (6, .int x6), (7, .int x7)] → o_X8_fits_209 Q K90 K215 g x1 x2 x3 x4 x5 x6 x7 → W p l e (rmD 5) s m args below meth c H locs 0 0 (QI dC dI cy ad below args s Q) (F0 m 209 ls []) := by
  have hx := C.1.1
  have hb := C.1.2.1
  intro g x1 x2 x3 x4 x5 x6 x7 H locs ls S hl h
  unfold o_X8_fits_209 at h
  obtain ⟨x_13, ex_13⟩ : ∃ y : Int32, y = x7 + 1 := ⟨_, rfl⟩
  have h := h x_13 ex_13
  refine lv_iinc (v := x_13) (lv' := [(7, .int x_13), (0, .ref (ad 86)), (1, .int x1), (2, .int x2), (3, .int x3), (4, .int x4), (5, .int x5), (6, .int x6)]) hx hb dX8_fits_209 hl (k := 7) rfl (by rw [ex_13]; rfl) (by decide) rfl (fun ls hl => ?_)
  refine lv_goto (tgt := 90) hx hb dX8_fits_212 (by decide) ?_
  exact hK90 g x1 x2 x3 x4 x5 x6 x_13 _ _ _ S (lv_sub hl [1, 2, 3, 4, 5, 6, 7, 0] rfl) h
set_option maxHeartbeats 4000000 in
set_option maxRecDepth 100000 in
theorem o_X8_fits_206_w {p : Program} {l : Launch} {e : Env} {s : State} {m : MethodId} {args : Array Value} {below : List Frame} {meth : Method} {c : Code} {dC : Nat → ClassId} {dI : Nat → Nat → Nat} {cy : Nat → ClassId} {ad tz : Nat → Nat} {Q : Int32 → Mm → Prop} {K90 : Mm → Int32 → Int32 → Int32 → Int32 → Int32 → Int32 → Int32 → Prop} {K215 : Mm → Int32 → Prop} (C : CX p s m args meth c dC dI cy ad tz cX8_fits 9 (some .int) RX8 wsX8_fits) (hK90 : ∀ (g : Mm) (x1 : Int32) (x2 : Int32) (x3 : Int32) (x4 : Int32) (x5 : Int32) (x6 : Int32) (x7 : Int32) (H : Heap) (locs : List Loc) (ls : Array Slot), St dC dI cy ad s g H locs → lv_has ls 9 [(0, .ref (ad 86)), (1, .int x1), (2, .int x2), (3, .int x3), (4, .int x4), (5, .int x5), (6, .int x6), (7, .int x7)] → K90 g x1 x2 x3 x4 x5 x6 x7 → W p l e (rmD 5) s m args below meth c H locs 0 0 (QI dC dI cy ad below args s Q) (F0 m 90 ls [])) (hK215 : ∀ (g : Mm) (x6 : Int32) (H : Heap) (locs : List Loc) (ls : Array Slot), St dC dI cy ad s g H locs → lv_has ls 9 [(0, .ref (ad 86)), (6, .int x6)] → K215 g x6 → W p l e (rmD 5) s m args below meth c H locs 0 0 (QI dC dI cy ad below args s Q) (F0 m 215 ls [])) : ∀ (g : Mm) (x1 : Int32) (x2 : Int32) (x3 : Int32) (x4 : Int32) (x5 : Int32) (x7 : Int32) (s0 : Int32) (s1 : Int32) (H : Heap) (locs : List Loc) (ls : Array Slot), St dC dI cy ad s g H locs → lv_has ls 9 [(0, .ref (ad 86)), (1, .int x1), (2, .int x2), (3, .int x3), (4, .int x4), (5, .int x5), (7, .int x7)] → o_X8_fits_206 Q K90 K215 g x1 x2 x3 x4 x5 x7 s0 s1 → W p l e (rmD 5) s m args below meth c H locs 0 0 (QI dC dI cy ad below args s Q) (F0 m 206 ls [.int s1, .int s0]) := by
  have hx := C.1.1
  have hb := C.1.2.1
  intro g x1 x2 x3 x4 x5 x7 s0 s1 H locs ls S hl h
  unfold o_X8_fits_206 at h
  refine lv_ior hx hb dX8_fits_206 ?_
  refine lv_topi (fun x_17 ex_17 => ?_)
  have h := h x_17 ex_17
  refine lv_istore (lv' := [(6, .int x_17), (0, .ref (ad 86)), (1, .int x1), (2, .int x2), (3, .int x3), (4, .int x4), (5, .int x5), (7, .int x7)]) hx hb dX8_fits_207 hl (by decide) rfl (fun ls hl => ?_)
  exact o_X8_fits_209_w C hK90 hK215 g x1 x2 x3 x4 x5 x_17 x7 _ _ _ S (lv_sub hl [1, 2, 3, 4, 5, 6, 0, 7] rfl) h
set_option maxHeartbeats 4000000 in
set_option maxRecDepth 100000 in
theorem o_X8_fits_177_w {p : Program} {l : Launch} {e : Env} {s : State} {m : MethodId} {args : Array Value} {below : List Frame} {meth : Method} {c : Code} {dC : Nat → ClassId} {dI : Nat → Nat → Nat} {cy : Nat → ClassId} {ad tz : Nat → Nat} {Q : Int32 → Mm → Prop} {K90 : Mm → Int32 → Int32 → Int32 → Int32 → Int32 → Int32 → Int32 → Prop} {K215 : Mm → Int32 → Prop} (C : CX p s m args meth c dC dI cy ad tz cX8_fits 9 (some .int) RX8 wsX8_fits) (hK90 : ∀ (g : Mm) (x1 : Int32) (x2 : Int32) (x3 : Int32) (x4 : Int32) (x5 : Int32) (x6 : Int32) (x7 : Int32) (H : Heap) (locs : List Loc) (ls : Array Slot), St dC dI cy ad s g H locs → lv_has ls 9 [(0, .ref (ad 86)), (1, .int x1), (2, .int x2), (3, .int x3), (4, .int x4), (5, .int x5), (6, .int x6), (7, .int x7)] → K90 g x1 x2 x3 x4 x5 x6 x7 → W p l e (rmD 5) s m args below meth c H locs 0 0 (QI dC dI cy ad below args s Q) (F0 m 90 ls [])) (hK215 : ∀ (g : Mm) (x6 : Int32) (H : Heap) (locs : List Loc) (ls : Array Slot), St dC dI cy ad s g H locs → lv_has ls 9 [(0, .ref (ad 86)), (6, .int x6)] → K215 g x6 → W p l e (rmD 5) s m args below meth c H locs 0 0 (QI dC dI cy ad below args s Q) (F0 m 215 ls [])) : ∀ (g : Mm) (x1 : Int32) (x2 : Int32) (x3 : Int32) (x4 : Int32) (x5 : Int32) (x6 : Int32) (x7 : Int32) (s1 : Int32) (H : Heap) (locs : List Loc) (ls : Array Slot), St dC dI cy ad s g H locs → lv_has ls 9 [(0, .ref (ad 86)), (1, .int x1), (2, .int x2), (3, .int x3), (4, .int x4), (5, .int x5), (6, .int x6), (7, .int x7)] → o_X8_fits_177 Q K90 K215 g x1 x2 x3 x4 x5 x6 x7 s1 → W p l e (rmD 5) s m args below meth c H locs 0 0 (QI dC dI cy ad below args s Q) (F0 m 177 ls [.int s1, .ref (ad 98)]) := by
  have hx := C.1.1
  have hb := C.1.2.1
  intro g x1 x2 x3 x4 x5 x6 x7 s1 H locs ls S hl h
  unfold o_X8_fits_177 at h
  refine lv_iload hx hb dX8_fits_177 (lv_at hl 7 rfl) ?_
  obtain ⟨hi, h⟩ := h
  refine kSi C S rfl rfl hi dX8_fits_179 (fun g_14 H locs eg_14 S => ?_)
  have h := h g_14 eg_14
  refine lv_iload hx hb dX8_fits_180 (lv_at hl 6 rfl) ?_
  refine lv_aload_n hx hb dX8_fits_182 rfl (lv_at hl 0 rfl) ?_
  refine lv_iload_n hx hb dX8_fits_183 rfl (lv_at hl 1 rfl) ?_
  refine lv_bipush (v := 40) hx hb dX8_fits_184 (by decide) ?_
  refine lv_iload_n hx hb dX8_fits_186 rfl (lv_at hl 2 rfl) ?_
  refine lv_imul hx hb dX8_fits_187 ?_
  refine lv_iload_n hx hb dX8_fits_188 rfl (lv_at hl 3 rfl) ?_
  refine lv_iadd hx hb dX8_fits_189 ?_
  refine lv_iload hx hb dX8_fits_190 (lv_at hl 4 rfl) ?_
  refine kV_i (As := [.int x1, .int ((40 * x2) + x3), .int x4]) (rest := [.int x6]) C S hl.1 (o_X8_isSo_c h) (wd_o8 rfl) rfl (cw_X8_fits_X8_isSo C.1.2.2.2.2) rfl rfl (Nat.le_of_ble_eq_true rfl) dX8_fits_192 (fun r_16 g_15 H locs h S => ?_)
  refine lv_if_eq (tgt := 205) hx hb dX8_fits_195 (by decide) (fun c1 => ?_) (fun c1 => ?_)
  · have h := h.1 c1
    refine lv_iconst (v := 0) hx hb dX8_fits_205 (by decide) ?_
    exact o_X8_fits_206_w C hK90 hK215 g_15 x1 x2 x3 x4 x5 x7 x6 0 _ _ _ S (lv_sub hl [0, 1, 2, 3, 4, 5, 7] rfl) h
  · have h := h.2 c1
    refine lv_iconst (v := 1) hx hb dX8_fits_198 (by decide) ?_
    refine lv_iload hx hb dX8_fits_199 (lv_at hl 7 rfl) ?_
    refine lv_ishl hx hb dX8_fits_201 ?_
    refine lv_goto (tgt := 206) hx hb dX8_fits_202 (by decide) ?_
    exact o_X8_fits_206_w C hK90 hK215 g_15 x1 x2 x3 x4 x5 x7 x6 (1 <<< (x7 &&& 31)) _ _ _ S (lv_sub hl [0, 1, 2, 3, 4, 5, 7] rfl) h
set_option maxHeartbeats 4000000 in
set_option maxRecDepth 100000 in
theorem o_X8_fits_131_w {p : Program} {l : Launch} {e : Env} {s : State} {m : MethodId} {args : Array Value} {below : List Frame} {meth : Method} {c : Code} {dC : Nat → ClassId} {dI : Nat → Nat → Nat} {cy : Nat → ClassId} {ad tz : Nat → Nat} {Q : Int32 → Mm → Prop} {K90 : Mm → Int32 → Int32 → Int32 → Int32 → Int32 → Int32 → Int32 → Prop} {K215 : Mm → Int32 → Prop} (C : CX p s m args meth c dC dI cy ad tz cX8_fits 9 (some .int) RX8 wsX8_fits) (hK90 : ∀ (g : Mm) (x1 : Int32) (x2 : Int32) (x3 : Int32) (x4 : Int32) (x5 : Int32) (x6 : Int32) (x7 : Int32) (H : Heap) (locs : List Loc) (ls : Array Slot), St dC dI cy ad s g H locs → lv_has ls 9 [(0, .ref (ad 86)), (1, .int x1), (2, .int x2), (3, .int x3), (4, .int x4), (5, .int x5), (6, .int x6), (7, .int x7)] → K90 g x1 x2 x3 x4 x5 x6 x7 → W p l e (rmD 5) s m args below meth c H locs 0 0 (QI dC dI cy ad below args s Q) (F0 m 90 ls [])) (hK215 : ∀ (g : Mm) (x6 : Int32) (H : Heap) (locs : List Loc) (ls : Array Slot), St dC dI cy ad s g H locs → lv_has ls 9 [(0, .ref (ad 86)), (6, .int x6)] → K215 g x6 → W p l e (rmD 5) s m args below meth c H locs 0 0 (QI dC dI cy ad below args s Q) (F0 m 215 ls [])) : ∀ (g : Mm) (x1 : Int32) (x2 : Int32) (x3 : Int32) (x4 : Int32) (x5 : Int32) (x6 : Int32) (x7 : Int32) (s0 : Int32) (H : Heap) (locs : List Loc) (ls : Array Slot), St dC dI cy ad s g H locs → lv_has ls 9 [(0, .ref (ad 86)), (1, .int x1), (2, .int x2), (3, .int x3), (4, .int x4), (5, .int x5), (6, .int x6), (7, .int x7)] → o_X8_fits_131 Q K90 K215 g x1 x2 x3 x4 x5 x6 x7 s0 → W p l e (rmD 5) s m args below meth c H locs 0 0 (QI dC dI cy ad below args s Q) (F0 m 131 ls [.int s0]) := by
  have hx := C.1.1
  have hb := C.1.2.1
  intro g x1 x2 x3 x4 x5 x6 x7 s0 H locs ls S hl h
  unfold o_X8_fits_131 at h
  refine lv_istore (lv' := [(8, .int s0), (0, .ref (ad 86)), (1, .int x1), (2, .int x2), (3, .int x3), (4, .int x4), (5, .int x5), (6, .int x6), (7, .int x7)]) hx hb dX8_fits_131 hl (by decide) rfl (fun ls hl => ?_)
  refine lv_aload_n hx hb dX8_fits_133 rfl (lv_at hl 1 rfl) ?_
  refine kV_v (As := []) (rest := []) C S hl.1 (o_X8_layHand_c h) (wd_o8 rfl) rfl (cw_X8_fits_X8_layHand C.1.2.2.2.2) rfl rfl (Nat.le_of_ble_eq_true rfl) dX8_fits_134 (fun g_11 H locs h S => ?_)
  refine lv_iload hx hb dX8_fits_137 (lv_at hl 0 rfl) ?_
  refine lv_if_eq (tgt := 209) hx hb dX8_fits_139 (by decide) (fun c1 => ?_) (fun c1 => ?_)
  · have h := h.1 c1
    exact o_X8_fits_209_w C hK90 hK215 g_11 x1 x2 x3 x4 x5 x6 x7 _ _ _ S (lv_sub hl [1, 2, 3, 4, 5, 6, 7, 8] rfl) h
  · have h := h.2 c1
    refine lv_aload_n hx hb dX8_fits_142 rfl (lv_at hl 1 rfl) ?_
    refine kg8 (k := 19) (v := .ref (ad 98)) C S rfl (by decide) n_X8_fits_X8 m_X8_fits_7 rfl dX8_fits_143 ?_
    refine lv_iload hx hb dX8_fits_146 (lv_at hl 6 rfl) ?_
    refine lv_if_ne (tgt := 157) hx hb dX8_fits_148 (by decide) (fun c1 => ?_) (fun c1 => ?_)
    · have h := h.1 c1
      refine lv_iload hx hb dX8_fits_157 (lv_at hl 6 rfl) ?_
      refine lv_iconst (v := 1) hx hb dX8_fits_159 (by decide) ?_
      refine lv_icmp_ne (tgt := 170) hx hb dX8_fits_160 (by decide) (fun c1 => ?_) (fun c1 => ?_)
      · have h := h.1 c1
        refine lv_bipush (v := 16) hx hb dX8_fits_170 (by decide) ?_
        refine lv_iload hx hb dX8_fits_172 (lv_at hl 6 rfl) ?_
        refine lv_iadd hx hb dX8_fits_174 ?_
        refine lv_iconst (v := 2) hx hb dX8_fits_175 (by decide) ?_
        refine lv_isub hx hb dX8_fits_176 ?_
        exact o_X8_fits_177_w C hK90 hK215 g_11 x1 x2 x3 x4 x5 x6 x7 ((16 + x5) - 2) _ _ _ S (lv_sub hl [1, 2, 3, 4, 5, 6, 7, 8] rfl) h
      · have h := h.2 c1
        refine lv_bipush (v := 8) hx hb dX8_fits_163 (by decide) ?_
        refine lv_iload_n hx hb dX8_fits_165 rfl (lv_at hl 2 rfl) ?_
        refine lv_iadd hx hb dX8_fits_166 ?_
        refine lv_goto (tgt := 177) hx hb dX8_fits_167 (by decide) ?_
        exact o_X8_fits_177_w C hK90 hK215 g_11 x1 x2 x3 x4 x5 x6 x7 (8 + x1) _ _ _ S (lv_sub hl [1, 2, 3, 4, 5, 6, 7, 8] rfl) h
    · have h := h.2 c1
      refine lv_iconst (v := 1) hx hb dX8_fits_151 (by decide) ?_
      refine lv_iload_n hx hb dX8_fits_152 rfl (lv_at hl 2 rfl) ?_
      refine lv_iadd hx hb dX8_fits_153 ?_
      refine lv_goto (tgt := 177) hx hb dX8_fits_154 (by decide) ?_
      exact o_X8_fits_177_w C hK90 hK215 g_11 x1 x2 x3 x4 x5 x6 x7 (1 + x1) _ _ _ S (lv_sub hl [1, 2, 3, 4, 5, 6, 7, 8] rfl) h
set_option maxHeartbeats 4000000 in
set_option maxRecDepth 100000 in
theorem o_X8_fits_126_w {p : Program} {l : Launch} {e : Env} {s : State} {m : MethodId} {args : Array Value} {below : List Frame} {meth : Method} {c : Code} {dC : Nat → ClassId} {dI : Nat → Nat → Nat} {cy : Nat → ClassId} {ad tz : Nat → Nat} {Q : Int32 → Mm → Prop} {K90 : Mm → Int32 → Int32 → Int32 → Int32 → Int32 → Int32 → Int32 → Prop} {K215 : Mm → Int32 → Prop} (C : CX p s m args meth c dC dI cy ad tz cX8_fits 9 (some .int) RX8 wsX8_fits) (hK90 : ∀ (g : Mm) (x1 : Int32) (x2 : Int32) (x3 : Int32) (x4 : Int32) (x5 : Int32) (x6 : Int32) (x7 : Int32) (H : Heap) (locs : List Loc) (ls : Array Slot), St dC dI cy ad s g H locs → lv_has ls 9 [(0, .ref (ad 86)), (1, .int x1), (2, .int x2), (3, .int x3), (4, .int x4), (5, .int x5), (6, .int x6), (7, .int x7)] → K90 g x1 x2 x3 x4 x5 x6 x7 → W p l e (rmD 5) s m args below meth c H locs 0 0 (QI dC dI cy ad below args s Q) (F0 m 90 ls [])) (hK215 : ∀ (g : Mm) (x6 : Int32) (H : Heap) (locs : List Loc) (ls : Array Slot), St dC dI cy ad s g H locs → lv_has ls 9 [(0, .ref (ad 86)), (6, .int x6)] → K215 g x6 → W p l e (rmD 5) s m args below meth c H locs 0 0 (QI dC dI cy ad below args s Q) (F0 m 215 ls [])) : ∀ (g : Mm) (x1 : Int32) (x2 : Int32) (x3 : Int32) (x4 : Int32) (x5 : Int32) (x6 : Int32) (x7 : Int32) (H : Heap) (locs : List Loc) (ls : Array Slot), St dC dI cy ad s g H locs → lv_has ls 9 [(0, .ref (ad 86)), (1, .int x1), (2, .int x2), (3, .int x3), (4, .int x4), (5, .int x5), (6, .int x6), (7, .int x7)] → o_X8_fits_126 Q K90 K215 g x1 x2 x3 x4 x5 x6 x7 → W p l e (rmD 5) s m args below meth c H locs 0 0 (QI dC dI cy ad below args s Q) (F0 m 126 ls []) := by
  have hx := C.1.1
  have hb := C.1.2.1
  intro g x1 x2 x3 x4 x5 x6 x7 H locs ls S hl h
  unfold o_X8_fits_126 at h
  refine lv_iconst (v := 1) hx hb dX8_fits_126 (by decide) ?_
  refine lv_goto (tgt := 131) hx hb dX8_fits_127 (by decide) ?_
  exact o_X8_fits_131_w C hK90 hK215 g x1 x2 x3 x4 x5 x6 x7 1 _ _ _ S (lv_sub hl [0, 1, 2, 3, 4, 5, 6, 7] rfl) h
set_option maxHeartbeats 4000000 in
set_option maxRecDepth 100000 in
theorem o_X8_fits_90_w {p : Program} {l : Launch} {e : Env} {s : State} {m : MethodId} {args : Array Value} {below : List Frame} {meth : Method} {c : Code} {dC : Nat → ClassId} {dI : Nat → Nat → Nat} {cy : Nat → ClassId} {ad tz : Nat → Nat} {Q : Int32 → Mm → Prop} {K215 : Mm → Int32 → Prop} (C : CX p s m args meth c dC dI cy ad tz cX8_fits 9 (some .int) RX8 wsX8_fits) (hK215 : ∀ (g : Mm) (x6 : Int32) (H : Heap) (locs : List Loc) (ls : Array Slot), St dC dI cy ad s g H locs → lv_has ls 9 [(0, .ref (ad 86)), (6, .int x6)] → K215 g x6 → W p l e (rmD 5) s m args below meth c H locs 0 0 (QI dC dI cy ad below args s Q) (F0 m 215 ls [])) : ∀ (n : Nat) (g : Mm) (x1 : Int32) (x2 : Int32) (x3 : Int32) (x4 : Int32) (x5 : Int32) (x6 : Int32) (x7 : Int32) (H : Heap) (locs : List Loc) (ls : Array Slot), St dC dI cy ad s g H locs → lv_has ls 9 [(0, .ref (ad 86)), (1, .int x1), (2, .int x2), (3, .int x3), (4, .int x4), (5, .int x5), (6, .int x6), (7, .int x7)] → o_X8_fits_90 Q K215 n g x1 x2 x3 x4 x5 x6 x7 → W p l e (rmD 5) s m args below meth c H locs 0 0 (QI dC dI cy ad below args s Q) (F0 m 90 ls []) := by
  have hx := C.1.1
  have hb := C.1.2.1
  intro n90
  induction n90 with
  | zero => intro g x1 x2 x3 x4 x5 x6 x7 H locs ls S hl h; exact h.elim
  | succ n90 ih =>
    intro g x1 x2 x3 x4 x5 x6 x7 H locs ls S hl h
    have h : ((10 ≤ x7) → K215 g x6) ∧ ((¬ 10 ≤ x7) → ((¬ x5 = 0) → ((1 < x5) → o_X8_fits_126 Q (o_X8_fits_90 Q K215 n90) K215 g x1 x2 x3 x4 x5 x6 x7) ∧ ((¬ 1 < x5) → ((x7 ≤ 0) → o_X8_fits_131 Q (o_X8_fits_90 Q K215 n90) K215 g x1 x2 x3 x4 x5 x6 x7 0) ∧ ((¬ x7 ≤ 0) → o_X8_fits_126 Q (o_X8_fits_90 Q K215 n90) K215 g x1 x2 x3 x4 x5 x6 x7))) ∧ ((x5 = 0) → o_X8_in (fun (r_19 : Int32) (g_18 : Mm) => o_X8_fits_131 Q (o_X8_fits_90 Q K215 n90) K215 g_18 x1 x2 x3 x4 x5 x6 x7 r_19) g ((x7 : Int32).toInt64) 1 5)) := h
    refine lv_iload hx hb dX8_fits_90 (lv_at hl 7 rfl) ?_
    refine lv_bipush (v := 10) hx hb dX8_fits_92 (by decide) ?_
    refine lv_icmp_ge (tgt := 215) hx hb dX8_fits_94 (by decide) (fun c1 => ?_) (fun c1 => ?_)
    · have h := h.1 c1
      exact hK215 g x6 _ _ _ S (lv_sub hl [0, 6] rfl) h
    · have h := h.2 c1
      refine lv_iload hx hb dX8_fits_97 (lv_at hl 5 rfl) ?_
      refine lv_if_ne (tgt := 115) hx hb dX8_fits_99 (by decide) (fun c1 => ?_) (fun c1 => ?_)
      · have h := h.1 c1
        refine lv_iload hx hb dX8_fits_115 (lv_at hl 5 rfl) ?_
        refine lv_iconst (v := 1) hx hb dX8_fits_117 (by decide) ?_
        refine lv_icmp_gt (tgt := 126) hx hb dX8_fits_118 (by decide) (fun c1 => ?_) (fun c1 => ?_)
        · have h := h.1 c1
          exact o_X8_fits_126_w C ih hK215 g x1 x2 x3 x4 x5 x6 x7 _ _ _ S (lv_sub hl [0, 1, 2, 3, 4, 5, 6, 7] rfl) h
        · have h := h.2 c1
          refine lv_iload hx hb dX8_fits_121 (lv_at hl 7 rfl) ?_
          refine lv_if_le (tgt := 130) hx hb dX8_fits_123 (by decide) (fun c1 => ?_) (fun c1 => ?_)
          · have h := h.1 c1
            refine lv_iconst (v := 0) hx hb dX8_fits_130 (by decide) ?_
            exact o_X8_fits_131_w C ih hK215 g x1 x2 x3 x4 x5 x6 x7 0 _ _ _ S (lv_sub hl [0, 1, 2, 3, 4, 5, 6, 7] rfl) h
          · have h := h.2 c1
            exact o_X8_fits_126_w C ih hK215 g x1 x2 x3 x4 x5 x6 x7 _ _ _ S (lv_sub hl [0, 1, 2, 3, 4, 5, 6, 7] rfl) h
      · have h := h.2 c1
        refine lv_iload hx hb dX8_fits_102 (lv_at hl 7 rfl) ?_
        refine lv_i2l hx hb dX8_fits_104 rfl ?_
        refine lv_lconst (v := 1) hx hb dX8_fits_105 (by decide) ?_
        refine kLdc2 C m_X8_fits_6 dX8_fits_106 ?_
        refine kS_i (As := [.long ((x7 : Int32).toInt64), .long 1, .long 5]) (rest := []) C S hl.1 (o_X8_in_c h) (cw_X8_fits_X8_in C.1.2.2.2.2) rfl rfl (Nat.le_of_ble_eq_true rfl) dX8_fits_109 (fun r_19 g_18 H locs h S => ?_)
        refine lv_goto (tgt := 131) hx hb dX8_fits_112 (by decide) ?_
        exact o_X8_fits_131_w C ih hK215 g_18 x1 x2 x3 x4 x5 x6 x7 r_19 _ _ _ S (lv_sub hl [0, 1, 2, 3, 4, 5, 6, 7] rfl) h
def o_X8_fits (Q : Int32 → Mm → Prop) (g : Mm) (x1 : Int32) (x2 : Int32) (x3 : Int32) (x4 : Int32) (x5 : Int32) : Prop := o_X8_isToy (fun (r_2 : Int32) (g_1 : Mm) => ((r_2 = 0) → Q (-1000001) g_1) ∧ ((¬ r_2 = 0) → o_X8_isRow (fun (r_4 : Int32) (g_3 : Mm) => ((r_4 = 0) → Q (-1000001) g_3) ∧ ((¬ r_4 = 0) → o_X8_in (fun (r_6 : Int32) (g_5 : Mm) => ((r_6 = 0) → Q (-1000001) g_5) ∧ ((¬ r_6 = 0) → o_X8_in (fun (r_8 : Int32) (g_7 : Mm) => ((¬ r_8 = 0) → vp_in x2 8 ∧ (((¬ (g_7.1 93 x2.toNatClampNeg) = 0) → vp_in x2 8 ∧ (o_X8_in (fun (r_10 : Int32) (g_9 : Mm) => ((¬ r_10 = 0) → ∃ n90, o_X8_fits_90 Q (fun (g : Mm) (x6 : Int32) => o_X8_well (fun (r_21 : Int32) (g_20 : Mm) => Q r_21 g_20) g x6) n90 g_9 x1 x2 x3 x4 x5 0 0) ∧ ((r_10 = 0) → o_X8_found (fun (r_23 : Int32) (g_22 : Mm) => Q r_23 g_22) g_9 2)) g_7 ((x3 : Int32).toInt64) 0 (((g_7.1 92 x2.toNatClampNeg) - x4 : Int32).toInt64))) ∧ (((g_7.1 93 x2.toNatClampNeg) = 0) → o_X8_found (fun (r_25 : Int32) (g_24 : Mm) => Q r_25 g_24) g_7 1))) ∧ ((r_8 = 0) → Q (-1000001) g_7)) g_5 ((x5 : Int32).toInt64) 0 3)) g_3 ((x4 : Int32).toInt64) 1 12)) g_1 x2)) g x1
set_option maxHeartbeats 4000000 in
set_option maxRecDepth 100000 in
theorem o_X8_fits_c {l : Launch} {dC : Nat → ClassId} {dI : Nat → Nat → Nat} {cy : Nat → ClassId} {ad tz : Nat → Nat} {Q : Int32 → Mm → Prop} {g : Mm} {x1 : Int32} {x2 : Int32} {x3 : Int32} {x4 : Int32} {x5 : Int32} (h : o_X8_fits Q g x1 x2 x3 x4 x5) : CI l dC dI cy ad tz yX8_fits wsX8_fits (rmD 5) [.ref (ad 86), .int x1, .int x2, .int x3, .int x4, .int x5] g Q := by
  refine CI.of (by decide) rfl rfl (Nat.le_of_ble_eq_true rfl) ?_
  intro p e s m args below meth c ls C hl S
  have hl : lv_has ls 9 [(0, .ref (ad 86)), (1, .int x1), (2, .int x2), (3, .int x3), (4, .int x4), (5, .int x5)] := hl
  have hx := C.1.1
  have hb := C.1.2.1
  unfold o_X8_fits at h
  refine lv_aload_n hx hb dX8_fits_0 rfl (lv_at hl 0 rfl) ?_
  refine lv_iload_n hx hb dX8_fits_1 rfl (lv_at hl 1 rfl) ?_
  refine kV_i (As := [.int x1]) (rest := []) C S hl.1 (o_X8_isToy_c h) (wd_o8 rfl) rfl (cw_X8_fits_X8_isToy C.1.2.2.2.2) rfl rfl (Nat.le_of_ble_eq_true rfl) dX8_fits_2 (fun r_2 g_1 H locs h S => ?_)
  refine lv_if_eq (tgt := 41) hx hb dX8_fits_5 (by decide) (fun c1 => ?_) (fun c1 => ?_)
  · have h := h.1 c1
    refine kLdc C m_X8_fits_3 dX8_fits_41 ?_
    exact kRi C S h dX8_fits_43
  · have h := h.2 c1
    refine lv_iload_n hx hb dX8_fits_8 rfl (lv_at hl 2 rfl) ?_
    refine kS_i (As := [.int x2]) (rest := []) C S hl.1 (o_X8_isRow_c h) (cw_X8_fits_X8_isRow C.1.2.2.2.2) rfl rfl (Nat.le_of_ble_eq_true rfl) dX8_fits_9 (fun r_4 g_3 H locs h S => ?_)
    refine lv_if_eq (tgt := 41) hx hb dX8_fits_12 (by decide) (fun c1 => ?_) (fun c1 => ?_)
    · have h := h.1 c1
      refine kLdc C m_X8_fits_3 dX8_fits_41 ?_
      exact kRi C S h dX8_fits_43
    · have h := h.2 c1
      refine lv_iload hx hb dX8_fits_15 (lv_at hl 4 rfl) ?_
      refine lv_i2l hx hb dX8_fits_17 rfl ?_
      refine lv_lconst (v := 1) hx hb dX8_fits_18 (by decide) ?_
      refine kLdc2 C m_X8_fits_1 dX8_fits_19 ?_
      refine kS_i (As := [.long ((x4 : Int32).toInt64), .long 1, .long 12]) (rest := []) C S hl.1 (o_X8_in_c h) (cw_X8_fits_X8_in C.1.2.2.2.2) rfl rfl (Nat.le_of_ble_eq_true rfl) dX8_fits_22 (fun r_6 g_5 H locs h S => ?_)
      refine lv_if_eq (tgt := 41) hx hb dX8_fits_25 (by decide) (fun c1 => ?_) (fun c1 => ?_)
      · have h := h.1 c1
        refine kLdc C m_X8_fits_3 dX8_fits_41 ?_
        exact kRi C S h dX8_fits_43
      · have h := h.2 c1
        refine lv_iload hx hb dX8_fits_28 (lv_at hl 5 rfl) ?_
        refine lv_i2l hx hb dX8_fits_30 rfl ?_
        refine lv_lconst (v := 0) hx hb dX8_fits_31 (by decide) ?_
        refine kLdc2 C m_X8_fits_2 dX8_fits_32 ?_
        refine kS_i (As := [.long ((x5 : Int32).toInt64), .long 0, .long 3]) (rest := []) C S hl.1 (o_X8_in_c h) (cw_X8_fits_X8_in C.1.2.2.2.2) rfl rfl (Nat.le_of_ble_eq_true rfl) dX8_fits_35 (fun r_8 g_7 H locs h S => ?_)
        refine lv_if_ne (tgt := 44) hx hb dX8_fits_38 (by decide) (fun c1 => ?_) (fun c1 => ?_)
        · have h := h.1 c1
          refine lv_aload_n hx hb dX8_fits_44 rfl (lv_at hl 0 rfl) ?_
          refine kg8 (k := 8) (v := .ref (ad 93)) C S rfl (by decide) n_X8_fits_X8 m_X8_fits_4 rfl dX8_fits_45 ?_
          refine lv_iload_n hx hb dX8_fits_48 rfl (lv_at hl 2 rfl) ?_
          obtain ⟨hi, h⟩ := h
          refine kLz C S rfl rfl hi dX8_fits_49 ?_
          refine lv_if_ne (tgt := 59) hx hb dX8_fits_50 (by decide) (fun c1 => ?_) (fun c1 => ?_)
          · have h := h.1 c1
            refine lv_iload_n hx hb dX8_fits_59 rfl (lv_at hl 3 rfl) ?_
            refine lv_i2l hx hb dX8_fits_60 rfl ?_
            refine lv_lconst (v := 0) hx hb dX8_fits_61 (by decide) ?_
            refine lv_aload_n hx hb dX8_fits_62 rfl (lv_at hl 0 rfl) ?_
            refine kg8 (k := 7) (v := .ref (ad 92)) C S rfl (by decide) n_X8_fits_X8 m_X8_fits_5 rfl dX8_fits_63 ?_
            refine lv_iload_n hx hb dX8_fits_66 rfl (lv_at hl 2 rfl) ?_
            obtain ⟨hi, h⟩ := h
            refine kLi C S rfl rfl hi dX8_fits_67 ?_
            refine lv_iload hx hb dX8_fits_68 (lv_at hl 4 rfl) ?_
            refine lv_isub hx hb dX8_fits_70 ?_
            refine lv_i2l hx hb dX8_fits_71 rfl ?_
            refine kS_i (As := [.long ((x3 : Int32).toInt64), .long 0, .long (((g_7.1 92 x2.toNatClampNeg) - x4 : Int32).toInt64)]) (rest := []) C S hl.1 (o_X8_in_c h) (cw_X8_fits_X8_in C.1.2.2.2.2) rfl rfl (Nat.le_of_ble_eq_true rfl) dX8_fits_72 (fun r_10 g_9 H locs h S => ?_)
            refine lv_if_ne (tgt := 84) hx hb dX8_fits_75 (by decide) (fun c1 => ?_) (fun c1 => ?_)
            · have h := h.1 c1
              refine lv_iconst (v := 0) hx hb dX8_fits_84 (by decide) ?_
              refine lv_istore (lv' := [(6, .int 0), (0, .ref (ad 86)), (1, .int x1), (2, .int x2), (3, .int x3), (4, .int x4), (5, .int x5)]) hx hb dX8_fits_85 hl (by decide) rfl (fun ls hl => ?_)
              refine lv_iconst (v := 0) hx hb dX8_fits_87 (by decide) ?_
              refine lv_istore (lv' := [(7, .int 0), (6, .int 0), (0, .ref (ad 86)), (1, .int x1), (2, .int x2), (3, .int x3), (4, .int x4), (5, .int x5)]) hx hb dX8_fits_88 hl (by decide) rfl (fun ls hl => ?_)
              obtain ⟨n90, h⟩ := h
              refine o_X8_fits_90_w C ?_ n90 g_9 x1 x2 x3 x4 x5 0 0 _ _ _ S (lv_sub hl [2, 3, 4, 5, 6, 7, 1, 0] rfl) h
              · intro g x6 H locs ls S hl h
                refine lv_aload_n hx hb dX8_fits_215 rfl (lv_at hl 0 rfl) ?_
                refine lv_iload hx hb dX8_fits_216 (lv_at hl 1 rfl) ?_
                refine kV_i (As := [.int x6]) (rest := []) C S hl.1 (o_X8_well_c h) (wd_o8 rfl) rfl (cw_X8_fits_X8_well C.1.2.2.2.2) rfl rfl (Nat.le_of_ble_eq_true rfl) dX8_fits_218 (fun r_21 g_20 H locs h S => ?_)
                exact kRi C S h dX8_fits_221
            · have h := h.2 c1
              refine lv_aload_n hx hb dX8_fits_78 rfl (lv_at hl 0 rfl) ?_
              refine lv_iconst (v := 2) hx hb dX8_fits_79 (by decide) ?_
              refine kV_i (As := [.int 2]) (rest := []) C S hl.1 (o_X8_found_c h) (wd_o8 rfl) rfl (cw_X8_fits_X8_found C.1.2.2.2.2) rfl rfl (Nat.le_of_ble_eq_true rfl) dX8_fits_80 (fun r_23 g_22 H locs h S => ?_)
              exact kRi C S h dX8_fits_83
          · have h := h.2 c1
            refine lv_aload_n hx hb dX8_fits_53 rfl (lv_at hl 0 rfl) ?_
            refine lv_iconst (v := 1) hx hb dX8_fits_54 (by decide) ?_
            refine kV_i (As := [.int 1]) (rest := []) C S hl.1 (o_X8_found_c h) (wd_o8 rfl) rfl (cw_X8_fits_X8_found C.1.2.2.2.2) rfl rfl (Nat.le_of_ble_eq_true rfl) dX8_fits_55 (fun r_25 g_24 H locs h S => ?_)
            exact kRi C S h dX8_fits_58
        · have h := h.2 c1
          refine kLdc C m_X8_fits_3 dX8_fits_41 ?_
          exact kRi C S h dX8_fits_43
/-! ClawCaseModel.gives(I)I, height 4 -/
theorem m_X8_gives_3 : Cond.fieldLink RX8 44 "ClawCaseModel" "hand" "[I" ∈ wsX8_gives := List.mem_of_getElem? (i := 3) (by decide +kernel)
theorem n_X8_gives_X8 : ∀ w ∈ wsX80, w ∈ wsX8_gives := mem_by [52, 53, 54, 55, 56, 57, 58, 59, 60, 61, 62, 63, 64, 65, 66, 67, 68, 69, 70, 71, 72, 73, 74, 75] (by decide +kernel)
theorem m_X8_gives_4 : Cond.constant RX8 186 (-1000000) ∈ wsX8_gives := List.mem_of_getElem? (i := 4) (by decide +kernel)
theorem cw_X8_gives_X8_goNext {s : State} {args : Array Value} (ht : ∀ w ∈ wsX8_gives, w.before args s = true) : CallB (rmD 4) s args RX8 183 yX8_goNext cX8_goNext 2 (some .int) wsX8_goNext (rmD (3)) 0 0 2 ∧ (Cond.static yX8_goNext).before args s = true := va_cwS 2 ht gX8_gives_X8_goNext rfl rfl rfl (by decide +kernel) ⟨Nat.le_of_ble_eq_true rfl, Nat.le_of_ble_eq_true rfl⟩
theorem cw_X8_gives_X8_layHand {s : State} {args : Array Value} (ht : ∀ w ∈ wsX8_gives, w.before args s = true) : CallW (rmD 4) s args RX8 RX8 197 yX8_layHand cX8_layHand 2 none wsX8_layHand (rmD (0)) 0 0 0 := cwV 0 ht gX8_gives_X8_layHand rfl rfl rfl (by decide +kernel) ⟨Nat.le_of_ble_eq_true rfl, Nat.le_of_ble_eq_true rfl⟩
theorem m_X8_gives_2 : Cond.constant RX8 71 (-1000001) ∈ wsX8_gives := List.mem_of_getElem? (i := 2) (by decide +kernel)
theorem cw_X8_gives_X8_isColumn {s : State} {args : Array Value} (ht : ∀ w ∈ wsX8_gives, w.before args s = true) : CallB (rmD 4) s args RX8 177 yX8_isColumn cX8_isColumn 1 (some .boolean) wsX8_isColumn (rmD (1)) 0 0 1 ∧ (Cond.static yX8_isColumn).before args s = true := va_cwS 1 ht gX8_gives_X8_isColumn rfl rfl rfl (by decide +kernel) ⟨Nat.le_of_ble_eq_true rfl, Nat.le_of_ble_eq_true rfl⟩
theorem m_X8_gives_1 : Cond.constant RX8 176 (-1000002) ∈ wsX8_gives := List.mem_of_getElem? (i := 1) (by decide +kernel)
theorem cw_X8_gives_X8_toys {s : State} {args : Array Value} (ht : ∀ w ∈ wsX8_gives, w.before args s = true) : CallW (rmD 4) s args RX8 RX8 140 yX8_toys cX8_toys 1 (some .int) wsX8_toys (rmD (0)) 0 0 0 := cwV 0 ht gX8_gives_X8_toys rfl rfl rfl (by decide +kernel) ⟨Nat.le_of_ble_eq_true rfl, Nat.le_of_ble_eq_true rfl⟩
def o_X8_gives (Q : Int32 → Mm → Prop) (g : Mm) (x1 : Int32) : Prop := o_X8_toys (fun (r_2 : Int32) (g_1 : Mm) => ((¬ r_2 = 0) → o_X8_isColumn (fun (r_4 : Int32) (g_3 : Mm) => ((¬ r_4 = 0) → o_X8_layHand (fun (g_5 : Mm) => o_X8_goNext (fun (r_8 : Int32) (g_7 : Mm) => ((0 ≤ r_8) → vp_in (19 + r_8) 33 ∧ (Q (g_7.1 98 (19 + r_8 : Int32).toNatClampNeg) g_7)) ∧ ((¬ 0 ≤ r_8) → Q (-1000000) g_7)) 98 g_5 x1) g_3) ∧ ((r_4 = 0) → Q (-1000001) g_3)) g_1 x1) ∧ ((r_2 = 0) → Q (-1000002) g_1)) g
set_option maxHeartbeats 4000000 in
set_option maxRecDepth 100000 in
theorem o_X8_gives_c {l : Launch} {dC : Nat → ClassId} {dI : Nat → Nat → Nat} {cy : Nat → ClassId} {ad tz : Nat → Nat} {Q : Int32 → Mm → Prop} {g : Mm} {x1 : Int32} (h : o_X8_gives Q g x1) : CI l dC dI cy ad tz yX8_gives wsX8_gives (rmD 4) [.ref (ad 86), .int x1] g Q := by
  refine CI.of (by decide) rfl rfl (Nat.le_of_ble_eq_true rfl) ?_
  intro p e s m args below meth c ls C hl S
  have hl : lv_has ls 3 [(0, .ref (ad 86)), (1, .int x1)] := hl
  have hx := C.1.1
  have hb := C.1.2.1
  unfold o_X8_gives at h
  refine lv_aload_n hx hb dX8_gives_0 rfl (lv_at hl 0 rfl) ?_
  refine kV_i (As := []) (rest := []) C S hl.1 (o_X8_toys_c h) (wd_o8 rfl) rfl (cw_X8_gives_X8_toys C.1.2.2.2.2) rfl rfl (Nat.le_of_ble_eq_true rfl) dX8_gives_1 (fun r_2 g_1 H locs h S => ?_)
  refine lv_if_ne (tgt := 10) hx hb dX8_gives_4 (by decide) (fun c1 => ?_) (fun c1 => ?_)
  · have h := h.1 c1
    refine lv_iload_n hx hb dX8_gives_10 rfl (lv_at hl 1 rfl) ?_
    refine kS_i (As := [.int x1]) (rest := []) C S hl.1 (o_X8_isColumn_c h) (cw_X8_gives_X8_isColumn C.1.2.2.2.2) rfl rfl (Nat.le_of_ble_eq_true rfl) dX8_gives_11 (fun r_4 g_3 H locs h S => ?_)
    refine lv_if_ne (tgt := 20) hx hb dX8_gives_14 (by decide) (fun c1 => ?_) (fun c1 => ?_)
    · have h := h.1 c1
      refine lv_aload_n hx hb dX8_gives_20 rfl (lv_at hl 0 rfl) ?_
      refine kV_v (As := []) (rest := []) C S hl.1 (o_X8_layHand_c h) (wd_o8 rfl) rfl (cw_X8_gives_X8_layHand C.1.2.2.2.2) rfl rfl (Nat.le_of_ble_eq_true rfl) dX8_gives_21 (fun g_5 H locs h S => ?_)
      refine lv_aload_n hx hb dX8_gives_24 rfl (lv_at hl 0 rfl) ?_
      refine kg8 (k := 19) (v := .ref (ad 98)) C S rfl (by decide) n_X8_gives_X8 m_X8_gives_3 rfl dX8_gives_25 ?_
      refine lv_iload_n hx hb dX8_gives_28 rfl (lv_at hl 1 rfl) ?_
      refine kS_i (As := [.ref (ad 98), .int x1]) (rest := []) C S hl.1 (o_X8_goNext_c rfl rfl h) (cw_X8_gives_X8_goNext C.1.2.2.2.2) rfl rfl (Nat.le_of_ble_eq_true rfl) dX8_gives_29 (fun r_8 g_7 H locs h S => ?_)
      refine lv_istore_n (lv' := [(2, .int r_8), (0, .ref (ad 86)), (1, .int x1)]) hx hb dX8_gives_32 rfl hl (by decide) rfl (fun ls hl => ?_)
      refine lv_iload_n hx hb dX8_gives_33 rfl (lv_at hl 0 rfl) ?_
      refine lv_if_ge (tgt := 42) hx hb dX8_gives_34 (by decide) (fun c1 => ?_) (fun c1 => ?_)
      · have h := h.1 c1
        refine lv_aload_n hx hb dX8_gives_42 rfl (lv_at hl 1 rfl) ?_
        refine kg8 (k := 19) (v := .ref (ad 98)) C S rfl (by decide) n_X8_gives_X8 m_X8_gives_3 rfl dX8_gives_43 ?_
        refine lv_bipush (v := 19) hx hb dX8_gives_46 (by decide) ?_
        refine lv_iload_n hx hb dX8_gives_48 rfl (lv_at hl 0 rfl) ?_
        refine lv_iadd hx hb dX8_gives_49 ?_
        obtain ⟨hi, h⟩ := h
        refine kLi C S rfl rfl hi dX8_gives_50 ?_
        exact kRi C S h dX8_gives_51
      · have h := h.2 c1
        refine kLdc C m_X8_gives_4 dX8_gives_37 ?_
        refine lv_goto (tgt := 51) hx hb dX8_gives_39 (by decide) ?_
        exact kRi C S h dX8_gives_51
    · have h := h.2 c1
      refine kLdc C m_X8_gives_2 dX8_gives_17 ?_
      exact kRi C S h dX8_gives_19
  · have h := h.2 c1
    refine kLdc C m_X8_gives_1 dX8_gives_7 ?_
    exact kRi C S h dX8_gives_9
/-! ClawCaseModel.isFigure(I)Z, height 1 -/
theorem m_X8_isFigure_1 : Cond.constantLong RX8 85 (48) ∈ wsX8_isFigure := List.mem_of_getElem? (i := 1) (by decide +kernel)
theorem m_X8_isFigure_2 : Cond.constantLong RX8 87 (57) ∈ wsX8_isFigure := List.mem_of_getElem? (i := 2) (by decide +kernel)
theorem cw_X8_isFigure_X8_in {s : State} {args : Array Value} (ht : ∀ w ∈ wsX8_isFigure, w.before args s = true) : CallB (rmD 1) s args RX8 61 yX8_in cX8_in 6 (some .boolean) wsX8_in (rmD (0)) 0 0 3 ∧ (Cond.static yX8_in).before args s = true := va_cwS 3 ht gX8_isFigure_X8_in rfl rfl rfl (by decide +kernel) ⟨Nat.le_of_ble_eq_true rfl, Nat.le_of_ble_eq_true rfl⟩
def o_X8_isFigure (Q : Int32 → Mm → Prop) (g : Mm) (x0 : Int32) : Prop := o_X8_in (fun (r_2 : Int32) (g_1 : Mm) => narrow .boolean (.int r_2) = .int r_2 ∧ (Q r_2 g_1)) g ((x0 : Int32).toInt64) 48 57
set_option maxHeartbeats 4000000 in
set_option maxRecDepth 100000 in
theorem o_X8_isFigure_c {l : Launch} {dC : Nat → ClassId} {dI : Nat → Nat → Nat} {cy : Nat → ClassId} {ad tz : Nat → Nat} {Q : Int32 → Mm → Prop} {g : Mm} {x0 : Int32} (h : o_X8_isFigure Q g x0) : CI l dC dI cy ad tz yX8_isFigure wsX8_isFigure (rmD 1) [.int x0] g Q := by
  refine CI.of (by decide) rfl rfl (Nat.le_of_ble_eq_true rfl) ?_
  intro p e s m args below meth c ls C hl S
  have hl : lv_has ls 1 [(0, .int x0)] := hl
  have hx := C.1.1
  have hb := C.1.2.1
  unfold o_X8_isFigure at h
  refine lv_iload_n hx hb dX8_isFigure_0 rfl (lv_at hl 0 rfl) ?_
  refine lv_i2l hx hb dX8_isFigure_1 rfl ?_
  refine kLdc2 C m_X8_isFigure_1 dX8_isFigure_2 ?_
  refine kLdc2 C m_X8_isFigure_2 dX8_isFigure_5 ?_
  refine kS_i (As := [.long ((x0 : Int32).toInt64), .long 48, .long 57]) (rest := []) C S hl.1 (o_X8_in_c h) (cw_X8_isFigure_X8_in C.1.2.2.2.2) rfl rfl (Nat.le_of_ble_eq_true rfl) dX8_isFigure_8 (fun r_2 g_1 H locs h S => ?_)
  obtain ⟨hz, h⟩ := h
  exact kRz C S hz h dX8_isFigure_11
/-! ClawCaseModel.look(I)V, height 2 -/
theorem m_X8_look_1 : Cond.fieldLink RX8 89 "ClawCaseModel" "tokenAt" "I" ∈ wsX8_look := List.mem_of_getElem? (i := 1) (by decide +kernel)
theorem n_X8_look_X8 : ∀ w ∈ wsX80, w ∈ wsX8_look := mem_by [18, 19, 20, 21, 22, 23, 24, 25, 26, 27, 28, 29, 30, 31, 32, 33, 34, 35, 36, 37, 38, 39, 40, 41] (by decide +kernel)
theorem m_X8_look_2 : Cond.fieldLink RX8 92 "ClawCaseModel" "tokenLong" "I" ∈ wsX8_look := List.mem_of_getElem? (i := 2) (by decide +kernel)
theorem m_X8_look_3 : Cond.fieldLink RX8 95 "ClawCaseModel" "value" "I" ∈ wsX8_look := List.mem_of_getElem? (i := 3) (by decide +kernel)
theorem m_X8_look_4 : Cond.fieldLink RX8 98 "ClawCaseModel" "token" "I" ∈ wsX8_look := List.mem_of_getElem? (i := 4) (by decide +kernel)
theorem m_X8_look_5 : Cond.fieldLink RX8 81 "ClawCaseModel" "tapeLong" "I" ∈ wsX8_look := List.mem_of_getElem? (i := 5) (by decide +kernel)
theorem m_X8_look_6 : Cond.fieldLink RX8 38 "ClawCaseModel" "tape" "[I" ∈ wsX8_look := List.mem_of_getElem? (i := 6) (by decide +kernel)
theorem m_X8_look_7 : Cond.constantLong RX8 101 (97) ∈ wsX8_look := List.mem_of_getElem? (i := 7) (by decide +kernel)
theorem m_X8_look_8 : Cond.constantLong RX8 103 (122) ∈ wsX8_look := List.mem_of_getElem? (i := 8) (by decide +kernel)
theorem cw_X8_look_X8_isFigure {s : State} {args : Array Value} (ht : ∀ w ∈ wsX8_look, w.before args s = true) : CallB (rmD 2) s args RX8 105 yX8_isFigure cX8_isFigure 1 (some .boolean) wsX8_isFigure (rmD (1)) 0 0 1 ∧ (Cond.static yX8_isFigure).before args s = true := va_cwS 1 ht gX8_look_X8_isFigure rfl rfl rfl (by decide +kernel) ⟨Nat.le_of_ble_eq_true rfl, Nat.le_of_ble_eq_true rfl⟩
theorem cw_X8_look_X8_in {s : State} {args : Array Value} (ht : ∀ w ∈ wsX8_look, w.before args s = true) : CallB (rmD 2) s args RX8 61 yX8_in cX8_in 6 (some .boolean) wsX8_in (rmD (0)) 0 0 3 ∧ (Cond.static yX8_in).before args s = true := va_cwS 3 ht gX8_look_X8_in rfl rfl rfl (by decide +kernel) ⟨Nat.le_of_ble_eq_true rfl, Nat.le_of_ble_eq_true rfl⟩
def o_X8_look_92 (Q : Mm → Prop) (K149 : Mm → Prop) : Nat → Mm → Prop
  | 0, _ => False
  | n92 + 1, g => ((¬ (g.1 86 16) = 2) → K149 g) ∧ (((g.1 86 16) = 2) → (((g.1 86 12) ≤ ((g.1 86 14) + (g.1 86 15))) → K149 g) ∧ ((¬ (g.1 86 12) ≤ ((g.1 86 14) + (g.1 86 15))) → vp_in ((g.1 86 14) + (g.1 86 15)) 70 ∧ (o_X8_isFigure (fun (r_12 : Int32) (g_11 : Mm) => ((r_12 = 0) → K149 g_11) ∧ ((¬ r_12 = 0) → ∀ g_13 : Mm, g_13 = mset g_11 86 15 ((g_11.1 86 15) + 1) → (o_X8_look_92 Q K149 n92 g_13))) g (g.1 96 ((g.1 86 14) + (g.1 86 15) : Int32).toNatClampNeg))))
def o_X8_look_151 (Q : Mm → Prop) (K204 : Mm → Prop) : Nat → Mm → Int32 → Prop
  | 0, _, _ => False
  | n151 + 1, g, x3 => (((g.1 86 15) ≤ x3) → K204 g) ∧ ((¬ (g.1 86 15) ≤ x3) → ((2 ≤ x3) → K204 g) ∧ ((¬ 2 ≤ x3) → ((¬ (g.1 86 16) = 2) → K204 g) ∧ (((g.1 86 16) = 2) → vp_in ((g.1 86 14) + x3) 70 ∧ (∀ g_14 : Mm, g_14 = mset g 86 17 (((10 * (g.1 86 17)) + (g.1 96 ((g.1 86 14) + x3 : Int32).toNatClampNeg)) - 48) → (∀ x_15 : Int32, x_15 = x3 + 1 → (o_X8_look_151 Q K204 n151 g_14 x_15))))))
def o_X8_look_225 (Q : Mm → Prop) (g : Mm) : Prop := ∀ g_16 : Mm, g_16 = mset g 86 16 (g.1 86 16) → (Q g_16)
def o_X8_look_204 (Q : Mm → Prop) (g : Mm) : Prop := ((¬ (g.1 86 16) = 2) → o_X8_look_225 Q g) ∧ (((g.1 86 16) = 2) → (((g.1 86 15) ≤ 2) → o_X8_look_225 Q g) ∧ ((¬ (g.1 86 15) ≤ 2) → ∀ g_17 : Mm, g_17 = mset g 86 16 4 → (Q g_17)))
def o_X8_look_149 (Q : Mm → Prop) (g : Mm) : Prop := ∃ n151, o_X8_look_151 Q (fun (g : Mm) => o_X8_look_204 Q g) n151 g 0
def o_X8_look_89 (Q : Mm → Prop) (g : Mm) (s1 : Int32) : Prop := ∀ g_10 : Mm, g_10 = mset g 86 16 s1 → (∃ n92, o_X8_look_92 Q (fun (g : Mm) => o_X8_look_149 Q g) n92 g_10)
def o_X8_look_84 (Q : Mm → Prop) (g : Mm) : Prop := o_X8_look_89 Q g 3
set_option maxHeartbeats 4000000 in
set_option maxRecDepth 100000 in
theorem o_X8_look_92_w {p : Program} {l : Launch} {e : Env} {s : State} {m : MethodId} {args : Array Value} {below : List Frame} {meth : Method} {c : Code} {dC : Nat → ClassId} {dI : Nat → Nat → Nat} {cy : Nat → ClassId} {ad tz : Nat → Nat} {Q : Mm → Prop} {K149 : Mm → Prop} (C : CX p s m args meth c dC dI cy ad tz cX8_look 4 none RX8 wsX8_look) (hK149 : ∀ (g : Mm) (H : Heap) (locs : List Loc) (ls : Array Slot), St dC dI cy ad s g H locs → lv_has ls 4 [(0, .ref (ad 86))] → K149 g → W p l e (rmD 2) s m args below meth c H locs 0 0 (QV dC dI cy ad below args s Q) (F0 m 149 ls [])) : ∀ (n : Nat) (g : Mm) (H : Heap) (locs : List Loc) (ls : Array Slot), St dC dI cy ad s g H locs → lv_has ls 4 [(0, .ref (ad 86))] → o_X8_look_92 Q K149 n g → W p l e (rmD 2) s m args below meth c H locs 0 0 (QV dC dI cy ad below args s Q) (F0 m 92 ls []) := by
  have hx := C.1.1
  have hb := C.1.2.1
  intro n92
  induction n92 with
  | zero => intro g H locs ls S hl h; exact h.elim
  | succ n92 ih =>
    intro g H locs ls S hl h
    have h : ((¬ (g.1 86 16) = 2) → K149 g) ∧ (((g.1 86 16) = 2) → (((g.1 86 12) ≤ ((g.1 86 14) + (g.1 86 15))) → K149 g) ∧ ((¬ (g.1 86 12) ≤ ((g.1 86 14) + (g.1 86 15))) → vp_in ((g.1 86 14) + (g.1 86 15)) 70 ∧ (o_X8_isFigure (fun (r_12 : Int32) (g_11 : Mm) => ((r_12 = 0) → K149 g_11) ∧ ((¬ r_12 = 0) → ∀ g_13 : Mm, g_13 = mset g_11 86 15 ((g_11.1 86 15) + 1) → (o_X8_look_92 Q K149 n92 g_13))) g (g.1 96 ((g.1 86 14) + (g.1 86 15) : Int32).toNatClampNeg)))) := h
    refine lv_aload_n hx hb dX8_look_92 rfl (lv_at hl 0 rfl) ?_
    refine kg8 (k := 16) (v := .int (g.1 86 16)) C S rfl (by decide) n_X8_look_X8 m_X8_look_4 rfl dX8_look_93 ?_
    refine lv_iconst (v := 2) hx hb dX8_look_96 (by decide) ?_
    refine lv_icmp_ne (tgt := 149) hx hb dX8_look_97 (by decide) (fun c1 => ?_) (fun c1 => ?_)
    · have h := h.1 c1
      exact hK149 g _ _ _ S (lv_sub hl [0] rfl) h
    · have h := h.2 c1
      refine lv_aload_n hx hb dX8_look_100 rfl (lv_at hl 0 rfl) ?_
      refine kg8 (k := 14) (v := .int (g.1 86 14)) C S rfl (by decide) n_X8_look_X8 m_X8_look_1 rfl dX8_look_101 ?_
      refine lv_aload_n hx hb dX8_look_104 rfl (lv_at hl 0 rfl) ?_
      refine kg8 (k := 15) (v := .int (g.1 86 15)) C S rfl (by decide) n_X8_look_X8 m_X8_look_2 rfl dX8_look_105 ?_
      refine lv_iadd hx hb dX8_look_108 ?_
      refine lv_aload_n hx hb dX8_look_109 rfl (lv_at hl 0 rfl) ?_
      refine kg8 (k := 12) (v := .int (g.1 86 12)) C S rfl (by decide) n_X8_look_X8 m_X8_look_5 rfl dX8_look_110 ?_
      refine lv_icmp_ge (tgt := 149) hx hb dX8_look_113 (by decide) (fun c1 => ?_) (fun c1 => ?_)
      · have h := h.1 c1
        exact hK149 g _ _ _ S (lv_sub hl [0] rfl) h
      · have h := h.2 c1
        refine lv_aload_n hx hb dX8_look_116 rfl (lv_at hl 0 rfl) ?_
        refine kg8 (k := 11) (v := .ref (ad 96)) C S rfl (by decide) n_X8_look_X8 m_X8_look_6 rfl dX8_look_117 ?_
        refine lv_aload_n hx hb dX8_look_120 rfl (lv_at hl 0 rfl) ?_
        refine kg8 (k := 14) (v := .int (g.1 86 14)) C S rfl (by decide) n_X8_look_X8 m_X8_look_1 rfl dX8_look_121 ?_
        refine lv_aload_n hx hb dX8_look_124 rfl (lv_at hl 0 rfl) ?_
        refine kg8 (k := 15) (v := .int (g.1 86 15)) C S rfl (by decide) n_X8_look_X8 m_X8_look_2 rfl dX8_look_125 ?_
        refine lv_iadd hx hb dX8_look_128 ?_
        obtain ⟨hi, h⟩ := h
        refine kLi C S rfl rfl hi dX8_look_129 ?_
        refine kS_i (As := [.int (g.1 96 ((g.1 86 14) + (g.1 86 15) : Int32).toNatClampNeg)]) (rest := []) C S hl.1 (o_X8_isFigure_c h) (cw_X8_look_X8_isFigure C.1.2.2.2.2) rfl rfl (Nat.le_of_ble_eq_true rfl) dX8_look_130 (fun r_12 g_11 H locs h S => ?_)
        refine lv_if_eq (tgt := 149) hx hb dX8_look_133 (by decide) (fun c1 => ?_) (fun c1 => ?_)
        · have h := h.1 c1
          exact hK149 g_11 _ _ _ S (lv_sub hl [0] rfl) h
        · have h := h.2 c1
          refine lv_aload_n hx hb dX8_look_136 rfl (lv_at hl 0 rfl) ?_
          refine lv_dup hx hb dX8_look_137 rfl ?_
          refine kg8 (k := 15) (v := .int (g_11.1 86 15)) C S rfl (by decide) n_X8_look_X8 m_X8_look_2 rfl dX8_look_138 ?_
          refine lv_iconst (v := 1) hx hb dX8_look_141 (by decide) ?_
          refine lv_iadd hx hb dX8_look_142 ?_
          refine kp8_15 C S rfl n_X8_look_X8 m_X8_look_2 dX8_look_143 (fun g_13 H locs eg_13 S => ?_)
          have h := h g_13 eg_13
          refine lv_goto (tgt := 92) hx hb dX8_look_146 (by decide) ?_
          exact ih g_13 _ _ _ S (lv_sub hl [0] rfl) h
set_option maxHeartbeats 4000000 in
set_option maxRecDepth 100000 in
theorem o_X8_look_151_w {p : Program} {l : Launch} {e : Env} {s : State} {m : MethodId} {args : Array Value} {below : List Frame} {meth : Method} {c : Code} {dC : Nat → ClassId} {dI : Nat → Nat → Nat} {cy : Nat → ClassId} {ad tz : Nat → Nat} {Q : Mm → Prop} {K204 : Mm → Prop} (C : CX p s m args meth c dC dI cy ad tz cX8_look 4 none RX8 wsX8_look) (hK204 : ∀ (g : Mm) (H : Heap) (locs : List Loc) (ls : Array Slot), St dC dI cy ad s g H locs → lv_has ls 4 [(0, .ref (ad 86))] → K204 g → W p l e (rmD 2) s m args below meth c H locs 0 0 (QV dC dI cy ad below args s Q) (F0 m 204 ls [])) : ∀ (n : Nat) (g : Mm) (x3 : Int32) (H : Heap) (locs : List Loc) (ls : Array Slot), St dC dI cy ad s g H locs → lv_has ls 4 [(0, .ref (ad 86)), (3, .int x3)] → o_X8_look_151 Q K204 n g x3 → W p l e (rmD 2) s m args below meth c H locs 0 0 (QV dC dI cy ad below args s Q) (F0 m 151 ls []) := by
  have hx := C.1.1
  have hb := C.1.2.1
  intro n151
  induction n151 with
  | zero => intro g x3 H locs ls S hl h; exact h.elim
  | succ n151 ih =>
    intro g x3 H locs ls S hl h
    have h : (((g.1 86 15) ≤ x3) → K204 g) ∧ ((¬ (g.1 86 15) ≤ x3) → ((2 ≤ x3) → K204 g) ∧ ((¬ 2 ≤ x3) → ((¬ (g.1 86 16) = 2) → K204 g) ∧ (((g.1 86 16) = 2) → vp_in ((g.1 86 14) + x3) 70 ∧ (∀ g_14 : Mm, g_14 = mset g 86 17 (((10 * (g.1 86 17)) + (g.1 96 ((g.1 86 14) + x3 : Int32).toNatClampNeg)) - 48) → (∀ x_15 : Int32, x_15 = x3 + 1 → (o_X8_look_151 Q K204 n151 g_14 x_15)))))) := h
    refine lv_iload_n hx hb dX8_look_151 rfl (lv_at hl 1 rfl) ?_
    refine lv_aload_n hx hb dX8_look_152 rfl (lv_at hl 0 rfl) ?_
    refine kg8 (k := 15) (v := .int (g.1 86 15)) C S rfl (by decide) n_X8_look_X8 m_X8_look_2 rfl dX8_look_153 ?_
    refine lv_icmp_ge (tgt := 204) hx hb dX8_look_156 (by decide) (fun c1 => ?_) (fun c1 => ?_)
    · have h := h.1 c1
      exact hK204 g _ _ _ S (lv_sub hl [0] rfl) h
    · have h := h.2 c1
      refine lv_iload_n hx hb dX8_look_159 rfl (lv_at hl 1 rfl) ?_
      refine lv_iconst (v := 2) hx hb dX8_look_160 (by decide) ?_
      refine lv_icmp_ge (tgt := 204) hx hb dX8_look_161 (by decide) (fun c1 => ?_) (fun c1 => ?_)
      · have h := h.1 c1
        exact hK204 g _ _ _ S (lv_sub hl [0] rfl) h
      · have h := h.2 c1
        refine lv_aload_n hx hb dX8_look_164 rfl (lv_at hl 0 rfl) ?_
        refine kg8 (k := 16) (v := .int (g.1 86 16)) C S rfl (by decide) n_X8_look_X8 m_X8_look_4 rfl dX8_look_165 ?_
        refine lv_iconst (v := 2) hx hb dX8_look_168 (by decide) ?_
        refine lv_icmp_ne (tgt := 204) hx hb dX8_look_169 (by decide) (fun c1 => ?_) (fun c1 => ?_)
        · have h := h.1 c1
          exact hK204 g _ _ _ S (lv_sub hl [0] rfl) h
        · have h := h.2 c1
          refine lv_aload_n hx hb dX8_look_172 rfl (lv_at hl 0 rfl) ?_
          refine lv_bipush (v := 10) hx hb dX8_look_173 (by decide) ?_
          refine lv_aload_n hx hb dX8_look_175 rfl (lv_at hl 0 rfl) ?_
          refine kg8 (k := 17) (v := .int (g.1 86 17)) C S rfl (by decide) n_X8_look_X8 m_X8_look_3 rfl dX8_look_176 ?_
          refine lv_imul hx hb dX8_look_179 ?_
          refine lv_aload_n hx hb dX8_look_180 rfl (lv_at hl 0 rfl) ?_
          refine kg8 (k := 11) (v := .ref (ad 96)) C S rfl (by decide) n_X8_look_X8 m_X8_look_6 rfl dX8_look_181 ?_
          refine lv_aload_n hx hb dX8_look_184 rfl (lv_at hl 0 rfl) ?_
          refine kg8 (k := 14) (v := .int (g.1 86 14)) C S rfl (by decide) n_X8_look_X8 m_X8_look_1 rfl dX8_look_185 ?_
          refine lv_iload_n hx hb dX8_look_188 rfl (lv_at hl 1 rfl) ?_
          refine lv_iadd hx hb dX8_look_189 ?_
          obtain ⟨hi, h⟩ := h
          refine kLi C S rfl rfl hi dX8_look_190 ?_
          refine lv_iadd hx hb dX8_look_191 ?_
          refine lv_bipush (v := 48) hx hb dX8_look_192 (by decide) ?_
          refine lv_isub hx hb dX8_look_194 ?_
          refine kp8_17 C S rfl n_X8_look_X8 m_X8_look_3 dX8_look_195 (fun g_14 H locs eg_14 S => ?_)
          have h := h g_14 eg_14
          obtain ⟨x_15, ex_15⟩ : ∃ y : Int32, y = x3 + 1 := ⟨_, rfl⟩
          have h := h x_15 ex_15
          refine lv_iinc (v := x_15) (lv' := [(3, .int x_15), (0, .ref (ad 86))]) hx hb dX8_look_198 hl (k := 1) rfl (by rw [ex_15]; rfl) (by decide) rfl (fun ls hl => ?_)
          refine lv_goto (tgt := 151) hx hb dX8_look_201 (by decide) ?_
          exact ih g_14 x_15 _ _ _ S (lv_sub hl [1, 0] rfl) h
set_option maxHeartbeats 4000000 in
set_option maxRecDepth 100000 in
theorem o_X8_look_225_w {p : Program} {l : Launch} {e : Env} {s : State} {m : MethodId} {args : Array Value} {below : List Frame} {meth : Method} {c : Code} {dC : Nat → ClassId} {dI : Nat → Nat → Nat} {cy : Nat → ClassId} {ad tz : Nat → Nat} {Q : Mm → Prop} (C : CX p s m args meth c dC dI cy ad tz cX8_look 4 none RX8 wsX8_look) : ∀ (g : Mm) (H : Heap) (locs : List Loc) (ls : Array Slot), St dC dI cy ad s g H locs → lv_has ls 4 [(0, .ref (ad 86))] → o_X8_look_225 Q g → W p l e (rmD 2) s m args below meth c H locs 0 0 (QV dC dI cy ad below args s Q) (F0 m 225 ls [.ref (ad 86)]) := by
  have hx := C.1.1
  have hb := C.1.2.1
  intro g H locs ls S hl h
  unfold o_X8_look_225 at h
  refine lv_aload_n hx hb dX8_look_225 rfl (lv_at hl 0 rfl) ?_
  refine kg8 (k := 16) (v := .int (g.1 86 16)) C S rfl (by decide) n_X8_look_X8 m_X8_look_4 rfl dX8_look_226 ?_
  refine kp8_16 C S rfl n_X8_look_X8 m_X8_look_4 dX8_look_229 (fun g_16 H locs eg_16 S => ?_)
  have h := h g_16 eg_16
  exact kRv C S h dX8_look_232
set_option maxHeartbeats 4000000 in
set_option maxRecDepth 100000 in
theorem o_X8_look_204_w {p : Program} {l : Launch} {e : Env} {s : State} {m : MethodId} {args : Array Value} {below : List Frame} {meth : Method} {c : Code} {dC : Nat → ClassId} {dI : Nat → Nat → Nat} {cy : Nat → ClassId} {ad tz : Nat → Nat} {Q : Mm → Prop} (C : CX p s m args meth c dC dI cy ad tz cX8_look 4 none RX8 wsX8_look) : ∀ (g : Mm) (H : Heap) (locs : List Loc) (ls : Array Slot), St dC dI cy ad s g H locs → lv_has ls 4 [(0, .ref (ad 86))] → o_X8_look_204 Q g → W p l e (rmD 2) s m args below meth c H locs 0 0 (QV dC dI cy ad below args s Q) (F0 m 204 ls []) := by
  have hx := C.1.1
  have hb := C.1.2.1
  intro g H locs ls S hl h
  unfold o_X8_look_204 at h
  refine lv_aload_n hx hb dX8_look_204 rfl (lv_at hl 0 rfl) ?_
  refine lv_aload_n hx hb dX8_look_205 rfl (lv_at hl 0 rfl) ?_
  refine kg8 (k := 16) (v := .int (g.1 86 16)) C S rfl (by decide) n_X8_look_X8 m_X8_look_4 rfl dX8_look_206 ?_
  refine lv_iconst (v := 2) hx hb dX8_look_209 (by decide) ?_
  refine lv_icmp_ne (tgt := 225) hx hb dX8_look_210 (by decide) (fun c1 => ?_) (fun c1 => ?_)
  · have h := h.1 c1
    exact o_X8_look_225_w C g _ _ _ S (lv_sub hl [0] rfl) h
  · have h := h.2 c1
    refine lv_aload_n hx hb dX8_look_213 rfl (lv_at hl 0 rfl) ?_
    refine kg8 (k := 15) (v := .int (g.1 86 15)) C S rfl (by decide) n_X8_look_X8 m_X8_look_2 rfl dX8_look_214 ?_
    refine lv_iconst (v := 2) hx hb dX8_look_217 (by decide) ?_
    refine lv_icmp_le (tgt := 225) hx hb dX8_look_218 (by decide) (fun c1 => ?_) (fun c1 => ?_)
    · have h := h.1 c1
      exact o_X8_look_225_w C g _ _ _ S (lv_sub hl [0] rfl) h
    · have h := h.2 c1
      refine lv_iconst (v := 4) hx hb dX8_look_221 (by decide) ?_
      refine lv_goto (tgt := 229) hx hb dX8_look_222 (by decide) ?_
      refine kp8_16 C S rfl n_X8_look_X8 m_X8_look_4 dX8_look_229 (fun g_17 H locs eg_17 S => ?_)
      have h := h g_17 eg_17
      exact kRv C S h dX8_look_232
set_option maxHeartbeats 4000000 in
set_option maxRecDepth 100000 in
theorem o_X8_look_149_w {p : Program} {l : Launch} {e : Env} {s : State} {m : MethodId} {args : Array Value} {below : List Frame} {meth : Method} {c : Code} {dC : Nat → ClassId} {dI : Nat → Nat → Nat} {cy : Nat → ClassId} {ad tz : Nat → Nat} {Q : Mm → Prop} (C : CX p s m args meth c dC dI cy ad tz cX8_look 4 none RX8 wsX8_look) : ∀ (g : Mm) (H : Heap) (locs : List Loc) (ls : Array Slot), St dC dI cy ad s g H locs → lv_has ls 4 [(0, .ref (ad 86))] → o_X8_look_149 Q g → W p l e (rmD 2) s m args below meth c H locs 0 0 (QV dC dI cy ad below args s Q) (F0 m 149 ls []) := by
  have hx := C.1.1
  have hb := C.1.2.1
  intro g H locs ls S hl h
  unfold o_X8_look_149 at h
  refine lv_iconst (v := 0) hx hb dX8_look_149 (by decide) ?_
  refine lv_istore_n (lv' := [(3, .int 0), (0, .ref (ad 86))]) hx hb dX8_look_150 rfl hl (by decide) rfl (fun ls hl => ?_)
  obtain ⟨n151, h⟩ := h
  refine o_X8_look_151_w C ?_ n151 g 0 _ _ _ S (lv_sub hl [1, 0] rfl) h
  · intro g H locs ls S hl h
    exact o_X8_look_204_w C g _ _ _ S (lv_sub hl [0] rfl) h
set_option maxHeartbeats 4000000 in
set_option maxRecDepth 100000 in
theorem o_X8_look_89_w {p : Program} {l : Launch} {e : Env} {s : State} {m : MethodId} {args : Array Value} {below : List Frame} {meth : Method} {c : Code} {dC : Nat → ClassId} {dI : Nat → Nat → Nat} {cy : Nat → ClassId} {ad tz : Nat → Nat} {Q : Mm → Prop} (C : CX p s m args meth c dC dI cy ad tz cX8_look 4 none RX8 wsX8_look) : ∀ (g : Mm) (s1 : Int32) (H : Heap) (locs : List Loc) (ls : Array Slot), St dC dI cy ad s g H locs → lv_has ls 4 [(0, .ref (ad 86))] → o_X8_look_89 Q g s1 → W p l e (rmD 2) s m args below meth c H locs 0 0 (QV dC dI cy ad below args s Q) (F0 m 89 ls [.int s1, .ref (ad 86)]) := by
  have hx := C.1.1
  have hb := C.1.2.1
  intro g s1 H locs ls S hl h
  unfold o_X8_look_89 at h
  refine kp8_16 C S rfl n_X8_look_X8 m_X8_look_4 dX8_look_89 (fun g_10 H locs eg_10 S => ?_)
  have h := h g_10 eg_10
  obtain ⟨n92, h⟩ := h
  refine o_X8_look_92_w C ?_ n92 g_10 _ _ _ S (lv_sub hl [0] rfl) h
  · intro g H locs ls S hl h
    exact o_X8_look_149_w C g _ _ _ S (lv_sub hl [0] rfl) h
set_option maxHeartbeats 4000000 in
set_option maxRecDepth 100000 in
theorem o_X8_look_84_w {p : Program} {l : Launch} {e : Env} {s : State} {m : MethodId} {args : Array Value} {below : List Frame} {meth : Method} {c : Code} {dC : Nat → ClassId} {dI : Nat → Nat → Nat} {cy : Nat → ClassId} {ad tz : Nat → Nat} {Q : Mm → Prop} (C : CX p s m args meth c dC dI cy ad tz cX8_look 4 none RX8 wsX8_look) : ∀ (g : Mm) (H : Heap) (locs : List Loc) (ls : Array Slot), St dC dI cy ad s g H locs → lv_has ls 4 [(0, .ref (ad 86))] → o_X8_look_84 Q g → W p l e (rmD 2) s m args below meth c H locs 0 0 (QV dC dI cy ad below args s Q) (F0 m 84 ls [.ref (ad 86)]) := by
  have hx := C.1.1
  have hb := C.1.2.1
  intro g H locs ls S hl h
  unfold o_X8_look_84 at h
  refine lv_iconst (v := 3) hx hb dX8_look_84 (by decide) ?_
  refine lv_goto (tgt := 89) hx hb dX8_look_85 (by decide) ?_
  exact o_X8_look_89_w C g 3 _ _ _ S (lv_sub hl [0] rfl) h
def o_X8_look (Q : Mm → Prop) (g : Mm) (x1 : Int32) : Prop := ∀ g_1 : Mm, g_1 = mset g 86 14 x1 → (∀ g_2 : Mm, g_2 = mset g_1 86 15 1 → (∀ g_3 : Mm, g_3 = mset g_2 86 17 0 → (∀ g_4 : Mm, g_4 = mset g_3 86 16 0 → (((¬ (g_4.1 86 14) = (g_4.1 86 12)) → vp_in (g_4.1 86 14) 70 ∧ (∀ x_5 : Int32, x_5 = (g_4.1 96 (g_4.1 86 14 : Int32).toNatClampNeg) → (o_X8_in (fun (r_7 : Int32) (g_6 : Mm) => ((r_7 = 0) → o_X8_isFigure (fun (r_9 : Int32) (g_8 : Mm) => ((r_9 = 0) → ((x_5 = 44) → o_X8_look_84 Q g_8) ∧ ((¬ x_5 = 44) → ((¬ x_5 = 59) → o_X8_look_89 Q g_8 4) ∧ ((x_5 = 59) → o_X8_look_84 Q g_8))) ∧ ((¬ r_9 = 0) → o_X8_look_89 Q g_8 2)) g_6 x_5) ∧ ((¬ r_7 = 0) → o_X8_look_89 Q g_6 1)) g_4 ((x_5 : Int32).toInt64) 97 122))) ∧ (((g_4.1 86 14) = (g_4.1 86 12)) → Q g_4)))))
set_option maxHeartbeats 4000000 in
set_option maxRecDepth 100000 in
theorem o_X8_look_c {l : Launch} {dC : Nat → ClassId} {dI : Nat → Nat → Nat} {cy : Nat → ClassId} {ad tz : Nat → Nat} {Q : Mm → Prop} {g : Mm} {x1 : Int32} (h : o_X8_look Q g x1) : CV l dC dI cy ad tz yX8_look wsX8_look (rmD 2) [.ref (ad 86), .int x1] g Q := by
  refine CV.of (by decide) rfl rfl (Nat.le_of_ble_eq_true rfl) ?_
  intro p e s m args below meth c ls C hl S
  have hl : lv_has ls 4 [(0, .ref (ad 86)), (1, .int x1)] := hl
  have hx := C.1.1
  have hb := C.1.2.1
  unfold o_X8_look at h
  refine lv_aload_n hx hb dX8_look_0 rfl (lv_at hl 0 rfl) ?_
  refine lv_iload_n hx hb dX8_look_1 rfl (lv_at hl 1 rfl) ?_
  refine kp8_14 C S rfl n_X8_look_X8 m_X8_look_1 dX8_look_2 (fun g_1 H locs eg_1 S => ?_)
  have h := h g_1 eg_1
  refine lv_aload_n hx hb dX8_look_5 rfl (lv_at hl 0 rfl) ?_
  refine lv_iconst (v := 1) hx hb dX8_look_6 (by decide) ?_
  refine kp8_15 C S rfl n_X8_look_X8 m_X8_look_2 dX8_look_7 (fun g_2 H locs eg_2 S => ?_)
  have h := h g_2 eg_2
  refine lv_aload_n hx hb dX8_look_10 rfl (lv_at hl 0 rfl) ?_
  refine lv_iconst (v := 0) hx hb dX8_look_11 (by decide) ?_
  refine kp8_17 C S rfl n_X8_look_X8 m_X8_look_3 dX8_look_12 (fun g_3 H locs eg_3 S => ?_)
  have h := h g_3 eg_3
  refine lv_aload_n hx hb dX8_look_15 rfl (lv_at hl 0 rfl) ?_
  refine lv_iconst (v := 0) hx hb dX8_look_16 (by decide) ?_
  refine kp8_16 C S rfl n_X8_look_X8 m_X8_look_4 dX8_look_17 (fun g_4 H locs eg_4 S => ?_)
  have h := h g_4 eg_4
  refine lv_aload_n hx hb dX8_look_20 rfl (lv_at hl 0 rfl) ?_
  refine kg8 (k := 14) (v := .int (g_4.1 86 14)) C S rfl (by decide) n_X8_look_X8 m_X8_look_1 rfl dX8_look_21 ?_
  refine lv_aload_n hx hb dX8_look_24 rfl (lv_at hl 0 rfl) ?_
  refine kg8 (k := 12) (v := .int (g_4.1 86 12)) C S rfl (by decide) n_X8_look_X8 m_X8_look_5 rfl dX8_look_25 ?_
  refine lv_icmp_ne (tgt := 32) hx hb dX8_look_28 (by decide) (fun c1 => ?_) (fun c1 => ?_)
  · have h := h.1 c1
    refine lv_aload_n hx hb dX8_look_32 rfl (lv_at hl 0 rfl) ?_
    refine kg8 (k := 11) (v := .ref (ad 96)) C S rfl (by decide) n_X8_look_X8 m_X8_look_6 rfl dX8_look_33 ?_
    refine lv_aload_n hx hb dX8_look_36 rfl (lv_at hl 0 rfl) ?_
    refine kg8 (k := 14) (v := .int (g_4.1 86 14)) C S rfl (by decide) n_X8_look_X8 m_X8_look_1 rfl dX8_look_37 ?_
    obtain ⟨hi, h⟩ := h
    refine kLi C S rfl rfl hi dX8_look_40 ?_
    refine lv_topi (fun x_5 ex_5 => ?_)
    have h := h x_5 ex_5
    refine lv_istore_n (lv' := [(2, .int x_5), (0, .ref (ad 86)), (1, .int x1)]) hx hb dX8_look_41 rfl hl (by decide) rfl (fun ls hl => ?_)
    refine lv_aload_n hx hb dX8_look_42 rfl (lv_at hl 1 rfl) ?_
    refine lv_iload_n hx hb dX8_look_43 rfl (lv_at hl 0 rfl) ?_
    refine lv_i2l hx hb dX8_look_44 rfl ?_
    refine kLdc2 C m_X8_look_7 dX8_look_45 ?_
    refine kLdc2 C m_X8_look_8 dX8_look_48 ?_
    refine kS_i (As := [.long ((x_5 : Int32).toInt64), .long 97, .long 122]) (rest := [.ref (ad 86)]) C S hl.1 (o_X8_in_c h) (cw_X8_look_X8_in C.1.2.2.2.2) rfl rfl (Nat.le_of_ble_eq_true rfl) dX8_look_51 (fun r_7 g_6 H locs h S => ?_)
    refine lv_if_eq (tgt := 61) hx hb dX8_look_54 (by decide) (fun c1 => ?_) (fun c1 => ?_)
    · have h := h.1 c1
      refine lv_iload_n hx hb dX8_look_61 rfl (lv_at hl 0 rfl) ?_
      refine kS_i (As := [.int x_5]) (rest := [.ref (ad 86)]) C S hl.1 (o_X8_isFigure_c h) (cw_X8_look_X8_isFigure C.1.2.2.2.2) rfl rfl (Nat.le_of_ble_eq_true rfl) dX8_look_62 (fun r_9 g_8 H locs h S => ?_)
      refine lv_if_eq (tgt := 72) hx hb dX8_look_65 (by decide) (fun c1 => ?_) (fun c1 => ?_)
      · have h := h.1 c1
        refine lv_iload_n hx hb dX8_look_72 rfl (lv_at hl 0 rfl) ?_
        refine lv_bipush (v := 44) hx hb dX8_look_73 (by decide) ?_
        refine lv_icmp_eq (tgt := 84) hx hb dX8_look_75 (by decide) (fun c1 => ?_) (fun c1 => ?_)
        · have h := h.1 c1
          exact o_X8_look_84_w C g_8 _ _ _ S (lv_sub hl [1] rfl) h
        · have h := h.2 c1
          refine lv_iload_n hx hb dX8_look_78 rfl (lv_at hl 0 rfl) ?_
          refine lv_bipush (v := 59) hx hb dX8_look_79 (by decide) ?_
          refine lv_icmp_ne (tgt := 88) hx hb dX8_look_81 (by decide) (fun c1 => ?_) (fun c1 => ?_)
          · have h := h.1 c1
            refine lv_iconst (v := 4) hx hb dX8_look_88 (by decide) ?_
            exact o_X8_look_89_w C g_8 4 _ _ _ S (lv_sub hl [1] rfl) h
          · have h := h.2 c1
            exact o_X8_look_84_w C g_8 _ _ _ S (lv_sub hl [1] rfl) h
      · have h := h.2 c1
        refine lv_iconst (v := 2) hx hb dX8_look_68 (by decide) ?_
        refine lv_goto (tgt := 89) hx hb dX8_look_69 (by decide) ?_
        exact o_X8_look_89_w C g_8 2 _ _ _ S (lv_sub hl [1] rfl) h
    · have h := h.2 c1
      refine lv_iconst (v := 1) hx hb dX8_look_57 (by decide) ?_
      refine lv_goto (tgt := 89) hx hb dX8_look_58 (by decide) ?_
      exact o_X8_look_89_w C g_6 1 _ _ _ S (lv_sub hl [1] rfl) h
  · have h := h.2 c1
    exact kRv C S h dX8_look_31
