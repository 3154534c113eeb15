/-! ClawCaseModel.markOf(I)I, height 4 -/
theorem m_X8_markOf_1 : Cond.fieldLink RX8 7 "ClawCaseModel" "now" "[I" ∈ wsX8_markOf := List.mem_of_getElem? (i := 1) (by decide +kernel)
theorem n_X8_markOf_X8 : ∀ w ∈ wsX80, w ∈ wsX8_markOf := mem_by [29, 30, 31, 32, 33, 34, 35, 36, 37, 38, 39, 40, 41, 42, 43, 44, 45, 46, 47, 48, 49, 50, 51, 52] (by decide +kernel)
theorem cw_X8_markOf_X8_mark21 {s : State} {args : Array Value} (ht : ∀ w ∈ wsX8_markOf, w.before args s = true) : CallW (rmD 4) s args RX8 RX8 268 yX8_mark21 cX8_mark21 2 (some .int) wsX8_mark21 (rmD (2)) 0 0 1 := cwV 1 ht gX8_markOf_X8_mark21 rfl rfl rfl (by decide +kernel) ⟨Nat.le_of_ble_eq_true rfl, Nat.le_of_ble_eq_true rfl⟩
theorem cw_X8_markOf_X8_leave {s : State} {args : Array Value} (ht : ∀ w ∈ wsX8_markOf, w.before args s = true) : CallW (rmD 4) s args RX8 RX8 256 yX8_leave cX8_leave 2 none wsX8_leave (rmD (0)) 0 0 1 := cwV 1 ht gX8_markOf_X8_leave rfl rfl rfl (by decide +kernel) ⟨Nat.le_of_ble_eq_true rfl, Nat.le_of_ble_eq_true rfl⟩
theorem cw_X8_markOf_X8_sizeOfRound {s : State} {args : Array Value} (ht : ∀ w ∈ wsX8_markOf, w.before args s = true) : CallW (rmD 4) s args RX8 RX8 271 yX8_sizeOfRound cX8_sizeOfRound 2 (some .int) wsX8_sizeOfRound (rmD (3)) 0 0 1 := cwV 1 ht gX8_markOf_X8_sizeOfRound rfl rfl rfl (by decide +kernel) ⟨Nat.le_of_ble_eq_true rfl, Nat.le_of_ble_eq_true rfl⟩
theorem cw_X8_markOf_X8_mark20 {s : State} {args : Array Value} (ht : ∀ w ∈ wsX8_markOf, w.before args s = true) : CallW (rmD 4) s args RX8 RX8 259 yX8_mark20 cX8_mark20 2 (some .int) wsX8_mark20 (rmD (1)) 0 0 1 := cwV 1 ht gX8_markOf_X8_mark20 rfl rfl rfl (by decide +kernel) ⟨Nat.le_of_ble_eq_true rfl, Nat.le_of_ble_eq_true rfl⟩
def o_X8_markOf (Q : Int32 → Mm → Prop) (g : Mm) (x1 : Int32) : Prop := vp_in (1 + x1) 33 ∧ (((g.1 87 (1 + x1 : Int32).toNatClampNeg) = 1 → o_X8_mark21 (fun (r_2 : Int32) (g_1 : Mm) => Q r_2 g_1) g x1) ∧ ((g.1 87 (1 + x1 : Int32).toNatClampNeg) = 2 → o_X8_leave (fun (g_3 : Mm) => o_X8_mark21 (fun (r_6 : Int32) (g_5 : Mm) => Q (2 * r_6) g_5) g_3 x1) g 24) ∧ ((g.1 87 (1 + x1 : Int32).toNatClampNeg) = 3 → o_X8_leave (fun (g_7 : Mm) => o_X8_mark21 (fun (r_10 : Int32) (g_9 : Mm) => Q (r_10 - 1000) g_9) g_7 x1) g 22) ∧ ((¬ (g.1 87 (1 + x1 : Int32).toNatClampNeg) = 1 ∧ ¬ (g.1 87 (1 + x1 : Int32).toNatClampNeg) = 2 ∧ ¬ (g.1 87 (1 + x1 : Int32).toNatClampNeg) = 3) → o_X8_leave (fun (g_11 : Mm) => o_X8_mark20 (fun (r_14 : Int32) (g_13 : Mm) => o_X8_sizeOfRound (fun (r_16 : Int32) (g_15 : Mm) => Q (r_14 - r_16) g_15) g_13 x1) g_11 x1) g 23))
set_option maxHeartbeats 4000000 in
set_option maxRecDepth 100000 in
theorem o_X8_markOf_c {l : Launch} {dC : Nat → ClassId} {dI : Nat → Nat → Nat} {cy : Nat → ClassId} {ad tz : Nat → Nat} {Q : Int32 → Mm → Prop} {g : Mm} {x1 : Int32} (h : o_X8_markOf Q g x1) : CI l dC dI cy ad tz yX8_markOf wsX8_markOf (rmD 4) [.ref (ad 86), .int x1] g Q := by
  refine CI.of (by decide) rfl rfl (Nat.le_of_ble_eq_true rfl) ?_
  intro p e s m args below meth c ls C hl S
  have hl : lv_has ls 2 [(0, .ref (ad 86)), (1, .int x1)] := hl
  have hx := C.1.1
  have hb := C.1.2.1
  unfold o_X8_markOf at h
  refine lv_aload_n hx hb dX8_markOf_0 rfl (lv_at hl 0 rfl) ?_
  refine kg8 (k := 0) (v := .ref (ad 87)) C S rfl (by decide) n_X8_markOf_X8 m_X8_markOf_1 rfl dX8_markOf_1 ?_
  refine lv_iconst (v := 1) hx hb dX8_markOf_4 (by decide) ?_
  refine lv_iload_n hx hb dX8_markOf_5 rfl (lv_at hl 1 rfl) ?_
  refine lv_iadd hx hb dX8_markOf_6 ?_
  obtain ⟨hi, h⟩ := h
  refine kLi C S rfl rfl hi dX8_markOf_7 ?_
  by_cases c1 : (g.1 87 (1 + x1 : Int32).toNatClampNeg) = 1
  · have h := h.1 c1
    refine lv_tableIn (off := 58) (tgt := 66) hx hb dX8_markOf_8 (by rw [c1]; decide) (by rw [c1]; decide) (by rw [c1]; decide) (by decide) ?_
    refine lv_aload_n hx hb dX8_markOf_66 rfl (lv_at hl 0 rfl) ?_
    refine lv_iload_n hx hb dX8_markOf_67 rfl (lv_at hl 1 rfl) ?_
    refine kV_i (As := [.int x1]) (rest := []) C S hl.1 (o_X8_mark21_c h) (wd_o8 rfl) rfl (cw_X8_markOf_X8_mark21 C.1.2.2.2.2) rfl rfl (Nat.le_of_ble_eq_true rfl) dX8_markOf_68 (fun r_2 g_1 H locs h S => ?_)
    exact kRi C S h dX8_markOf_71
  by_cases c2 : (g.1 87 (1 + x1 : Int32).toNatClampNeg) = 2
  · have h := h.2.1 c2
    refine lv_tableIn (off := 28) (tgt := 36) hx hb dX8_markOf_8 (by rw [c2]; decide) (by rw [c2]; decide) (by rw [c2]; decide) (by decide) ?_
    refine lv_aload_n hx hb dX8_markOf_36 rfl (lv_at hl 0 rfl) ?_
    refine lv_bipush (v := 24) hx hb dX8_markOf_37 (by decide) ?_
    refine kV_v (As := [.int 24]) (rest := []) C S hl.1 (o_X8_leave_c h) (wd_o8 rfl) rfl (cw_X8_markOf_X8_leave C.1.2.2.2.2) rfl rfl (Nat.le_of_ble_eq_true rfl) dX8_markOf_39 (fun g_3 H locs h S => ?_)
    refine lv_iconst (v := 2) hx hb dX8_markOf_42 (by decide) ?_
    refine lv_aload_n hx hb dX8_markOf_43 rfl (lv_at hl 0 rfl) ?_
    refine lv_iload_n hx hb dX8_markOf_44 rfl (lv_at hl 1 rfl) ?_
    refine kV_i (As := [.int x1]) (rest := [.int 2]) C S hl.1 (o_X8_mark21_c h) (wd_o8 rfl) rfl (cw_X8_markOf_X8_mark21 C.1.2.2.2.2) rfl rfl (Nat.le_of_ble_eq_true rfl) dX8_markOf_45 (fun r_6 g_5 H locs h S => ?_)
    refine lv_imul hx hb dX8_markOf_48 ?_
    exact kRi C S h dX8_markOf_49
  by_cases c3 : (g.1 87 (1 + x1 : Int32).toNatClampNeg) = 3
  · have h := h.2.2.1 c3
    refine lv_tableIn (off := 42) (tgt := 50) hx hb dX8_markOf_8 (by rw [c3]; decide) (by rw [c3]; decide) (by rw [c3]; decide) (by decide) ?_
    refine lv_aload_n hx hb dX8_markOf_50 rfl (lv_at hl 0 rfl) ?_
    refine lv_bipush (v := 22) hx hb dX8_markOf_51 (by decide) ?_
    refine kV_v (As := [.int 22]) (rest := []) C S hl.1 (o_X8_leave_c h) (wd_o8 rfl) rfl (cw_X8_markOf_X8_leave C.1.2.2.2.2) rfl rfl (Nat.le_of_ble_eq_true rfl) dX8_markOf_53 (fun g_7 H locs h S => ?_)
    refine lv_aload_n hx hb dX8_markOf_56 rfl (lv_at hl 0 rfl) ?_
    refine lv_iload_n hx hb dX8_markOf_57 rfl (lv_at hl 1 rfl) ?_
    refine kV_i (As := [.int x1]) (rest := []) C S hl.1 (o_X8_mark21_c h) (wd_o8 rfl) rfl (cw_X8_markOf_X8_mark21 C.1.2.2.2.2) rfl rfl (Nat.le_of_ble_eq_true rfl) dX8_markOf_58 (fun r_10 g_9 H locs h S => ?_)
    refine lv_sipush (v := 1000) hx hb dX8_markOf_61 (by decide) ?_
    refine lv_isub hx hb dX8_markOf_64 ?_
    exact kRi C S h dX8_markOf_65
  have h := h.2.2.2 ⟨c1, c2, c3⟩
  refine lv_tableOut (tgt := 72) hx hb dX8_markOf_8 (tb_out 1 3 ?_) (by decide) ?_
  · intro k h1 h2
    rcases (show k = 1 ∨ k = 2 ∨ k = 3 by omega) with rfl | rfl | rfl
    · exact lk_ne c1 (by decide)
    · exact lk_ne c2 (by decide)
    · exact lk_ne c3 (by decide)
  refine lv_aload_n hx hb dX8_markOf_72 rfl (lv_at hl 0 rfl) ?_
  refine lv_bipush (v := 23) hx hb dX8_markOf_73 (by decide) ?_
  refine kV_v (As := [.int 23]) (rest := []) C S hl.1 (o_X8_leave_c h) (wd_o8 rfl) rfl (cw_X8_markOf_X8_leave C.1.2.2.2.2) rfl rfl (Nat.le_of_ble_eq_true rfl) dX8_markOf_75 (fun g_11 H locs h S => ?_)
  refine lv_aload_n hx hb dX8_markOf_78 rfl (lv_at hl 0 rfl) ?_
  refine lv_iload_n hx hb dX8_markOf_79 rfl (lv_at hl 1 rfl) ?_
  refine kV_i (As := [.int x1]) (rest := []) C S hl.1 (o_X8_mark20_c h) (wd_o8 rfl) rfl (cw_X8_markOf_X8_mark20 C.1.2.2.2.2) rfl rfl (Nat.le_of_ble_eq_true rfl) dX8_markOf_80 (fun r_14 g_13 H locs h S => ?_)
  refine lv_aload_n hx hb dX8_markOf_83 rfl (lv_at hl 0 rfl) ?_
  refine lv_iload_n hx hb dX8_markOf_84 rfl (lv_at hl 1 rfl) ?_
  refine kV_i (As := [.int x1]) (rest := [.int r_14]) C S hl.1 (o_X8_sizeOfRound_c h) (wd_o8 rfl) rfl (cw_X8_markOf_X8_sizeOfRound C.1.2.2.2.2) rfl rfl (Nat.le_of_ble_eq_true rfl) dX8_markOf_85 (fun r_16 g_15 H locs h S => ?_)
  refine lv_isub hx hb dX8_markOf_88 ?_
  exact kRi C S h dX8_markOf_89
/-! ClawCaseModel.size11(I)I, height 5 -/
theorem cw_X8_size11_X8_markOf {s : State} {args : Array Value} (ht : ∀ w ∈ wsX8_size11, w.before args s = true) : CallW (rmD 5) s args RX8 RX8 274 yX8_markOf cX8_markOf 2 (some .int) wsX8_markOf (rmD (4)) 0 0 1 := cwV 1 ht gX8_size11_X8_markOf rfl rfl rfl (by decide +kernel) ⟨Nat.le_of_ble_eq_true rfl, Nat.le_of_ble_eq_true rfl⟩
theorem cw_X8_size11_X8_size10 {s : State} {args : Array Value} (ht : ∀ w ∈ wsX8_size11, w.before args s = true) : CallW (rmD 5) s args RX8 RX8 262 yX8_size10 cX8_size10 2 (some .int) wsX8_size10 (rmD (1)) 0 0 1 := cwV 1 ht gX8_size11_X8_size10 rfl rfl rfl (by decide +kernel) ⟨Nat.le_of_ble_eq_true rfl, Nat.le_of_ble_eq_true rfl⟩
theorem cw_X8_size11_X8_leave {s : State} {args : Array Value} (ht : ∀ w ∈ wsX8_size11, w.before args s = true) : CallW (rmD 5) s args RX8 RX8 256 yX8_leave cX8_leave 2 none wsX8_leave (rmD (0)) 0 0 1 := cwV 1 ht gX8_size11_X8_leave rfl rfl rfl (by decide +kernel) ⟨Nat.le_of_ble_eq_true rfl, Nat.le_of_ble_eq_true rfl⟩
def o_X8_size11 (Q : Int32 → Mm → Prop) (g : Mm) (x1 : Int32) : Prop := o_X8_leave (fun (g_1 : Mm) => o_X8_size10 (fun (r_4 : Int32) (g_3 : Mm) => o_X8_markOf (fun (r_6 : Int32) (g_5 : Mm) => Q (r_4 + r_6) g_5) g_3 x1) g_1 x1) g 11
set_option maxHeartbeats 4000000 in
set_option maxRecDepth 100000 in
theorem o_X8_size11_c {l : Launch} {dC : Nat → ClassId} {dI : Nat → Nat → Nat} {cy : Nat → ClassId} {ad tz : Nat → Nat} {Q : Int32 → Mm → Prop} {g : Mm} {x1 : Int32} (h : o_X8_size11 Q g x1) : CI l dC dI cy ad tz yX8_size11 wsX8_size11 (rmD 5) [.ref (ad 86), .int x1] g Q := by
  refine CI.of (by decide) rfl rfl (Nat.le_of_ble_eq_true rfl) ?_
  intro p e s m args below meth c ls C hl S
  have hl : lv_has ls 3 [(0, .ref (ad 86)), (1, .int x1)] := hl
  have hx := C.1.1
  have hb := C.1.2.1
  unfold o_X8_size11 at h
  refine lv_aload_n hx hb dX8_size11_0 rfl (lv_at hl 0 rfl) ?_
  refine lv_bipush (v := 11) hx hb dX8_size11_1 (by decide) ?_
  refine kV_v (As := [.int 11]) (rest := []) C S hl.1 (o_X8_leave_c h) (wd_o8 rfl) rfl (cw_X8_size11_X8_leave C.1.2.2.2.2) rfl rfl (Nat.le_of_ble_eq_true rfl) dX8_size11_3 (fun g_1 H locs h S => ?_)
  refine lv_aload_n hx hb dX8_size11_6 rfl (lv_at hl 0 rfl) ?_
  refine lv_iload_n hx hb dX8_size11_7 rfl (lv_at hl 1 rfl) ?_
  refine kV_i (As := [.int x1]) (rest := []) C S hl.1 (o_X8_size10_c h) (wd_o8 rfl) rfl (cw_X8_size11_X8_size10 C.1.2.2.2.2) rfl rfl (Nat.le_of_ble_eq_true rfl) dX8_size11_8 (fun r_4 g_3 H locs h S => ?_)
  refine lv_istore_n (lv' := [(2, .int r_4), (0, .ref (ad 86)), (1, .int x1)]) hx hb dX8_size11_11 rfl hl (by decide) rfl (fun ls hl => ?_)
  refine lv_iload_n hx hb dX8_size11_12 rfl (lv_at hl 0 rfl) ?_
  refine lv_aload_n hx hb dX8_size11_13 rfl (lv_at hl 1 rfl) ?_
  refine lv_iload_n hx hb dX8_size11_14 rfl (lv_at hl 2 rfl) ?_
  refine kV_i (As := [.int x1]) (rest := [.int r_4]) C S hl.1 (o_X8_markOf_c h) (wd_o8 rfl) rfl (cw_X8_size11_X8_markOf C.1.2.2.2.2) rfl rfl (Nat.le_of_ble_eq_true rfl) dX8_size11_15 (fun r_6 g_5 H locs h S => ?_)
  refine lv_iadd hx hb dX8_size11_18 ?_
  exact kRi C S h dX8_size11_19
/-! ClawCaseModel.sizeOf(I)I, height 6 -/
theorem m_X8_sizeOf_1 : Cond.fieldLink RX8 7 "ClawCaseModel" "now" "[I" ∈ wsX8_sizeOf := List.mem_of_getElem? (i := 1) (by decide +kernel)
theorem n_X8_sizeOf_X8 : ∀ w ∈ wsX80, w ∈ wsX8_sizeOf := mem_by [37, 38, 39, 40, 41, 42, 43, 44, 45, 46, 47, 48, 49, 50, 51, 52, 53, 54, 55, 56, 57, 58, 59, 60] (by decide +kernel)
theorem cw_X8_sizeOf_X8_size11 {s : State} {args : Array Value} (ht : ∀ w ∈ wsX8_sizeOf, w.before args s = true) : CallW (rmD 6) s args RX8 RX8 277 yX8_size11 cX8_size11 3 (some .int) wsX8_size11 (rmD (5)) 0 0 1 := cwV 1 ht gX8_sizeOf_X8_size11 rfl rfl rfl (by decide +kernel) ⟨Nat.le_of_ble_eq_true rfl, Nat.le_of_ble_eq_true rfl⟩
theorem cw_X8_sizeOf_X8_leave {s : State} {args : Array Value} (ht : ∀ w ∈ wsX8_sizeOf, w.before args s = true) : CallW (rmD 6) s args RX8 RX8 256 yX8_leave cX8_leave 2 none wsX8_leave (rmD (0)) 0 0 1 := cwV 1 ht gX8_sizeOf_X8_leave rfl rfl rfl (by decide +kernel) ⟨Nat.le_of_ble_eq_true rfl, Nat.le_of_ble_eq_true rfl⟩
theorem cw_X8_sizeOf_X8_sizeOfRound {s : State} {args : Array Value} (ht : ∀ w ∈ wsX8_sizeOf, w.before args s = true) : CallW (rmD 6) s args RX8 RX8 271 yX8_sizeOfRound cX8_sizeOfRound 2 (some .int) wsX8_sizeOfRound (rmD (3)) 0 0 1 := cwV 1 ht gX8_sizeOf_X8_sizeOfRound rfl rfl rfl (by decide +kernel) ⟨Nat.le_of_ble_eq_true rfl, Nat.le_of_ble_eq_true rfl⟩
def o_X8_sizeOf (Q : Int32 → Mm → Prop) (g : Mm) (x1 : Int32) : Prop := vp_in (1 + x1) 33 ∧ ((((g.1 87 (1 + x1 : Int32).toNatClampNeg) < 4) → vp_in (1 + x1) 33 ∧ ((((g.1 87 (1 + x1 : Int32).toNatClampNeg) = 2) → o_X8_leave (fun (g_1 : Mm) => o_X8_size11 (fun (r_4 : Int32) (g_3 : Mm) => Q (-r_4) g_3) g_1 x1) g 12) ∧ ((¬ (g.1 87 (1 + x1 : Int32).toNatClampNeg) = 2) → o_X8_size11 (fun (r_6 : Int32) (g_5 : Mm) => Q r_6 g_5) g x1))) ∧ ((¬ (g.1 87 (1 + x1 : Int32).toNatClampNeg) < 4) → o_X8_sizeOfRound (fun (r_8 : Int32) (g_7 : Mm) => Q r_8 g_7) g x1))
set_option maxHeartbeats 4000000 in
set_option maxRecDepth 100000 in
theorem o_X8_sizeOf_c {l : Launch} {dC : Nat → ClassId} {dI : Nat → Nat → Nat} {cy : Nat → ClassId} {ad tz : Nat → Nat} {Q : Int32 → Mm → Prop} {g : Mm} {x1 : Int32} (h : o_X8_sizeOf Q g x1) : CI l dC dI cy ad tz yX8_sizeOf wsX8_sizeOf (rmD 6) [.ref (ad 86), .int x1] g Q := by
  refine CI.of (by decide) rfl rfl (Nat.le_of_ble_eq_true rfl) ?_
  intro p e s m args below meth c ls C hl S
  have hl : lv_has ls 2 [(0, .ref (ad 86)), (1, .int x1)] := hl
  have hx := C.1.1
  have hb := C.1.2.1
  unfold o_X8_sizeOf at h
  refine lv_aload_n hx hb dX8_sizeOf_0 rfl (lv_at hl 0 rfl) ?_
  refine kg8 (k := 0) (v := .ref (ad 87)) C S rfl (by decide) n_X8_sizeOf_X8 m_X8_sizeOf_1 rfl dX8_sizeOf_1 ?_
  refine lv_iconst (v := 1) hx hb dX8_sizeOf_4 (by decide) ?_
  refine lv_iload_n hx hb dX8_sizeOf_5 rfl (lv_at hl 1 rfl) ?_
  refine lv_iadd hx hb dX8_sizeOf_6 ?_
  obtain ⟨hi, h⟩ := h
  refine kLi C S rfl rfl hi dX8_sizeOf_7 ?_
  refine lv_iconst (v := 4) hx hb dX8_sizeOf_8 (by decide) ?_
  refine lv_icmp_lt (tgt := 18) hx hb dX8_sizeOf_9 (by decide) (fun c1 => ?_) (fun c1 => ?_)
  · have h := h.1 c1
    refine lv_aload_n hx hb dX8_sizeOf_18 rfl (lv_at hl 0 rfl) ?_
    refine kg8 (k := 0) (v := .ref (ad 87)) C S rfl (by decide) n_X8_sizeOf_X8 m_X8_sizeOf_1 rfl dX8_sizeOf_19 ?_
    refine lv_iconst (v := 1) hx hb dX8_sizeOf_22 (by decide) ?_
    refine lv_iload_n hx hb dX8_sizeOf_23 rfl (lv_at hl 1 rfl) ?_
    refine lv_iadd hx hb dX8_sizeOf_24 ?_
    obtain ⟨hi, h⟩ := h
    refine kLi C S rfl rfl hi dX8_sizeOf_25 ?_
    refine lv_iconst (v := 2) hx hb dX8_sizeOf_26 (by decide) ?_
    refine lv_icmp_eq (tgt := 36) hx hb dX8_sizeOf_27 (by decide) (fun c1 => ?_) (fun c1 => ?_)
    · have h := h.1 c1
      refine lv_aload_n hx hb dX8_sizeOf_36 rfl (lv_at hl 0 rfl) ?_
      refine lv_bipush (v := 12) hx hb dX8_sizeOf_37 (by decide) ?_
      refine kV_v (As := [.int 12]) (rest := []) C S hl.1 (o_X8_leave_c h) (wd_o8 rfl) rfl (cw_X8_sizeOf_X8_leave C.1.2.2.2.2) rfl rfl (Nat.le_of_ble_eq_true rfl) dX8_sizeOf_39 (fun g_1 H locs h S => ?_)
      refine lv_aload_n hx hb dX8_sizeOf_42 rfl (lv_at hl 0 rfl) ?_
      refine lv_iload_n hx hb dX8_sizeOf_43 rfl (lv_at hl 1 rfl) ?_
      refine kV_i (As := [.int x1]) (rest := []) C S hl.1 (o_X8_size11_c h) (wd_o8 rfl) rfl (cw_X8_sizeOf_X8_size11 C.1.2.2.2.2) rfl rfl (Nat.le_of_ble_eq_true rfl) dX8_sizeOf_44 (fun r_4 g_3 H locs h S => ?_)
      refine lv_ineg hx hb dX8_sizeOf_47 ?_
      exact kRi C S h dX8_sizeOf_48
    · have h := h.2 c1
      refine lv_aload_n hx hb dX8_sizeOf_30 rfl (lv_at hl 0 rfl) ?_
      refine lv_iload_n hx hb dX8_sizeOf_31 rfl (lv_at hl 1 rfl) ?_
      refine kV_i (As := [.int x1]) (rest := []) C S hl.1 (o_X8_size11_c h) (wd_o8 rfl) rfl (cw_X8_sizeOf_X8_size11 C.1.2.2.2.2) rfl rfl (Nat.le_of_ble_eq_true rfl) dX8_sizeOf_32 (fun r_6 g_5 H locs h S => ?_)
      exact kRi C S h dX8_sizeOf_35
  · have h := h.2 c1
    refine lv_aload_n hx hb dX8_sizeOf_12 rfl (lv_at hl 0 rfl) ?_
    refine lv_iload_n hx hb dX8_sizeOf_13 rfl (lv_at hl 1 rfl) ?_
    refine kV_i (As := [.int x1]) (rest := []) C S hl.1 (o_X8_sizeOfRound_c h) (wd_o8 rfl) rfl (cw_X8_sizeOf_X8_sizeOfRound C.1.2.2.2.2) rfl rfl (Nat.le_of_ble_eq_true rfl) dX8_sizeOf_14 (fun r_8 g_7 H locs h S => ?_)
    exact kRi C S h dX8_sizeOf_17
/-! ClawCaseModel.ask(II)I, height 7 -/
theorem m_X8_ask_1 : Cond.constant RX8 71 (-1000001) ∈ wsX8_ask := List.mem_of_getElem? (i := 1) (by decide +kernel)
theorem m_X8_ask_2 : Cond.fieldLink RX8 253 "ClawCaseModel" "traceLong" "I" ∈ wsX8_ask := List.mem_of_getElem? (i := 2) (by decide +kernel)
theorem n_X8_ask_X8 : ∀ w ∈ wsX80, w ∈ wsX8_ask := mem_by [53, 54, 55, 56, 57, 58, 59, 60, 61, 62, 63, 64, 65, 66, 67, 68, 69, 70, 71, 72, 73, 74, 75, 76] (by decide +kernel)
theorem cw_X8_ask_X8_markOf {s : State} {args : Array Value} (ht : ∀ w ∈ wsX8_ask, w.before args s = true) : CallW (rmD 7) s args RX8 RX8 274 yX8_markOf cX8_markOf 2 (some .int) wsX8_markOf (rmD (4)) 0 0 1 := cwV 1 ht gX8_ask_X8_markOf rfl rfl rfl (by decide +kernel) ⟨Nat.le_of_ble_eq_true rfl, Nat.le_of_ble_eq_true rfl⟩
theorem cw_X8_ask_X8_sizeOf {s : State} {args : Array Value} (ht : ∀ w ∈ wsX8_ask, w.before args s = true) : CallW (rmD 7) s args RX8 RX8 280 yX8_sizeOf cX8_sizeOf 2 (some .int) wsX8_sizeOf (rmD (6)) 0 0 1 := cwV 1 ht gX8_ask_X8_sizeOf rfl rfl rfl (by decide +kernel) ⟨Nat.le_of_ble_eq_true rfl, Nat.le_of_ble_eq_true rfl⟩
theorem cw_X8_ask_X8_in {s : State} {args : Array Value} (ht : ∀ w ∈ wsX8_ask, w.before args s = true) : CallB (rmD 7) s args RX8 61 yX8_in cX8_in 6 (some .boolean) wsX8_in (rmD (0)) 0 0 3 ∧ (Cond.static yX8_in).before args s = true := va_cwS 3 ht gX8_ask_X8_in rfl rfl rfl (by decide +kernel) ⟨Nat.le_of_ble_eq_true rfl, Nat.le_of_ble_eq_true rfl⟩
theorem cw_X8_ask_X8_isToy {s : State} {args : Array Value} (ht : ∀ w ∈ wsX8_ask, w.before args s = true) : CallW (rmD 7) s args RX8 RX8 187 yX8_isToy cX8_isToy 2 (some .boolean) wsX8_isToy (rmD (1)) 0 0 1 := cwV 1 ht gX8_ask_X8_isToy rfl rfl rfl (by decide +kernel) ⟨Nat.le_of_ble_eq_true rfl, Nat.le_of_ble_eq_true rfl⟩
def o_X8_ask (Q : Int32 → Mm → Prop) (g : Mm) (x1 : Int32) (x2 : Int32) : Prop := o_X8_isToy (fun (r_2 : Int32) (g_1 : Mm) => ((r_2 = 0) → Q (-1000001) g_1) ∧ ((¬ r_2 = 0) → o_X8_in (fun (r_4 : Int32) (g_3 : Mm) => ((¬ r_4 = 0) → ∀ g_5 : Mm, g_5 = mset g_3 86 23 0 → (((¬ x2 = 0) → o_X8_markOf (fun (r_7 : Int32) (g_6 : Mm) => Q r_7 g_6) g_5 x1) ∧ ((x2 = 0) → o_X8_sizeOf (fun (r_9 : Int32) (g_8 : Mm) => Q r_9 g_8) g_5 x1))) ∧ ((r_4 = 0) → Q (-1000001) g_3)) g_1 ((x2 : Int32).toInt64) 0 1)) g x1
set_option maxHeartbeats 4000000 in
set_option maxRecDepth 100000 in
theorem o_X8_ask_c {l : Launch} {dC : Nat → ClassId} {dI : Nat → Nat → Nat} {cy : Nat → ClassId} {ad tz : Nat → Nat} {Q : Int32 → Mm → Prop} {g : Mm} {x1 : Int32} {x2 : Int32} (h : o_X8_ask Q g x1 x2) : CI l dC dI cy ad tz yX8_ask wsX8_ask (rmD 7) [.ref (ad 86), .int x1, .int x2] g Q := by
  refine CI.of (by decide) rfl rfl (Nat.le_of_ble_eq_true rfl) ?_
  intro p e s m args below meth c ls C hl S
  have hl : lv_has ls 3 [(0, .ref (ad 86)), (1, .int x1), (2, .int x2)] := hl
  have hx := C.1.1
  have hb := C.1.2.1
  unfold o_X8_ask at h
  refine lv_aload_n hx hb dX8_ask_0 rfl (lv_at hl 0 rfl) ?_
  refine lv_iload_n hx hb dX8_ask_1 rfl (lv_at hl 1 rfl) ?_
  refine kV_i (As := [.int x1]) (rest := []) C S hl.1 (o_X8_isToy_c h) (wd_o8 rfl) rfl (cw_X8_ask_X8_isToy C.1.2.2.2.2) rfl rfl (Nat.le_of_ble_eq_true rfl) dX8_ask_2 (fun r_2 g_1 H locs h S => ?_)
  refine lv_if_eq (tgt := 18) hx hb dX8_ask_5 (by decide) (fun c1 => ?_) (fun c1 => ?_)
  · have h := h.1 c1
    refine kLdc C m_X8_ask_1 dX8_ask_18 ?_
    exact kRi C S h dX8_ask_20
  · have h := h.2 c1
    refine lv_iload_n hx hb dX8_ask_8 rfl (lv_at hl 2 rfl) ?_
    refine lv_i2l hx hb dX8_ask_9 rfl ?_
    refine lv_lconst (v := 0) hx hb dX8_ask_10 (by decide) ?_
    refine lv_lconst (v := 1) hx hb dX8_ask_11 (by decide) ?_
    refine kS_i (As := [.long ((x2 : Int32).toInt64), .long 0, .long 1]) (rest := []) C S hl.1 (o_X8_in_c h) (cw_X8_ask_X8_in C.1.2.2.2.2) rfl rfl (Nat.le_of_ble_eq_true rfl) dX8_ask_12 (fun r_4 g_3 H locs h S => ?_)
    refine lv_if_ne (tgt := 21) hx hb dX8_ask_15 (by decide) (fun c1 => ?_) (fun c1 => ?_)
    · have h := h.1 c1
      refine lv_aload_n hx hb dX8_ask_21 rfl (lv_at hl 0 rfl) ?_
      refine lv_iconst (v := 0) hx hb dX8_ask_22 (by decide) ?_
      refine kp8_23 C S rfl n_X8_ask_X8 m_X8_ask_2 dX8_ask_23 (fun g_5 H locs eg_5 S => ?_)
      have h := h g_5 eg_5
      refine lv_iload_n hx hb dX8_ask_26 rfl (lv_at hl 2 rfl) ?_
      refine lv_if_ne (tgt := 38) hx hb dX8_ask_27 (by decide) (fun c1 => ?_) (fun c1 => ?_)
      · have h := h.1 c1
        refine lv_aload_n hx hb dX8_ask_38 rfl (lv_at hl 0 rfl) ?_
        refine lv_iload_n hx hb dX8_ask_39 rfl (lv_at hl 1 rfl) ?_
        refine kV_i (As := [.int x1]) (rest := []) C S hl.1 (o_X8_markOf_c h) (wd_o8 rfl) rfl (cw_X8_ask_X8_markOf C.1.2.2.2.2) rfl rfl (Nat.le_of_ble_eq_true rfl) dX8_ask_40 (fun r_7 g_6 H locs h S => ?_)
        exact kRi C S h dX8_ask_43
      · have h := h.2 c1
        refine lv_aload_n hx hb dX8_ask_30 rfl (lv_at hl 0 rfl) ?_
        refine lv_iload_n hx hb dX8_ask_31 rfl (lv_at hl 1 rfl) ?_
        refine kV_i (As := [.int x1]) (rest := []) C S hl.1 (o_X8_sizeOf_c h) (wd_o8 rfl) rfl (cw_X8_ask_X8_sizeOf C.1.2.2.2.2) rfl rfl (Nat.le_of_ble_eq_true rfl) dX8_ask_32 (fun r_9 g_8 H locs h S => ?_)
        refine lv_goto (tgt := 43) hx hb dX8_ask_35 (by decide) ?_
        exact kRi C S h dX8_ask_43
    · have h := h.2 c1
      refine kLdc C m_X8_ask_1 dX8_ask_18 ?_
      exact kRi C S h dX8_ask_20
/-! ClawCaseModel.fraction(JJ)V, height 0 -/
theorem m_X8_fraction_1 : Cond.fieldLink RX8 230 "ClawCaseModel" "above" "J" ∈ wsX8_fraction := List.mem_of_getElem? (i := 1) (by decide +kernel)
theorem n_X8_fraction_X8 : ∀ w ∈ wsX80, w ∈ wsX8_fraction := mem_by [3, 4, 5, 6, 7, 8, 9, 10, 11, 12, 13, 14, 15, 16, 17, 18, 19, 20, 21, 22, 23, 24, 25, 26] (by decide +kernel)
theorem m_X8_fraction_2 : Cond.fieldLink RX8 47 "ClawCaseModel" "below" "J" ∈ wsX8_fraction := List.mem_of_getElem? (i := 2) (by decide +kernel)
def o_X8_fraction_6 (Q : Mm → Prop) (K31 : Mm → Int64 → Int64 → Int64 → Prop) : Nat → Mm → Int64 → Int64 → Int64 → Int64 → Prop
  | 0, _, _, _, _, _ => False
  | n6 + 1, g, y1, y3, y5, y7 => (((lg_cmp y7 0) = 0) → K31 g y1 y3 y5) ∧ ((¬ (lg_cmp y7 0) = 0) → ¬ (y7 : Int64) = 0 ∧ (∀ y_1 : Int64, y_1 = (y5 - y5 / y7 * y7) → (o_X8_fraction_6 Q K31 n6 g y1 y3 y7 y_1)))
set_option maxHeartbeats 4000000 in
set_option maxRecDepth 100000 in
theorem o_X8_fraction_6_w {p : Program} {l : Launch} {e : Env} {s : State} {m : MethodId} {args : Array Value} {below : List Frame} {meth : Method} {c : Code} {dC : Nat → ClassId} {dI : Nat → Nat → Nat} {cy : Nat → ClassId} {ad tz : Nat → Nat} {Q : Mm → Prop} {K31 : Mm → Int64 → Int64 → Int64 → Prop} (C : CX p s m args meth c dC dI cy ad tz cX8_fraction 11 none RX8 wsX8_fraction) (hK31 : ∀ (g : Mm) (y1 : Int64) (y3 : Int64) (y5 : Int64) (H : Heap) (locs : List Loc) (ls : Array Slot), St dC dI cy ad s g H locs → lv_has ls 11 [(0, .ref (ad 86)), (1, .long y1), (3, .long y3), (5, .long y5)] → K31 g y1 y3 y5 → W p l e (rmD 0) s m args below meth c H locs 0 0 (QV dC dI cy ad below args s Q) (F0 m 31 ls [])) : ∀ (n : Nat) (g : Mm) (y1 : Int64) (y3 : Int64) (y5 : Int64) (y7 : Int64) (H : Heap) (locs : List Loc) (ls : Array Slot), St dC dI cy ad s g H locs → lv_has ls 11 [(0, .ref (ad 86)), (1, .long y1), (3, .long y3), (5, .long y5), (7, .long y7)] → o_X8_fraction_6 Q K31 n g y1 y3 y5 y7 → W p l e (rmD 0) s m args below meth c H locs 0 0 (QV dC dI cy ad below args s Q) (F0 m 6 ls []) := by
  have hx := C.1.1
  have hb := C.1.2.1
  intro n6
  induction n6 with
  | zero => intro g y1 y3 y5 y7 H locs ls S hl h; exact h.elim
  | succ n6 ih =>
    intro g y1 y3 y5 y7 H locs ls S hl h
    have h : (((lg_cmp y7 0) = 0) → K31 g y1 y3 y5) ∧ ((¬ (lg_cmp y7 0) = 0) → ¬ (y7 : Int64) = 0 ∧ (∀ y_1 : Int64, y_1 = (y5 - y5 / y7 * y7) → (o_X8_fraction_6 Q K31 n6 g y1 y3 y7 y_1))) := h
    refine lv_lload hx hb dX8_fraction_6 (lv_at hl 4 rfl) ?_
    refine lv_lconst (v := 0) hx hb dX8_fraction_8 (by decide) ?_
    refine W.lcmp hx hb dX8_fraction_9 ?_
    refine lv_if_eq (tgt := 31) hx hb dX8_fraction_10 (by decide) (fun c1 => ?_) (fun c1 => ?_)
    · have h := h.1 c1
      exact hK31 g y1 y3 y5 _ _ _ S (lv_sub hl [0, 1, 2, 3] rfl) h
    · have h := h.2 c1
      refine lv_lload hx hb dX8_fraction_13 (lv_at hl 3 rfl) ?_
      refine lv_lload hx hb dX8_fraction_15 (lv_at hl 4 rfl) ?_
      obtain ⟨h0, h⟩ := h
      refine lv_lrem hx hb dX8_fraction_17 h0 ?_
      refine lv_topl (fun y_1 ey_1 => ?_)
      have h := h y_1 ey_1
      refine lv_lstore (lv' := [(9, .long y_1), (0, .ref (ad 86)), (1, .long y1), (3, .long y3), (5, .long y5), (7, .long y7)]) hx hb dX8_fraction_18 hl (by decide) rfl (fun ls hl => ?_)
      refine lv_lload hx hb dX8_fraction_20 (lv_at hl 5 rfl) ?_
      refine lv_lstore (lv' := [(5, .long y7), (9, .long y_1), (0, .ref (ad 86)), (1, .long y1), (3, .long y3), (7, .long y7)]) hx hb dX8_fraction_22 hl (by decide) rfl (fun ls hl => ?_)
      refine lv_lload hx hb dX8_fraction_24 (lv_at hl 1 rfl) ?_
      refine lv_lstore (lv' := [(7, .long y_1), (5, .long y7), (9, .long y_1), (0, .ref (ad 86)), (1, .long y1), (3, .long y3)]) hx hb dX8_fraction_26 hl (by decide) rfl (fun ls hl => ?_)
      refine lv_goto (tgt := 6) hx hb dX8_fraction_28 (by decide) ?_
      exact ih g y1 y3 y7 y_1 _ _ _ S (lv_sub hl [3, 4, 5, 1, 0] rfl) h
def o_X8_fraction (Q : Mm → Prop) (g : Mm) (y1 : Int64) (y3 : Int64) : Prop := ∃ n6, o_X8_fraction_6 Q (fun (g : Mm) (y1 : Int64) (y3 : Int64) (y5 : Int64) => ¬ (y5 : Int64) = 0 ∧ (∀ g_2 : Mm, g_2 = mlng g 0 (y1 / y5) → (¬ (y5 : Int64) = 0 ∧ (∀ g_3 : Mm, g_3 = mlng g_2 1 (y3 / y5) → (Q g_3))))) n6 g y1 y3 y1 y3
set_option maxHeartbeats 4000000 in
set_option maxRecDepth 100000 in
theorem o_X8_fraction_c {l : Launch} {dC : Nat → ClassId} {dI : Nat → Nat → Nat} {cy : Nat → ClassId} {ad tz : Nat → Nat} {Q : Mm → Prop} {g : Mm} {y1 : Int64} {y3 : Int64} (h : o_X8_fraction Q g y1 y3) : CV l dC dI cy ad tz yX8_fraction wsX8_fraction (rmD 0) [.ref (ad 86), .long y1, .long y3] g Q := by
  refine CV.of (by decide) rfl rfl (Nat.le_of_ble_eq_true rfl) ?_
  intro p e s m args below meth c ls C hl S
  have hl : lv_has ls 11 [(0, .ref (ad 86)), (1, .long y1), (3, .long y3)] := hl
  have hx := C.1.1
  have hb := C.1.2.1
  unfold o_X8_fraction at h
  refine lv_lload_n hx hb dX8_fraction_0 rfl (lv_at hl 1 rfl) ?_
  refine lv_lstore (lv' := [(5, .long y1), (0, .ref (ad 86)), (1, .long y1), (3, .long y3)]) hx hb dX8_fraction_1 hl (by decide) rfl (fun ls hl => ?_)
  refine lv_lload_n hx hb dX8_fraction_3 rfl (lv_at hl 3 rfl) ?_
  refine lv_lstore (lv' := [(7, .long y3), (5, .long y1), (0, .ref (ad 86)), (1, .long y1), (3, .long y3)]) hx hb dX8_fraction_4 hl (by decide) rfl (fun ls hl => ?_)
  obtain ⟨n6, h⟩ := h
  refine o_X8_fraction_6_w C ?_ n6 g y1 y3 y1 y3 _ _ _ S (lv_sub hl [2, 3, 4, 1, 0] rfl) h
  · intro g y1 y3 y5 H locs ls S hl h
    refine lv_aload_n hx hb dX8_fraction_31 rfl (lv_at hl 0 rfl) ?_
    refine lv_lload_n hx hb dX8_fraction_32 rfl (lv_at hl 1 rfl) ?_
    refine lv_lload hx hb dX8_fraction_33 (lv_at hl 3 rfl) ?_
    obtain ⟨h0, h⟩ := h
    refine lv_ldiv hx hb dX8_fraction_35 h0 ?_
    refine kp8_20 C S n_X8_fraction_X8 m_X8_fraction_1 dX8_fraction_36 (fun g_2 H locs eg_2 S => ?_)
    have h := h g_2 eg_2
    refine lv_aload_n hx hb dX8_fraction_39 rfl (lv_at hl 0 rfl) ?_
    refine lv_lload_n hx hb dX8_fraction_40 rfl (lv_at hl 2 rfl) ?_
    refine lv_lload hx hb dX8_fraction_41 (lv_at hl 3 rfl) ?_
    obtain ⟨h0, h⟩ := h
    refine lv_ldiv hx hb dX8_fraction_43 h0 ?_
    refine kp8_21 C S n_X8_fraction_X8 m_X8_fraction_2 dX8_fraction_44 (fun g_3 H locs eg_3 S => ?_)
    have h := h g_3 eg_3
    exact kRv C S h dX8_fraction_47
/-! ClawCaseModel.lyingIn([II)I, height 0 -/
def o_X8_lyingIn_27 (Q : Int32 → Mm → Prop) (K4 : Mm → Int32 → Int32 → Int32 → Prop) (a0 : Nat) (g : Mm) (x1 : Int32) (x3 : Int32) (s0 : Int32) (s1 : Int32) : Prop := ∀ x_1 : Int32, x_1 = (s0 + s1) → (∀ x_2 : Int32, x_2 = x3 + 1 → (K4 g x1 x_1 x_2))
def o_X8_lyingIn_4 (Q : Int32 → Mm → Prop) (a0 : Nat) : Nat → Mm → Int32 → Int32 → Int32 → Prop
  | 0, _, _, _, _ => False
  | n4 + 1, g, x1, x2, x3 => vp_in 0 33 ∧ ((((g.1 a0 (0 : Int32).toNatClampNeg) ≤ x3) → Q x2 g) ∧ ((¬ (g.1 a0 (0 : Int32).toNatClampNeg) ≤ x3) → vp_in (19 + x3) 33 ∧ (((¬ (g.1 a0 (19 + x3 : Int32).toNatClampNeg) = x1) → o_X8_lyingIn_27 Q (o_X8_lyingIn_4 Q a0 n4) a0 g x1 x3 x2 0) ∧ (((g.1 a0 (19 + x3 : Int32).toNatClampNeg) = x1) → o_X8_lyingIn_27 Q (o_X8_lyingIn_4 Q a0 n4) a0 g x1 x3 x2 1))))
set_option maxHeartbeats 4000000 in
set_option maxRecDepth 100000 in
theorem o_X8_lyingIn_27_w {p : Program} {l : Launch} {e : Env} {s : State} {m : MethodId} {args : Array Value} {below : List Frame} {meth : Method} {c : Code} {dC : Nat → ClassId} {dI : Nat → Nat → Nat} {cy : Nat → ClassId} {ad tz : Nat → Nat} {Q : Int32 → Mm → Prop} {K4 : Mm → Int32 → Int32 → Int32 → Prop} {a0 : Nat} (C : CX p s m args meth c dC dI cy ad tz cX8_lyingIn 4 (some .int) RX8 wsX8_lyingIn) (ha0 : ly a0 = 9) (hn0 : ln a0 = 33) (hK4 : ∀ (g : Mm) (x1 : Int32) (x2 : Int32) (x3 : Int32) (H : Heap) (locs : List Loc) (ls : Array Slot), St dC dI cy ad s g H locs → lv_has ls 4 [(0, .ref (ad a0)), (1, .int x1), (2, .int x2), (3, .int x3)] → K4 g x1 x2 x3 → W p l e (rmD 0) s m args below meth c H locs 0 0 (QI dC dI cy ad below args s Q) (F0 m 4 ls [])) : ∀ (g : Mm) (x1 : Int32) (x3 : Int32) (s0 : Int32) (s1 : Int32) (H : Heap) (locs : List Loc) (ls : Array Slot), St dC dI cy ad s g H locs → lv_has ls 4 [(0, .ref (ad a0)), (1, .int x1), (3, .int x3)] → o_X8_lyingIn_27 Q K4 a0 g x1 x3 s0 s1 → W p l e (rmD 0) s m args below meth c H locs 0 0 (QI dC dI cy ad below args s Q) (F0 m 27 ls [.int s1, .int s0]) := by
  have hx := C.1.1
  have hb := C.1.2.1
  intro g x1 x3 s0 s1 H locs ls S hl h
  unfold o_X8_lyingIn_27 at h
  refine lv_iadd hx hb dX8_lyingIn_27 ?_
  refine lv_topi (fun x_1 ex_1 => ?_)
  have h := h x_1 ex_1
  refine lv_istore_n (lv' := [(2, .int x_1), (0, .ref (ad a0)), (1, .int x1), (3, .int x3)]) hx hb dX8_lyingIn_28 rfl hl (by decide) rfl (fun ls hl => ?_)
  obtain ⟨x_2, ex_2⟩ : ∃ y : Int32, y = x3 + 1 := ⟨_, rfl⟩
  have h := h x_2 ex_2
  refine lv_iinc (v := x_2) (lv' := [(3, .int x_2), (2, .int x_1), (0, .ref (ad a0)), (1, .int x1)]) hx hb dX8_lyingIn_29 hl (k := 3) rfl (by rw [ex_2]; rfl) (by decide) rfl (fun ls hl => ?_)
  refine lv_goto (tgt := 4) hx hb dX8_lyingIn_32 (by decide) ?_
  exact hK4 g x1 x_1 x_2 _ _ _ S (lv_sub hl [2, 3, 1, 0] rfl) h
set_option maxHeartbeats 4000000 in
set_option maxRecDepth 100000 in
theorem o_X8_lyingIn_4_w {p : Program} {l : Launch} {e : Env} {s : State} {m : MethodId} {args : Array Value} {below : List Frame} {meth : Method} {c : Code} {dC : Nat → ClassId} {dI : Nat → Nat → Nat} {cy : Nat → ClassId} {ad tz : Nat → Nat} {Q : Int32 → Mm → Prop} {a0 : Nat} (C : CX p s m args meth c dC dI cy ad tz cX8_lyingIn 4 (some .int) RX8 wsX8_lyingIn) (ha0 : ly a0 = 9) (hn0 : ln a0 = 33) : ∀ (n : Nat) (g : Mm) (x1 : Int32) (x2 : Int32) (x3 : Int32) (H : Heap) (locs : List Loc) (ls : Array Slot), St dC dI cy ad s g H locs → lv_has ls 4 [(0, .ref (ad a0)), (1, .int x1), (2, .int x2), (3, .int x3)] → o_X8_lyingIn_4 Q a0 n g x1 x2 x3 → W p l e (rmD 0) s m args below meth c H locs 0 0 (QI dC dI cy ad below args s Q) (F0 m 4 ls []) := by
  have hx := C.1.1
  have hb := C.1.2.1
  intro n4
  induction n4 with
  | zero => intro g x1 x2 x3 H locs ls S hl h; exact h.elim
  | succ n4 ih =>
    intro g x1 x2 x3 H locs ls S hl h
    have h : vp_in 0 33 ∧ ((((g.1 a0 (0 : Int32).toNatClampNeg) ≤ x3) → Q x2 g) ∧ ((¬ (g.1 a0 (0 : Int32).toNatClampNeg) ≤ x3) → vp_in (19 + x3) 33 ∧ (((¬ (g.1 a0 (19 + x3 : Int32).toNatClampNeg) = x1) → o_X8_lyingIn_27 Q (o_X8_lyingIn_4 Q a0 n4) a0 g x1 x3 x2 0) ∧ (((g.1 a0 (19 + x3 : Int32).toNatClampNeg) = x1) → o_X8_lyingIn_27 Q (o_X8_lyingIn_4 Q a0 n4) a0 g x1 x3 x2 1)))) := h
    refine lv_iload_n hx hb dX8_lyingIn_4 rfl (lv_at hl 3 rfl) ?_
    refine lv_aload_n hx hb dX8_lyingIn_5 rfl (lv_at hl 0 rfl) ?_
    refine lv_iconst (v := 0) hx hb dX8_lyingIn_6 (by decide) ?_
    obtain ⟨hi, h⟩ := h
    refine kLi C S ha0 hn0 hi dX8_lyingIn_7 ?_
    refine lv_icmp_ge (tgt := 35) hx hb dX8_lyingIn_8 (by decide) (fun c1 => ?_) (fun c1 => ?_)
    · have h := h.1 c1
      refine lv_iload_n hx hb dX8_lyingIn_35 rfl (lv_at hl 2 rfl) ?_
      exact kRi C S h dX8_lyingIn_36
    · have h := h.2 c1
      refine lv_iload_n hx hb dX8_lyingIn_11 rfl (lv_at hl 2 rfl) ?_
      refine lv_aload_n hx hb dX8_lyingIn_12 rfl (lv_at hl 0 rfl) ?_
      refine lv_bipush (v := 19) hx hb dX8_lyingIn_13 (by decide) ?_
      refine lv_iload_n hx hb dX8_lyingIn_15 rfl (lv_at hl 3 rfl) ?_
      refine lv_iadd hx hb dX8_lyingIn_16 ?_
      obtain ⟨hi, h⟩ := h
      refine kLi C S ha0 hn0 hi dX8_lyingIn_17 ?_
      refine lv_iload_n hx hb dX8_lyingIn_18 rfl (lv_at hl 1 rfl) ?_
      refine lv_icmp_ne (tgt := 26) hx hb dX8_lyingIn_19 (by decide) (fun c1 => ?_) (fun c1 => ?_)
      · have h := h.1 c1
        refine lv_iconst (v := 0) hx hb dX8_lyingIn_26 (by decide) ?_
        exact o_X8_lyingIn_27_w C ha0 hn0 ih g x1 x3 x2 0 _ _ _ S (lv_sub hl [0, 1, 3] rfl) h
      · have h := h.2 c1
        refine lv_iconst (v := 1) hx hb dX8_lyingIn_22 (by decide) ?_
        refine lv_goto (tgt := 27) hx hb dX8_lyingIn_23 (by decide) ?_
        exact o_X8_lyingIn_27_w C ha0 hn0 ih g x1 x3 x2 1 _ _ _ S (lv_sub hl [0, 1, 3] rfl) h
def o_X8_lyingIn (Q : Int32 → Mm → Prop) (a0 : Nat) (g : Mm) (x1 : Int32) : Prop := ∃ n4, o_X8_lyingIn_4 Q a0 n4 g x1 0 0
set_option maxHeartbeats 4000000 in
set_option maxRecDepth 100000 in
theorem o_X8_lyingIn_c {l : Launch} {dC : Nat → ClassId} {dI : Nat → Nat → Nat} {cy : Nat → ClassId} {ad tz : Nat → Nat} {Q : Int32 → Mm → Prop} {a0 : Nat} {g : Mm} {x1 : Int32} (ha0 : ly a0 = 9) (hn0 : ln a0 = 33) (h : o_X8_lyingIn Q a0 g x1) : CI l dC dI cy ad tz yX8_lyingIn wsX8_lyingIn (rmD 0) [.ref (ad a0), .int x1] g Q := by
  refine CI.of (by decide) rfl rfl (Nat.le_of_ble_eq_true rfl) ?_
  intro p e s m args below meth c ls C hl S
  have hl : lv_has ls 4 [(0, .ref (ad a0)), (1, .int x1)] := hl
  have hx := C.1.1
  have hb := C.1.2.1
  unfold o_X8_lyingIn at h
  refine lv_iconst (v := 0) hx hb dX8_lyingIn_0 (by decide) ?_
  refine lv_istore_n (lv' := [(2, .int 0), (0, .ref (ad a0)), (1, .int x1)]) hx hb dX8_lyingIn_1 rfl hl (by decide) rfl (fun ls hl => ?_)
  refine lv_iconst (v := 0) hx hb dX8_lyingIn_2 (by decide) ?_
  refine lv_istore_n (lv' := [(3, .int 0), (2, .int 0), (0, .ref (ad a0)), (1, .int x1)]) hx hb dX8_lyingIn_3 rfl hl (by decide) rfl (fun ls hl => ?_)
  obtain ⟨n4, h⟩ := h
  refine o_X8_lyingIn_4_w C ha0 hn0 n4 g x1 0 0 _ _ _ S (lv_sub hl [2, 3, 1, 0] rfl) h
/-! ClawCaseModel.lay([III)V, height 1 -/
theorem cw_X8_lay_X8_lyingIn {s : State} {args : Array Value} (ht : ∀ w ∈ wsX8_lay, w.before args s = true) : CallB (rmD 1) s args RX8 149 yX8_lyingIn cX8_lyingIn 4 (some .int) wsX8_lyingIn (rmD (0)) 0 0 2 ∧ (Cond.static yX8_lyingIn).before args s = true := va_cwS 2 ht gX8_lay_X8_lyingIn rfl rfl rfl (by decide +kernel) ⟨Nat.le_of_ble_eq_true rfl, Nat.le_of_ble_eq_true rfl⟩
def o_X8_lay (Q : Mm → Prop) (a0 : Nat) (g : Mm) (x1 : Int32) (x2 : Int32) : Prop := o_X8_lyingIn (fun (r_2 : Int32) (g_1 : Mm) => vp_in (26 + x1) 33 ∧ (∀ g_3 : Mm, g_3 = mset g_1 a0 (26 + x1 : Int32).toNatClampNeg r_2 → (vp_in (19 + x1) 33 ∧ (∀ g_4 : Mm, g_4 = mset g_3 a0 (19 + x1 : Int32).toNatClampNeg x2 → (Q g_4))))) a0 g x2
set_option maxHeartbeats 4000000 in
set_option maxRecDepth 100000 in
theorem o_X8_lay_c {l : Launch} {dC : Nat → ClassId} {dI : Nat → Nat → Nat} {cy : Nat → ClassId} {ad tz : Nat → Nat} {Q : Mm → Prop} {a0 : Nat} {g : Mm} {x1 : Int32} {x2 : Int32} (ha0 : ly a0 = 9) (hn0 : ln a0 = 33) (h : o_X8_lay Q a0 g x1 x2) : CV l dC dI cy ad tz yX8_lay wsX8_lay (rmD 1) [.ref (ad a0), .int x1, .int x2] g Q := by
  refine CV.of (by decide) rfl rfl (Nat.le_of_ble_eq_true rfl) ?_
  intro p e s m args below meth c ls C hl S
  have hl : lv_has ls 3 [(0, .ref (ad a0)), (1, .int x1), (2, .int x2)] := hl
  have hx := C.1.1
  have hb := C.1.2.1
  unfold o_X8_lay at h
  refine lv_aload_n hx hb dX8_lay_0 rfl (lv_at hl 0 rfl) ?_
  refine lv_bipush (v := 26) hx hb dX8_lay_1 (by decide) ?_
  refine lv_iload_n hx hb dX8_lay_3 rfl (lv_at hl 1 rfl) ?_
  refine lv_iadd hx hb dX8_lay_4 ?_
  refine lv_aload_n hx hb dX8_lay_5 rfl (lv_at hl 0 rfl) ?_
  refine lv_iload_n hx hb dX8_lay_6 rfl (lv_at hl 2 rfl) ?_
  refine kS_i (As := [.ref (ad a0), .int x2]) (rest := [.int (26 + x1), .ref (ad a0)]) C S hl.1 (o_X8_lyingIn_c ha0 hn0 h) (cw_X8_lay_X8_lyingIn C.1.2.2.2.2) rfl rfl (Nat.le_of_ble_eq_true rfl) dX8_lay_7 (fun r_2 g_1 H locs h S => ?_)
  obtain ⟨hi, h⟩ := h
  refine kSi C S ha0 hn0 hi dX8_lay_10 (fun g_3 H locs eg_3 S => ?_)
  have h := h g_3 eg_3
  refine lv_aload_n hx hb dX8_lay_11 rfl (lv_at hl 0 rfl) ?_
  refine lv_bipush (v := 19) hx hb dX8_lay_12 (by decide) ?_
  refine lv_iload_n hx hb dX8_lay_14 rfl (lv_at hl 1 rfl) ?_
  refine lv_iadd hx hb dX8_lay_15 ?_
  refine lv_iload_n hx hb dX8_lay_16 rfl (lv_at hl 2 rfl) ?_
  obtain ⟨hi, h⟩ := h
  refine kSi C S ha0 hn0 hi dX8_lay_17 (fun g_4 H locs eg_4 S => ?_)
  have h := h g_4 eg_4
  exact kRv C S h dX8_lay_18
/-! ClawCaseModel.needAs(II)I, height 0 -/
def o_X8_needAs (Q : Int32 → Mm → Prop) (g : Mm) (x0 : Int32) (x1 : Int32) : Prop := ((¬ x0 = 2) → ((¬ x0 = 3) → Q x1 g) ∧ ((x0 = 3) → ¬ (2 : Int32) = 0 ∧ (Q ((x1 / 2) + 1) g))) ∧ ((x0 = 2) → Q (x1 + 2) g)
set_option maxHeartbeats 4000000 in
set_option maxRecDepth 100000 in
theorem o_X8_needAs_c {l : Launch} {dC : Nat → ClassId} {dI : Nat → Nat → Nat} {cy : Nat → ClassId} {ad tz : Nat → Nat} {Q : Int32 → Mm → Prop} {g : Mm} {x0 : Int32} {x1 : Int32} (h : o_X8_needAs Q g x0 x1) : CI l dC dI cy ad tz yX8_needAs wsX8_needAs (rmD 0) [.int x0, .int x1] g Q := by
  refine CI.of (by decide) rfl rfl (Nat.le_of_ble_eq_true rfl) ?_
  intro p e s m args below meth c ls C hl S
  have hl : lv_has ls 2 [(0, .int x0), (1, .int x1)] := hl
  have hx := C.1.1
  have hb := C.1.2.1
  unfold o_X8_needAs at h
  refine lv_iload_n hx hb dX8_needAs_0 rfl (lv_at hl 0 rfl) ?_
  refine lv_iconst (v := 2) hx hb dX8_needAs_1 (by decide) ?_
  refine lv_icmp_ne (tgt := 11) hx hb dX8_needAs_2 (by decide) (fun c1 => ?_) (fun c1 => ?_)
  · have h := h.1 c1
    refine lv_iload_n hx hb dX8_needAs_11 rfl (lv_at hl 0 rfl) ?_
    refine lv_iconst (v := 3) hx hb dX8_needAs_12 (by decide) ?_
    refine lv_icmp_ne (tgt := 24) hx hb dX8_needAs_13 (by decide) (fun c1 => ?_) (fun c1 => ?_)
    · have h := h.1 c1
      refine lv_iload_n hx hb dX8_needAs_24 rfl (lv_at hl 1 rfl) ?_
      exact kRi C S h dX8_needAs_25
    · have h := h.2 c1
      refine lv_iload_n hx hb dX8_needAs_16 rfl (lv_at hl 1 rfl) ?_
      refine lv_iconst (v := 2) hx hb dX8_needAs_17 (by decide) ?_
      obtain ⟨h0, h⟩ := h
      refine lv_idiv hx hb dX8_needAs_18 h0 ?_
      refine lv_iconst (v := 1) hx hb dX8_needAs_19 (by decide) ?_
      refine lv_iadd hx hb dX8_needAs_20 ?_
      refine lv_goto (tgt := 25) hx hb dX8_needAs_21 (by decide) ?_
      exact kRi C S h dX8_needAs_25
  · have h := h.2 c1
    refine lv_iload_n hx hb dX8_needAs_5 rfl (lv_at hl 1 rfl) ?_
    refine lv_iconst (v := 2) hx hb dX8_needAs_6 (by decide) ?_
    refine lv_iadd hx hb dX8_needAs_7 ?_
    refine lv_goto (tgt := 25) hx hb dX8_needAs_8 (by decide) ?_
    exact kRi C S h dX8_needAs_25
/-! ClawCaseModel.needOf([II)I, height 1 -/
theorem cw_X8_needOf_X8_needAs {s : State} {args : Array Value} (ht : ∀ w ∈ wsX8_needOf, w.before args s = true) : CallB (rmD 1) s args RX8 145 yX8_needAs cX8_needAs 2 (some .int) wsX8_needAs (rmD (0)) 0 0 2 ∧ (Cond.static yX8_needAs).before args s = true := va_cwS 2 ht gX8_needOf_X8_needAs rfl rfl rfl (by decide +kernel) ⟨Nat.le_of_ble_eq_true rfl, Nat.le_of_ble_eq_true rfl⟩
def o_X8_needOf (Q : Int32 → Mm → Prop) (a0 : Nat) (g : Mm) (x1 : Int32) : Prop := vp_in (1 + x1) 33 ∧ (vp_in (8 + x1) 33 ∧ (o_X8_needAs (fun (r_2 : Int32) (g_1 : Mm) => Q r_2 g_1) g (g.1 a0 (1 + x1 : Int32).toNatClampNeg) (g.1 a0 (8 + x1 : Int32).toNatClampNeg)))
set_option maxHeartbeats 4000000 in
set_option maxRecDepth 100000 in
theorem o_X8_needOf_c {l : Launch} {dC : Nat → ClassId} {dI : Nat → Nat → Nat} {cy : Nat → ClassId} {ad tz : Nat → Nat} {Q : Int32 → Mm → Prop} {a0 : Nat} {g : Mm} {x1 : Int32} (ha0 : ly a0 = 9) (hn0 : ln a0 = 33) (h : o_X8_needOf Q a0 g x1) : CI l dC dI cy ad tz yX8_needOf wsX8_needOf (rmD 1) [.ref (ad a0), .int x1] g Q := by
  refine CI.of (by decide) rfl rfl (Nat.le_of_ble_eq_true rfl) ?_
  intro p e s m args below meth c ls C hl S
  have hl : lv_has ls 2 [(0, .ref (ad a0)), (1, .int x1)] := hl
  have hx := C.1.1
  have hb := C.1.2.1
  unfold o_X8_needOf at h
  refine lv_aload_n hx hb dX8_needOf_0 rfl (lv_at hl 0 rfl) ?_
  refine lv_iconst (v := 1) hx hb dX8_needOf_1 (by decide) ?_
  refine lv_iload_n hx hb dX8_needOf_2 rfl (lv_at hl 1 rfl) ?_
  refine lv_iadd hx hb dX8_needOf_3 ?_
  obtain ⟨hi, h⟩ := h
  refine kLi C S ha0 hn0 hi dX8_needOf_4 ?_
  refine lv_aload_n hx hb dX8_needOf_5 rfl (lv_at hl 0 rfl) ?_
  refine lv_bipush (v := 8) hx hb dX8_needOf_6 (by decide) ?_
  refine lv_iload_n hx hb dX8_needOf_8 rfl (lv_at hl 1 rfl) ?_
  refine lv_iadd hx hb dX8_needOf_9 ?_
  obtain ⟨hi, h⟩ := h
  refine kLi C S ha0 hn0 hi dX8_needOf_10 ?_
  refine kS_i (As := [.int (g.1 a0 (1 + x1 : Int32).toNatClampNeg), .int (g.1 a0 (8 + x1 : Int32).toNatClampNeg)]) (rest := []) C S hl.1 (o_X8_needAs_c h) (cw_X8_needOf_X8_needAs C.1.2.2.2.2) rfl rfl (Nat.le_of_ble_eq_true rfl) dX8_needOf_11 (fun r_2 g_1 H locs h S => ?_)
  exact kRi C S h dX8_needOf_14
/-! ClawCaseModel.rolls([II)I, height 1 -/
theorem cw_X8_rolls_X8_lyingIn {s : State} {args : Array Value} (ht : ∀ w ∈ wsX8_rolls, w.before args s = true) : CallB (rmD 1) s args RX8 149 yX8_lyingIn cX8_lyingIn 4 (some .int) wsX8_lyingIn (rmD (0)) 0 0 2 ∧ (Cond.static yX8_lyingIn).before args s = true := va_cwS 2 ht gX8_rolls_X8_lyingIn rfl rfl rfl (by decide +kernel) ⟨Nat.le_of_ble_eq_true rfl, Nat.le_of_ble_eq_true rfl⟩
def o_X8_rolls_28 (Q : Int32 → Mm → Prop) (a0 : Nat) (g : Mm) (x1 : Int32) (x2 : Int32) : Prop := ((5 ≤ x1) → Q x1 g) ∧ ((¬ 5 ≤ x1) → o_X8_lyingIn (fun (r_4 : Int32) (g_3 : Mm) => (((x2 - 2) < r_4) → Q x1 g_3) ∧ ((¬ (x2 - 2) < r_4) → Q (x1 + 1) g_3)) a0 g (x1 + 1))
set_option maxHeartbeats 4000000 in
set_option maxRecDepth 100000 in
theorem o_X8_rolls_28_w {p : Program} {l : Launch} {e : Env} {s : State} {m : MethodId} {args : Array Value} {below : List Frame} {meth : Method} {c : Code} {dC : Nat → ClassId} {dI : Nat → Nat → Nat} {cy : Nat → ClassId} {ad tz : Nat → Nat} {Q : Int32 → Mm → Prop} {a0 : Nat} (C : CX p s m args meth c dC dI cy ad tz cX8_rolls 3 (some .int) RX8 wsX8_rolls) (ha0 : ly a0 = 9) (hn0 : ln a0 = 33) : ∀ (g : Mm) (x1 : Int32) (x2 : Int32) (H : Heap) (locs : List Loc) (ls : Array Slot), St dC dI cy ad s g H locs → lv_has ls 3 [(0, .ref (ad a0)), (1, .int x1), (2, .int x2)] → o_X8_rolls_28 Q a0 g x1 x2 → W p l e (rmD 1) s m args below meth c H locs 0 0 (QI dC dI cy ad below args s Q) (F0 m 28 ls []) := by
  have hx := C.1.1
  have hb := C.1.2.1
  intro g x1 x2 H locs ls S hl h
  unfold o_X8_rolls_28 at h
  refine lv_iload_n hx hb dX8_rolls_28 rfl (lv_at hl 1 rfl) ?_
  refine lv_iconst (v := 5) hx hb dX8_rolls_29 (by decide) ?_
  refine lv_icmp_ge (tgt := 52) hx hb dX8_rolls_30 (by decide) (fun c1 => ?_) (fun c1 => ?_)
  · have h := h.1 c1
    refine lv_iload_n hx hb dX8_rolls_52 rfl (lv_at hl 1 rfl) ?_
    exact kRi C S h dX8_rolls_53
  · have h := h.2 c1
    refine lv_aload_n hx hb dX8_rolls_33 rfl (lv_at hl 0 rfl) ?_
    refine lv_iload_n hx hb dX8_rolls_34 rfl (lv_at hl 1 rfl) ?_
    refine lv_iconst (v := 1) hx hb dX8_rolls_35 (by decide) ?_
    refine lv_iadd hx hb dX8_rolls_36 ?_
    refine kS_i (As := [.ref (ad a0), .int (x1 + 1)]) (rest := []) C S hl.1 (o_X8_lyingIn_c ha0 hn0 h) (cw_X8_rolls_X8_lyingIn C.1.2.2.2.2) rfl rfl (Nat.le_of_ble_eq_true rfl) dX8_rolls_37 (fun r_4 g_3 H locs h S => ?_)
    refine lv_iload_n hx hb dX8_rolls_40 rfl (lv_at hl 2 rfl) ?_
    refine lv_iconst (v := 2) hx hb dX8_rolls_41 (by decide) ?_
    refine lv_isub hx hb dX8_rolls_42 ?_
    refine lv_icmp_gt (tgt := 52) hx hb dX8_rolls_43 (by decide) (fun c1 => ?_) (fun c1 => ?_)
    · have h := h.1 c1
      refine lv_iload_n hx hb dX8_rolls_52 rfl (lv_at hl 1 rfl) ?_
      exact kRi C S h dX8_rolls_53
    · have h := h.2 c1
      refine lv_iload_n hx hb dX8_rolls_46 rfl (lv_at hl 1 rfl) ?_
      refine lv_iconst (v := 1) hx hb dX8_rolls_47 (by decide) ?_
      refine lv_iadd hx hb dX8_rolls_48 ?_
      refine lv_goto (tgt := 53) hx hb dX8_rolls_49 (by decide) ?_
      exact kRi C S h dX8_rolls_53
def o_X8_rolls (Q : Int32 → Mm → Prop) (a0 : Nat) (g : Mm) (x1 : Int32) : Prop := o_X8_lyingIn (fun (r_2 : Int32) (g_1 : Mm) => ((x1 ≤ 1) → o_X8_rolls_28 Q a0 g_1 x1 r_2) ∧ ((¬ x1 ≤ 1) → o_X8_lyingIn (fun (r_6 : Int32) (g_5 : Mm) => (((r_2 - 2) < r_6) → o_X8_rolls_28 Q a0 g_5 x1 r_2) ∧ ((¬ (r_2 - 2) < r_6) → Q (x1 - 1) g_5)) a0 g_1 (x1 - 1))) a0 g x1
set_option maxHeartbeats 4000000 in
set_option maxRecDepth 100000 in
theorem o_X8_rolls_c {l : Launch} {dC : Nat → ClassId} {dI : Nat → Nat → Nat} {cy : Nat → ClassId} {ad tz : Nat → Nat} {Q : Int32 → Mm → Prop} {a0 : Nat} {g : Mm} {x1 : Int32} (ha0 : ly a0 = 9) (hn0 : ln a0 = 33) (h : o_X8_rolls Q a0 g x1) : CI l dC dI cy ad tz yX8_rolls wsX8_rolls (rmD 1) [.ref (ad a0), .int x1] g Q := by
  refine CI.of (by decide) rfl rfl (Nat.le_of_ble_eq_true rfl) ?_
  intro p e s m args below meth c ls C hl S
  have hl : lv_has ls 3 [(0, .ref (ad a0)), (1, .int x1)] := hl
  have hx := C.1.1
  have hb := C.1.2.1
  unfold o_X8_rolls at h
  refine lv_aload_n hx hb dX8_rolls_0 rfl (lv_at hl 0 rfl) ?_
  refine lv_iload_n hx hb dX8_rolls_1 rfl (lv_at hl 1 rfl) ?_
  refine kS_i (As := [.ref (ad a0), .int x1]) (rest := []) C S hl.1 (o_X8_lyingIn_c ha0 hn0 h) (cw_X8_rolls_X8_lyingIn C.1.2.2.2.2) rfl rfl (Nat.le_of_ble_eq_true rfl) dX8_rolls_2 (fun r_2 g_1 H locs h S => ?_)
  refine lv_istore_n (lv' := [(2, .int r_2), (0, .ref (ad a0)), (1, .int x1)]) hx hb dX8_rolls_5 rfl hl (by decide) rfl (fun ls hl => ?_)
  refine lv_iload_n hx hb dX8_rolls_6 rfl (lv_at hl 2 rfl) ?_
  refine lv_iconst (v := 1) hx hb dX8_rolls_7 (by decide) ?_
  refine lv_icmp_le (tgt := 28) hx hb dX8_rolls_8 (by decide) (fun c1 => ?_) (fun c1 => ?_)
  · have h := h.1 c1
    exact o_X8_rolls_28_w C ha0 hn0 g_1 x1 r_2 _ _ _ S (lv_sub hl [1, 2, 0] rfl) h
  · have h := h.2 c1
    refine lv_aload_n hx hb dX8_rolls_11 rfl (lv_at hl 1 rfl) ?_
    refine lv_iload_n hx hb dX8_rolls_12 rfl (lv_at hl 2 rfl) ?_
    refine lv_iconst (v := 1) hx hb dX8_rolls_13 (by decide) ?_
    refine lv_isub hx hb dX8_rolls_14 ?_
    refine kS_i (As := [.ref (ad a0), .int (x1 - 1)]) (rest := []) C S hl.1 (o_X8_lyingIn_c ha0 hn0 h) (cw_X8_rolls_X8_lyingIn C.1.2.2.2.2) rfl rfl (Nat.le_of_ble_eq_true rfl) dX8_rolls_15 (fun r_6 g_5 H locs h S => ?_)
    refine lv_iload_n hx hb dX8_rolls_18 rfl (lv_at hl 0 rfl) ?_
    refine lv_iconst (v := 2) hx hb dX8_rolls_19 (by decide) ?_
    refine lv_isub hx hb dX8_rolls_20 ?_
    refine lv_icmp_gt (tgt := 28) hx hb dX8_rolls_21 (by decide) (fun c1 => ?_) (fun c1 => ?_)
    · have h := h.1 c1
      exact o_X8_rolls_28_w C ha0 hn0 g_5 x1 r_2 _ _ _ S (lv_sub hl [1, 2, 0] rfl) h
    · have h := h.2 c1
      refine lv_iload_n hx hb dX8_rolls_24 rfl (lv_at hl 2 rfl) ?_
      refine lv_iconst (v := 1) hx hb dX8_rolls_25 (by decide) ?_
      refine lv_isub hx hb dX8_rolls_26 ?_
      exact kRi C S h dX8_rolls_27
/-! ClawCaseModel.take([III)V, height 0 -/
def o_X8_take (Q : Mm → Prop) (a0 : Nat) (g : Mm) (x1 : Int32) (x2 : Int32) : Prop := vp_in (19 + x1) 33 ∧ (∀ g_1 : Mm, g_1 = mset g a0 (19 + x1 : Int32).toNatClampNeg x2 → (vp_in (26 + x1) 33 ∧ (∀ g_2 : Mm, g_2 = mset g_1 a0 (26 + x1 : Int32).toNatClampNeg 0 → (Q g_2))))
set_option maxHeartbeats 4000000 in
set_option maxRecDepth 100000 in
theorem o_X8_take_c {l : Launch} {dC : Nat → ClassId} {dI : Nat → Nat → Nat} {cy : Nat → ClassId} {ad tz : Nat → Nat} {Q : Mm → Prop} {a0 : Nat} {g : Mm} {x1 : Int32} {x2 : Int32} (ha0 : ly a0 = 9) (hn0 : ln a0 = 33) (h : o_X8_take Q a0 g x1 x2) : CV l dC dI cy ad tz yX8_take wsX8_take (rmD 0) [.ref (ad a0), .int x1, .int x2] g Q := by
  refine CV.of (by decide) rfl rfl (Nat.le_of_ble_eq_true rfl) ?_
  intro p e s m args below meth c ls C hl S
  have hl : lv_has ls 3 [(0, .ref (ad a0)), (1, .int x1), (2, .int x2)] := hl
  have hx := C.1.1
  have hb := C.1.2.1
  unfold o_X8_take at h
  refine lv_aload_n hx hb dX8_take_0 rfl (lv_at hl 0 rfl) ?_
  refine lv_bipush (v := 19) hx hb dX8_take_1 (by decide) ?_
  refine lv_iload_n hx hb dX8_take_3 rfl (lv_at hl 1 rfl) ?_
  refine lv_iadd hx hb dX8_take_4 ?_
  refine lv_iload_n hx hb dX8_take_5 rfl (lv_at hl 2 rfl) ?_
  obtain ⟨hi, h⟩ := h
  refine kSi C S ha0 hn0 hi dX8_take_6 (fun g_1 H locs eg_1 S => ?_)
  have h := h g_1 eg_1
  refine lv_aload_n hx hb dX8_take_7 rfl (lv_at hl 0 rfl) ?_
  refine lv_bipush (v := 26) hx hb dX8_take_8 (by decide) ?_
  refine lv_iload_n hx hb dX8_take_10 rfl (lv_at hl 1 rfl) ?_
  refine lv_iadd hx hb dX8_take_11 ?_
  refine lv_iconst (v := 0) hx hb dX8_take_12 (by decide) ?_
  obtain ⟨hi, h⟩ := h
  refine kSi C S ha0 hn0 hi dX8_take_13 (fun g_2 H locs eg_2 S => ?_)
  have h := h g_2 eg_2
  exact kRv C S h dX8_take_14
/-! ClawCaseModel.topOf([II)I, height 0 -/
def o_X8_topOf_42 (Q : Int32 → Mm → Prop) (K4 : Mm → Int32 → Int32 → Int32 → Prop) (a0 : Nat) (g : Mm) (x1 : Int32) (x2 : Int32) (x3 : Int32) : Prop := ∀ x_1 : Int32, x_1 = x3 + 1 → (K4 g x1 x2 x_1)
def o_X8_topOf_40 (Q : Int32 → Mm → Prop) (K4 : Mm → Int32 → Int32 → Int32 → Prop) (a0 : Nat) (g : Mm) (x1 : Int32) (x3 : Int32) : Prop := o_X8_topOf_42 Q K4 a0 g x1 x3 x3
def o_X8_topOf_4 (Q : Int32 → Mm → Prop) (a0 : Nat) : Nat → Mm → Int32 → Int32 → Int32 → Prop
  | 0, _, _, _, _ => False
  | n4 + 1, g, x1, x2, x3 => vp_in 0 33 ∧ ((((g.1 a0 (0 : Int32).toNatClampNeg) ≤ x3) → Q x2 g) ∧ ((¬ (g.1 a0 (0 : Int32).toNatClampNeg) ≤ x3) → vp_in (19 + x3) 33 ∧ (((¬ (g.1 a0 (19 + x3 : Int32).toNatClampNeg) = x1) → o_X8_topOf_42 Q (o_X8_topOf_4 Q a0 n4) a0 g x1 x2 x3) ∧ (((g.1 a0 (19 + x3 : Int32).toNatClampNeg) = x1) → ((x2 < 0) → o_X8_topOf_40 Q (o_X8_topOf_4 Q a0 n4) a0 g x1 x3) ∧ ((¬ x2 < 0) → vp_in (26 + x3) 33 ∧ (vp_in (26 + x2) 33 ∧ ((((g.1 a0 (26 + x3 : Int32).toNatClampNeg) ≤ (g.1 a0 (26 + x2 : Int32).toNatClampNeg)) → o_X8_topOf_42 Q (o_X8_topOf_4 Q a0 n4) a0 g x1 x2 x3) ∧ ((¬ (g.1 a0 (26 + x3 : Int32).toNatClampNeg) ≤ (g.1 a0 (26 + x2 : Int32).toNatClampNeg)) → o_X8_topOf_40 Q (o_X8_topOf_4 Q a0 n4) a0 g x1 x3))))))))
set_option maxHeartbeats 4000000 in
set_option maxRecDepth 100000 in
theorem o_X8_topOf_42_w {p : Program} {l : Launch} {e : Env} {s : State} {m : MethodId} {args : Array Value} {below : List Frame} {meth : Method} {c : Code} {dC : Nat → ClassId} {dI : Nat → Nat → Nat} {cy : Nat → ClassId} {ad tz : Nat → Nat} {Q : Int32 → Mm → Prop} {K4 : Mm → Int32 → Int32 → Int32 → Prop} {a0 : Nat} (C : CX p s m args meth c dC dI cy ad tz cX8_topOf 4 (some .int) RX8 wsX8_topOf) (ha0 : ly a0 = 9) (hn0 : ln a0 = 33) (hK4 : ∀ (g : Mm) (x1 : Int32) (x2 : Int32) (x3 : Int32) (H : Heap) (locs : List Loc) (ls : Array Slot), St dC dI cy ad s g H locs → lv_has ls 4 [(0, .ref (ad a0)), (1, .int x1), (2, .int x2), (3, .int x3)] → K4 g x1 x2 x3 → W p l e (rmD 0) s m args below meth c H locs 0 0 (QI dC dI cy ad below args s Q) (F0 m 4 ls [])) : ∀ (g : Mm) (x1 : Int32) (x2 : Int32) (x3 : Int32) (H : Heap) (locs : List Loc) (ls : Array Slot), St dC dI cy ad s g H locs → lv_has ls 4 [(0, .ref (ad a0)), (1, .int x1), (2, .int x2), (3, .int x3)] → o_X8_topOf_42 Q K4 a0 g x1 x2 x3 → W p l e (rmD 0) s m args below meth c H locs 0 0 (QI dC dI cy ad below args s Q) (F0 m 42 ls []) := by
  have hx := C.1.1
  have hb := C.1.2.1
  intro g x1 x2 x3 H locs ls S hl h
  unfold o_X8_topOf_42 at h
  obtain ⟨x_1, ex_1⟩ : ∃ y : Int32, y = x3 + 1 := ⟨_, rfl⟩
  have h := h x_1 ex_1
  refine lv_iinc (v := x_1) (lv' := [(3, .int x_1), (0, .ref (ad a0)), (1, .int x1), (2, .int x2)]) hx hb dX8_topOf_42 hl (k := 3) rfl (by rw [ex_1]; rfl) (by decide) rfl (fun ls hl => ?_)
  refine lv_goto (tgt := 4) hx hb dX8_topOf_45 (by decide) ?_
  exact hK4 g x1 x2 x_1 _ _ _ S (lv_sub hl [1, 2, 3, 0] rfl) h
set_option maxHeartbeats 4000000 in
set_option maxRecDepth 100000 in
theorem o_X8_topOf_40_w {p : Program} {l : Launch} {e : Env} {s : State} {m : MethodId} {args : Array Value} {below : List Frame} {meth : Method} {c : Code} {dC : Nat → ClassId} {dI : Nat → Nat → Nat} {cy : Nat → ClassId} {ad tz : Nat → Nat} {Q : Int32 → Mm → Prop} {K4 : Mm → Int32 → Int32 → Int32 → Prop} {a0 : Nat} (C : CX p s m args meth c dC dI cy ad tz cX8_topOf 4 (some .int) RX8 wsX8_topOf) (ha0 : ly a0 = 9) (hn0 : ln a0 = 33) (hK4 : ∀ (g : Mm) (x1 : Int32) (x2 : Int32) (x3 : Int32) (H : Heap) (locs : List Loc) (ls : Array Slot), St dC dI cy ad s g H locs → lv_has ls 4 [(0, .ref (ad a0)), (1, .int x1), (2, .int x2), (3, .int x3)] → K4 g x1 x2 x3 → W p l e (rmD 0) s m args below meth c H locs 0 0 (QI dC dI cy ad below args s Q) (F0 m 4 ls [])) : ∀ (g : Mm) (x1 : Int32) (x3 : Int32) (H : Heap) (locs : List Loc) (ls : Array Slot), St dC dI cy ad s g H locs → lv_has ls 4 [(0, .ref (ad a0)), (1, .int x1), (3, .int x3)] → o_X8_topOf_40 Q K4 a0 g x1 x3 → W p l e (rmD 0) s m args below meth c H locs 0 0 (QI dC dI cy ad below args s Q) (F0 m 40 ls []) := by
  have hx := C.1.1
  have hb := C.1.2.1
  intro g x1 x3 H locs ls S hl h
  unfold o_X8_topOf_40 at h
  refine lv_iload_n hx hb dX8_topOf_40 rfl (lv_at hl 2 rfl) ?_
  refine lv_istore_n (lv' := [(2, .int x3), (0, .ref (ad a0)), (1, .int x1), (3, .int x3)]) hx hb dX8_topOf_41 rfl hl (by decide) rfl (fun ls hl => ?_)
  exact o_X8_topOf_42_w C ha0 hn0 hK4 g x1 x3 x3 _ _ _ S (lv_sub hl [1, 2, 0, 3] rfl) h
set_option maxHeartbeats 4000000 in
set_option maxRecDepth 100000 in
theorem o_X8_topOf_4_w {p : Program} {l : Launch} {e : Env} {s : State} {m : MethodId} {args : Array Value} {below : List Frame} {meth : Method} {c : Code} {dC : Nat → ClassId} {dI : Nat → Nat → Nat} {cy : Nat → ClassId} {ad tz : Nat → Nat} {Q : Int32 → Mm → Prop} {a0 : Nat} (C : CX p s m args meth c dC dI cy ad tz cX8_topOf 4 (some .int) RX8 wsX8_topOf) (ha0 : ly a0 = 9) (hn0 : ln a0 = 33) : ∀ (n : Nat) (g : Mm) (x1 : Int32) (x2 : Int32) (x3 : Int32) (H : Heap) (locs : List Loc) (ls : Array Slot), St dC dI cy ad s g H locs → lv_has ls 4 [(0, .ref (ad a0)), (1, .int x1), (2, .int x2), (3, .int x3)] → o_X8_topOf_4 Q a0 n g x1 x2 x3 → W p l e (rmD 0) s m args below meth c H locs 0 0 (QI dC dI cy ad below args s Q) (F0 m 4 ls []) := by
  have hx := C.1.1
  have hb := C.1.2.1
  intro n4
  induction n4 with
  | zero => intro g x1 x2 x3 H locs ls S hl h; exact h.elim
  | succ n4 ih =>
    intro g x1 x2 x3 H locs ls S hl h
    have h : vp_in 0 33 ∧ ((((g.1 a0 (0 : Int32).toNatClampNeg) ≤ x3) → Q x2 g) ∧ ((¬ (g.1 a0 (0 : Int32).toNatClampNeg) ≤ x3) → vp_in (19 + x3) 33 ∧ (((¬ (g.1 a0 (19 + x3 : Int32).toNatClampNeg) = x1) → o_X8_topOf_42 Q (o_X8_topOf_4 Q a0 n4) a0 g x1 x2 x3) ∧ (((g.1 a0 (19 + x3 : Int32).toNatClampNeg) = x1) → ((x2 < 0) → o_X8_topOf_40 Q (o_X8_topOf_4 Q a0 n4) a0 g x1 x3) ∧ ((¬ x2 < 0) → vp_in (26 + x3) 33 ∧ (vp_in (26 + x2) 33 ∧ ((((g.1 a0 (26 + x3 : Int32).toNatClampNeg) ≤ (g.1 a0 (26 + x2 : Int32).toNatClampNeg)) → o_X8_topOf_42 Q (o_X8_topOf_4 Q a0 n4) a0 g x1 x2 x3) ∧ ((¬ (g.1 a0 (26 + x3 : Int32).toNatClampNeg) ≤ (g.1 a0 (26 + x2 : Int32).toNatClampNeg)) → o_X8_topOf_40 Q (o_X8_topOf_4 Q a0 n4) a0 g x1 x3)))))))) := h
    refine lv_iload_n hx hb dX8_topOf_4 rfl (lv_at hl 3 rfl) ?_
    refine lv_aload_n hx hb dX8_topOf_5 rfl (lv_at hl 0 rfl) ?_
    refine lv_iconst (v := 0) hx hb dX8_topOf_6 (by decide) ?_
    obtain ⟨hi, h⟩ := h
    refine kLi C S ha0 hn0 hi dX8_topOf_7 ?_
    refine lv_icmp_ge (tgt := 48) hx hb dX8_topOf_8 (by decide) (fun c1 => ?_) (fun c1 => ?_)
    · have h := h.1 c1
      refine lv_iload_n hx hb dX8_topOf_48 rfl (lv_at hl 2 rfl) ?_
      exact kRi C S h dX8_topOf_49
    · have h := h.2 c1
      refine lv_aload_n hx hb dX8_topOf_11 rfl (lv_at hl 0 rfl) ?_
      refine lv_bipush (v := 19) hx hb dX8_topOf_12 (by decide) ?_
      refine lv_iload_n hx hb dX8_topOf_14 rfl (lv_at hl 3 rfl) ?_
      refine lv_iadd hx hb dX8_topOf_15 ?_
      obtain ⟨hi, h⟩ := h
      refine kLi C S ha0 hn0 hi dX8_topOf_16 ?_
      refine lv_iload_n hx hb dX8_topOf_17 rfl (lv_at hl 1 rfl) ?_
      refine lv_icmp_ne (tgt := 42) hx hb dX8_topOf_18 (by decide) (fun c1 => ?_) (fun c1 => ?_)
      · have h := h.1 c1
        exact o_X8_topOf_42_w C ha0 hn0 ih g x1 x2 x3 _ _ _ S (lv_sub hl [0, 1, 2, 3] rfl) h
      · have h := h.2 c1
        refine lv_iload_n hx hb dX8_topOf_21 rfl (lv_at hl 2 rfl) ?_
        refine lv_if_lt (tgt := 40) hx hb dX8_topOf_22 (by decide) (fun c1 => ?_) (fun c1 => ?_)
        · have h := h.1 c1
          exact o_X8_topOf_40_w C ha0 hn0 ih g x1 x3 _ _ _ S (lv_sub hl [0, 1, 3] rfl) h
        · have h := h.2 c1
          refine lv_aload_n hx hb dX8_topOf_25 rfl (lv_at hl 0 rfl) ?_
          refine lv_bipush (v := 26) hx hb dX8_topOf_26 (by decide) ?_
          refine lv_iload_n hx hb dX8_topOf_28 rfl (lv_at hl 3 rfl) ?_
          refine lv_iadd hx hb dX8_topOf_29 ?_
          obtain ⟨hi, h⟩ := h
          refine kLi C S ha0 hn0 hi dX8_topOf_30 ?_
          refine lv_aload_n hx hb dX8_topOf_31 rfl (lv_at hl 0 rfl) ?_
          refine lv_bipush (v := 26) hx hb dX8_topOf_32 (by decide) ?_
          refine lv_iload_n hx hb dX8_topOf_34 rfl (lv_at hl 2 rfl) ?_
          refine lv_iadd hx hb dX8_topOf_35 ?_
          obtain ⟨hi, h⟩ := h
          refine kLi C S ha0 hn0 hi dX8_topOf_36 ?_
          refine lv_icmp_le (tgt := 42) hx hb dX8_topOf_37 (by decide) (fun c1 => ?_) (fun c1 => ?_)
          · have h := h.1 c1
            exact o_X8_topOf_42_w C ha0 hn0 ih g x1 x2 x3 _ _ _ S (lv_sub hl [0, 1, 2, 3] rfl) h
          · have h := h.2 c1
            exact o_X8_topOf_40_w C ha0 hn0 ih g x1 x3 _ _ _ S (lv_sub hl [0, 1, 3] rfl) h
def o_X8_topOf (Q : Int32 → Mm → Prop) (a0 : Nat) (g : Mm) (x1 : Int32) : Prop := ∃ n4, o_X8_topOf_4 Q a0 n4 g x1 (-1) 0
set_option maxHeartbeats 4000000 in
set_option maxRecDepth 100000 in
theorem o_X8_topOf_c {l : Launch} {dC : Nat → ClassId} {dI : Nat → Nat → Nat} {cy : Nat → ClassId} {ad tz : Nat → Nat} {Q : Int32 → Mm → Prop} {a0 : Nat} {g : Mm} {x1 : Int32} (ha0 : ly a0 = 9) (hn0 : ln a0 = 33) (h : o_X8_topOf Q a0 g x1) : CI l dC dI cy ad tz yX8_topOf wsX8_topOf (rmD 0) [.ref (ad a0), .int x1] g Q := by
  refine CI.of (by decide) rfl rfl (Nat.le_of_ble_eq_true rfl) ?_
  intro p e s m args below meth c ls C hl S
  have hl : lv_has ls 4 [(0, .ref (ad a0)), (1, .int x1)] := hl
  have hx := C.1.1
  have hb := C.1.2.1
  unfold o_X8_topOf at h
  refine lv_iconst (v := (-1)) hx hb dX8_topOf_0 (by decide) ?_
  refine lv_istore_n (lv' := [(2, .int (-1)), (0, .ref (ad a0)), (1, .int x1)]) hx hb dX8_topOf_1 rfl hl (by decide) rfl (fun ls hl => ?_)
  refine lv_iconst (v := 0) hx hb dX8_topOf_2 (by decide) ?_
  refine lv_istore_n (lv' := [(3, .int 0), (2, .int (-1)), (0, .ref (ad a0)), (1, .int x1)]) hx hb dX8_topOf_3 rfl hl (by decide) rfl (fun ls hl => ?_)
  obtain ⟨n4, h⟩ := h
  refine o_X8_topOf_4_w C ha0 hn0 n4 g x1 (-1) 0 _ _ _ S (lv_sub hl [2, 3, 1, 0] rfl) h
/-! ClawCaseModel.goPlay([III)I, height 2 -/
theorem cw_X8_goPlay_X8_lay {s : State} {args : Array Value} (ht : ∀ w ∈ wsX8_goPlay, w.before args s = true) : CallB (rmD 2) s args RX8 162 yX8_lay cX8_lay 3 none wsX8_lay (rmD (1)) 0 0 3 ∧ (Cond.static yX8_lay).before args s = true := va_cwS 3 ht gX8_goPlay_X8_lay rfl rfl rfl (by decide +kernel) ⟨Nat.le_of_ble_eq_true rfl, Nat.le_of_ble_eq_true rfl⟩
theorem cw_X8_goPlay_X8_take {s : State} {args : Array Value} (ht : ∀ w ∈ wsX8_goPlay, w.before args s = true) : CallB (rmD 2) s args RX8 166 yX8_take cX8_take 3 none wsX8_take (rmD (0)) 0 0 3 ∧ (Cond.static yX8_take).before args s = true := va_cwS 3 ht gX8_goPlay_X8_take rfl rfl rfl (by decide +kernel) ⟨Nat.le_of_ble_eq_true rfl, Nat.le_of_ble_eq_true rfl⟩
theorem cw_X8_goPlay_X8_lyingIn {s : State} {args : Array Value} (ht : ∀ w ∈ wsX8_goPlay, w.before args s = true) : CallB (rmD 2) s args RX8 149 yX8_lyingIn cX8_lyingIn 4 (some .int) wsX8_lyingIn (rmD (0)) 0 0 2 ∧ (Cond.static yX8_lyingIn).before args s = true := va_cwS 2 ht gX8_goPlay_X8_lyingIn rfl rfl rfl (by decide +kernel) ⟨Nat.le_of_ble_eq_true rfl, Nat.le_of_ble_eq_true rfl⟩
theorem cw_X8_goPlay_X8_rolls {s : State} {args : Array Value} (ht : ∀ w ∈ wsX8_goPlay, w.before args s = true) : CallB (rmD 2) s args RX8 159 yX8_rolls cX8_rolls 3 (some .int) wsX8_rolls (rmD (1)) 0 0 2 ∧ (Cond.static yX8_rolls).before args s = true := va_cwS 2 ht gX8_goPlay_X8_rolls rfl rfl rfl (by decide +kernel) ⟨Nat.le_of_ble_eq_true rfl, Nat.le_of_ble_eq_true rfl⟩
theorem cw_X8_goPlay_X8_needOf {s : State} {args : Array Value} (ht : ∀ w ∈ wsX8_goPlay, w.before args s = true) : CallB (rmD 2) s args RX8 156 yX8_needOf cX8_needOf 2 (some .int) wsX8_needOf (rmD (1)) 0 0 2 ∧ (Cond.static yX8_needOf).before args s = true := va_cwS 2 ht gX8_goPlay_X8_needOf rfl rfl rfl (by decide +kernel) ⟨Nat.le_of_ble_eq_true rfl, Nat.le_of_ble_eq_true rfl⟩
theorem cw_X8_goPlay_X8_topOf {s : State} {args : Array Value} (ht : ∀ w ∈ wsX8_goPlay, w.before args s = true) : CallB (rmD 2) s args RX8 153 yX8_topOf cX8_topOf 4 (some .int) wsX8_topOf (rmD (0)) 0 0 2 ∧ (Cond.static yX8_topOf).before args s = true := va_cwS 2 ht gX8_goPlay_X8_topOf rfl rfl rfl (by decide +kernel) ⟨Nat.le_of_ble_eq_true rfl, Nat.le_of_ble_eq_true rfl⟩
def o_X8_goPlay_74 (Q : Int32 → Mm → Prop) (K96 : Mm → Int32 → Int32 → Prop) (a0 : Nat) : Nat → Mm → Int32 → Int32 → Int32 → Int32 → Prop
  | 0, _, _, _, _, _ => False
  | n74 + 1, g, x3, x4, x5, x6 => ((x6 < 1) → K96 g x3 x6) ∧ ((¬ x6 < 1) → ((x5 < x4) → K96 g x3 x6) ∧ ((¬ x5 < x4) → ∀ x_6 : Int32, x_6 = x6 + (-1) → (∀ x_7 : Int32, x_7 = x5 + (-1) → (o_X8_goPlay_74 Q K96 a0 n74 g x3 x4 x_7 x_6))))
def o_X8_goPlay_139 (Q : Int32 → Mm → Prop) (a0 : Nat) (g : Mm) (x3 : Int32) (x6 : Int32) : Prop := o_X8_lay (fun (g_8 : Mm) => Q x3 g_8) a0 g x3 x6
def o_X8_goPlay_96 (Q : Int32 → Mm → Prop) (a0 : Nat) (g : Mm) (x3 : Int32) (x6 : Int32) : Prop := ((1 ≤ x6) → vp_in (1 + x3) 33 ∧ (((¬ (g.1 a0 (1 + x3 : Int32).toNatClampNeg) = 5) → o_X8_goPlay_139 Q a0 g x3 x6) ∧ (((g.1 a0 (1 + x3 : Int32).toNatClampNeg) = 5) → o_X8_lyingIn (fun (r_11 : Int32) (g_10 : Mm) => ((¬ r_11 = 0) → o_X8_goPlay_139 Q a0 g_10 x3 x6) ∧ ((r_11 = 0) → o_X8_take (fun (g_12 : Mm) => Q x3 g_12) a0 g_10 x3 9)) a0 g x6))) ∧ ((¬ 1 ≤ x6) → o_X8_take (fun (g_14 : Mm) => Q x3 g_14) a0 g x3 0)
def o_X8_goPlay_51 (Q : Int32 → Mm → Prop) (a0 : Nat) (g : Mm) (x1 : Int32) (x3 : Int32) (s0 : Int32) : Prop := ((s0 = x1) → Q x3 g) ∧ ((¬ s0 = x1) → o_X8_lay (fun (g_16 : Mm) => Q x3 g_16) a0 g x3 s0)
set_option maxHeartbeats 4000000 in
set_option maxRecDepth 100000 in
theorem o_X8_goPlay_74_w {p : Program} {l : Launch} {e : Env} {s : State} {m : MethodId} {args : Array Value} {below : List Frame} {meth : Method} {c : Code} {dC : Nat → ClassId} {dI : Nat → Nat → Nat} {cy : Nat → ClassId} {ad tz : Nat → Nat} {Q : Int32 → Mm → Prop} {K96 : Mm → Int32 → Int32 → Prop} {a0 : Nat} (C : CX p s m args meth c dC dI cy ad tz cX8_goPlay 7 (some .int) RX8 wsX8_goPlay) (ha0 : ly a0 = 9) (hn0 : ln a0 = 33) (hK96 : ∀ (g : Mm) (x3 : Int32) (x6 : Int32) (H : Heap) (locs : List Loc) (ls : Array Slot), St dC dI cy ad s g H locs → lv_has ls 7 [(0, .ref (ad a0)), (3, .int x3), (6, .int x6)] → K96 g x3 x6 → W p l e (rmD 2) s m args below meth c H locs 0 0 (QI dC dI cy ad below args s Q) (F0 m 96 ls [])) : ∀ (n : Nat) (g : Mm) (x3 : Int32) (x4 : Int32) (x5 : Int32) (x6 : Int32) (H : Heap) (locs : List Loc) (ls : Array Slot), St dC dI cy ad s g H locs → lv_has ls 7 [(0, .ref (ad a0)), (3, .int x3), (4, .int x4), (5, .int x5), (6, .int x6)] → o_X8_goPlay_74 Q K96 a0 n g x3 x4 x5 x6 → W p l e (rmD 2) s m args below meth c H locs 0 0 (QI dC dI cy ad below args s Q) (F0 m 74 ls []) := by
  have hx := C.1.1
  have hb := C.1.2.1
  intro n74
  induction n74 with
  | zero => intro g x3 x4 x5 x6 H locs ls S hl h; exact h.elim
  | succ n74 ih =>
    intro g x3 x4 x5 x6 H locs ls S hl h
    have h : ((x6 < 1) → K96 g x3 x6) ∧ ((¬ x6 < 1) → ((x5 < x4) → K96 g x3 x6) ∧ ((¬ x5 < x4) → ∀ x_6 : Int32, x_6 = x6 + (-1) → (∀ x_7 : Int32, x_7 = x5 + (-1) → (o_X8_goPlay_74 Q K96 a0 n74 g x3 x4 x_7 x_6)))) := h
    refine lv_iload hx hb dX8_goPlay_74 (lv_at hl 4 rfl) ?_
    refine lv_iconst (v := 1) hx hb dX8_goPlay_76 (by decide) ?_
    refine lv_icmp_lt (tgt := 96) hx hb dX8_goPlay_77 (by decide) (fun c1 => ?_) (fun c1 => ?_)
    · have h := h.1 c1
      exact hK96 g x3 x6 _ _ _ S (lv_sub hl [0, 1, 4] rfl) h
    · have h := h.2 c1
      refine lv_iload hx hb dX8_goPlay_80 (lv_at hl 3 rfl) ?_
      refine lv_iload hx hb dX8_goPlay_82 (lv_at hl 2 rfl) ?_
      refine lv_icmp_lt (tgt := 96) hx hb dX8_goPlay_84 (by decide) (fun c1 => ?_) (fun c1 => ?_)
      · have h := h.1 c1
        exact hK96 g x3 x6 _ _ _ S (lv_sub hl [0, 1, 4] rfl) h
      · have h := h.2 c1
        obtain ⟨x_6, ex_6⟩ : ∃ y : Int32, y = x6 + (-1) := ⟨_, rfl⟩
        have h := h x_6 ex_6
        refine lv_iinc (v := x_6) (lv' := [(6, .int x_6), (0, .ref (ad a0)), (3, .int x3), (4, .int x4), (5, .int x5)]) hx hb dX8_goPlay_87 hl (k := 4) rfl (by rw [ex_6]; rfl) (by decide) rfl (fun ls hl => ?_)
        obtain ⟨x_7, ex_7⟩ : ∃ y : Int32, y = x5 + (-1) := ⟨_, rfl⟩
        have h := h x_7 ex_7
        refine lv_iinc (v := x_7) (lv' := [(5, .int x_7), (6, .int x_6), (0, .ref (ad a0)), (3, .int x3), (4, .int x4)]) hx hb dX8_goPlay_90 hl (k := 4) rfl (by rw [ex_7]; rfl) (by decide) rfl (fun ls hl => ?_)
        refine lv_goto (tgt := 74) hx hb dX8_goPlay_93 (by decide) ?_
        exact ih g x3 x4 x_7 x_6 _ _ _ S (lv_sub hl [2, 3, 4, 0, 1] rfl) h
set_option maxHeartbeats 4000000 in
set_option maxRecDepth 100000 in
theorem o_X8_goPlay_139_w {p : Program} {l : Launch} {e : Env} {s : State} {m : MethodId} {args : Array Value} {below : List Frame} {meth : Method} {c : Code} {dC : Nat → ClassId} {dI : Nat → Nat → Nat} {cy : Nat → ClassId} {ad tz : Nat → Nat} {Q : Int32 → Mm → Prop} {a0 : Nat} (C : CX p s m args meth c dC dI cy ad tz cX8_goPlay 7 (some .int) RX8 wsX8_goPlay) (ha0 : ly a0 = 9) (hn0 : ln a0 = 33) : ∀ (g : Mm) (x3 : Int32) (x6 : Int32) (H : Heap) (locs : List Loc) (ls : Array Slot), St dC dI cy ad s g H locs → lv_has ls 7 [(0, .ref (ad a0)), (3, .int x3), (6, .int x6)] → o_X8_goPlay_139 Q a0 g x3 x6 → W p l e (rmD 2) s m args below meth c H locs 0 0 (QI dC dI cy ad below args s Q) (F0 m 139 ls []) := by
  have hx := C.1.1
  have hb := C.1.2.1
  intro g x3 x6 H locs ls S hl h
  unfold o_X8_goPlay_139 at h
  refine lv_aload_n hx hb dX8_goPlay_139 rfl (lv_at hl 0 rfl) ?_
  refine lv_iload_n hx hb dX8_goPlay_140 rfl (lv_at hl 1 rfl) ?_
  refine lv_iload hx hb dX8_goPlay_141 (lv_at hl 2 rfl) ?_
  refine kS_v (As := [.ref (ad a0), .int x3, .int x6]) (rest := []) C S hl.1 (o_X8_lay_c ha0 hn0 h) (cw_X8_goPlay_X8_lay C.1.2.2.2.2) rfl rfl (Nat.le_of_ble_eq_true rfl) dX8_goPlay_143 (fun g_8 H locs h S => ?_)
  refine lv_iload_n hx hb dX8_goPlay_146 rfl (lv_at hl 1 rfl) ?_
  exact kRi C S h dX8_goPlay_147
set_option maxHeartbeats 4000000 in
set_option maxRecDepth 100000 in
theorem o_X8_goPlay_96_w {p : Program} {l : Launch} {e : Env} {s : State} {m : MethodId} {args : Array Value} {below : List Frame} {meth : Method} {c : Code} {dC : Nat → ClassId} {dI : Nat → Nat → Nat} {cy : Nat → ClassId} {ad tz : Nat → Nat} {Q : Int32 → Mm → Prop} {a0 : Nat} (C : CX p s m args meth c dC dI cy ad tz cX8_goPlay 7 (some .int) RX8 wsX8_goPlay) (ha0 : ly a0 = 9) (hn0 : ln a0 = 33) : ∀ (g : Mm) (x3 : Int32) (x6 : Int32) (H : Heap) (locs : List Loc) (ls : Array Slot), St dC dI cy ad s g H locs → lv_has ls 7 [(0, .ref (ad a0)), (3, .int x3), (6, .int x6)] → o_X8_goPlay_96 Q a0 g x3 x6 → W p l e (rmD 2) s m args below meth c H locs 0 0 (QI dC dI cy ad below args s Q) (F0 m 96 ls []) := by
  have hx := C.1.1
  have hb := C.1.2.1
  intro g x3 x6 H locs ls S hl h
  unfold o_X8_goPlay_96 at h
  refine lv_iload hx hb dX8_goPlay_96 (lv_at hl 2 rfl) ?_
  refine lv_iconst (v := 1) hx hb dX8_goPlay_98 (by decide) ?_
  refine lv_icmp_ge (tgt := 111) hx hb dX8_goPlay_99 (by decide) (fun c1 => ?_) (fun c1 => ?_)
  · have h := h.1 c1
    refine lv_aload_n hx hb dX8_goPlay_111 rfl (lv_at hl 0 rfl) ?_
    refine lv_iconst (v := 1) hx hb dX8_goPlay_112 (by decide) ?_
    refine lv_iload_n hx hb dX8_goPlay_113 rfl (lv_at hl 1 rfl) ?_
    refine lv_iadd hx hb dX8_goPlay_114 ?_
    obtain ⟨hi, h⟩ := h
    refine kLi C S ha0 hn0 hi dX8_goPlay_115 ?_
    refine lv_iconst (v := 5) hx hb dX8_goPlay_116 (by decide) ?_
    refine lv_icmp_ne (tgt := 139) hx hb dX8_goPlay_117 (by decide) (fun c1 => ?_) (fun c1 => ?_)
    · have h := h.1 c1
      exact o_X8_goPlay_139_w C ha0 hn0 g x3 x6 _ _ _ S (lv_sub hl [0, 1, 2] rfl) h
    · have h := h.2 c1
      refine lv_aload_n hx hb dX8_goPlay_120 rfl (lv_at hl 0 rfl) ?_
      refine lv_iload hx hb dX8_goPlay_121 (lv_at hl 2 rfl) ?_
      refine kS_i (As := [.ref (ad a0), .int x6]) (rest := []) C S hl.1 (o_X8_lyingIn_c ha0 hn0 h) (cw_X8_goPlay_X8_lyingIn C.1.2.2.2.2) rfl rfl (Nat.le_of_ble_eq_true rfl) dX8_goPlay_123 (fun r_11 g_10 H locs h S => ?_)
      refine lv_if_ne (tgt := 139) hx hb dX8_goPlay_126 (by decide) (fun c1 => ?_) (fun c1 => ?_)
      · have h := h.1 c1
        exact o_X8_goPlay_139_w C ha0 hn0 g_10 x3 x6 _ _ _ S (lv_sub hl [0, 1, 2] rfl) h
      · have h := h.2 c1
        refine lv_aload_n hx hb dX8_goPlay_129 rfl (lv_at hl 0 rfl) ?_
        refine lv_iload_n hx hb dX8_goPlay_130 rfl (lv_at hl 1 rfl) ?_
        refine lv_bipush (v := 9) hx hb dX8_goPlay_131 (by decide) ?_
        refine kS_v (As := [.ref (ad a0), .int x3, .int 9]) (rest := []) C S hl.1 (o_X8_take_c ha0 hn0 h) (cw_X8_goPlay_X8_take C.1.2.2.2.2) rfl rfl (Nat.le_of_ble_eq_true rfl) dX8_goPlay_133 (fun g_12 H locs h S => ?_)
        refine lv_goto (tgt := 146) hx hb dX8_goPlay_136 (by decide) ?_
        refine lv_iload_n hx hb dX8_goPlay_146 rfl (lv_at hl 1 rfl) ?_
        exact kRi C S h dX8_goPlay_147
  · have h := h.2 c1
    refine lv_aload_n hx hb dX8_goPlay_102 rfl (lv_at hl 0 rfl) ?_
    refine lv_iload_n hx hb dX8_goPlay_103 rfl (lv_at hl 1 rfl) ?_
    refine lv_iconst (v := 0) hx hb dX8_goPlay_104 (by decide) ?_
    refine kS_v (As := [.ref (ad a0), .int x3, .int 0]) (rest := []) C S hl.1 (o_X8_take_c ha0 hn0 h) (cw_X8_goPlay_X8_take C.1.2.2.2.2) rfl rfl (Nat.le_of_ble_eq_true rfl) dX8_goPlay_105 (fun g_14 H locs h S => ?_)
    refine lv_goto (tgt := 146) hx hb dX8_goPlay_108 (by decide) ?_
    refine lv_iload_n hx hb dX8_goPlay_146 rfl (lv_at hl 1 rfl) ?_
    exact kRi C S h dX8_goPlay_147
set_option maxHeartbeats 4000000 in
set_option maxRecDepth 100000 in
theorem o_X8_goPlay_51_w {p : Program} {l : Launch} {e : Env} {s : State} {m : MethodId} {args : Array Value} {below : List Frame} {meth : Method} {c : Code} {dC : Nat → ClassId} {dI : Nat → Nat → Nat} {cy : Nat → ClassId} {ad tz : Nat → Nat} {Q : Int32 → Mm → Prop} {a0 : Nat} (C : CX p s m args meth c dC dI cy ad tz cX8_goPlay 7 (some .int) RX8 wsX8_goPlay) (ha0 : ly a0 = 9) (hn0 : ln a0 = 33) : ∀ (g : Mm) (x1 : Int32) (x3 : Int32) (s0 : Int32) (H : Heap) (locs : List Loc) (ls : Array Slot), St dC dI cy ad s g H locs → lv_has ls 7 [(0, .ref (ad a0)), (1, .int x1), (3, .int x3)] → o_X8_goPlay_51 Q a0 g x1 x3 s0 → W p l e (rmD 2) s m args below meth c H locs 0 0 (QI dC dI cy ad below args s Q) (F0 m 51 ls [.int s0]) := by
  have hx := C.1.1
  have hb := C.1.2.1
  intro g x1 x3 s0 H locs ls S hl h
  unfold o_X8_goPlay_51 at h
  refine lv_istore (lv' := [(5, .int s0), (0, .ref (ad a0)), (1, .int x1), (3, .int x3)]) hx hb dX8_goPlay_51 hl (by decide) rfl (fun ls hl => ?_)
  refine lv_iload hx hb dX8_goPlay_53 (lv_at hl 0 rfl) ?_
  refine lv_iload_n hx hb dX8_goPlay_55 rfl (lv_at hl 2 rfl) ?_
  refine lv_icmp_eq (tgt := 66) hx hb dX8_goPlay_56 (by decide) (fun c1 => ?_) (fun c1 => ?_)
  · have h := h.1 c1
    refine lv_iload_n hx hb dX8_goPlay_66 rfl (lv_at hl 3 rfl) ?_
    exact kRi C S h dX8_goPlay_67
  · have h := h.2 c1
    refine lv_aload_n hx hb dX8_goPlay_59 rfl (lv_at hl 1 rfl) ?_
    refine lv_iload_n hx hb dX8_goPlay_60 rfl (lv_at hl 3 rfl) ?_
    refine lv_iload hx hb dX8_goPlay_61 (lv_at hl 0 rfl) ?_
    refine kS_v (As := [.ref (ad a0), .int x3, .int s0]) (rest := []) C S hl.1 (o_X8_lay_c ha0 hn0 h) (cw_X8_goPlay_X8_lay C.1.2.2.2.2) rfl rfl (Nat.le_of_ble_eq_true rfl) dX8_goPlay_63 (fun g_16 H locs h S => ?_)
    refine lv_iload_n hx hb dX8_goPlay_66 rfl (lv_at hl 3 rfl) ?_
    exact kRi C S h dX8_goPlay_67
def o_X8_goPlay (Q : Int32 → Mm → Prop) (a0 : Nat) (g : Mm) (x1 : Int32) (x2 : Int32) : Prop := o_X8_topOf (fun (r_2 : Int32) (g_1 : Mm) => vp_in 15 33 ∧ (vp_in 15 33 ∧ (∀ g_3 : Mm, g_3 = mset g_1 a0 (15 : Int32).toNatClampNeg ((g_1.1 a0 (15 : Int32).toNatClampNeg) + 1) → (((0 ≤ r_2) → o_X8_needOf (fun (r_5 : Int32) (g_4 : Mm) => ((r_5 ≤ x2) → ∃ n74, o_X8_goPlay_74 Q (fun (g : Mm) (x3 : Int32) (x6 : Int32) => o_X8_goPlay_96 Q a0 g x3 x6) a0 n74 g_4 r_2 r_5 x2 x1) ∧ ((¬ r_5 ≤ x2) → vp_in (1 + r_2) 33 ∧ ((((g_4.1 a0 (1 + r_2 : Int32).toNatClampNeg) < 4) → o_X8_goPlay_51 Q a0 g_4 x1 r_2 x1) ∧ ((¬ (g_4.1 a0 (1 + r_2 : Int32).toNatClampNeg) < 4) → o_X8_rolls (fun (r_19 : Int32) (g_18 : Mm) => o_X8_goPlay_51 Q a0 g_18 x1 r_2 r_19) a0 g_4 x1)))) a0 g_3 r_2) ∧ ((¬ 0 ≤ r_2) → Q r_2 g_3))))) a0 g x1
set_option maxHeartbeats 4000000 in
set_option maxRecDepth 100000 in
theorem o_X8_goPlay_c {l : Launch} {dC : Nat → ClassId} {dI : Nat → Nat → Nat} {cy : Nat → ClassId} {ad tz : Nat → Nat} {Q : Int32 → Mm → Prop} {a0 : Nat} {g : Mm} {x1 : Int32} {x2 : Int32} (ha0 : ly a0 = 9) (hn0 : ln a0 = 33) (h : o_X8_goPlay Q a0 g x1 x2) : CI l dC dI cy ad tz yX8_goPlay wsX8_goPlay (rmD 2) [.ref (ad a0), .int x1, .int x2] g Q := by
  refine CI.of (by decide) rfl rfl (Nat.le_of_ble_eq_true rfl) ?_
  intro p e s m args below meth c ls C hl S
  have hl : lv_has ls 7 [(0, .ref (ad a0)), (1, .int x1), (2, .int x2)] := hl
  have hx := C.1.1
  have hb := C.1.2.1
  unfold o_X8_goPlay at h
  refine lv_aload_n hx hb dX8_goPlay_0 rfl (lv_at hl 0 rfl) ?_
  refine lv_iload_n hx hb dX8_goPlay_1 rfl (lv_at hl 1 rfl) ?_
  refine kS_i (As := [.ref (ad a0), .int x1]) (rest := []) C S hl.1 (o_X8_topOf_c ha0 hn0 h) (cw_X8_goPlay_X8_topOf C.1.2.2.2.2) rfl rfl (Nat.le_of_ble_eq_true rfl) dX8_goPlay_2 (fun r_2 g_1 H locs h S => ?_)
  refine lv_istore_n (lv' := [(3, .int r_2), (0, .ref (ad a0)), (1, .int x1), (2, .int x2)]) hx hb dX8_goPlay_5 rfl hl (by decide) rfl (fun ls hl => ?_)
  refine lv_aload_n hx hb dX8_goPlay_6 rfl (lv_at hl 1 rfl) ?_
  refine lv_bipush (v := 15) hx hb dX8_goPlay_7 (by decide) ?_
  refine lv_dup2_11 hx hb dX8_goPlay_9 rfl rfl ?_
  obtain ⟨hi, h⟩ := h
  refine kLi C S ha0 hn0 hi dX8_goPlay_10 ?_
  refine lv_iconst (v := 1) hx hb dX8_goPlay_11 (by decide) ?_
  refine lv_iadd hx hb dX8_goPlay_12 ?_
  obtain ⟨hi, h⟩ := h
  refine kSi C S ha0 hn0 hi dX8_goPlay_13 (fun g_3 H locs eg_3 S => ?_)
  have h := h g_3 eg_3
  refine lv_iload_n hx hb dX8_goPlay_14 rfl (lv_at hl 0 rfl) ?_
  refine lv_if_ge (tgt := 20) hx hb dX8_goPlay_15 (by decide) (fun c1 => ?_) (fun c1 => ?_)
  · have h := h.1 c1
    refine lv_aload_n hx hb dX8_goPlay_20 rfl (lv_at hl 1 rfl) ?_
    refine lv_iload_n hx hb dX8_goPlay_21 rfl (lv_at hl 0 rfl) ?_
    refine kS_i (As := [.ref (ad a0), .int r_2]) (rest := []) C S hl.1 (o_X8_needOf_c ha0 hn0 h) (cw_X8_goPlay_X8_needOf C.1.2.2.2.2) rfl rfl (Nat.le_of_ble_eq_true rfl) dX8_goPlay_22 (fun r_5 g_4 H locs h S => ?_)
    refine lv_istore (lv' := [(4, .int r_5), (3, .int r_2), (0, .ref (ad a0)), (1, .int x1), (2, .int x2)]) hx hb dX8_goPlay_25 hl (by decide) rfl (fun ls hl => ?_)
    refine lv_iload_n hx hb dX8_goPlay_27 rfl (lv_at hl 4 rfl) ?_
    refine lv_iload hx hb dX8_goPlay_28 (lv_at hl 0 rfl) ?_
    refine lv_icmp_ge (tgt := 68) hx hb dX8_goPlay_30 (by decide) (fun c1 => ?_) (fun c1 => ?_)
    · have h := h.1 c1
      refine lv_iload_n hx hb dX8_goPlay_68 rfl (lv_at hl 4 rfl) ?_
      refine lv_istore (lv' := [(5, .int x2), (4, .int r_5), (3, .int r_2), (0, .ref (ad a0)), (1, .int x1), (2, .int x2)]) hx hb dX8_goPlay_69 hl (by decide) rfl (fun ls hl => ?_)
      refine lv_iload_n hx hb dX8_goPlay_71 rfl (lv_at hl 4 rfl) ?_
      refine lv_istore (lv' := [(6, .int x1), (5, .int x2), (4, .int r_5), (3, .int r_2), (0, .ref (ad a0)), (1, .int x1), (2, .int x2)]) hx hb dX8_goPlay_72 hl (by decide) rfl (fun ls hl => ?_)
      obtain ⟨n74, h⟩ := h
      refine o_X8_goPlay_74_w C ha0 hn0 ?_ n74 g_4 r_2 r_5 x2 x1 _ _ _ S (lv_sub hl [4, 3, 2, 1, 0] rfl) h
      · intro g x3 x6 H locs ls S hl h
        exact o_X8_goPlay_96_w C ha0 hn0 g x3 x6 _ _ _ S (lv_sub hl [0, 1, 2] rfl) h
    · have h := h.2 c1
      refine lv_aload_n hx hb dX8_goPlay_33 rfl (lv_at hl 2 rfl) ?_
      refine lv_iconst (v := 1) hx hb dX8_goPlay_34 (by decide) ?_
      refine lv_iload_n hx hb dX8_goPlay_35 rfl (lv_at hl 1 rfl) ?_
      refine lv_iadd hx hb dX8_goPlay_36 ?_
      obtain ⟨hi, h⟩ := h
      refine kLi C S ha0 hn0 hi dX8_goPlay_37 ?_
      refine lv_iconst (v := 4) hx hb dX8_goPlay_38 (by decide) ?_
      refine lv_icmp_lt (tgt := 50) hx hb dX8_goPlay_39 (by decide) (fun c1 => ?_) (fun c1 => ?_)
      · have h := h.1 c1
        refine lv_iload_n hx hb dX8_goPlay_50 rfl (lv_at hl 3 rfl) ?_
        exact o_X8_goPlay_51_w C ha0 hn0 g_4 x1 r_2 x1 _ _ _ S (lv_sub hl [2, 3, 1] rfl) h
      · have h := h.2 c1
        refine lv_aload_n hx hb dX8_goPlay_42 rfl (lv_at hl 2 rfl) ?_
        refine lv_iload_n hx hb dX8_goPlay_43 rfl (lv_at hl 3 rfl) ?_
        refine kS_i (As := [.ref (ad a0), .int x1]) (rest := []) C S hl.1 (o_X8_rolls_c ha0 hn0 h) (cw_X8_goPlay_X8_rolls C.1.2.2.2.2) rfl rfl (Nat.le_of_ble_eq_true rfl) dX8_goPlay_44 (fun r_19 g_18 H locs h S => ?_)
        refine lv_goto (tgt := 51) hx hb dX8_goPlay_47 (by decide) ?_
        exact o_X8_goPlay_51_w C ha0 hn0 g_18 x1 r_2 r_19 _ _ _ S (lv_sub hl [2, 3, 1] rfl) h
  · have h := h.2 c1
    refine lv_iload_n hx hb dX8_goPlay_18 rfl (lv_at hl 0 rfl) ?_
    exact kRi C S h dX8_goPlay_19
/-! ClawCaseModel.has(II)Z, height 0 -/
def o_X8_has (Q : Int32 → Mm → Prop) (g : Mm) (x0 : Int32) (x1 : Int32) : Prop := ((¬ ((x0 >>> (x1 &&& 31)) &&& 1) = 1) → Q 0 g) ∧ ((((x0 >>> (x1 &&& 31)) &&& 1) = 1) → Q 1 g)
set_option maxHeartbeats 4000000 in
set_option maxRecDepth 100000 in
theorem o_X8_has_c {l : Launch} {dC : Nat → ClassId} {dI : Nat → Nat → Nat} {cy : Nat → ClassId} {ad tz : Nat → Nat} {Q : Int32 → Mm → Prop} {g : Mm} {x0 : Int32} {x1 : Int32} (h : o_X8_has Q g x0 x1) : CI l dC dI cy ad tz yX8_has wsX8_has (rmD 0) [.int x0, .int x1] g Q := by
  refine CI.of (by decide) rfl rfl (Nat.le_of_ble_eq_true rfl) ?_
  intro p e s m args below meth c ls C hl S
  have hl : lv_has ls 2 [(0, .int x0), (1, .int x1)] := hl
  have hx := C.1.1
  have hb := C.1.2.1
  unfold o_X8_has at h
  refine lv_iload_n hx hb dX8_has_0 rfl (lv_at hl 0 rfl) ?_
  refine lv_iload_n hx hb dX8_has_1 rfl (lv_at hl 1 rfl) ?_
  refine lv_ishr hx hb dX8_has_2 ?_
  refine lv_iconst (v := 1) hx hb dX8_has_3 (by decide) ?_
  refine lv_iand hx hb dX8_has_4 ?_
  refine lv_iconst (v := 1) hx hb dX8_has_5 (by decide) ?_
  refine lv_icmp_ne (tgt := 13) hx hb dX8_has_6 (by decide) (fun c1 => ?_) (fun c1 => ?_)
  · have h := h.1 c1
    refine lv_iconst (v := 0) hx hb dX8_has_13 (by decide) ?_
    exact kRz C S rfl h dX8_has_14
  · have h := h.2 c1
    refine lv_iconst (v := 1) hx hb dX8_has_9 (by decide) ?_
    refine lv_goto (tgt := 14) hx hb dX8_has_10 (by decide) ?_
    exact kRz C S rfl h dX8_has_14
/-! ClawCaseModel.isColumn(I)Z, height 1 -/
theorem m_X8_isColumn_1 : Cond.constantLong RX8 143 (5) ∈ wsX8_isColumn := List.mem_of_getElem? (i := 1) (by decide +kernel)
theorem cw_X8_isColumn_X8_in {s : State} {args : Array Value} (ht : ∀ w ∈ wsX8_isColumn, w.before args s = true) : CallB (rmD 1) s args RX8 61 yX8_in cX8_in 6 (some .boolean) wsX8_in (rmD (0)) 0 0 3 ∧ (Cond.static yX8_in).before args s = true := va_cwS 3 ht gX8_isColumn_X8_in rfl rfl rfl (by decide +kernel) ⟨Nat.le_of_ble_eq_true rfl, Nat.le_of_ble_eq_true rfl⟩
def o_X8_isColumn (Q : Int32 → Mm → Prop) (g : Mm) (x0 : Int32) : Prop := o_X8_in (fun (r_2 : Int32) (g_1 : Mm) => narrow .boolean (.int r_2) = .int r_2 ∧ (Q r_2 g_1)) g ((x0 : Int32).toInt64) 1 5
set_option maxHeartbeats 4000000 in
set_option maxRecDepth 100000 in
theorem o_X8_isColumn_c {l : Launch} {dC : Nat → ClassId} {dI : Nat → Nat → Nat} {cy : Nat → ClassId} {ad tz : Nat → Nat} {Q : Int32 → Mm → Prop} {g : Mm} {x0 : Int32} (h : o_X8_isColumn Q g x0) : CI l dC dI cy ad tz yX8_isColumn wsX8_isColumn (rmD 1) [.int x0] g Q := by
  refine CI.of (by decide) rfl rfl (Nat.le_of_ble_eq_true rfl) ?_
  intro p e s m args below meth c ls C hl S
  have hl : lv_has ls 1 [(0, .int x0)] := hl
  have hx := C.1.1
  have hb := C.1.2.1
  unfold o_X8_isColumn at h
  refine lv_iload_n hx hb dX8_isColumn_0 rfl (lv_at hl 0 rfl) ?_
  refine lv_i2l hx hb dX8_isColumn_1 rfl ?_
  refine lv_lconst (v := 1) hx hb dX8_isColumn_2 (by decide) ?_
  refine kLdc2 C m_X8_isColumn_1 dX8_isColumn_3 ?_
  refine kS_i (As := [.long ((x0 : Int32).toInt64), .long 1, .long 5]) (rest := []) C S hl.1 (o_X8_in_c h) (cw_X8_isColumn_X8_in C.1.2.2.2.2) rfl rfl (Nat.le_of_ble_eq_true rfl) dX8_isColumn_6 (fun r_2 g_1 H locs h S => ?_)
  obtain ⟨hz, h⟩ := h
  exact kRz C S hz h dX8_isColumn_9
/-! ClawCaseModel.layHand()V, height 0 -/
theorem m_X8_layHand_1 : Cond.fieldLink RX8 44 "ClawCaseModel" "hand" "[I" ∈ wsX8_layHand := List.mem_of_getElem? (i := 1) (by decide +kernel)
theorem n_X8_layHand_X8 : ∀ w ∈ wsX80, w ∈ wsX8_layHand := mem_by [3, 4, 5, 6, 7, 8, 9, 10, 11, 12, 13, 14, 15, 16, 17, 18, 19, 20, 21, 22, 23, 24, 25, 26] (by decide +kernel)
theorem m_X8_layHand_2 : Cond.fieldLink RX8 7 "ClawCaseModel" "now" "[I" ∈ wsX8_layHand := List.mem_of_getElem? (i := 2) (by decide +kernel)
def o_X8_layHand_2 (Q : Mm → Prop) : Nat → Mm → Int32 → Prop
  | 0, _, _ => False
  | n2 + 1, g, x1 => ((33 ≤ x1) → Q g) ∧ ((¬ 33 ≤ x1) → vp_in x1 33 ∧ (vp_in x1 33 ∧ (∀ g_1 : Mm, g_1 = mset g 98 x1.toNatClampNeg (g.1 87 x1.toNatClampNeg) → (∀ x_2 : Int32, x_2 = x1 + 1 → (o_X8_layHand_2 Q n2 g_1 x_2)))))
set_option maxHeartbeats 4000000 in
set_option maxRecDepth 100000 in
theorem o_X8_layHand_2_w {p : Program} {l : Launch} {e : Env} {s : State} {m : MethodId} {args : Array Value} {below : List Frame} {meth : Method} {c : Code} {dC : Nat → ClassId} {dI : Nat → Nat → Nat} {cy : Nat → ClassId} {ad tz : Nat → Nat} {Q : Mm → Prop} (C : CX p s m args meth c dC dI cy ad tz cX8_layHand 2 none RX8 wsX8_layHand) : ∀ (n : Nat) (g : Mm) (x1 : Int32) (H : Heap) (locs : List Loc) (ls : Array Slot), St dC dI cy ad s g H locs → lv_has ls 2 [(0, .ref (ad 86)), (1, .int x1)] → o_X8_layHand_2 Q n g x1 → W p l e (rmD 0) s m args below meth c H locs 0 0 (QV dC dI cy ad below args s Q) (F0 m 2 ls []) := by
  have hx := C.1.1
  have hb := C.1.2.1
  intro n2
  induction n2 with
  | zero => intro g x1 H locs ls S hl h; exact h.elim
  | succ n2 ih =>
    intro g x1 H locs ls S hl h
    have h : ((33 ≤ x1) → Q g) ∧ ((¬ 33 ≤ x1) → vp_in x1 33 ∧ (vp_in x1 33 ∧ (∀ g_1 : Mm, g_1 = mset g 98 x1.toNatClampNeg (g.1 87 x1.toNatClampNeg) → (∀ x_2 : Int32, x_2 = x1 + 1 → (o_X8_layHand_2 Q n2 g_1 x_2))))) := h
    refine lv_iload_n hx hb dX8_layHand_2 rfl (lv_at hl 1 rfl) ?_
    refine lv_bipush (v := 33) hx hb dX8_layHand_3 (by decide) ?_
    refine lv_icmp_ge (tgt := 26) hx hb dX8_layHand_5 (by decide) (fun c1 => ?_) (fun c1 => ?_)
    · have h := h.1 c1
      exact kRv C S h dX8_layHand_26
    · have h := h.2 c1
      refine lv_aload_n hx hb dX8_layHand_8 rfl (lv_at hl 0 rfl) ?_
      refine kg8 (k := 19) (v := .ref (ad 98)) C S rfl (by decide) n_X8_layHand_X8 m_X8_layHand_1 rfl dX8_layHand_9 ?_
      refine lv_iload_n hx hb dX8_layHand_12 rfl (lv_at hl 1 rfl) ?_
      refine lv_aload_n hx hb dX8_layHand_13 rfl (lv_at hl 0 rfl) ?_
      refine kg8 (k := 0) (v := .ref (ad 87)) C S rfl (by decide) n_X8_layHand_X8 m_X8_layHand_2 rfl dX8_layHand_14 ?_
      refine lv_iload_n hx hb dX8_layHand_17 rfl (lv_at hl 1 rfl) ?_
      obtain ⟨hi, h⟩ := h
      refine kLi C S rfl rfl hi dX8_layHand_18 ?_
      obtain ⟨hi, h⟩ := h
      refine kSi C S rfl rfl hi dX8_layHand_19 (fun g_1 H locs eg_1 S => ?_)
      have h := h g_1 eg_1
      obtain ⟨x_2, ex_2⟩ : ∃ y : Int32, y = x1 + 1 := ⟨_, rfl⟩
      have h := h x_2 ex_2
      refine lv_iinc (v := x_2) (lv' := [(1, .int x_2), (0, .ref (ad 86))]) hx hb dX8_layHand_20 hl (k := 1) rfl (by rw [ex_2]; rfl) (by decide) rfl (fun ls hl => ?_)
      refine lv_goto (tgt := 2) hx hb dX8_layHand_23 (by decide) ?_
      exact ih g_1 x_2 _ _ _ S (lv_sub hl [1, 0] rfl) h
def o_X8_layHand (Q : Mm → Prop) (g : Mm) : Prop := ∃ n2, o_X8_layHand_2 Q n2 g 0
set_option maxHeartbeats 4000000 in
set_option maxRecDepth 100000 in
theorem o_X8_layHand_c {l : Launch} {dC : Nat → ClassId} {dI : Nat → Nat → Nat} {cy : Nat → ClassId} {ad tz : Nat → Nat} {Q : Mm → Prop} {g : Mm} (h : o_X8_layHand Q g) : CV l dC dI cy ad tz yX8_layHand wsX8_layHand (rmD 0) [.ref (ad 86)] g Q := by
  refine CV.of (by decide) rfl rfl (Nat.le_of_ble_eq_true rfl) ?_
  intro p e s m args below meth c ls C hl S
  have hl : lv_has ls 2 [(0, .ref (ad 86))] := hl
  have hx := C.1.1
  have hb := C.1.2.1
  unfold o_X8_layHand at h
  refine lv_iconst (v := 0) hx hb dX8_layHand_0 (by decide) ?_
  refine lv_istore_n (lv' := [(1, .int 0), (0, .ref (ad 86))]) hx hb dX8_layHand_1 rfl hl (by decide) rfl (fun ls hl => ?_)
  obtain ⟨n2, h⟩ := h
  refine o_X8_layHand_2_w C n2 g 0 _ _ _ S (lv_sub hl [1, 0] rfl) h
/-! ClawCaseModel.chance(IIIII)I, height 3 -/
theorem m_X8_chance_3 : Cond.constant RX8 71 (-1000001) ∈ wsX8_chance := List.mem_of_getElem? (i := 3) (by decide +kernel)
theorem m_X8_chance_1 : Cond.constantLong RX8 233 (8) ∈ wsX8_chance := List.mem_of_getElem? (i := 1) (by decide +kernel)
theorem m_X8_chance_2 : Cond.constantLong RX8 235 (10) ∈ wsX8_chance := List.mem_of_getElem? (i := 2) (by decide +kernel)
theorem m_X8_chance_4 : Cond.fieldLink RX8 44 "ClawCaseModel" "hand" "[I" ∈ wsX8_chance := List.mem_of_getElem? (i := 4) (by decide +kernel)
theorem n_X8_chance_X8 : ∀ w ∈ wsX80, w ∈ wsX8_chance := mem_by [59, 60, 61, 62, 63, 64, 65, 66, 67, 68, 69, 70, 71, 72, 73, 74, 75, 76, 77, 78, 79, 80, 81, 82] (by decide +kernel)
theorem m_X8_chance_5 : Cond.fieldLink RX8 7 "ClawCaseModel" "now" "[I" ∈ wsX8_chance := List.mem_of_getElem? (i := 5) (by decide +kernel)
theorem cw_X8_chance_X8_goPlay {s : State} {args : Array Value} (ht : ∀ w ∈ wsX8_chance, w.before args s = true) : CallB (rmD 3) s args RX8 172 yX8_goPlay cX8_goPlay 7 (some .int) wsX8_goPlay (rmD (2)) 0 0 3 ∧ (Cond.static yX8_goPlay).before args s = true := va_cwS 3 ht gX8_chance_X8_goPlay rfl rfl rfl (by decide +kernel) ⟨Nat.le_of_ble_eq_true rfl, Nat.le_of_ble_eq_true rfl⟩
theorem cw_X8_chance_X8_has {s : State} {args : Array Value} (ht : ∀ w ∈ wsX8_chance, w.before args s = true) : CallB (rmD 3) s args RX8 237 yX8_has cX8_has 2 (some .boolean) wsX8_has (rmD (0)) 0 0 2 ∧ (Cond.static yX8_has).before args s = true := va_cwS 2 ht gX8_chance_X8_has rfl rfl rfl (by decide +kernel) ⟨Nat.le_of_ble_eq_true rfl, Nat.le_of_ble_eq_true rfl⟩
theorem cw_X8_chance_X8_layHand {s : State} {args : Array Value} (ht : ∀ w ∈ wsX8_chance, w.before args s = true) : CallW (rmD 3) s args RX8 RX8 197 yX8_layHand cX8_layHand 2 none wsX8_layHand (rmD (0)) 0 0 0 := cwV 0 ht gX8_chance_X8_layHand rfl rfl rfl (by decide +kernel) ⟨Nat.le_of_ble_eq_true rfl, Nat.le_of_ble_eq_true rfl⟩
theorem m_X8_chance_7 : Cond.fieldLink RX8 47 "ClawCaseModel" "below" "J" ∈ wsX8_chance := List.mem_of_getElem? (i := 7) (by decide +kernel)
theorem m_X8_chance_6 : Cond.fieldLink RX8 230 "ClawCaseModel" "above" "J" ∈ wsX8_chance := List.mem_of_getElem? (i := 6) (by decide +kernel)
theorem cw_X8_chance_X8_fraction {s : State} {args : Array Value} (ht : ∀ w ∈ wsX8_chance, w.before args s = true) : CallW (rmD 3) s args RX8 RX8 240 yX8_fraction cX8_fraction 11 none wsX8_fraction (rmD (0)) 0 0 2 := cwV 2 ht gX8_chance_X8_fraction rfl rfl rfl (by decide +kernel) ⟨Nat.le_of_ble_eq_true rfl, Nat.le_of_ble_eq_true rfl⟩
theorem cw_X8_chance_X8_in {s : State} {args : Array Value} (ht : ∀ w ∈ wsX8_chance, w.before args s = true) : CallB (rmD 3) s args RX8 61 yX8_in cX8_in 6 (some .boolean) wsX8_in (rmD (0)) 0 0 3 ∧ (Cond.static yX8_in).before args s = true := va_cwS 3 ht gX8_chance_X8_in rfl rfl rfl (by decide +kernel) ⟨Nat.le_of_ble_eq_true rfl, Nat.le_of_ble_eq_true rfl⟩
theorem cw_X8_chance_X8_isColumn {s : State} {args : Array Value} (ht : ∀ w ∈ wsX8_chance, w.before args s = true) : CallB (rmD 3) s args RX8 177 yX8_isColumn cX8_isColumn 1 (some .boolean) wsX8_isColumn (rmD (1)) 0 0 1 ∧ (Cond.static yX8_isColumn).before args s = true := va_cwS 1 ht gX8_chance_X8_isColumn rfl rfl rfl (by decide +kernel) ⟨Nat.le_of_ble_eq_true rfl, Nat.le_of_ble_eq_true rfl⟩
theorem cw_X8_chance_X8_isToy {s : State} {args : Array Value} (ht : ∀ w ∈ wsX8_chance, w.before args s = true) : CallW (rmD 3) s args RX8 RX8 187 yX8_isToy cX8_isToy 2 (some .boolean) wsX8_isToy (rmD (1)) 0 0 1 := cwV 1 ht gX8_chance_X8_isToy rfl rfl rfl (by decide +kernel) ⟨Nat.le_of_ble_eq_true rfl, Nat.le_of_ble_eq_true rfl⟩
def o_X8_chance_63 (Q : Int32 → Mm → Prop) (K83 : Mm → Int32 → Int32 → Int32 → Int32 → Int32 → Int64 → Int64 → Prop) : Nat → Mm → Int32 → Int32 → Int32 → Int32 → Int32 → Int64 → Int64 → Int32 → Prop
  | 0, _, _, _, _, _, _, _, _, _ => False
  | n63 + 1, g, x1, x2, x3, x4, x5, y6, y8, x10 => ((x3 ≤ x10) → K83 g x1 x2 x3 x4 x5 y6 y8) ∧ ((¬ x3 ≤ x10) → ∀ y_11 : Int64, y_11 = (y8 * 10) → (∀ x_12 : Int32, x_12 = x10 + 1 → (o_X8_chance_63 Q K83 n63 g x1 x2 x3 x4 x5 y6 y_11 x_12)))
def o_X8_chance_169 (Q : Int32 → Mm → Prop) (K104 : Mm → Int32 → Int32 → Int32 → Int32 → Int32 → Int64 → Int64 → Int32 → Int64 → Int32 → Prop) (K180 : Mm → Int32 → Int32 → Int32 → Int32 → Int32 → Int64 → Int64 → Int32 → Int64 → Prop) (g : Mm) (x1 : Int32) (x2 : Int32) (x3 : Int32) (x4 : Int32) (x5 : Int32) (y6 : Int64) (y8 : Int64) (x10 : Int32) (y11 : Int64) (x13 : Int32) (s1 : Int32) (s2 : Int32) : Prop := o_X8_goPlay (fun (r_21 : Int32) (g_20 : Mm) => ∀ x_22 : Int32, x_22 = x13 + 1 → (K104 g_20 x1 x2 x3 x4 x5 y6 y8 x10 y11 x_22)) 98 g s1 s2
def o_X8_chance_134 (Q : Int32 → Mm → Prop) (K104 : Mm → Int32 → Int32 → Int32 → Int32 → Int32 → Int64 → Int64 → Int32 → Int64 → Int32 → Prop) (K180 : Mm → Int32 → Int32 → Int32 → Int32 → Int32 → Int64 → Int64 → Int32 → Int64 → Prop) (g : Mm) (x1 : Int32) (x2 : Int32) (x3 : Int32) (x4 : Int32) (x5 : Int32) (y6 : Int64) (y8 : Int64) (x10 : Int32) (x13 : Int32) (s0 : Int64) (s1 : Int64) : Prop := ∀ y_17 : Int64, y_17 = (s0 * s1) → (o_X8_has (fun (r_19 : Int32) (g_18 : Mm) => ((r_19 = 0) → vp_in 16 33 ∧ (o_X8_chance_169 Q K104 K180 g_18 x1 x2 x3 x4 x5 y6 y8 x10 y_17 x13 x2 (g_18.1 87 (16 : Int32).toNatClampNeg))) ∧ ((¬ r_19 = 0) → vp_in 17 33 ∧ (o_X8_chance_169 Q K104 K180 g_18 x1 x2 x3 x4 x5 y6 y8 x10 y_17 x13 x2 (g_18.1 87 (17 : Int32).toNatClampNeg)))) g x10 x13)
def o_X8_chance_104 (Q : Int32 → Mm → Prop) (K180 : Mm → Int32 → Int32 → Int32 → Int32 → Int32 → Int64 → Int64 → Int32 → Int64 → Prop) : Nat → Mm → Int32 → Int32 → Int32 → Int32 → Int32 → Int64 → Int64 → Int32 → Int64 → Int32 → Prop
  | 0, _, _, _, _, _, _, _, _, _, _, _ => False
  | n104 + 1, g, x1, x2, x3, x4, x5, y6, y8, x10, y11, x13 => ((x3 ≤ x13) → K180 g x1 x2 x3 x4 x5 y6 y8 x10 y11) ∧ ((¬ x3 ≤ x13) → o_X8_has (fun (r_16 : Int32) (g_15 : Mm) => ((r_16 = 0) → o_X8_chance_134 Q (o_X8_chance_104 Q K180 n104) K180 g_15 x1 x2 x3 x4 x5 y6 y8 x10 x13 y11 ((10 - x4 : Int32).toInt64)) ∧ ((¬ r_16 = 0) → o_X8_chance_134 Q (o_X8_chance_104 Q K180 n104) K180 g_15 x1 x2 x3 x4 x5 y6 y8 x10 x13 y11 ((x4 : Int32).toInt64))) g x10 x13)
def o_X8_chance_200 (Q : Int32 → Mm → Prop) (K86 : Mm → Int32 → Int32 → Int32 → Int32 → Int32 → Int64 → Int64 → Int32 → Prop) (K209 : Mm → Int32 → Int64 → Int64 → Prop) (g : Mm) (x1 : Int32) (x2 : Int32) (x3 : Int32) (x4 : Int32) (x5 : Int32) (y8 : Int64) (x10 : Int32) (s0 : Int64) (s1 : Int64) : Prop := ∀ y_23 : Int64, y_23 = (s0 + s1) → (∀ x_24 : Int32, x_24 = x10 + 1 → (K86 g x1 x2 x3 x4 x5 y_23 y8 x_24))
def o_X8_chance_86 (Q : Int32 → Mm → Prop) (K209 : Mm → Int32 → Int64 → Int64 → Prop) : Nat → Mm → Int32 → Int32 → Int32 → Int32 → Int32 → Int64 → Int64 → Int32 → Prop
  | 0, _, _, _, _, _, _, _, _, _ => False
  | n86 + 1, g, x1, x2, x3, x4, x5, y6, y8, x10 => (((1 <<< (x3 &&& 31)) ≤ x10) → K209 g x5 y6 y8) ∧ ((¬ (1 <<< (x3 &&& 31)) ≤ x10) → o_X8_layHand (fun (g_13 : Mm) => ∃ n104, o_X8_chance_104 Q (fun (g : Mm) (x1 : Int32) (x2 : Int32) (x3 : Int32) (x4 : Int32) (x5 : Int32) (y6 : Int64) (y8 : Int64) (x10 : Int32) (y11 : Int64) => vp_in (19 + x1) 33 ∧ (((¬ (g.1 98 (19 + x1 : Int32).toNatClampNeg) = 0) → o_X8_chance_200 Q (o_X8_chance_86 Q K209 n86) K209 g x1 x2 x3 x4 x5 y8 x10 y6 0) ∧ (((g.1 98 (19 + x1 : Int32).toNatClampNeg) = 0) → o_X8_chance_200 Q (o_X8_chance_86 Q K209 n86) K209 g x1 x2 x3 x4 x5 y8 x10 y6 y11))) n104 g_13 x1 x2 x3 x4 x5 y6 y8 x10 1 0) g)
set_option maxHeartbeats 4000000 in
set_option maxRecDepth 100000 in
theorem o_X8_chance_63_w {p : Program} {l : Launch} {e : Env} {s : State} {m : MethodId} {args : Array Value} {below : List Frame} {meth : Method} {c : Code} {dC : Nat → ClassId} {dI : Nat → Nat → Nat} {cy : Nat → ClassId} {ad tz : Nat → Nat} {Q : Int32 → Mm → Prop} {K83 : Mm → Int32 → Int32 → Int32 → Int32 → Int32 → Int64 → Int64 → Prop} (C : CX p s m args meth c dC dI cy ad tz cX8_chance 15 (some .int) RX8 wsX8_chance) (hK83 : ∀ (g : Mm) (x1 : Int32) (x2 : Int32) (x3 : Int32) (x4 : Int32) (x5 : Int32) (y6 : Int64) (y8 : Int64) (H : Heap) (locs : List Loc) (ls : Array Slot), St dC dI cy ad s g H locs → lv_has ls 15 [(0, .ref (ad 86)), (1, .int x1), (2, .int x2), (3, .int x3), (4, .int x4), (5, .int x5), (6, .long y6), (8, .long y8)] → K83 g x1 x2 x3 x4 x5 y6 y8 → W p l e (rmD 3) s m args below meth c H locs 0 0 (QI dC dI cy ad below args s Q) (F0 m 83 ls [])) : ∀ (n : Nat) (g : Mm) (x1 : Int32) (x2 : Int32) (x3 : Int32) (x4 : Int32) (x5 : Int32) (y6 : Int64) (y8 : Int64) (x10 : Int32) (H : Heap) (locs : List Loc) (ls : Array Slot), St dC dI cy ad s g H locs → lv_has ls 15 [(0, .ref (ad 86)), (1, .int x1), (2, .int x2), (3, .int x3), (4, .int x4), (5, .int x5), (6, .long y6), (8, .long y8), (10, .int x10)] → o_X8_chance_63 Q K83 n g x1 x2 x3 x4 x5 y6 y8 x10 → W p l e (rmD 3) s m args below meth c H locs 0 0 (QI dC dI cy ad below args s Q) (F0 m 63 ls []) := by
  have hx := C.1.1
  have hb := C.1.2.1
  intro n63
  induction n63 with
  | zero => intro g x1 x2 x3 x4 x5 y6 y8 x10 H locs ls S hl h; exact h.elim
  | succ n63 ih =>
    intro g x1 x2 x3 x4 x5 y6 y8 x10 H locs ls S hl h
    have h : ((x3 ≤ x10) → K83 g x1 x2 x3 x4 x5 y6 y8) ∧ ((¬ x3 ≤ x10) → ∀ y_11 : Int64, y_11 = (y8 * 10) → (∀ x_12 : Int32, x_12 = x10 + 1 → (o_X8_chance_63 Q K83 n63 g x1 x2 x3 x4 x5 y6 y_11 x_12))) := h
    refine lv_iload hx hb dX8_chance_63 (lv_at hl 8 rfl) ?_
    refine lv_iload_n hx hb dX8_chance_65 rfl (lv_at hl 3 rfl) ?_
    refine lv_icmp_ge (tgt := 83) hx hb dX8_chance_66 (by decide) (fun c1 => ?_) (fun c1 => ?_)
    · have h := h.1 c1
      exact hK83 g x1 x2 x3 x4 x5 y6 y8 _ _ _ S (lv_sub hl [0, 1, 2, 3, 4, 5, 6, 7] rfl) h
    · have h := h.2 c1
      refine lv_lload hx hb dX8_chance_69 (lv_at hl 7 rfl) ?_
      refine kLdc2 C m_X8_chance_2 dX8_chance_71 ?_
      refine lv_lmul hx hb dX8_chance_74 ?_
      refine lv_topl (fun y_11 ey_11 => ?_)
      have h := h y_11 ey_11
      refine lv_lstore (lv' := [(8, .long y_11), (0, .ref (ad 86)), (1, .int x1), (2, .int x2), (3, .int x3), (4, .int x4), (5, .int x5), (6, .long y6), (10, .int x10)]) hx hb dX8_chance_75 hl (by decide) rfl (fun ls hl => ?_)
      obtain ⟨x_12, ex_12⟩ : ∃ y : Int32, y = x10 + 1 := ⟨_, rfl⟩
      have h := h x_12 ex_12
      refine lv_iinc (v := x_12) (lv' := [(10, .int x_12), (8, .long y_11), (0, .ref (ad 86)), (1, .int x1), (2, .int x2), (3, .int x3), (4, .int x4), (5, .int x5), (6, .long y6)]) hx hb dX8_chance_77 hl (k := 8) rfl (by rw [ex_12]; rfl) (by decide) rfl (fun ls hl => ?_)
      refine lv_goto (tgt := 63) hx hb dX8_chance_80 (by decide) ?_
      exact ih g x1 x2 x3 x4 x5 y6 y_11 x_12 _ _ _ S (lv_sub hl [2, 3, 4, 5, 6, 7, 8, 1, 0] rfl) h
set_option maxHeartbeats 4000000 in
set_option maxRecDepth 100000 in
theorem o_X8_chance_169_w {p : Program} {l : Launch} {e : Env} {s : State} {m : MethodId} {args : Array Value} {below : List Frame} {meth : Method} {c : Code} {dC : Nat → ClassId} {dI : Nat → Nat → Nat} {cy : Nat → ClassId} {ad tz : Nat → Nat} {Q : Int32 → Mm → Prop} {K104 : Mm → Int32 → Int32 → Int32 → Int32 → Int32 → Int64 → Int64 → Int32 → Int64 → Int32 → Prop} {K180 : Mm → Int32 → Int32 → Int32 → Int32 → Int32 → Int64 → Int64 → Int32 → Int64 → Prop} (C : CX p s m args meth c dC dI cy ad tz cX8_chance 15 (some .int) RX8 wsX8_chance) (hK104 : ∀ (g : Mm) (x1 : Int32) (x2 : Int32) (x3 : Int32) (x4 : Int32) (x5 : Int32) (y6 : Int64) (y8 : Int64) (x10 : Int32) (y11 : Int64) (x13 : Int32) (H : Heap) (locs : List Loc) (ls : Array Slot), St dC dI cy ad s g H locs → lv_has ls 15 [(0, .ref (ad 86)), (1, .int x1), (2, .int x2), (3, .int x3), (4, .int x4), (5, .int x5), (6, .long y6), (8, .long y8), (10, .int x10), (11, .long y11), (13, .int x13)] → K104 g x1 x2 x3 x4 x5 y6 y8 x10 y11 x13 → W p l e (rmD 3) s m args below meth c H locs 0 0 (QI dC dI cy ad below args s Q) (F0 m 104 ls [])) (hK180 : ∀ (g : Mm) (x1 : Int32) (x2 : Int32) (x3 : Int32) (x4 : Int32) (x5 : Int32) (y6 : Int64) (y8 : Int64) (x10 : Int32) (y11 : Int64) (H : Heap) (locs : List Loc) (ls : Array Slot), St dC dI cy ad s g H locs → lv_has ls 15 [(0, .ref (ad 86)), (1, .int x1), (2, .int x2), (3, .int x3), (4, .int x4), (5, .int x5), (6, .long y6), (8, .long y8), (10, .int x10), (11, .long y11)] → K180 g x1 x2 x3 x4 x5 y6 y8 x10 y11 → W p l e (rmD 3) s m args below meth c H locs 0 0 (QI dC dI cy ad below args s Q) (F0 m 180 ls [])) : ∀ (g : Mm) (x1 : Int32) (x2 : Int32) (x3 : Int32) (x4 : Int32) (x5 : Int32) (y6 : Int64) (y8 : Int64) (x10 : Int32) (y11 : Int64) (x13 : Int32) (s1 : Int32) (s2 : Int32) (H : Heap) (locs : List Loc) (ls : Array Slot), St dC dI cy ad s g H locs → lv_has ls 15 [(0, .ref (ad 86)), (1, .int x1), (2, .int x2), (3, .int x3), (4, .int x4), (5, .int x5), (6, .long y6), (8, .long y8), (10, .int x10), (11, .long y11), (13, .int x13)] → o_X8_chance_169 Q K104 K180 g x1 x2 x3 x4 x5 y6 y8 x10 y11 x13 s1 s2 → W p l e (rmD 3) s m args below meth c H locs 0 0 (QI dC dI cy ad below args s Q) (F0 m 169 ls [.int s2, .int s1, .ref (ad 98)]) := by
  have hx := C.1.1
  have hb := C.1.2.1
  intro g x1 x2 x3 x4 x5 y6 y8 x10 y11 x13 s1 s2 H locs ls S hl h
  unfold o_X8_chance_169 at h
  refine kS_i (As := [.ref (ad 98), .int s1, .int s2]) (rest := []) C S hl.1 (o_X8_goPlay_c rfl rfl h) (cw_X8_chance_X8_goPlay C.1.2.2.2.2) rfl rfl (Nat.le_of_ble_eq_true rfl) dX8_chance_169 (fun r_21 g_20 H locs h S => ?_)
  refine lv_istore (lv' := [(14, .int r_21), (0, .ref (ad 86)), (1, .int x1), (2, .int x2), (3, .int x3), (4, .int x4), (5, .int x5), (6, .long y6), (8, .long y8), (10, .int x10), (11, .long y11), (13, .int x13)]) hx hb dX8_chance_172 hl (by decide) rfl (fun ls hl => ?_)
  obtain ⟨x_22, ex_22⟩ : ∃ y : Int32, y = x13 + 1 := ⟨_, rfl⟩
  have h := h x_22 ex_22
  refine lv_iinc (v := x_22) (lv' := [(13, .int x_22), (14, .int r_21), (0, .ref (ad 86)), (1, .int x1), (2, .int x2), (3, .int x3), (4, .int x4), (5, .int x5), (6, .long y6), (8, .long y8), (10, .int x10), (11, .long y11)]) hx hb dX8_chance_174 hl (k := 11) rfl (by rw [ex_22]; rfl) (by decide) rfl (fun ls hl => ?_)
  refine lv_goto (tgt := 104) hx hb dX8_chance_177 (by decide) ?_
  exact hK104 g_20 x1 x2 x3 x4 x5 y6 y8 x10 y11 x_22 _ _ _ S (lv_sub hl [2, 3, 4, 5, 6, 7, 8, 9, 10, 11, 0] rfl) h
set_option maxHeartbeats 4000000 in
set_option maxRecDepth 100000 in
theorem o_X8_chance_134_w {p : Program} {l : Launch} {e : Env} {s : State} {m : MethodId} {args : Array Value} {below : List Frame} {meth : Method} {c : Code} {dC : Nat → ClassId} {dI : Nat → Nat → Nat} {cy : Nat → ClassId} {ad tz : Nat → Nat} {Q : Int32 → Mm → Prop} {K104 : Mm → Int32 → Int32 → Int32 → Int32 → Int32 → Int64 → Int64 → Int32 → Int64 → Int32 → Prop} {K180 : Mm → Int32 → Int32 → Int32 → Int32 → Int32 → Int64 → Int64 → Int32 → Int64 → Prop} (C : CX p s m args meth c dC dI cy ad tz cX8_chance 15 (some .int) RX8 wsX8_chance) (hK104 : ∀ (g : Mm) (x1 : Int32) (x2 : Int32) (x3 : Int32) (x4 : Int32) (x5 : Int32) (y6 : Int64) (y8 : Int64) (x10 : Int32) (y11 : Int64) (x13 : Int32) (H : Heap) (locs : List Loc) (ls : Array Slot), St dC dI cy ad s g H locs → lv_has ls 15 [(0, .ref (ad 86)), (1, .int x1), (2, .int x2), (3, .int x3), (4, .int x4), (5, .int x5), (6, .long y6), (8, .long y8), (10, .int x10), (11, .long y11), (13, .int x13)] → K104 g x1 x2 x3 x4 x5 y6 y8 x10 y11 x13 → W p l e (rmD 3) s m args below meth c H locs 0 0 (QI dC dI cy ad below args s Q) (F0 m 104 ls [])) (hK180 : ∀ (g : Mm) (x1 : Int32) (x2 : Int32) (x3 : Int32) (x4 : Int32) (x5 : Int32) (y6 : Int64) (y8 : Int64) (x10 : Int32) (y11 : Int64) (H : Heap) (locs : List Loc) (ls : Array Slot), St dC dI cy ad s g H locs → lv_has ls 15 [(0, .ref (ad 86)), (1, .int x1), (2, .int x2), (3, .int x3), (4, .int x4), (5, .int x5), (6, .long y6), (8, .long y8), (10, .int x10), (11, .long y11)] → K180 g x1 x2 x3 x4 x5 y6 y8 x10 y11 → W p l e (rmD 3) s m args below meth c H locs 0 0 (QI dC dI cy ad below args s Q) (F0 m 180 ls [])) : ∀ (g : Mm) (x1 : Int32) (x2 : Int32) (x3 : Int32) (x4 : Int32) (x5 : Int32) (y6 : Int64) (y8 : Int64) (x10 : Int32) (x13 : Int32) (s0 : Int64) (s1 : Int64) (H : Heap) (locs : List Loc) (ls : Array Slot), St dC dI cy ad s g H locs → lv_has ls 15 [(0, .ref (ad 86)), (1, .int x1), (2, .int x2), (3, .int x3), (4, .int x4), (5, .int x5), (6, .long y6), (8, .long y8), (10, .int x10), (13, .int x13)] → o_X8_chance_134 Q K104 K180 g x1 x2 x3 x4 x5 y6 y8 x10 x13 s0 s1 → W p l e (rmD 3) s m args below meth c H locs 0 0 (QI dC dI cy ad below args s Q) (F0 m 134 ls [.long s1, .long s0]) := by
  have hx := C.1.1
  have hb := C.1.2.1
  intro g x1 x2 x3 x4 x5 y6 y8 x10 x13 s0 s1 H locs ls S hl h
  unfold o_X8_chance_134 at h
  refine lv_lmul hx hb dX8_chance_134 ?_
  refine lv_topl (fun y_17 ey_17 => ?_)
  have h := h y_17 ey_17
  refine lv_lstore (lv' := [(11, .long y_17), (0, .ref (ad 86)), (1, .int x1), (2, .int x2), (3, .int x3), (4, .int x4), (5, .int x5), (6, .long y6), (8, .long y8), (10, .int x10), (13, .int x13)]) hx hb dX8_chance_135 hl (by decide) rfl (fun ls hl => ?_)
  refine lv_aload_n hx hb dX8_chance_137 rfl (lv_at hl 1 rfl) ?_
  refine kg8 (k := 19) (v := .ref (ad 98)) C S rfl (by decide) n_X8_chance_X8 m_X8_chance_4 rfl dX8_chance_138 ?_
  refine lv_iload_n hx hb dX8_chance_141 rfl (lv_at hl 3 rfl) ?_
  refine lv_iload hx hb dX8_chance_142 (lv_at hl 9 rfl) ?_
  refine lv_iload hx hb dX8_chance_144 (lv_at hl 10 rfl) ?_
  refine kS_i (As := [.int x10, .int x13]) (rest := [.int x2, .ref (ad 98)]) C S hl.1 (o_X8_has_c h) (cw_X8_chance_X8_has C.1.2.2.2.2) rfl rfl (Nat.le_of_ble_eq_true rfl) dX8_chance_146 (fun r_19 g_18 H locs h S => ?_)
  refine lv_if_eq (tgt := 162) hx hb dX8_chance_149 (by decide) (fun c1 => ?_) (fun c1 => ?_)
  · have h := h.1 c1
    refine lv_aload_n hx hb dX8_chance_162 rfl (lv_at hl 1 rfl) ?_
    refine kg8 (k := 0) (v := .ref (ad 87)) C S rfl (by decide) n_X8_chance_X8 m_X8_chance_5 rfl dX8_chance_163 ?_
    refine lv_bipush (v := 16) hx hb dX8_chance_166 (by decide) ?_
    obtain ⟨hi, h⟩ := h
    refine kLi C S rfl rfl hi dX8_chance_168 ?_
    exact o_X8_chance_169_w C hK104 hK180 g_18 x1 x2 x3 x4 x5 y6 y8 x10 y_17 x13 x2 (g_18.1 87 (16 : Int32).toNatClampNeg) _ _ _ S (lv_sub hl [1, 2, 3, 4, 5, 6, 7, 8, 9, 0, 10] rfl) h
  · have h := h.2 c1
    refine lv_aload_n hx hb dX8_chance_152 rfl (lv_at hl 1 rfl) ?_
    refine kg8 (k := 0) (v := .ref (ad 87)) C S rfl (by decide) n_X8_chance_X8 m_X8_chance_5 rfl dX8_chance_153 ?_
    refine lv_bipush (v := 17) hx hb dX8_chance_156 (by decide) ?_
    obtain ⟨hi, h⟩ := h
    refine kLi C S rfl rfl hi dX8_chance_158 ?_
    refine lv_goto (tgt := 169) hx hb dX8_chance_159 (by decide) ?_
    exact o_X8_chance_169_w C hK104 hK180 g_18 x1 x2 x3 x4 x5 y6 y8 x10 y_17 x13 x2 (g_18.1 87 (17 : Int32).toNatClampNeg) _ _ _ S (lv_sub hl [1, 2, 3, 4, 5, 6, 7, 8, 9, 0, 10] rfl) h
set_option maxHeartbeats 4000000 in
set_option maxRecDepth 100000 in
theorem o_X8_chance_104_w {p : Program} {l : Launch} {e : Env} {s : State} {m : MethodId} {args : Array Value} {below : List Frame} {meth : Method} {c : Code} {dC : Nat → ClassId} {dI : Nat → Nat → Nat} {cy : Nat → ClassId} {ad tz : Nat → Nat} {Q : Int32 → Mm → Prop} {K180 : Mm → Int32 → Int32 → Int32 → Int32 → Int32 → Int64 → Int64 → Int32 → Int64 → Prop} (C : CX p s m args meth c dC dI cy ad tz cX8_chance 15 (some .int) RX8 wsX8_chance) (hK180 : ∀ (g : Mm) (x1 : Int32) (x2 : Int32) (x3 : Int32) (x4 : Int32) (x5 : Int32) (y6 : Int64) (y8 : Int64) (x10 : Int32) (y11 : Int64) (H : Heap) (locs : List Loc) (ls : Array Slot), St dC dI cy ad s g H locs → lv_has ls 15 [(0, .ref (ad 86)), (1, .int x1), (2, .int x2), (3, .int x3), (4, .int x4), (5, .int x5), (6, .long y6), (8, .long y8), (10, .int x10), (11, .long y11)] → K180 g x1 x2 x3 x4 x5 y6 y8 x10 y11 → W p l e (rmD 3) s m args below meth c H locs 0 0 (QI dC dI cy ad below args s Q) (F0 m 180 ls [])) : ∀ (n : Nat) (g : Mm) (x1 : Int32) (x2 : Int32) (x3 : Int32) (x4 : Int32) (x5 : Int32) (y6 : Int64) (y8 : Int64) (x10 : Int32) (y11 : Int64) (x13 : Int32) (H : Heap) (locs : List Loc) (ls : Array Slot), St dC dI cy ad s g H locs → lv_has ls 15 [(0, .ref (ad 86)), (1, .int x1), (2, .int x2), (3, .int x3), (4, .int x4), (5, .int x5), (6, .long y6), (8, .long y8), (10, .int x10), (11, .long y11), (13, .int x13)] → o_X8_chance_104 Q K180 n g x1 x2 x3 x4 x5 y6 y8 x10 y11 x13 → W p l e (rmD 3) s m args below meth c H locs 0 0 (QI dC dI cy ad below args s Q) (F0 m 104 ls []) := by
  have hx := C.1.1
  have hb := C.1.2.1
  intro n104
  induction n104 with
  | zero => intro g x1 x2 x3 x4 x5 y6 y8 x10 y11 x13 H locs ls S hl h; exact h.elim
  | succ n104 ih =>
    intro g x1 x2 x3 x4 x5 y6 y8 x10 y11 x13 H locs ls S hl h
    have h : ((x3 ≤ x13) → K180 g x1 x2 x3 x4 x5 y6 y8 x10 y11) ∧ ((¬ x3 ≤ x13) → o_X8_has (fun (r_16 : Int32) (g_15 : Mm) => ((r_16 = 0) → o_X8_chance_134 Q (o_X8_chance_104 Q K180 n104) K180 g_15 x1 x2 x3 x4 x5 y6 y8 x10 x13 y11 ((10 - x4 : Int32).toInt64)) ∧ ((¬ r_16 = 0) → o_X8_chance_134 Q (o_X8_chance_104 Q K180 n104) K180 g_15 x1 x2 x3 x4 x5 y6 y8 x10 x13 y11 ((x4 : Int32).toInt64))) g x10 x13) := h
    refine lv_iload hx hb dX8_chance_104 (lv_at hl 10 rfl) ?_
    refine lv_iload_n hx hb dX8_chance_106 rfl (lv_at hl 3 rfl) ?_
    refine lv_icmp_ge (tgt := 180) hx hb dX8_chance_107 (by decide) (fun c1 => ?_) (fun c1 => ?_)
    · have h := h.1 c1
      exact hK180 g x1 x2 x3 x4 x5 y6 y8 x10 y11 _ _ _ S (lv_sub hl [0, 1, 2, 3, 4, 5, 6, 7, 8, 9] rfl) h
    · have h := h.2 c1
      refine lv_lload hx hb dX8_chance_110 (lv_at hl 9 rfl) ?_
      refine lv_iload hx hb dX8_chance_112 (lv_at hl 8 rfl) ?_
      refine lv_iload hx hb dX8_chance_114 (lv_at hl 10 rfl) ?_
      refine kS_i (As := [.int x10, .int x13]) (rest := [.long y11]) C S hl.1 (o_X8_has_c h) (cw_X8_chance_X8_has C.1.2.2.2.2) rfl rfl (Nat.le_of_ble_eq_true rfl) dX8_chance_116 (fun r_16 g_15 H locs h S => ?_)
      refine lv_if_eq (tgt := 128) hx hb dX8_chance_119 (by decide) (fun c1 => ?_) (fun c1 => ?_)
      · have h := h.1 c1
        refine lv_bipush (v := 10) hx hb dX8_chance_128 (by decide) ?_
        refine lv_iload hx hb dX8_chance_130 (lv_at hl 4 rfl) ?_
        refine lv_isub hx hb dX8_chance_132 ?_
        refine lv_i2l hx hb dX8_chance_133 rfl ?_
        exact o_X8_chance_134_w C ih hK180 g_15 x1 x2 x3 x4 x5 y6 y8 x10 x13 y11 ((10 - x4 : Int32).toInt64) _ _ _ S (lv_sub hl [0, 1, 2, 3, 4, 5, 6, 7, 8, 10] rfl) h
      · have h := h.2 c1
        refine lv_iload hx hb dX8_chance_122 (lv_at hl 4 rfl) ?_
        refine lv_i2l hx hb dX8_chance_124 rfl ?_
        refine lv_goto (tgt := 134) hx hb dX8_chance_125 (by decide) ?_
        exact o_X8_chance_134_w C ih hK180 g_15 x1 x2 x3 x4 x5 y6 y8 x10 x13 y11 ((x4 : Int32).toInt64) _ _ _ S (lv_sub hl [0, 1, 2, 3, 4, 5, 6, 7, 8, 10] rfl) h
set_option maxHeartbeats 4000000 in
set_option maxRecDepth 100000 in
theorem o_X8_chance_200_w {p : Program} {l : Launch} {e : Env} {s : State} {m : MethodId} {args : Array Value} {below : List Frame} {meth : Method} {c : Code} {dC : Nat → ClassId} {dI : Nat → Nat → Nat} {cy : Nat → ClassId} {ad tz : Nat → Nat} {Q : Int32 → Mm → Prop} {K86 : Mm → Int32 → Int32 → Int32 → Int32 → Int32 → Int64 → Int64 → Int32 → Prop} {K209 : Mm → Int32 → Int64 → Int64 → Prop} (C : CX p s m args meth c dC dI cy ad tz cX8_chance 15 (some .int) RX8 wsX8_chance) (hK86 : ∀ (g : Mm) (x1 : Int32) (x2 : Int32) (x3 : Int32) (x4 : Int32) (x5 : Int32) (y6 : Int64) (y8 : Int64) (x10 : Int32) (H : Heap) (locs : List Loc) (ls : Array Slot), St dC dI cy ad s g H locs → lv_has ls 15 [(0, .ref (ad 86)), (1, .int x1), (2, .int x2), (3, .int x3), (4, .int x4), (5, .int x5), (6, .long y6), (8, .long y8), (10, .int x10)] → K86 g x1 x2 x3 x4 x5 y6 y8 x10 → W p l e (rmD 3) s m args below meth c H locs 0 0 (QI dC dI cy ad below args s Q) (F0 m 86 ls [])) (hK209 : ∀ (g : Mm) (x5 : Int32) (y6 : Int64) (y8 : Int64) (H : Heap) (locs : List Loc) (ls : Array Slot), St dC dI cy ad s g H locs → lv_has ls 15 [(0, .ref (ad 86)), (5, .int x5), (6, .long y6), (8, .long y8)] → K209 g x5 y6 y8 → W p l e (rmD 3) s m args below meth c H locs 0 0 (QI dC dI cy ad below args s Q) (F0 m 209 ls [])) : ∀ (g : Mm) (x1 : Int32) (x2 : Int32) (x3 : Int32) (x4 : Int32) (x5 : Int32) (y8 : Int64) (x10 : Int32) (s0 : Int64) (s1 : Int64) (H : Heap) (locs : List Loc) (ls : Array Slot), St dC dI cy ad s g H locs → lv_has ls 15 [(0, .ref (ad 86)), (1, .int x1), (2, .int x2), (3, .int x3), (4, .int x4), (5, .int x5), (8, .long y8), (10, .int x10)] → o_X8_chance_200 Q K86 K209 g x1 x2 x3 x4 x5 y8 x10 s0 s1 → W p l e (rmD 3) s m args below meth c H locs 0 0 (QI dC dI cy ad below args s Q) (F0 m 200 ls [.long s1, .long s0]) := by
  have hx := C.1.1
  have hb := C.1.2.1
  intro g x1 x2 x3 x4 x5 y8 x10 s0 s1 H locs ls S hl h
  unfold o_X8_chance_200 at h
  refine lv_ladd hx hb dX8_chance_200 ?_
  refine lv_topl (fun y_23 ey_23 => ?_)
  have h := h y_23 ey_23
  refine lv_lstore (lv' := [(6, .long y_23), (0, .ref (ad 86)), (1, .int x1), (2, .int x2), (3, .int x3), (4, .int x4), (5, .int x5), (8, .long y8), (10, .int x10)]) hx hb dX8_chance_201 hl (by decide) rfl (fun ls hl => ?_)
  obtain ⟨x_24, ex_24⟩ : ∃ y : Int32, y = x10 + 1 := ⟨_, rfl⟩
  have h := h x_24 ex_24
  refine lv_iinc (v := x_24) (lv' := [(10, .int x_24), (6, .long y_23), (0, .ref (ad 86)), (1, .int x1), (2, .int x2), (3, .int x3), (4, .int x4), (5, .int x5), (8, .long y8)]) hx hb dX8_chance_203 hl (k := 8) rfl (by rw [ex_24]; rfl) (by decide) rfl (fun ls hl => ?_)
  refine lv_goto (tgt := 86) hx hb dX8_chance_206 (by decide) ?_
  exact hK86 g x1 x2 x3 x4 x5 y_23 y8 x_24 _ _ _ S (lv_sub hl [2, 3, 4, 5, 6, 7, 1, 8, 0] rfl) h
set_option maxHeartbeats 4000000 in
set_option maxRecDepth 100000 in
theorem o_X8_chance_86_w {p : Program} {l : Launch} {e : Env} {s : State} {m : MethodId} {args : Array Value} {below : List Frame} {meth : Method} {c : Code} {dC : Nat → ClassId} {dI : Nat → Nat → Nat} {cy : Nat → ClassId} {ad tz : Nat → Nat} {Q : Int32 → Mm → Prop} {K209 : Mm → Int32 → Int64 → Int64 → Prop} (C : CX p s m args meth c dC dI cy ad tz cX8_chance 15 (some .int) RX8 wsX8_chance) (hK209 : ∀ (g : Mm) (x5 : Int32) (y6 : Int64) (y8 : Int64) (H : Heap) (locs : List Loc) (ls : Array Slot), St dC dI cy ad s g H locs → lv_has ls 15 [(0, .ref (ad 86)), (5, .int x5), (6, .long y6), (8, .long y8)] → K209 g x5 y6 y8 → W p l e (rmD 3) s m args below meth c H locs 0 0 (QI dC dI cy ad below args s Q) (F0 m 209 ls [])) : ∀ (n : Nat) (g : Mm) (x1 : Int32) (x2 : Int32) (x3 : Int32) (x4 : Int32) (x5 : Int32) (y6 : Int64) (y8 : Int64) (x10 : Int32) (H : Heap) (locs : List Loc) (ls : Array Slot), St dC dI cy ad s g H locs → lv_has ls 15 [(0, .ref (ad 86)), (1, .int x1), (2, .int x2), (3, .int x3), (4, .int x4), (5, .int x5), (6, .long y6), (8, .long y8), (10, .int x10)] → o_X8_chance_86 Q K209 n g x1 x2 x3 x4 x5 y6 y8 x10 → W p l e (rmD 3) s m args below meth c H locs 0 0 (QI dC dI cy ad below args s Q) (F0 m 86 ls []) := by
  have hx := C.1.1
  have hb := C.1.2.1
  intro n86
  induction n86 with
  | zero => intro g x1 x2 x3 x4 x5 y6 y8 x10 H locs ls S hl h; exact h.elim
  | succ n86 ih =>
    intro g x1 x2 x3 x4 x5 y6 y8 x10 H locs ls S hl h
    have h : (((1 <<< (x3 &&& 31)) ≤ x10) → K209 g x5 y6 y8) ∧ ((¬ (1 <<< (x3 &&& 31)) ≤ x10) → o_X8_layHand (fun (g_13 : Mm) => ∃ n104, o_X8_chance_104 Q (fun (g : Mm) (x1 : Int32) (x2 : Int32) (x3 : Int32) (x4 : Int32) (x5 : Int32) (y6 : Int64) (y8 : Int64) (x10 : Int32) (y11 : Int64) => vp_in (19 + x1) 33 ∧ (((¬ (g.1 98 (19 + x1 : Int32).toNatClampNeg) = 0) → o_X8_chance_200 Q (o_X8_chance_86 Q K209 n86) K209 g x1 x2 x3 x4 x5 y8 x10 y6 0) ∧ (((g.1 98 (19 + x1 : Int32).toNatClampNeg) = 0) → o_X8_chance_200 Q (o_X8_chance_86 Q K209 n86) K209 g x1 x2 x3 x4 x5 y8 x10 y6 y11))) n104 g_13 x1 x2 x3 x4 x5 y6 y8 x10 1 0) g) := h
    refine lv_iload hx hb dX8_chance_86 (lv_at hl 8 rfl) ?_
    refine lv_iconst (v := 1) hx hb dX8_chance_88 (by decide) ?_
    refine lv_iload_n hx hb dX8_chance_89 rfl (lv_at hl 3 rfl) ?_
    refine lv_ishl hx hb dX8_chance_90 ?_
    refine lv_icmp_ge (tgt := 209) hx hb dX8_chance_91 (by decide) (fun c1 => ?_) (fun c1 => ?_)
    · have h := h.1 c1
      exact hK209 g x5 y6 y8 _ _ _ S (lv_sub hl [0, 5, 6, 7] rfl) h
    · have h := h.2 c1
      refine lv_lconst (v := 1) hx hb dX8_chance_94 (by decide) ?_
      refine lv_lstore (lv' := [(11, .long 1), (0, .ref (ad 86)), (1, .int x1), (2, .int x2), (3, .int x3), (4, .int x4), (5, .int x5), (6, .long y6), (8, .long y8), (10, .int x10)]) hx hb dX8_chance_95 hl (by decide) rfl (fun ls hl => ?_)
      refine lv_aload_n hx hb dX8_chance_97 rfl (lv_at hl 1 rfl) ?_
      refine kV_v (As := []) (rest := []) C S hl.1 (o_X8_layHand_c h) (wd_o8 rfl) rfl (cw_X8_chance_X8_layHand C.1.2.2.2.2) rfl rfl (Nat.le_of_ble_eq_true rfl) dX8_chance_98 (fun g_13 H locs h S => ?_)
      refine lv_iconst (v := 0) hx hb dX8_chance_101 (by decide) ?_
      refine lv_istore (lv' := [(13, .int 0), (11, .long 1), (0, .ref (ad 86)), (1, .int x1), (2, .int x2), (3, .int x3), (4, .int x4), (5, .int x5), (6, .long y6), (8, .long y8), (10, .int x10)]) hx hb dX8_chance_102 hl (by decide) rfl (fun ls hl => ?_)
      obtain ⟨n104, h⟩ := h
      refine o_X8_chance_104_w C ?_ n104 g_13 x1 x2 x3 x4 x5 y6 y8 x10 1 0 _ _ _ S (lv_sub hl [2, 3, 4, 5, 6, 7, 8, 9, 10, 1, 0] rfl) h
      · intro g x1 x2 x3 x4 x5 y6 y8 x10 y11 H locs ls S hl h
        refine lv_lload hx hb dX8_chance_180 (lv_at hl 6 rfl) ?_
        refine lv_aload_n hx hb dX8_chance_182 rfl (lv_at hl 0 rfl) ?_
        refine kg8 (k := 19) (v := .ref (ad 98)) C S rfl (by decide) n_X8_chance_X8 m_X8_chance_4 rfl dX8_chance_183 ?_
        refine lv_bipush (v := 19) hx hb dX8_chance_186 (by decide) ?_
        refine lv_iload_n hx hb dX8_chance_188 rfl (lv_at hl 1 rfl) ?_
        refine lv_iadd hx hb dX8_chance_189 ?_
        obtain ⟨hi, h⟩ := h
        refine kLi C S rfl rfl hi dX8_chance_190 ?_
        refine lv_if_ne (tgt := 199) hx hb dX8_chance_191 (by decide) (fun c1 => ?_) (fun c1 => ?_)
        · have h := h.1 c1
          refine lv_lconst (v := 0) hx hb dX8_chance_199 (by decide) ?_
          exact o_X8_chance_200_w C ih hK209 g x1 x2 x3 x4 x5 y8 x10 y6 0 _ _ _ S (lv_sub hl [0, 1, 2, 3, 4, 5, 7, 8] rfl) h
        · have h := h.2 c1
          refine lv_lload hx hb dX8_chance_194 (lv_at hl 9 rfl) ?_
          refine lv_goto (tgt := 200) hx hb dX8_chance_196 (by decide) ?_
          exact o_X8_chance_200_w C ih hK209 g x1 x2 x3 x4 x5 y8 x10 y6 y11 _ _ _ S (lv_sub hl [0, 1, 2, 3, 4, 5, 7, 8] rfl) h
def o_X8_chance (Q : Int32 → Mm → Prop) (g : Mm) (x1 : Int32) (x2 : Int32) (x3 : Int32) (x4 : Int32) (x5 : Int32) : Prop := o_X8_isToy (fun (r_2 : Int32) (g_1 : Mm) => ((r_2 = 0) → Q (-1000001) g_1) ∧ ((¬ r_2 = 0) → o_X8_isColumn (fun (r_4 : Int32) (g_3 : Mm) => ((r_4 = 0) → Q (-1000001) g_3) ∧ ((¬ r_4 = 0) → o_X8_in (fun (r_6 : Int32) (g_5 : Mm) => ((r_6 = 0) → Q (-1000001) g_5) ∧ ((¬ r_6 = 0) → o_X8_in (fun (r_8 : Int32) (g_7 : Mm) => ((r_8 = 0) → Q (-1000001) g_7) ∧ ((¬ r_8 = 0) → o_X8_in (fun (r_10 : Int32) (g_9 : Mm) => ((¬ r_10 = 0) → ∃ n63, o_X8_chance_63 Q (fun (g : Mm) (x1 : Int32) (x2 : Int32) (x3 : Int32) (x4 : Int32) (x5 : Int32) (y6 : Int64) (y8 : Int64) => ∃ n86, o_X8_chance_86 Q (fun (g : Mm) (x5 : Int32) (y6 : Int64) (y8 : Int64) => o_X8_fraction (fun (g_25 : Mm) => ((¬ x5 = 0) → Q ((g_25.2 1 : Int64).toInt32) g_25) ∧ ((x5 = 0) → Q ((g_25.2 0 : Int64).toInt32) g_25)) g y6 y8) n86 g x1 x2 x3 x4 x5 y6 y8 0) n63 g_9 x1 x2 x3 x4 x5 0 1 0) ∧ ((r_10 = 0) → Q (-1000001) g_9)) g_7 ((x5 : Int32).toInt64) 0 1)) g_5 ((x4 : Int32).toInt64) 0 10)) g_3 ((x3 : Int32).toInt64) 0 8)) g_1 x2)) g x1
set_option maxHeartbeats 4000000 in
set_option maxRecDepth 100000 in
theorem o_X8_chance_c {l : Launch} {dC : Nat → ClassId} {dI : Nat → Nat → Nat} {cy : Nat → ClassId} {ad tz : Nat → Nat} {Q : Int32 → Mm → Prop} {g : Mm} {x1 : Int32} {x2 : Int32} {x3 : Int32} {x4 : Int32} {x5 : Int32} (h : o_X8_chance Q g x1 x2 x3 x4 x5) : CI l dC dI cy ad tz yX8_chance wsX8_chance (rmD 3) [.ref (ad 86), .int x1, .int x2, .int x3, .int x4, .int x5] g Q := by
  refine CI.of (by decide) rfl rfl (Nat.le_of_ble_eq_true rfl) ?_
  intro p e s m args below meth c ls C hl S
  have hl : lv_has ls 15 [(0, .ref (ad 86)), (1, .int x1), (2, .int x2), (3, .int x3), (4, .int x4), (5, .int x5)] := hl
  have hx := C.1.1
  have hb := C.1.2.1
  unfold o_X8_chance at h
  refine lv_aload_n hx hb dX8_chance_0 rfl (lv_at hl 0 rfl) ?_
  refine lv_iload_n hx hb dX8_chance_1 rfl (lv_at hl 1 rfl) ?_
  refine kV_i (As := [.int x1]) (rest := []) C S hl.1 (o_X8_isToy_c h) (wd_o8 rfl) rfl (cw_X8_chance_X8_isToy C.1.2.2.2.2) rfl rfl (Nat.le_of_ble_eq_true rfl) dX8_chance_2 (fun r_2 g_1 H locs h S => ?_)
  refine lv_if_eq (tgt := 51) hx hb dX8_chance_5 (by decide) (fun c1 => ?_) (fun c1 => ?_)
  · have h := h.1 c1
    refine kLdc C m_X8_chance_3 dX8_chance_51 ?_
    exact kRi C S h dX8_chance_53
  · have h := h.2 c1
    refine lv_iload_n hx hb dX8_chance_8 rfl (lv_at hl 2 rfl) ?_
    refine kS_i (As := [.int x2]) (rest := []) C S hl.1 (o_X8_isColumn_c h) (cw_X8_chance_X8_isColumn C.1.2.2.2.2) rfl rfl (Nat.le_of_ble_eq_true rfl) dX8_chance_9 (fun r_4 g_3 H locs h S => ?_)
    refine lv_if_eq (tgt := 51) hx hb dX8_chance_12 (by decide) (fun c1 => ?_) (fun c1 => ?_)
    · have h := h.1 c1
      refine kLdc C m_X8_chance_3 dX8_chance_51 ?_
      exact kRi C S h dX8_chance_53
    · have h := h.2 c1
      refine lv_iload_n hx hb dX8_chance_15 rfl (lv_at hl 3 rfl) ?_
      refine lv_i2l hx hb dX8_chance_16 rfl ?_
      refine lv_lconst (v := 0) hx hb dX8_chance_17 (by decide) ?_
      refine kLdc2 C m_X8_chance_1 dX8_chance_18 ?_
      refine kS_i (As := [.long ((x3 : Int32).toInt64), .long 0, .long 8]) (rest := []) C S hl.1 (o_X8_in_c h) (cw_X8_chance_X8_in C.1.2.2.2.2) rfl rfl (Nat.le_of_ble_eq_true rfl) dX8_chance_21 (fun r_6 g_5 H locs h S => ?_)
      refine lv_if_eq (tgt := 51) hx hb dX8_chance_24 (by decide) (fun c1 => ?_) (fun c1 => ?_)
      · have h := h.1 c1
        refine kLdc C m_X8_chance_3 dX8_chance_51 ?_
        exact kRi C S h dX8_chance_53
      · have h := h.2 c1
        refine lv_iload hx hb dX8_chance_27 (lv_at hl 4 rfl) ?_
        refine lv_i2l hx hb dX8_chance_29 rfl ?_
        refine lv_lconst (v := 0) hx hb dX8_chance_30 (by decide) ?_
        refine kLdc2 C m_X8_chance_2 dX8_chance_31 ?_
        refine kS_i (As := [.long ((x4 : Int32).toInt64), .long 0, .long 10]) (rest := []) C S hl.1 (o_X8_in_c h) (cw_X8_chance_X8_in C.1.2.2.2.2) rfl rfl (Nat.le_of_ble_eq_true rfl) dX8_chance_34 (fun r_8 g_7 H locs h S => ?_)
        refine lv_if_eq (tgt := 51) hx hb dX8_chance_37 (by decide) (fun c1 => ?_) (fun c1 => ?_)
        · have h := h.1 c1
          refine kLdc C m_X8_chance_3 dX8_chance_51 ?_
          exact kRi C S h dX8_chance_53
        · have h := h.2 c1
          refine lv_iload hx hb dX8_chance_40 (lv_at hl 5 rfl) ?_
          refine lv_i2l hx hb dX8_chance_42 rfl ?_
          refine lv_lconst (v := 0) hx hb dX8_chance_43 (by decide) ?_
          refine lv_lconst (v := 1) hx hb dX8_chance_44 (by decide) ?_
          refine kS_i (As := [.long ((x5 : Int32).toInt64), .long 0, .long 1]) (rest := []) C S hl.1 (o_X8_in_c h) (cw_X8_chance_X8_in C.1.2.2.2.2) rfl rfl (Nat.le_of_ble_eq_true rfl) dX8_chance_45 (fun r_10 g_9 H locs h S => ?_)
          refine lv_if_ne (tgt := 54) hx hb dX8_chance_48 (by decide) (fun c1 => ?_) (fun c1 => ?_)
          · have h := h.1 c1
            refine lv_lconst (v := 0) hx hb dX8_chance_54 (by decide) ?_
            refine lv_lstore (lv' := [(6, .long 0), (0, .ref (ad 86)), (1, .int x1), (2, .int x2), (3, .int x3), (4, .int x4), (5, .int x5)]) hx hb dX8_chance_55 hl (by decide) rfl (fun ls hl => ?_)
            refine lv_lconst (v := 1) hx hb dX8_chance_57 (by decide) ?_
            refine lv_lstore (lv' := [(8, .long 1), (6, .long 0), (0, .ref (ad 86)), (1, .int x1), (2, .int x2), (3, .int x3), (4, .int x4), (5, .int x5)]) hx hb dX8_chance_58 hl (by decide) rfl (fun ls hl => ?_)
            refine lv_iconst (v := 0) hx hb dX8_chance_60 (by decide) ?_
            refine lv_istore (lv' := [(10, .int 0), (8, .long 1), (6, .long 0), (0, .ref (ad 86)), (1, .int x1), (2, .int x2), (3, .int x3), (4, .int x4), (5, .int x5)]) hx hb dX8_chance_61 hl (by decide) rfl (fun ls hl => ?_)
            obtain ⟨n63, h⟩ := h
            refine o_X8_chance_63_w C ?_ n63 g_9 x1 x2 x3 x4 x5 0 1 0 _ _ _ S (lv_sub hl [3, 4, 5, 6, 7, 8, 2, 1, 0] rfl) h
            · intro g x1 x2 x3 x4 x5 y6 y8 H locs ls S hl h
              refine lv_iconst (v := 0) hx hb dX8_chance_83 (by decide) ?_
              refine lv_istore (lv' := [(10, .int 0), (0, .ref (ad 86)), (1, .int x1), (2, .int x2), (3, .int x3), (4, .int x4), (5, .int x5), (6, .long y6), (8, .long y8)]) hx hb dX8_chance_84 hl (by decide) rfl (fun ls hl => ?_)
              obtain ⟨n86, h⟩ := h
              refine o_X8_chance_86_w C ?_ n86 g x1 x2 x3 x4 x5 y6 y8 0 _ _ _ S (lv_sub hl [1, 2, 3, 4, 5, 6, 7, 8, 0] rfl) h
              · intro g x5 y6 y8 H locs ls S hl h
                refine lv_aload_n hx hb dX8_chance_209 rfl (lv_at hl 0 rfl) ?_
                refine lv_lload hx hb dX8_chance_210 (lv_at hl 2 rfl) ?_
                refine lv_lload hx hb dX8_chance_212 (lv_at hl 3 rfl) ?_
                refine kV_v (As := [.long y6, .long y8]) (rest := []) C S hl.1 (o_X8_fraction_c h) (wd_o8 rfl) rfl (cw_X8_chance_X8_fraction C.1.2.2.2.2) rfl rfl (Nat.le_of_ble_eq_true rfl) dX8_chance_214 (fun g_25 H locs h S => ?_)
                refine lv_iload hx hb dX8_chance_217 (lv_at hl 1 rfl) ?_
                refine lv_if_ne (tgt := 229) hx hb dX8_chance_219 (by decide) (fun c1 => ?_) (fun c1 => ?_)
                · have h := h.1 c1
                  refine lv_aload_n hx hb dX8_chance_229 rfl (lv_at hl 0 rfl) ?_
                  refine kg8 (k := 21) (v := .long (g_25.2 1)) C S rfl (by decide) n_X8_chance_X8 m_X8_chance_7 rfl dX8_chance_230 ?_
                  refine lv_l2i hx hb dX8_chance_233 rfl ?_
                  exact kRi C S h dX8_chance_234
                · have h := h.2 c1
                  refine lv_aload_n hx hb dX8_chance_222 rfl (lv_at hl 0 rfl) ?_
                  refine kg8 (k := 20) (v := .long (g_25.2 0)) C S rfl (by decide) n_X8_chance_X8 m_X8_chance_6 rfl dX8_chance_223 ?_
                  refine lv_goto (tgt := 233) hx hb dX8_chance_226 (by decide) ?_
                  refine lv_l2i hx hb dX8_chance_233 rfl ?_
                  exact kRi C S h dX8_chance_234
          · have h := h.2 c1
            refine kLdc C m_X8_chance_3 dX8_chance_51 ?_
            exact kRi C S h dX8_chance_53
/-! ClawCaseModel.setIn(I)I, height 1 -/
theorem m_X8_setIn_1 : Cond.fieldLink RX8 7 "ClawCaseModel" "now" "[I" ∈ wsX8_setIn := List.mem_of_getElem? (i := 1) (by decide +kernel)
theorem n_X8_setIn_X8 : ∀ w ∈ wsX80, w ∈ wsX8_setIn := mem_by [7, 8, 9, 10, 11, 12, 13, 14, 15, 16, 17, 18, 19, 20, 21, 22, 23, 24, 25, 26, 27, 28, 29, 30] (by decide +kernel)
theorem cw_X8_setIn_X8_toys {s : State} {args : Array Value} (ht : ∀ w ∈ wsX8_setIn, w.before args s = true) : CallW (rmD 1) s args RX8 RX8 140 yX8_toys cX8_toys 1 (some .int) wsX8_toys (rmD (0)) 0 0 0 := cwV 0 ht gX8_setIn_X8_toys rfl rfl rfl (by decide +kernel) ⟨Nat.le_of_ble_eq_true rfl, Nat.le_of_ble_eq_true rfl⟩
def o_X8_setIn_33 (Q : Int32 → Mm → Prop) (K4 : Mm → Int32 → Int32 → Int32 → Prop) (g : Mm) (x1 : Int32) (x3 : Int32) (s0 : Int32) (s1 : Int32) : Prop := ∀ x_3 : Int32, x_3 = (s0 ||| s1) → (∀ x_4 : Int32, x_4 = x3 + 1 → (K4 g x1 x_3 x_4))
def o_X8_setIn_4 (Q : Int32 → Mm → Prop) : Nat → Mm → Int32 → Int32 → Int32 → Prop
  | 0, _, _, _, _ => False
  | n4 + 1, g, x1, x2, x3 => o_X8_toys (fun (r_2 : Int32) (g_1 : Mm) => ((r_2 ≤ x3) → Q x2 g_1) ∧ ((¬ r_2 ≤ x3) → vp_in (19 + x3) 33 ∧ (((¬ (g_1.1 87 (19 + x3 : Int32).toNatClampNeg) = x1) → o_X8_setIn_33 Q (o_X8_setIn_4 Q n4) g_1 x1 x3 x2 0) ∧ (((g_1.1 87 (19 + x3 : Int32).toNatClampNeg) = x1) → o_X8_setIn_33 Q (o_X8_setIn_4 Q n4) g_1 x1 x3 x2 (1 <<< (x3 &&& 31)))))) g
set_option maxHeartbeats 4000000 in
set_option maxRecDepth 100000 in
theorem o_X8_setIn_33_w {p : Program} {l : Launch} {e : Env} {s : State} {m : MethodId} {args : Array Value} {below : List Frame} {meth : Method} {c : Code} {dC : Nat → ClassId} {dI : Nat → Nat → Nat} {cy : Nat → ClassId} {ad tz : Nat → Nat} {Q : Int32 → Mm → Prop} {K4 : Mm → Int32 → Int32 → Int32 → Prop} (C : CX p s m args meth c dC dI cy ad tz cX8_setIn 4 (some .int) RX8 wsX8_setIn) (hK4 : ∀ (g : Mm) (x1 : Int32) (x2 : Int32) (x3 : Int32) (H : Heap) (locs : List Loc) (ls : Array Slot), St dC dI cy ad s g H locs → lv_has ls 4 [(0, .ref (ad 86)), (1, .int x1), (2, .int x2), (3, .int x3)] → K4 g x1 x2 x3 → W p l e (rmD 1) s m args below meth c H locs 0 0 (QI dC dI cy ad below args s Q) (F0 m 4 ls [])) : ∀ (g : Mm) (x1 : Int32) (x3 : Int32) (s0 : Int32) (s1 : Int32) (H : Heap) (locs : List Loc) (ls : Array Slot), St dC dI cy ad s g H locs → lv_has ls 4 [(0, .ref (ad 86)), (1, .int x1), (3, .int x3)] → o_X8_setIn_33 Q K4 g x1 x3 s0 s1 → W p l e (rmD 1) s m args below meth c H locs 0 0 (QI dC dI cy ad below args s Q) (F0 m 33 ls [.int s1, .int s0]) := by
  have hx := C.1.1
  have hb := C.1.2.1
  intro g x1 x3 s0 s1 H locs ls S hl h
  unfold o_X8_setIn_33 at h
  refine lv_ior hx hb dX8_setIn_33 ?_
  refine lv_topi (fun x_3 ex_3 => ?_)
  have h := h x_3 ex_3
  refine lv_istore_n (lv' := [(2, .int x_3), (0, .ref (ad 86)), (1, .int x1), (3, .int x3)]) hx hb dX8_setIn_34 rfl hl (by decide) rfl (fun ls hl => ?_)
  obtain ⟨x_4, ex_4⟩ : ∃ y : Int32, y = x3 + 1 := ⟨_, rfl⟩
  have h := h x_4 ex_4
  refine lv_iinc (v := x_4) (lv' := [(3, .int x_4), (2, .int x_3), (0, .ref (ad 86)), (1, .int x1)]) hx hb dX8_setIn_35 hl (k := 3) rfl (by rw [ex_4]; rfl) (by decide) rfl (fun ls hl => ?_)
  refine lv_goto (tgt := 4) hx hb dX8_setIn_38 (by decide) ?_
  exact hK4 g x1 x_3 x_4 _ _ _ S (lv_sub hl [2, 3, 1, 0] rfl) h
set_option maxHeartbeats 4000000 in
set_option maxRecDepth 100000 in
theorem o_X8_setIn_4_w {p : Program} {l : Launch} {e : Env} {s : State} {m : MethodId} {args : Array Value} {below : List Frame} {meth : Method} {c : Code} {dC : Nat → ClassId} {dI : Nat → Nat → Nat} {cy : Nat → ClassId} {ad tz : Nat → Nat} {Q : Int32 → Mm → Prop} (C : CX p s m args meth c dC dI cy ad tz cX8_setIn 4 (some .int) RX8 wsX8_setIn) : ∀ (n : Nat) (g : Mm) (x1 : Int32) (x2 : Int32) (x3 : Int32) (H : Heap) (locs : List Loc) (ls : Array Slot), St dC dI cy ad s g H locs → lv_has ls 4 [(0, .ref (ad 86)), (1, .int x1), (2, .int x2), (3, .int x3)] → o_X8_setIn_4 Q n g x1 x2 x3 → W p l e (rmD 1) s m args below meth c H locs 0 0 (QI dC dI cy ad below args s Q) (F0 m 4 ls []) := by
  have hx := C.1.1
  have hb := C.1.2.1
  intro n4
  induction n4 with
  | zero => intro g x1 x2 x3 H locs ls S hl h; exact h.elim
  | succ n4 ih =>
    intro g x1 x2 x3 H locs ls S hl h
    have h : o_X8_toys (fun (r_2 : Int32) (g_1 : Mm) => ((r_2 ≤ x3) → Q x2 g_1) ∧ ((¬ r_2 ≤ x3) → vp_in (19 + x3) 33 ∧ (((¬ (g_1.1 87 (19 + x3 : Int32).toNatClampNeg) = x1) → o_X8_setIn_33 Q (o_X8_setIn_4 Q n4) g_1 x1 x3 x2 0) ∧ (((g_1.1 87 (19 + x3 : Int32).toNatClampNeg) = x1) → o_X8_setIn_33 Q (o_X8_setIn_4 Q n4) g_1 x1 x3 x2 (1 <<< (x3 &&& 31)))))) g := h
    refine lv_iload_n hx hb dX8_setIn_4 rfl (lv_at hl 3 rfl) ?_
    refine lv_aload_n hx hb dX8_setIn_5 rfl (lv_at hl 0 rfl) ?_
    refine kV_i (As := []) (rest := [.int x3]) C S hl.1 (o_X8_toys_c h) (wd_o8 rfl) rfl (cw_X8_setIn_X8_toys C.1.2.2.2.2) rfl rfl (Nat.le_of_ble_eq_true rfl) dX8_setIn_6 (fun r_2 g_1 H locs h S => ?_)
    refine lv_icmp_ge (tgt := 41) hx hb dX8_setIn_9 (by decide) (fun c1 => ?_) (fun c1 => ?_)
    · have h := h.1 c1
      refine lv_iload_n hx hb dX8_setIn_41 rfl (lv_at hl 2 rfl) ?_
      exact kRi C S h dX8_setIn_42
    · have h := h.2 c1
      refine lv_iload_n hx hb dX8_setIn_12 rfl (lv_at hl 2 rfl) ?_
      refine lv_aload_n hx hb dX8_setIn_13 rfl (lv_at hl 0 rfl) ?_
      refine kg8 (k := 0) (v := .ref (ad 87)) C S rfl (by decide) n_X8_setIn_X8 m_X8_setIn_1 rfl dX8_setIn_14 ?_
      refine lv_bipush (v := 19) hx hb dX8_setIn_17 (by decide) ?_
      refine lv_iload_n hx hb dX8_setIn_19 rfl (lv_at hl 3 rfl) ?_
      refine lv_iadd hx hb dX8_setIn_20 ?_
      obtain ⟨hi, h⟩ := h
      refine kLi C S rfl rfl hi dX8_setIn_21 ?_
      refine lv_iload_n hx hb dX8_setIn_22 rfl (lv_at hl 1 rfl) ?_
      refine lv_icmp_ne (tgt := 32) hx hb dX8_setIn_23 (by decide) (fun c1 => ?_) (fun c1 => ?_)
      · have h := h.1 c1
        refine lv_iconst (v := 0) hx hb dX8_setIn_32 (by decide) ?_
        exact o_X8_setIn_33_w C ih g_1 x1 x3 x2 0 _ _ _ S (lv_sub hl [0, 1, 3] rfl) h
      · have h := h.2 c1
        refine lv_iconst (v := 1) hx hb dX8_setIn_26 (by decide) ?_
        refine lv_iload_n hx hb dX8_setIn_27 rfl (lv_at hl 3 rfl) ?_
        refine lv_ishl hx hb dX8_setIn_28 ?_
        refine lv_goto (tgt := 33) hx hb dX8_setIn_29 (by decide) ?_
        exact o_X8_setIn_33_w C ih g_1 x1 x3 x2 (1 <<< (x3 &&& 31)) _ _ _ S (lv_sub hl [0, 1, 3] rfl) h
def o_X8_setIn (Q : Int32 → Mm → Prop) (g : Mm) (x1 : Int32) : Prop := ∃ n4, o_X8_setIn_4 Q n4 g x1 0 0
set_option maxHeartbeats 4000000 in
set_option maxRecDepth 100000 in
theorem o_X8_setIn_c {l : Launch} {dC : Nat → ClassId} {dI : Nat → Nat → Nat} {cy : Nat → ClassId} {ad tz : Nat → Nat} {Q : Int32 → Mm → Prop} {g : Mm} {x1 : Int32} (h : o_X8_setIn Q g x1) : CI l dC dI cy ad tz yX8_setIn wsX8_setIn (rmD 1) [.ref (ad 86), .int x1] g Q := by
  refine CI.of (by decide) rfl rfl (Nat.le_of_ble_eq_true rfl) ?_
  intro p e s m args below meth c ls C hl S
  have hl : lv_has ls 4 [(0, .ref (ad 86)), (1, .int x1)] := hl
  have hx := C.1.1
  have hb := C.1.2.1
  unfold o_X8_setIn at h
  refine lv_iconst (v := 0) hx hb dX8_setIn_0 (by decide) ?_
  refine lv_istore_n (lv' := [(2, .int 0), (0, .ref (ad 86)), (1, .int x1)]) hx hb dX8_setIn_1 rfl hl (by decide) rfl (fun ls hl => ?_)
  refine lv_iconst (v := 0) hx hb dX8_setIn_2 (by decide) ?_
  refine lv_istore_n (lv' := [(3, .int 0), (2, .int 0), (0, .ref (ad 86)), (1, .int x1)]) hx hb dX8_setIn_3 rfl hl (by decide) rfl (fun ls hl => ?_)
  obtain ⟨n4, h⟩ := h
  refine o_X8_setIn_4_w C n4 g x1 0 0 _ _ _ S (lv_sub hl [2, 3, 1, 0] rfl) h
/-! ClawCaseModel.column(II)I, height 2 -/
theorem m_X8_column_3 : Cond.constant RX8 71 (-1000001) ∈ wsX8_column := List.mem_of_getElem? (i := 3) (by decide +kernel)
theorem m_X8_column_2 : Cond.constantLong RX8 69 (2) ∈ wsX8_column := List.mem_of_getElem? (i := 2) (by decide +kernel)
theorem m_X8_column_4 : Cond.fieldLink RX8 7 "ClawCaseModel" "now" "[I" ∈ wsX8_column := List.mem_of_getElem? (i := 4) (by decide +kernel)
theorem n_X8_column_X8 : ∀ w ∈ wsX80, w ∈ wsX8_column := mem_by [28, 29, 30, 31, 32, 33, 34, 35, 36, 37, 38, 39, 40, 41, 42, 43, 44, 45, 46, 47, 48, 49, 50, 51] (by decide +kernel)
theorem m_X8_column_5 : Cond.constant RX8 186 (-1000000) ∈ wsX8_column := List.mem_of_getElem? (i := 5) (by decide +kernel)
theorem cw_X8_column_X8_setIn {s : State} {args : Array Value} (ht : ∀ w ∈ wsX8_column, w.before args s = true) : CallW (rmD 2) s args RX8 RX8 194 yX8_setIn cX8_setIn 4 (some .int) wsX8_setIn (rmD (1)) 0 0 1 := cwV 1 ht gX8_column_X8_setIn rfl rfl rfl (by decide +kernel) ⟨Nat.le_of_ble_eq_true rfl, Nat.le_of_ble_eq_true rfl⟩
theorem cw_X8_column_X8_lyingIn {s : State} {args : Array Value} (ht : ∀ w ∈ wsX8_column, w.before args s = true) : CallB (rmD 2) s args RX8 149 yX8_lyingIn cX8_lyingIn 4 (some .int) wsX8_lyingIn (rmD (0)) 0 0 2 ∧ (Cond.static yX8_lyingIn).before args s = true := va_cwS 2 ht gX8_column_X8_lyingIn rfl rfl rfl (by decide +kernel) ⟨Nat.le_of_ble_eq_true rfl, Nat.le_of_ble_eq_true rfl⟩
theorem cw_X8_column_X8_topOf {s : State} {args : Array Value} (ht : ∀ w ∈ wsX8_column, w.before args s = true) : CallB (rmD 2) s args RX8 153 yX8_topOf cX8_topOf 4 (some .int) wsX8_topOf (rmD (0)) 0 0 2 ∧ (Cond.static yX8_topOf).before args s = true := va_cwS 2 ht gX8_column_X8_topOf rfl rfl rfl (by decide +kernel) ⟨Nat.le_of_ble_eq_true rfl, Nat.le_of_ble_eq_true rfl⟩
theorem cw_X8_column_X8_in {s : State} {args : Array Value} (ht : ∀ w ∈ wsX8_column, w.before args s = true) : CallB (rmD 2) s args RX8 61 yX8_in cX8_in 6 (some .boolean) wsX8_in (rmD (0)) 0 0 3 ∧ (Cond.static yX8_in).before args s = true := va_cwS 3 ht gX8_column_X8_in rfl rfl rfl (by decide +kernel) ⟨Nat.le_of_ble_eq_true rfl, Nat.le_of_ble_eq_true rfl⟩
theorem cw_X8_column_X8_isColumn {s : State} {args : Array Value} (ht : ∀ w ∈ wsX8_column, w.before args s = true) : CallB (rmD 2) s args RX8 177 yX8_isColumn cX8_isColumn 1 (some .boolean) wsX8_isColumn (rmD (1)) 0 0 1 ∧ (Cond.static yX8_isColumn).before args s = true := va_cwS 1 ht gX8_column_X8_isColumn rfl rfl rfl (by decide +kernel) ⟨Nat.le_of_ble_eq_true rfl, Nat.le_of_ble_eq_true rfl⟩
theorem m_X8_column_1 : Cond.constant RX8 176 (-1000002) ∈ wsX8_column := List.mem_of_getElem? (i := 1) (by decide +kernel)
theorem cw_X8_column_X8_toys {s : State} {args : Array Value} (ht : ∀ w ∈ wsX8_column, w.before args s = true) : CallW (rmD 2) s args RX8 RX8 140 yX8_toys cX8_toys 1 (some .int) wsX8_toys (rmD (0)) 0 0 0 := cwV 0 ht gX8_column_X8_toys rfl rfl rfl (by decide +kernel) ⟨Nat.le_of_ble_eq_true rfl, Nat.le_of_ble_eq_true rfl⟩
def o_X8_column (Q : Int32 → Mm → Prop) (g : Mm) (x1 : Int32) (x2 : Int32) : Prop := o_X8_toys (fun (r_2 : Int32) (g_1 : Mm) => ((¬ r_2 = 0) → o_X8_isColumn (fun (r_4 : Int32) (g_3 : Mm) => ((r_4 = 0) → Q (-1000001) g_3) ∧ ((¬ r_4 = 0) → o_X8_in (fun (r_6 : Int32) (g_5 : Mm) => ((¬ r_6 = 0) → o_X8_topOf (fun (r_8 : Int32) (g_7 : Mm) => ((¬ x2 = 0) → ((¬ x2 = 2) → ((0 ≤ r_8) → Q r_8 g_7) ∧ ((¬ 0 ≤ r_8) → Q (-1000000) g_7)) ∧ ((x2 = 2) → o_X8_setIn (fun (r_10 : Int32) (g_9 : Mm) => Q r_10 g_9) g_7 x1)) ∧ ((x2 = 0) → o_X8_lyingIn (fun (r_12 : Int32) (g_11 : Mm) => Q r_12 g_11) 87 g_7 x1)) 87 g_5 x1) ∧ ((r_6 = 0) → Q (-1000001) g_5)) g_3 ((x2 : Int32).toInt64) 0 2)) g_1 x1) ∧ ((r_2 = 0) → Q (-1000002) g_1)) g
set_option maxHeartbeats 4000000 in
set_option maxRecDepth 100000 in
theorem o_X8_column_c {l : Launch} {dC : Nat → ClassId} {dI : Nat → Nat → Nat} {cy : Nat → ClassId} {ad tz : Nat → Nat} {Q : Int32 → Mm → Prop} {g : Mm} {x1 : Int32} {x2 : Int32} (h : o_X8_column Q g x1 x2) : CI l dC dI cy ad tz yX8_column wsX8_column (rmD 2) [.ref (ad 86), .int x1, .int x2] g Q := by
  refine CI.of (by decide) rfl rfl (Nat.le_of_ble_eq_true rfl) ?_
  intro p e s m args below meth c ls C hl S
  have hl : lv_has ls 4 [(0, .ref (ad 86)), (1, .int x1), (2, .int x2)] := hl
  have hx := C.1.1
  have hb := C.1.2.1
  unfold o_X8_column at h
  refine lv_aload_n hx hb dX8_column_0 rfl (lv_at hl 0 rfl) ?_
  refine kV_i (As := []) (rest := []) C S hl.1 (o_X8_toys_c h) (wd_o8 rfl) rfl (cw_X8_column_X8_toys C.1.2.2.2.2) rfl rfl (Nat.le_of_ble_eq_true rfl) dX8_column_1 (fun r_2 g_1 H locs h S => ?_)
  refine lv_if_ne (tgt := 10) hx hb dX8_column_4 (by decide) (fun c1 => ?_) (fun c1 => ?_)
  · have h := h.1 c1
    refine lv_iload_n hx hb dX8_column_10 rfl (lv_at hl 1 rfl) ?_
    refine kS_i (As := [.int x1]) (rest := []) C S hl.1 (o_X8_isColumn_c h) (cw_X8_column_X8_isColumn C.1.2.2.2.2) rfl rfl (Nat.le_of_ble_eq_true rfl) dX8_column_11 (fun r_4 g_3 H locs h S => ?_)
    refine lv_if_eq (tgt := 29) hx hb dX8_column_14 (by decide) (fun c1 => ?_) (fun c1 => ?_)
    · have h := h.1 c1
      refine kLdc C m_X8_column_3 dX8_column_29 ?_
      exact kRi C S h dX8_column_31
    · have h := h.2 c1
      refine lv_iload_n hx hb dX8_column_17 rfl (lv_at hl 2 rfl) ?_
      refine lv_i2l hx hb dX8_column_18 rfl ?_
      refine lv_lconst (v := 0) hx hb dX8_column_19 (by decide) ?_
      refine kLdc2 C m_X8_column_2 dX8_column_20 ?_
      refine kS_i (As := [.long ((x2 : Int32).toInt64), .long 0, .long 2]) (rest := []) C S hl.1 (o_X8_in_c h) (cw_X8_column_X8_in C.1.2.2.2.2) rfl rfl (Nat.le_of_ble_eq_true rfl) dX8_column_23 (fun r_6 g_5 H locs h S => ?_)
      refine lv_if_ne (tgt := 32) hx hb dX8_column_26 (by decide) (fun c1 => ?_) (fun c1 => ?_)
      · have h := h.1 c1
        refine lv_aload_n hx hb dX8_column_32 rfl (lv_at hl 0 rfl) ?_
        refine kg8 (k := 0) (v := .ref (ad 87)) C S rfl (by decide) n_X8_column_X8 m_X8_column_4 rfl dX8_column_33 ?_
        refine lv_iload_n hx hb dX8_column_36 rfl (lv_at hl 1 rfl) ?_
        refine kS_i (As := [.ref (ad 87), .int x1]) (rest := []) C S hl.1 (o_X8_topOf_c rfl rfl h) (cw_X8_column_X8_topOf C.1.2.2.2.2) rfl rfl (Nat.le_of_ble_eq_true rfl) dX8_column_37 (fun r_8 g_7 H locs h S => ?_)
        refine lv_istore_n (lv' := [(3, .int r_8), (0, .ref (ad 86)), (1, .int x1), (2, .int x2)]) hx hb dX8_column_40 rfl hl (by decide) rfl (fun ls hl => ?_)
        refine lv_iload_n hx hb dX8_column_41 rfl (lv_at hl 3 rfl) ?_
        refine lv_if_ne (tgt := 56) hx hb dX8_column_42 (by decide) (fun c1 => ?_) (fun c1 => ?_)
        · have h := h.1 c1
          refine lv_iload_n hx hb dX8_column_56 rfl (lv_at hl 3 rfl) ?_
          refine lv_iconst (v := 2) hx hb dX8_column_57 (by decide) ?_
          refine lv_icmp_ne (tgt := 69) hx hb dX8_column_58 (by decide) (fun c1 => ?_) (fun c1 => ?_)
          · have h := h.1 c1
            refine lv_iload_n hx hb dX8_column_69 rfl (lv_at hl 0 rfl) ?_
            refine lv_if_ge (tgt := 78) hx hb dX8_column_70 (by decide) (fun c1 => ?_) (fun c1 => ?_)
            · have h := h.1 c1
              refine lv_iload_n hx hb dX8_column_78 rfl (lv_at hl 0 rfl) ?_
              exact kRi C S h dX8_column_79
            · have h := h.2 c1
              refine kLdc C m_X8_column_5 dX8_column_73 ?_
              refine lv_goto (tgt := 79) hx hb dX8_column_75 (by decide) ?_
              exact kRi C S h dX8_column_79
          · have h := h.2 c1
            refine lv_aload_n hx hb dX8_column_61 rfl (lv_at hl 1 rfl) ?_
            refine lv_iload_n hx hb dX8_column_62 rfl (lv_at hl 2 rfl) ?_
            refine kV_i (As := [.int x1]) (rest := []) C S hl.1 (o_X8_setIn_c h) (wd_o8 rfl) rfl (cw_X8_column_X8_setIn C.1.2.2.2.2) rfl rfl (Nat.le_of_ble_eq_true rfl) dX8_column_63 (fun r_10 g_9 H locs h S => ?_)
            refine lv_goto (tgt := 79) hx hb dX8_column_66 (by decide) ?_
            exact kRi C S h dX8_column_79
        · have h := h.2 c1
          refine lv_aload_n hx hb dX8_column_45 rfl (lv_at hl 1 rfl) ?_
          refine kg8 (k := 0) (v := .ref (ad 87)) C S rfl (by decide) n_X8_column_X8 m_X8_column_4 rfl dX8_column_46 ?_
          refine lv_iload_n hx hb dX8_column_49 rfl (lv_at hl 2 rfl) ?_
          refine kS_i (As := [.ref (ad 87), .int x1]) (rest := []) C S hl.1 (o_X8_lyingIn_c rfl rfl h) (cw_X8_column_X8_lyingIn C.1.2.2.2.2) rfl rfl (Nat.le_of_ble_eq_true rfl) dX8_column_50 (fun r_12 g_11 H locs h S => ?_)
          refine lv_goto (tgt := 79) hx hb dX8_column_53 (by decide) ?_
          exact kRi C S h dX8_column_79
      · have h := h.2 c1
        refine kLdc C m_X8_column_3 dX8_column_29 ?_
        exact kRi C S h dX8_column_31
  · have h := h.2 c1
    refine kLdc C m_X8_column_1 dX8_column_7 ?_
    exact kRi C S h dX8_column_9
/-! ClawCaseModel.power(I)I, height 0 -/
def o_X8_power_4 (Q : Int32 → Mm → Prop) : Nat → Mm → Int32 → Int32 → Int32 → Prop
  | 0, _, _, _, _ => False
  | n4 + 1, g, x0, x1, x2 => ((x0 ≤ x2) → Q x1 g) ∧ ((¬ x0 ≤ x2) → ∀ x_1 : Int32, x_1 = (x1 * 5) → (∀ x_2 : Int32, x_2 = x2 + 1 → (o_X8_power_4 Q n4 g x0 x_1 x_2)))
set_option maxHeartbeats 4000000 in
set_option maxRecDepth 100000 in
theorem o_X8_power_4_w {p : Program} {l : Launch} {e : Env} {s : State} {m : MethodId} {args : Array Value} {below : List Frame} {meth : Method} {c : Code} {dC : Nat → ClassId} {dI : Nat → Nat → Nat} {cy : Nat → ClassId} {ad tz : Nat → Nat} {Q : Int32 → Mm → Prop} (C : CX p s m args meth c dC dI cy ad tz cX8_power 3 (some .int) RX8 wsX8_power) : ∀ (n : Nat) (g : Mm) (x0 : Int32) (x1 : Int32) (x2 : Int32) (H : Heap) (locs : List Loc) (ls : Array Slot), St dC dI cy ad s g H locs → lv_has ls 3 [(0, .int x0), (1, .int x1), (2, .int x2)] → o_X8_power_4 Q n g x0 x1 x2 → W p l e (rmD 0) s m args below meth c H locs 0 0 (QI dC dI cy ad below args s Q) (F0 m 4 ls []) := by
  have hx := C.1.1
  have hb := C.1.2.1
  intro n4
  induction n4 with
  | zero => intro g x0 x1 x2 H locs ls S hl h; exact h.elim
  | succ n4 ih =>
    intro g x0 x1 x2 H locs ls S hl h
    have h : ((x0 ≤ x2) → Q x1 g) ∧ ((¬ x0 ≤ x2) → ∀ x_1 : Int32, x_1 = (x1 * 5) → (∀ x_2 : Int32, x_2 = x2 + 1 → (o_X8_power_4 Q n4 g x0 x_1 x_2))) := h
    refine lv_iload_n hx hb dX8_power_4 rfl (lv_at hl 2 rfl) ?_
    refine lv_iload_n hx hb dX8_power_5 rfl (lv_at hl 0 rfl) ?_
    refine lv_icmp_ge (tgt := 19) hx hb dX8_power_6 (by decide) (fun c1 => ?_) (fun c1 => ?_)
    · have h := h.1 c1
      refine lv_iload_n hx hb dX8_power_19 rfl (lv_at hl 1 rfl) ?_
      exact kRi C S h dX8_power_20
    · have h := h.2 c1
      refine lv_iload_n hx hb dX8_power_9 rfl (lv_at hl 1 rfl) ?_
      refine lv_iconst (v := 5) hx hb dX8_power_10 (by decide) ?_
      refine lv_imul hx hb dX8_power_11 ?_
      refine lv_topi (fun x_1 ex_1 => ?_)
      have h := h x_1 ex_1
      refine lv_istore_n (lv' := [(1, .int x_1), (0, .int x0), (2, .int x2)]) hx hb dX8_power_12 rfl hl (by decide) rfl (fun ls hl => ?_)
      obtain ⟨x_2, ex_2⟩ : ∃ y : Int32, y = x2 + 1 := ⟨_, rfl⟩
      have h := h x_2 ex_2
      refine lv_iinc (v := x_2) (lv' := [(2, .int x_2), (1, .int x_1), (0, .int x0)]) hx hb dX8_power_13 hl (k := 2) rfl (by rw [ex_2]; rfl) (by decide) rfl (fun ls hl => ?_)
      refine lv_goto (tgt := 4) hx hb dX8_power_16 (by decide) ?_
      exact ih g x0 x_1 x_2 _ _ _ S (lv_sub hl [2, 1, 0] rfl) h
def o_X8_power (Q : Int32 → Mm → Prop) (g : Mm) (x0 : Int32) : Prop := ∃ n4, o_X8_power_4 Q n4 g x0 1 0
set_option maxHeartbeats 4000000 in
set_option maxRecDepth 100000 in
theorem o_X8_power_c {l : Launch} {dC : Nat → ClassId} {dI : Nat → Nat → Nat} {cy : Nat → ClassId} {ad tz : Nat → Nat} {Q : Int32 → Mm → Prop} {g : Mm} {x0 : Int32} (h : o_X8_power Q g x0) : CI l dC dI cy ad tz yX8_power wsX8_power (rmD 0) [.int x0] g Q := by
  refine CI.of (by decide) rfl rfl (Nat.le_of_ble_eq_true rfl) ?_
  intro p e s m args below meth c ls C hl S
  have hl : lv_has ls 3 [(0, .int x0)] := hl
  have hx := C.1.1
  have hb := C.1.2.1
  unfold o_X8_power at h
  refine lv_iconst (v := 1) hx hb dX8_power_0 (by decide) ?_
  refine lv_istore_n (lv' := [(1, .int 1), (0, .int x0)]) hx hb dX8_power_1 rfl hl (by decide) rfl (fun ls hl => ?_)
  refine lv_iconst (v := 0) hx hb dX8_power_2 (by decide) ?_
  refine lv_istore_n (lv' := [(2, .int 0), (1, .int 1), (0, .int x0)]) hx hb dX8_power_3 rfl hl (by decide) rfl (fun ls hl => ?_)
  obtain ⟨n4, h⟩ := h
  refine o_X8_power_4_w C n4 g x0 1 0 _ _ _ S (lv_sub hl [2, 1, 0] rfl) h
/-! ClawCaseModel.columnBy(III)I, height 1 -/
theorem cw_X8_columnBy_X8_power {s : State} {args : Array Value} (ht : ∀ w ∈ wsX8_columnBy, w.before args s = true) : CallB (rmD 1) s args RX8 202 yX8_power cX8_power 3 (some .int) wsX8_power (rmD (0)) 0 0 1 ∧ (Cond.static yX8_power).before args s = true := va_cwS 1 ht gX8_columnBy_X8_power rfl rfl rfl (by decide +kernel) ⟨Nat.le_of_ble_eq_true rfl, Nat.le_of_ble_eq_true rfl⟩
def o_X8_columnBy (Q : Int32 → Mm → Prop) (g : Mm) (x0 : Int32) (x1 : Int32) (x2 : Int32) : Prop := o_X8_power (fun (r_2 : Int32) (g_1 : Mm) => ¬ (r_2 : Int32) = 0 ∧ (¬ (5 : Int32) = 0 ∧ (Q (((x1 / r_2) - (x1 / r_2) / 5 * 5) + 1) g_1))) g ((x0 - 1) - x2)
set_option maxHeartbeats 4000000 in
set_option maxRecDepth 100000 in
theorem o_X8_columnBy_c {l : Launch} {dC : Nat → ClassId} {dI : Nat → Nat → Nat} {cy : Nat → ClassId} {ad tz : Nat → Nat} {Q : Int32 → Mm → Prop} {g : Mm} {x0 : Int32} {x1 : Int32} {x2 : Int32} (h : o_X8_columnBy Q g x0 x1 x2) : CI l dC dI cy ad tz yX8_columnBy wsX8_columnBy (rmD 1) [.int x0, .int x1, .int x2] g Q := by
  refine CI.of (by decide) rfl rfl (Nat.le_of_ble_eq_true rfl) ?_
  intro p e s m args below meth c ls C hl S
  have hl : lv_has ls 3 [(0, .int x0), (1, .int x1), (2, .int x2)] := hl
  have hx := C.1.1
  have hb := C.1.2.1
  unfold o_X8_columnBy at h
  refine lv_iload_n hx hb dX8_columnBy_0 rfl (lv_at hl 1 rfl) ?_
  refine lv_iload_n hx hb dX8_columnBy_1 rfl (lv_at hl 0 rfl) ?_
  refine lv_iconst (v := 1) hx hb dX8_columnBy_2 (by decide) ?_
  refine lv_isub hx hb dX8_columnBy_3 ?_
  refine lv_iload_n hx hb dX8_columnBy_4 rfl (lv_at hl 2 rfl) ?_
  refine lv_isub hx hb dX8_columnBy_5 ?_
  refine kS_i (As := [.int ((x0 - 1) - x2)]) (rest := [.int x1]) C S hl.1 (o_X8_power_c h) (cw_X8_columnBy_X8_power C.1.2.2.2.2) rfl rfl (Nat.le_of_ble_eq_true rfl) dX8_columnBy_6 (fun r_2 g_1 H locs h S => ?_)
  obtain ⟨h0, h⟩ := h
  refine lv_idiv hx hb dX8_columnBy_9 h0 ?_
  refine lv_iconst (v := 5) hx hb dX8_columnBy_10 (by decide) ?_
  obtain ⟨h0, h⟩ := h
  refine lv_irem hx hb dX8_columnBy_11 h0 ?_
  refine lv_iconst (v := 1) hx hb dX8_columnBy_12 (by decide) ?_
  refine lv_iadd hx hb dX8_columnBy_13 ?_
  exact kRi C S h dX8_columnBy_14
/-! ClawCaseModel.isRow(I)Z, height 1 -/
theorem m_X8_isRow_1 : Cond.constantLong RX8 59 (7) ∈ wsX8_isRow := List.mem_of_getElem? (i := 1) (by decide +kernel)
theorem cw_X8_isRow_X8_in {s : State} {args : Array Value} (ht : ∀ w ∈ wsX8_isRow, w.before args s = true) : CallB (rmD 1) s args RX8 61 yX8_in cX8_in 6 (some .boolean) wsX8_in (rmD (0)) 0 0 3 ∧ (Cond.static yX8_in).before args s = true := va_cwS 3 ht gX8_isRow_X8_in rfl rfl rfl (by decide +kernel) ⟨Nat.le_of_ble_eq_true rfl, Nat.le_of_ble_eq_true rfl⟩
def o_X8_isRow (Q : Int32 → Mm → Prop) (g : Mm) (x0 : Int32) : Prop := o_X8_in (fun (r_2 : Int32) (g_1 : Mm) => narrow .boolean (.int r_2) = .int r_2 ∧ (Q r_2 g_1)) g ((x0 : Int32).toInt64) 0 7
set_option maxHeartbeats 4000000 in
set_option maxRecDepth 100000 in
theorem o_X8_isRow_c {l : Launch} {dC : Nat → ClassId} {dI : Nat → Nat → Nat} {cy : Nat → ClassId} {ad tz : Nat → Nat} {Q : Int32 → Mm → Prop} {g : Mm} {x0 : Int32} (h : o_X8_isRow Q g x0) : CI l dC dI cy ad tz yX8_isRow wsX8_isRow (rmD 1) [.int x0] g Q := by
  refine CI.of (by decide) rfl rfl (Nat.le_of_ble_eq_true rfl) ?_
  intro p e s m args below meth c ls C hl S
  have hl : lv_has ls 1 [(0, .int x0)] := hl
  have hx := C.1.1
  have hb := C.1.2.1
  unfold o_X8_isRow at h
  refine lv_iload_n hx hb dX8_isRow_0 rfl (lv_at hl 0 rfl) ?_
  refine lv_i2l hx hb dX8_isRow_1 rfl ?_
  refine lv_lconst (v := 0) hx hb dX8_isRow_2 (by decide) ?_
  refine kLdc2 C m_X8_isRow_1 dX8_isRow_3 ?_
  refine kS_i (As := [.long ((x0 : Int32).toInt64), .long 0, .long 7]) (rest := []) C S hl.1 (o_X8_in_c h) (cw_X8_isRow_X8_in C.1.2.2.2.2) rfl rfl (Nat.le_of_ble_eq_true rfl) dX8_isRow_6 (fun r_2 g_1 H locs h S => ?_)
  obtain ⟨hz, h⟩ := h
  exact kRz C S hz h dX8_isRow_9
/-! ClawCaseModel.copy(IIIII)I, height 2 -/
theorem m_X8_copy_1 : Cond.constant RX8 71 (-1000001) ∈ wsX8_copy := List.mem_of_getElem? (i := 1) (by decide +kernel)
theorem m_X8_copy_2 : Cond.fieldLink RX8 29 "ClawCaseModel" "isThere" "[Z" ∈ wsX8_copy := List.mem_of_getElem? (i := 2) (by decide +kernel)
theorem n_X8_copy_X8 : ∀ w ∈ wsX80, w ∈ wsX8_copy := mem_by [25, 26, 27, 28, 29, 30, 31, 32, 33, 34, 35, 36, 37, 38, 39, 40, 41, 42, 43, 44, 45, 46, 47, 48] (by decide +kernel)
theorem cw_X8_copy_X8_found {s : State} {args : Array Value} (ht : ∀ w ∈ wsX8_copy, w.before args s = true) : CallW (rmD 2) s args RX8 RX8 72 yX8_found cX8_found 2 (some .int) wsX8_found (rmD (0)) 0 0 1 := cwV 1 ht gX8_copy_X8_found rfl rfl rfl (by decide +kernel) ⟨Nat.le_of_ble_eq_true rfl, Nat.le_of_ble_eq_true rfl⟩
theorem m_X8_copy_3 : Cond.fieldLink RX8 23 "ClawCaseModel" "lanes" "[I" ∈ wsX8_copy := List.mem_of_getElem? (i := 3) (by decide +kernel)
theorem m_X8_copy_4 : Cond.fieldLink RX8 26 "ClawCaseModel" "longs" "[I" ∈ wsX8_copy := List.mem_of_getElem? (i := 4) (by decide +kernel)
theorem m_X8_copy_5 : Cond.fieldLink RX8 35 "ClawCaseModel" "copied" "[I" ∈ wsX8_copy := List.mem_of_getElem? (i := 5) (by decide +kernel)
theorem m_X8_copy_6 : Cond.fieldLink RX8 32 "ClawCaseModel" "items" "[I" ∈ wsX8_copy := List.mem_of_getElem? (i := 6) (by decide +kernel)
theorem cw_X8_copy_X8_well {s : State} {args : Array Value} (ht : ∀ w ∈ wsX8_copy, w.before args s = true) : CallW (rmD 2) s args RX8 RX8 76 yX8_well cX8_well 2 (some .int) wsX8_well (rmD (0)) 0 0 1 := cwV 1 ht gX8_copy_X8_well rfl rfl rfl (by decide +kernel) ⟨Nat.le_of_ble_eq_true rfl, Nat.le_of_ble_eq_true rfl⟩
theorem cw_X8_copy_X8_isRow {s : State} {args : Array Value} (ht : ∀ w ∈ wsX8_copy, w.before args s = true) : CallB (rmD 2) s args RX8 65 yX8_isRow cX8_isRow 1 (some .boolean) wsX8_isRow (rmD (1)) 0 0 1 ∧ (Cond.static yX8_isRow).before args s = true := va_cwS 1 ht gX8_copy_X8_isRow rfl rfl rfl (by decide +kernel) ⟨Nat.le_of_ble_eq_true rfl, Nat.le_of_ble_eq_true rfl⟩
def o_X8_copy_35 (Q : Int32 → Mm → Prop) (g : Mm) : Prop := o_X8_found (fun (r_6 : Int32) (g_5 : Mm) => Q r_6 g_5) g 1
def o_X8_copy_111 (Q : Int32 → Mm → Prop) (g : Mm) : Prop := o_X8_found (fun (r_8 : Int32) (g_7 : Mm) => Q r_8 g_7) g 2
def o_X8_copy_120 (Q : Int32 → Mm → Prop) (K154 : Mm → Int32 → Int32 → Int32 → Prop) : Nat → Mm → Int32 → Int32 → Int32 → Int32 → Int32 → Int32 → Prop
  | 0, _, _, _, _, _, _, _ => False
  | n120 + 1, g, x1, x2, x3, x4, x5, x6 => ((x5 ≤ x6) → K154 g x3 x4 x5) ∧ ((¬ x5 ≤ x6) → vp_in (((40 * x1) + x2) + x6) 320 ∧ (vp_in x6 40 ∧ (∀ g_9 : Mm, g_9 = mset g 95 x6.toNatClampNeg (g.1 94 (((40 * x1) + x2) + x6 : Int32).toNatClampNeg) → (∀ x_10 : Int32, x_10 = x6 + 1 → (o_X8_copy_120 Q K154 n120 g_9 x1 x2 x3 x4 x5 x_10)))))
def o_X8_copy_157 (Q : Int32 → Mm → Prop) (K192 : Mm → Int32 → Prop) : Nat → Mm → Int32 → Int32 → Int32 → Int32 → Prop
  | 0, _, _, _, _, _ => False
  | n157 + 1, g, x3, x4, x5, x6 => ((x5 ≤ x6) → K192 g x5) ∧ ((¬ x5 ≤ x6) → vp_in x6 40 ∧ (vp_in (((40 * x3) + x4) + x6) 320 ∧ (∀ g_11 : Mm, g_11 = mset g 94 (((40 * x3) + x4) + x6 : Int32).toNatClampNeg (g.1 95 x6.toNatClampNeg) → (∀ x_12 : Int32, x_12 = x6 + 1 → (o_X8_copy_157 Q K192 n157 g_11 x3 x4 x5 x_12)))))
set_option maxHeartbeats 4000000 in
set_option maxRecDepth 100000 in
theorem o_X8_copy_35_w {p : Program} {l : Launch} {e : Env} {s : State} {m : MethodId} {args : Array Value} {below : List Frame} {meth : Method} {c : Code} {dC : Nat → ClassId} {dI : Nat → Nat → Nat} {cy : Nat → ClassId} {ad tz : Nat → Nat} {Q : Int32 → Mm → Prop} (C : CX p s m args meth c dC dI cy ad tz cX8_copy 7 (some .int) RX8 wsX8_copy) : ∀ (g : Mm) (H : Heap) (locs : List Loc) (ls : Array Slot), St dC dI cy ad s g H locs → lv_has ls 7 [(0, .ref (ad 86))] → o_X8_copy_35 Q g → W p l e (rmD 2) s m args below meth c H locs 0 0 (QI dC dI cy ad below args s Q) (F0 m 35 ls []) := by
  have hx := C.1.1
  have hb := C.1.2.1
  intro g H locs ls S hl h
  unfold o_X8_copy_35 at h
  refine lv_aload_n hx hb dX8_copy_35 rfl (lv_at hl 0 rfl) ?_
  refine lv_iconst (v := 1) hx hb dX8_copy_36 (by decide) ?_
  refine kV_i (As := [.int 1]) (rest := []) C S hl.1 (o_X8_found_c h) (wd_o8 rfl) rfl (cw_X8_copy_X8_found C.1.2.2.2.2) rfl rfl (Nat.le_of_ble_eq_true rfl) dX8_copy_37 (fun r_6 g_5 H locs h S => ?_)
  exact kRi C S h dX8_copy_40
set_option maxHeartbeats 4000000 in
set_option maxRecDepth 100000 in
theorem o_X8_copy_111_w {p : Program} {l : Launch} {e : Env} {s : State} {m : MethodId} {args : Array Value} {below : List Frame} {meth : Method} {c : Code} {dC : Nat → ClassId} {dI : Nat → Nat → Nat} {cy : Nat → ClassId} {ad tz : Nat → Nat} {Q : Int32 → Mm → Prop} (C : CX p s m args meth c dC dI cy ad tz cX8_copy 7 (some .int) RX8 wsX8_copy) : ∀ (g : Mm) (H : Heap) (locs : List Loc) (ls : Array Slot), St dC dI cy ad s g H locs → lv_has ls 7 [(0, .ref (ad 86))] → o_X8_copy_111 Q g → W p l e (rmD 2) s m args below meth c H locs 0 0 (QI dC dI cy ad below args s Q) (F0 m 111 ls []) := by
  have hx := C.1.1
  have hb := C.1.2.1
  intro g H locs ls S hl h
  unfold o_X8_copy_111 at h
  refine lv_aload_n hx hb dX8_copy_111 rfl (lv_at hl 0 rfl) ?_
  refine lv_iconst (v := 2) hx hb dX8_copy_112 (by decide) ?_
  refine kV_i (As := [.int 2]) (rest := []) C S hl.1 (o_X8_found_c h) (wd_o8 rfl) rfl (cw_X8_copy_X8_found C.1.2.2.2.2) rfl rfl (Nat.le_of_ble_eq_true rfl) dX8_copy_113 (fun r_8 g_7 H locs h S => ?_)
  exact kRi C S h dX8_copy_116
set_option maxHeartbeats 4000000 in
set_option maxRecDepth 100000 in
theorem o_X8_copy_120_w {p : Program} {l : Launch} {e : Env} {s : State} {m : MethodId} {args : Array Value} {below : List Frame} {meth : Method} {c : Code} {dC : Nat → ClassId} {dI : Nat → Nat → Nat} {cy : Nat → ClassId} {ad tz : Nat → Nat} {Q : Int32 → Mm → Prop} {K154 : Mm → Int32 → Int32 → Int32 → Prop} (C : CX p s m args meth c dC dI cy ad tz cX8_copy 7 (some .int) RX8 wsX8_copy) (hK154 : ∀ (g : Mm) (x3 : Int32) (x4 : Int32) (x5 : Int32) (H : Heap) (locs : List Loc) (ls : Array Slot), St dC dI cy ad s g H locs → lv_has ls 7 [(0, .ref (ad 86)), (3, .int x3), (4, .int x4), (5, .int x5)] → K154 g x3 x4 x5 → W p l e (rmD 2) s m args below meth c H locs 0 0 (QI dC dI cy ad below args s Q) (F0 m 154 ls [])) : ∀ (n : Nat) (g : Mm) (x1 : Int32) (x2 : Int32) (x3 : Int32) (x4 : Int32) (x5 : Int32) (x6 : Int32) (H : Heap) (locs : List Loc) (ls : Array Slot), St dC dI cy ad s g H locs → lv_has ls 7 [(0, .ref (ad 86)), (1, .int x1), (2, .int x2), (3, .int x3), (4, .int x4), (5, .int x5), (6, .int x6)] → o_X8_copy_120 Q K154 n g x1 x2 x3 x4 x5 x6 → W p l e (rmD 2) s m args below meth c H locs 0 0 (QI dC dI cy ad below args s Q) (F0 m 120 ls []) := by
  have hx := C.1.1
  have hb := C.1.2.1
  intro n120
  induction n120 with
  | zero => intro g x1 x2 x3 x4 x5 x6 H locs ls S hl h; exact h.elim
  | succ n120 ih =>
    intro g x1 x2 x3 x4 x5 x6 H locs ls S hl h
    have h : ((x5 ≤ x6) → K154 g x3 x4 x5) ∧ ((¬ x5 ≤ x6) → vp_in (((40 * x1) + x2) + x6) 320 ∧ (vp_in x6 40 ∧ (∀ g_9 : Mm, g_9 = mset g 95 x6.toNatClampNeg (g.1 94 (((40 * x1) + x2) + x6 : Int32).toNatClampNeg) → (∀ x_10 : Int32, x_10 = x6 + 1 → (o_X8_copy_120 Q K154 n120 g_9 x1 x2 x3 x4 x5 x_10))))) := h
    refine lv_iload hx hb dX8_copy_120 (lv_at hl 6 rfl) ?_
    refine lv_iload hx hb dX8_copy_122 (lv_at hl 5 rfl) ?_
    refine lv_icmp_ge (tgt := 154) hx hb dX8_copy_124 (by decide) (fun c1 => ?_) (fun c1 => ?_)
    · have h := h.1 c1
      exact hK154 g x3 x4 x5 _ _ _ S (lv_sub hl [0, 3, 4, 5] rfl) h
    · have h := h.2 c1
      refine lv_aload_n hx hb dX8_copy_127 rfl (lv_at hl 0 rfl) ?_
      refine kg8 (k := 10) (v := .ref (ad 95)) C S rfl (by decide) n_X8_copy_X8 m_X8_copy_5 rfl dX8_copy_128 ?_
      refine lv_iload hx hb dX8_copy_131 (lv_at hl 6 rfl) ?_
      refine lv_aload_n hx hb dX8_copy_133 rfl (lv_at hl 0 rfl) ?_
      refine kg8 (k := 9) (v := .ref (ad 94)) C S rfl (by decide) n_X8_copy_X8 m_X8_copy_6 rfl dX8_copy_134 ?_
      refine lv_bipush (v := 40) hx hb dX8_copy_137 (by decide) ?_
      refine lv_iload_n hx hb dX8_copy_139 rfl (lv_at hl 1 rfl) ?_
      refine lv_imul hx hb dX8_copy_140 ?_
      refine lv_iload_n hx hb dX8_copy_141 rfl (lv_at hl 2 rfl) ?_
      refine lv_iadd hx hb dX8_copy_142 ?_
      refine lv_iload hx hb dX8_copy_143 (lv_at hl 6 rfl) ?_
      refine lv_iadd hx hb dX8_copy_145 ?_
      obtain ⟨hi, h⟩ := h
      refine kLi C S rfl rfl hi dX8_copy_146 ?_
      obtain ⟨hi, h⟩ := h
      refine kSi C S rfl rfl hi dX8_copy_147 (fun g_9 H locs eg_9 S => ?_)
      have h := h g_9 eg_9
      obtain ⟨x_10, ex_10⟩ : ∃ y : Int32, y = x6 + 1 := ⟨_, rfl⟩
      have h := h x_10 ex_10
      refine lv_iinc (v := x_10) (lv' := [(6, .int x_10), (0, .ref (ad 86)), (1, .int x1), (2, .int x2), (3, .int x3), (4, .int x4), (5, .int x5)]) hx hb dX8_copy_148 hl (k := 6) rfl (by rw [ex_10]; rfl) (by decide) rfl (fun ls hl => ?_)
      refine lv_goto (tgt := 120) hx hb dX8_copy_151 (by decide) ?_
      exact ih g_9 x1 x2 x3 x4 x5 x_10 _ _ _ S (lv_sub hl [1, 2, 3, 4, 5, 6, 0] rfl) h
set_option maxHeartbeats 4000000 in
set_option maxRecDepth 100000 in
theorem o_X8_copy_157_w {p : Program} {l : Launch} {e : Env} {s : State} {m : MethodId} {args : Array Value} {below : List Frame} {meth : Method} {c : Code} {dC : Nat → ClassId} {dI : Nat → Nat → Nat} {cy : Nat → ClassId} {ad tz : Nat → Nat} {Q : Int32 → Mm → Prop} {K192 : Mm → Int32 → Prop} (C : CX p s m args meth c dC dI cy ad tz cX8_copy 7 (some .int) RX8 wsX8_copy) (hK192 : ∀ (g : Mm) (x5 : Int32) (H : Heap) (locs : List Loc) (ls : Array Slot), St dC dI cy ad s g H locs → lv_has ls 7 [(0, .ref (ad 86)), (5, .int x5)] → K192 g x5 → W p l e (rmD 2) s m args below meth c H locs 0 0 (QI dC dI cy ad below args s Q) (F0 m 192 ls [])) : ∀ (n : Nat) (g : Mm) (x3 : Int32) (x4 : Int32) (x5 : Int32) (x6 : Int32) (H : Heap) (locs : List Loc) (ls : Array Slot), St dC dI cy ad s g H locs → lv_has ls 7 [(0, .ref (ad 86)), (3, .int x3), (4, .int x4), (5, .int x5), (6, .int x6)] → o_X8_copy_157 Q K192 n g x3 x4 x5 x6 → W p l e (rmD 2) s m args below meth c H locs 0 0 (QI dC dI cy ad below args s Q) (F0 m 157 ls []) := by
  have hx := C.1.1
  have hb := C.1.2.1
  intro n157
  induction n157 with
  | zero => intro g x3 x4 x5 x6 H locs ls S hl h; exact h.elim
  | succ n157 ih =>
    intro g x3 x4 x5 x6 H locs ls S hl h
    have h : ((x5 ≤ x6) → K192 g x5) ∧ ((¬ x5 ≤ x6) → vp_in x6 40 ∧ (vp_in (((40 * x3) + x4) + x6) 320 ∧ (∀ g_11 : Mm, g_11 = mset g 94 (((40 * x3) + x4) + x6 : Int32).toNatClampNeg (g.1 95 x6.toNatClampNeg) → (∀ x_12 : Int32, x_12 = x6 + 1 → (o_X8_copy_157 Q K192 n157 g_11 x3 x4 x5 x_12))))) := h
    refine lv_iload hx hb dX8_copy_157 (lv_at hl 4 rfl) ?_
    refine lv_iload hx hb dX8_copy_159 (lv_at hl 3 rfl) ?_
    refine lv_icmp_ge (tgt := 192) hx hb dX8_copy_161 (by decide) (fun c1 => ?_) (fun c1 => ?_)
    · have h := h.1 c1
      exact hK192 g x5 _ _ _ S (lv_sub hl [0, 3] rfl) h
    · have h := h.2 c1
      refine lv_aload_n hx hb dX8_copy_164 rfl (lv_at hl 0 rfl) ?_
      refine kg8 (k := 9) (v := .ref (ad 94)) C S rfl (by decide) n_X8_copy_X8 m_X8_copy_6 rfl dX8_copy_165 ?_
      refine lv_bipush (v := 40) hx hb dX8_copy_168 (by decide) ?_
      refine lv_iload_n hx hb dX8_copy_170 rfl (lv_at hl 1 rfl) ?_
      refine lv_imul hx hb dX8_copy_171 ?_
      refine lv_iload hx hb dX8_copy_172 (lv_at hl 2 rfl) ?_
      refine lv_iadd hx hb dX8_copy_174 ?_
      refine lv_iload hx hb dX8_copy_175 (lv_at hl 4 rfl) ?_
      refine lv_iadd hx hb dX8_copy_177 ?_
      refine lv_aload_n hx hb dX8_copy_178 rfl (lv_at hl 0 rfl) ?_
      refine kg8 (k := 10) (v := .ref (ad 95)) C S rfl (by decide) n_X8_copy_X8 m_X8_copy_5 rfl dX8_copy_179 ?_
      refine lv_iload hx hb dX8_copy_182 (lv_at hl 4 rfl) ?_
      obtain ⟨hi, h⟩ := h
      refine kLi C S rfl rfl hi dX8_copy_184 ?_
      obtain ⟨hi, h⟩ := h
      refine kSi C S rfl rfl hi dX8_copy_185 (fun g_11 H locs eg_11 S => ?_)
      have h := h g_11 eg_11
      obtain ⟨x_12, ex_12⟩ : ∃ y : Int32, y = x6 + 1 := ⟨_, rfl⟩
      have h := h x_12 ex_12
      refine lv_iinc (v := x_12) (lv' := [(6, .int x_12), (0, .ref (ad 86)), (3, .int x3), (4, .int x4), (5, .int x5)]) hx hb dX8_copy_186 hl (k := 4) rfl (by rw [ex_12]; rfl) (by decide) rfl (fun ls hl => ?_)
      refine lv_goto (tgt := 157) hx hb dX8_copy_189 (by decide) ?_
      exact ih g_11 x3 x4 x5 x_12 _ _ _ S (lv_sub hl [1, 2, 3, 4, 0] rfl) h
def o_X8_copy (Q : Int32 → Mm → Prop) (g : Mm) (x1 : Int32) (x2 : Int32) (x3 : Int32) (x4 : Int32) (x5 : Int32) : Prop := o_X8_isRow (fun (r_2 : Int32) (g_1 : Mm) => ((r_2 = 0) → Q (-1000001) g_1) ∧ ((¬ r_2 = 0) → o_X8_isRow (fun (r_4 : Int32) (g_3 : Mm) => ((¬ r_4 = 0) → vp_in x1 8 ∧ ((((g_3.1 93 x1.toNatClampNeg) = 0) → o_X8_copy_35 Q g_3) ∧ ((¬ (g_3.1 93 x1.toNatClampNeg) = 0) → vp_in x3 8 ∧ (((¬ (g_3.1 93 x3.toNatClampNeg) = 0) → vp_in x1 8 ∧ (vp_in x3 8 ∧ ((((g_3.1 91 x1.toNatClampNeg) = (g_3.1 91 x3.toNatClampNeg)) → ((x2 < 0) → o_X8_copy_111 Q g_3) ∧ ((¬ x2 < 0) → ((x4 < 0) → o_X8_copy_111 Q g_3) ∧ ((¬ x4 < 0) → ((x5 < 0) → o_X8_copy_111 Q g_3) ∧ ((¬ x5 < 0) → vp_in x1 8 ∧ (((0 < (lg_cmp (((x2 : Int32).toInt64) + ((x5 : Int32).toInt64)) ((g_3.1 92 x1.toNatClampNeg : Int32).toInt64))) → o_X8_copy_111 Q g_3) ∧ ((¬ 0 < (lg_cmp (((x2 : Int32).toInt64) + ((x5 : Int32).toInt64)) ((g_3.1 92 x1.toNatClampNeg : Int32).toInt64))) → vp_in x3 8 ∧ ((((lg_cmp (((x4 : Int32).toInt64) + ((x5 : Int32).toInt64)) ((g_3.1 92 x3.toNatClampNeg : Int32).toInt64)) ≤ 0) → ∃ n120, o_X8_copy_120 Q (fun (g : Mm) (x3 : Int32) (x4 : Int32) (x5 : Int32) => ∃ n157, o_X8_copy_157 Q (fun (g : Mm) (x5 : Int32) => o_X8_well (fun (r_14 : Int32) (g_13 : Mm) => Q r_14 g_13) g x5) n157 g x3 x4 x5 0) n120 g_3 x1 x2 x3 x4 x5 0) ∧ ((¬ (lg_cmp (((x4 : Int32).toInt64) + ((x5 : Int32).toInt64)) ((g_3.1 92 x3.toNatClampNeg : Int32).toInt64)) ≤ 0) → o_X8_copy_111 Q g_3)))))))) ∧ ((¬ (g_3.1 91 x1.toNatClampNeg) = (g_3.1 91 x3.toNatClampNeg)) → o_X8_found (fun (r_16 : Int32) (g_15 : Mm) => Q r_16 g_15) g_3 5)))) ∧ (((g_3.1 93 x3.toNatClampNeg) = 0) → o_X8_copy_35 Q g_3))))) ∧ ((r_4 = 0) → Q (-1000001) g_3)) g_1 x3)) g x1
set_option maxHeartbeats 4000000 in
set_option maxRecDepth 100000 in
theorem o_X8_copy_c {l : Launch} {dC : Nat → ClassId} {dI : Nat → Nat → Nat} {cy : Nat → ClassId} {ad tz : Nat → Nat} {Q : Int32 → Mm → Prop} {g : Mm} {x1 : Int32} {x2 : Int32} {x3 : Int32} {x4 : Int32} {x5 : Int32} (h : o_X8_copy Q g x1 x2 x3 x4 x5) : CI l dC dI cy ad tz yX8_copy wsX8_copy (rmD 2) [.ref (ad 86), .int x1, .int x2, .int x3, .int x4, .int x5] g Q := by
  refine CI.of (by decide) rfl rfl (Nat.le_of_ble_eq_true rfl) ?_
  intro p e s m args below meth c ls C hl S
  have hl : lv_has ls 7 [(0, .ref (ad 86)), (1, .int x1), (2, .int x2), (3, .int x3), (4, .int x4), (5, .int x5)] := hl
  have hx := C.1.1
  have hb := C.1.2.1
  unfold o_X8_copy at h
  refine lv_iload_n hx hb dX8_copy_0 rfl (lv_at hl 1 rfl) ?_
  refine kS_i (As := [.int x1]) (rest := []) C S hl.1 (o_X8_isRow_c h) (cw_X8_copy_X8_isRow C.1.2.2.2.2) rfl rfl (Nat.le_of_ble_eq_true rfl) dX8_copy_1 (fun r_2 g_1 H locs h S => ?_)
  refine lv_if_eq (tgt := 14) hx hb dX8_copy_4 (by decide) (fun c1 => ?_) (fun c1 => ?_)
  · have h := h.1 c1
    refine kLdc C m_X8_copy_1 dX8_copy_14 ?_
    exact kRi C S h dX8_copy_16
  · have h := h.2 c1
    refine lv_iload_n hx hb dX8_copy_7 rfl (lv_at hl 3 rfl) ?_
    refine kS_i (As := [.int x3]) (rest := []) C S hl.1 (o_X8_isRow_c h) (cw_X8_copy_X8_isRow C.1.2.2.2.2) rfl rfl (Nat.le_of_ble_eq_true rfl) dX8_copy_8 (fun r_4 g_3 H locs h S => ?_)
    refine lv_if_ne (tgt := 17) hx hb dX8_copy_11 (by decide) (fun c1 => ?_) (fun c1 => ?_)
    · have h := h.1 c1
      refine lv_aload_n hx hb dX8_copy_17 rfl (lv_at hl 0 rfl) ?_
      refine kg8 (k := 8) (v := .ref (ad 93)) C S rfl (by decide) n_X8_copy_X8 m_X8_copy_2 rfl dX8_copy_18 ?_
      refine lv_iload_n hx hb dX8_copy_21 rfl (lv_at hl 1 rfl) ?_
      obtain ⟨hi, h⟩ := h
      refine kLz C S rfl rfl hi dX8_copy_22 ?_
      refine lv_if_eq (tgt := 35) hx hb dX8_copy_23 (by decide) (fun c1 => ?_) (fun c1 => ?_)
      · have h := h.1 c1
        exact o_X8_copy_35_w C g_3 _ _ _ S (lv_sub hl [0] rfl) h
      · have h := h.2 c1
        refine lv_aload_n hx hb dX8_copy_26 rfl (lv_at hl 0 rfl) ?_
        refine kg8 (k := 8) (v := .ref (ad 93)) C S rfl (by decide) n_X8_copy_X8 m_X8_copy_2 rfl dX8_copy_27 ?_
        refine lv_iload_n hx hb dX8_copy_30 rfl (lv_at hl 3 rfl) ?_
        obtain ⟨hi, h⟩ := h
        refine kLz C S rfl rfl hi dX8_copy_31 ?_
        refine lv_if_ne (tgt := 41) hx hb dX8_copy_32 (by decide) (fun c1 => ?_) (fun c1 => ?_)
        · have h := h.1 c1
          refine lv_aload_n hx hb dX8_copy_41 rfl (lv_at hl 0 rfl) ?_
          refine kg8 (k := 6) (v := .ref (ad 91)) C S rfl (by decide) n_X8_copy_X8 m_X8_copy_3 rfl dX8_copy_42 ?_
          refine lv_iload_n hx hb dX8_copy_45 rfl (lv_at hl 1 rfl) ?_
          obtain ⟨hi, h⟩ := h
          refine kLi C S rfl rfl hi dX8_copy_46 ?_
          refine lv_aload_n hx hb dX8_copy_47 rfl (lv_at hl 0 rfl) ?_
          refine kg8 (k := 6) (v := .ref (ad 91)) C S rfl (by decide) n_X8_copy_X8 m_X8_copy_3 rfl dX8_copy_48 ?_
          refine lv_iload_n hx hb dX8_copy_51 rfl (lv_at hl 3 rfl) ?_
          obtain ⟨hi, h⟩ := h
          refine kLi C S rfl rfl hi dX8_copy_52 ?_
          refine lv_icmp_eq (tgt := 62) hx hb dX8_copy_53 (by decide) (fun c1 => ?_) (fun c1 => ?_)
          · have h := h.1 c1
            refine lv_iload_n hx hb dX8_copy_62 rfl (lv_at hl 2 rfl) ?_
            refine lv_if_lt (tgt := 111) hx hb dX8_copy_63 (by decide) (fun c1 => ?_) (fun c1 => ?_)
            · have h := h.1 c1
              exact o_X8_copy_111_w C g_3 _ _ _ S (lv_sub hl [0] rfl) h
            · have h := h.2 c1
              refine lv_iload hx hb dX8_copy_66 (lv_at hl 4 rfl) ?_
              refine lv_if_lt (tgt := 111) hx hb dX8_copy_68 (by decide) (fun c1 => ?_) (fun c1 => ?_)
              · have h := h.1 c1
                exact o_X8_copy_111_w C g_3 _ _ _ S (lv_sub hl [0] rfl) h
              · have h := h.2 c1
                refine lv_iload hx hb dX8_copy_71 (lv_at hl 5 rfl) ?_
                refine lv_if_lt (tgt := 111) hx hb dX8_copy_73 (by decide) (fun c1 => ?_) (fun c1 => ?_)
                · have h := h.1 c1
                  exact o_X8_copy_111_w C g_3 _ _ _ S (lv_sub hl [0] rfl) h
                · have h := h.2 c1
                  refine lv_iload_n hx hb dX8_copy_76 rfl (lv_at hl 2 rfl) ?_
                  refine lv_i2l hx hb dX8_copy_77 rfl ?_
                  refine lv_iload hx hb dX8_copy_78 (lv_at hl 5 rfl) ?_
                  refine lv_i2l hx hb dX8_copy_80 rfl ?_
                  refine lv_ladd hx hb dX8_copy_81 ?_
                  refine lv_aload_n hx hb dX8_copy_82 rfl (lv_at hl 0 rfl) ?_
                  refine kg8 (k := 7) (v := .ref (ad 92)) C S rfl (by decide) n_X8_copy_X8 m_X8_copy_4 rfl dX8_copy_83 ?_
                  refine lv_iload_n hx hb dX8_copy_86 rfl (lv_at hl 1 rfl) ?_
                  obtain ⟨hi, h⟩ := h
                  refine kLi C S rfl rfl hi dX8_copy_87 ?_
                  refine lv_i2l hx hb dX8_copy_88 rfl ?_
                  refine W.lcmp hx hb dX8_copy_89 ?_
                  refine lv_if_gt (tgt := 111) hx hb dX8_copy_90 (by decide) (fun c1 => ?_) (fun c1 => ?_)
                  · have h := h.1 c1
                    exact o_X8_copy_111_w C g_3 _ _ _ S (lv_sub hl [0] rfl) h
                  · have h := h.2 c1
                    refine lv_iload hx hb dX8_copy_93 (lv_at hl 4 rfl) ?_
                    refine lv_i2l hx hb dX8_copy_95 rfl ?_
                    refine lv_iload hx hb dX8_copy_96 (lv_at hl 5 rfl) ?_
                    refine lv_i2l hx hb dX8_copy_98 rfl ?_
                    refine lv_ladd hx hb dX8_copy_99 ?_
                    refine lv_aload_n hx hb dX8_copy_100 rfl (lv_at hl 0 rfl) ?_
                    refine kg8 (k := 7) (v := .ref (ad 92)) C S rfl (by decide) n_X8_copy_X8 m_X8_copy_4 rfl dX8_copy_101 ?_
                    refine lv_iload_n hx hb dX8_copy_104 rfl (lv_at hl 3 rfl) ?_
                    obtain ⟨hi, h⟩ := h
                    refine kLi C S rfl rfl hi dX8_copy_105 ?_
                    refine lv_i2l hx hb dX8_copy_106 rfl ?_
                    refine W.lcmp hx hb dX8_copy_107 ?_
                    refine lv_if_le (tgt := 117) hx hb dX8_copy_108 (by decide) (fun c1 => ?_) (fun c1 => ?_)
                    · have h := h.1 c1
                      refine lv_iconst (v := 0) hx hb dX8_copy_117 (by decide) ?_
                      refine lv_istore (lv' := [(6, .int 0), (0, .ref (ad 86)), (1, .int x1), (2, .int x2), (3, .int x3), (4, .int x4), (5, .int x5)]) hx hb dX8_copy_118 hl (by decide) rfl (fun ls hl => ?_)
                      obtain ⟨n120, h⟩ := h
                      refine o_X8_copy_120_w C ?_ n120 g_3 x1 x2 x3 x4 x5 0 _ _ _ S (lv_sub hl [1, 2, 3, 4, 5, 6, 0] rfl) h
                      · intro g x3 x4 x5 H locs ls S hl h
                        refine lv_iconst (v := 0) hx hb dX8_copy_154 (by decide) ?_
                        refine lv_istore (lv' := [(6, .int 0), (0, .ref (ad 86)), (3, .int x3), (4, .int x4), (5, .int x5)]) hx hb dX8_copy_155 hl (by decide) rfl (fun ls hl => ?_)
                        obtain ⟨n157, h⟩ := h
                        refine o_X8_copy_157_w C ?_ n157 g x3 x4 x5 0 _ _ _ S (lv_sub hl [1, 2, 3, 4, 0] rfl) h
                        · intro g x5 H locs ls S hl h
                          refine lv_aload_n hx hb dX8_copy_192 rfl (lv_at hl 0 rfl) ?_
                          refine lv_iload hx hb dX8_copy_193 (lv_at hl 1 rfl) ?_
                          refine kV_i (As := [.int x5]) (rest := []) C S hl.1 (o_X8_well_c h) (wd_o8 rfl) rfl (cw_X8_copy_X8_well C.1.2.2.2.2) rfl rfl (Nat.le_of_ble_eq_true rfl) dX8_copy_195 (fun r_14 g_13 H locs h S => ?_)
                          exact kRi C S h dX8_copy_198
                    · have h := h.2 c1
                      exact o_X8_copy_111_w C g_3 _ _ _ S (lv_sub hl [0] rfl) h
          · have h := h.2 c1
            refine lv_aload_n hx hb dX8_copy_56 rfl (lv_at hl 0 rfl) ?_
            refine lv_iconst (v := 5) hx hb dX8_copy_57 (by decide) ?_
            refine kV_i (As := [.int 5]) (rest := []) C S hl.1 (o_X8_found_c h) (wd_o8 rfl) rfl (cw_X8_copy_X8_found C.1.2.2.2.2) rfl rfl (Nat.le_of_ble_eq_true rfl) dX8_copy_58 (fun r_16 g_15 H locs h S => ?_)
            exact kRi C S h dX8_copy_61
        · have h := h.2 c1
          exact o_X8_copy_35_w C g_3 _ _ _ S (lv_sub hl [0] rfl) h
    · have h := h.2 c1
      refine kLdc C m_X8_copy_1 dX8_copy_14 ?_
      exact kRi C S h dX8_copy_16
