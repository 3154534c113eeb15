/-! ClawCase.fault()I, height 0 -/
theorem m_X7_fault_1 : Cond.fieldLink RX7 54 "ClawCase" "latestFault" "I" ∈ wsX7_fault := List.mem_of_getElem? (i := 1) (by decide +kernel)
theorem n_X7_fault_X7 : ∀ w ∈ wsX70, w ∈ wsX7_fault := mem_by [2, 3, 4, 5, 6, 7, 8, 9, 10] (by decide +kernel)
def o_X7_fault (Q : Int32 → Mm → Prop) (g : Mm) : Prop := Q (g.1 0 7) g
set_option maxHeartbeats 4000000 in
set_option maxRecDepth 100000 in
theorem o_X7_fault_c {l : Launch} {dC : Nat → ClassId} {dI : Nat → Nat → Nat} {cy : Nat → ClassId} {ad tz : Nat → Nat} {Q : Int32 → Mm → Prop} {g : Mm} (h : o_X7_fault Q g) : CI l dC dI cy ad tz yX7_fault wsX7_fault (rmD 0) [.ref (ad 0)] g Q := by
  refine CI.of (by decide) rfl rfl (Nat.le_of_ble_eq_true rfl) ?_
  intro p e s m args below meth c ls C hl S
  have hl : lv_has ls 1 [(0, .ref (ad 0))] := hl
  have hx := C.1.1
  have hb := C.1.2.1
  unfold o_X7_fault at h
  refine lv_aload_n hx hb dX7_fault_0 rfl (lv_at hl 0 rfl) ?_
  refine kg7 (k := 7) (v := .int (g.1 0 7)) C S rfl (by decide) n_X7_fault_X7 m_X7_fault_1 rfl dX7_fault_1 ?_
  exact kRi C S h dX7_fault_4
/-! ClawCase.feed(I)I, height 1 -/
theorem m_X7_feed_2 : Cond.fieldLink RX7 18 "ClawCase" "reader" "LClawCase$Reader;" ∈ wsX7_feed := List.mem_of_getElem? (i := 2) (by decide +kernel)
theorem n_X7_feed_X7 : ∀ w ∈ wsX70, w ∈ wsX7_feed := mem_by [16, 17, 18, 19, 20, 21, 22, 23, 24] (by decide +kernel)
theorem m_X7_feed_3 : Cond.fieldLink RX7 109 "ClawCase$Reader" "bytes" "I" ∈ wsX7_feed := List.mem_of_getElem? (i := 3) (by decide +kernel)
theorem n_X7_feed_X5 : ∀ w ∈ wsX50, w ∈ wsX7_feed := mem_by [25, 26, 27, 28, 29, 30, 31, 32] (by decide +kernel)
theorem cw_X7_feed_X5_append {s : State} {args : Array Value} (ht : ∀ w ∈ wsX7_feed, w.before args s = true) : CallW (rmD 1) s args RX7 RX5 113 yX5_append cX5_append 2 (some .int) wsX5_append (rmD (0)) 0 0 1 := cwV 1 ht gX7_feed_X5_append rfl rfl rfl (by decide +kernel) ⟨Nat.le_of_ble_eq_true rfl, Nat.le_of_ble_eq_true rfl⟩
theorem m_X7_feed_4 : Cond.constant RX7 112 (-1000003) ∈ wsX7_feed := List.mem_of_getElem? (i := 4) (by decide +kernel)
theorem m_X7_feed_1 : Cond.constant RX7 70 (-1000001) ∈ wsX7_feed := List.mem_of_getElem? (i := 1) (by decide +kernel)
theorem cw_X7_feed_X7_within {s : State} {args : Array Value} (ht : ∀ w ∈ wsX7_feed, w.before args s = true) : CallB (rmD 1) s args RX7 66 yX7_within cX7_within 3 (some .boolean) wsX7_within (rmD (0)) 0 0 3 ∧ (Cond.static yX7_within).before args s = true := va_cwS 3 ht gX7_feed_X7_within rfl rfl rfl (by decide +kernel) ⟨Nat.le_of_ble_eq_true rfl, Nat.le_of_ble_eq_true rfl⟩
def o_X7_feed (Q : Int32 → Mm → Prop) (g : Mm) (x1 : Int32) : Prop := o_X7_within (fun (r_2 : Int32) (g_1 : Mm) => ((¬ r_2 = 0) → (((g_1.1 2 2) < 70) → o_X5_append (fun (r_4 : Int32) (g_3 : Mm) => Q r_4 g_3) g_1 x1) ∧ ((¬ (g_1.1 2 2) < 70) → Q (-1000003) g_1)) ∧ ((r_2 = 0) → Q (-1000001) g_1)) g x1 0 255
set_option maxHeartbeats 4000000 in
set_option maxRecDepth 100000 in
theorem o_X7_feed_c {l : Launch} {dC : Nat → ClassId} {dI : Nat → Nat → Nat} {cy : Nat → ClassId} {ad tz : Nat → Nat} {Q : Int32 → Mm → Prop} {g : Mm} {x1 : Int32} (h : o_X7_feed Q g x1) : CI l dC dI cy ad tz yX7_feed wsX7_feed (rmD 1) [.ref (ad 0), .int x1] g Q := by
  refine CI.of (by decide) rfl rfl (Nat.le_of_ble_eq_true rfl) ?_
  intro p e s m args below meth c ls C hl S
  have hl : lv_has ls 2 [(0, .ref (ad 0)), (1, .int x1)] := hl
  have hx := C.1.1
  have hb := C.1.2.1
  unfold o_X7_feed at h
  refine lv_iload_n hx hb dX7_feed_0 rfl (lv_at hl 1 rfl) ?_
  refine lv_iconst (v := 0) hx hb dX7_feed_1 (by decide) ?_
  refine lv_sipush (v := 255) hx hb dX7_feed_2 (by decide) ?_
  refine kS_i (As := [.int x1, .int 0, .int 255]) (rest := []) C S hl.1 (o_X7_within_c h) (cw_X7_feed_X7_within C.1.2.2.2.2) rfl rfl (Nat.le_of_ble_eq_true rfl) dX7_feed_5 (fun r_2 g_1 H locs h S => ?_)
  refine lv_if_ne (tgt := 14) hx hb dX7_feed_8 (by decide) (fun c1 => ?_) (fun c1 => ?_)
  · have h := h.1 c1
    refine lv_aload_n hx hb dX7_feed_14 rfl (lv_at hl 0 rfl) ?_
    refine kg7 (k := 1) (v := .ref (ad 2)) C S rfl (by decide) n_X7_feed_X7 m_X7_feed_2 rfl dX7_feed_15 ?_
    refine kg5 (k := 2) (v := .int (g_1.1 2 2)) C S rfl (by decide) n_X7_feed_X5 m_X7_feed_3 rfl dX7_feed_18 ?_
    refine lv_bipush (v := 70) hx hb dX7_feed_21 (by decide) ?_
    refine lv_icmp_lt (tgt := 29) hx hb dX7_feed_23 (by decide) (fun c1 => ?_) (fun c1 => ?_)
    · have h := h.1 c1
      refine lv_aload_n hx hb dX7_feed_29 rfl (lv_at hl 0 rfl) ?_
      refine kg7 (k := 1) (v := .ref (ad 2)) C S rfl (by decide) n_X7_feed_X7 m_X7_feed_2 rfl dX7_feed_30 ?_
      refine lv_iload_n hx hb dX7_feed_33 rfl (lv_at hl 1 rfl) ?_
      refine kV_i (As := [.int x1]) (rest := []) C S hl.1 (o_X5_append_c h) (wd_o5 rfl) rfl (cw_X7_feed_X5_append C.1.2.2.2.2) rfl rfl (Nat.le_of_ble_eq_true rfl) dX7_feed_34 (fun r_4 g_3 H locs h S => ?_)
      exact kRi C S h dX7_feed_37
    · have h := h.2 c1
      refine kLdc C m_X7_feed_4 dX7_feed_26 ?_
      exact kRi C S h dX7_feed_28
  · have h := h.2 c1
    refine kLdc C m_X7_feed_1 dX7_feed_11 ?_
    exact kRi C S h dX7_feed_13
/-! ClawCase.fits(IIIII)I, height 6 -/
theorem m_X7_fits_1 : Cond.constant RX7 70 (-1000001) ∈ wsX7_fits := List.mem_of_getElem? (i := 1) (by decide +kernel)
theorem m_X7_fits_2 : Cond.fieldLink RX7 11 "ClawCase" "rows" "[LClawCase$Row;" ∈ wsX7_fits := List.mem_of_getElem? (i := 2) (by decide +kernel)
theorem n_X7_fits_X7 : ∀ w ∈ wsX70, w ∈ wsX7_fits := mem_by [128, 129, 130, 131, 132, 133, 134, 135, 136] (by decide +kernel)
theorem m_X7_fits_3 : Cond.fieldLink RX7 82 "ClawCase$Row" "missing" "Z" ∈ wsX7_fits := List.mem_of_getElem? (i := 3) (by decide +kernel)
theorem n_X7_fits_X6 : ∀ w ∈ wsX60, w ∈ wsX7_fits := mem_by [137, 138, 139, 140] (by decide +kernel)
theorem m_X7_fits_4 : Cond.fieldLink RX7 43 "ClawCase" "foretold" "LClawCase$Foretold;" ∈ wsX7_fits := List.mem_of_getElem? (i := 4) (by decide +kernel)
theorem m_X7_fits_5 : Cond.fieldLink RX7 25 "ClawCase" "now" "LClawCase$Box;" ∈ wsX7_fits := List.mem_of_getElem? (i := 5) (by decide +kernel)
theorem cw_X7_fits_X7_fine {s : State} {args : Array Value} (ht : ∀ w ∈ wsX7_fits, w.before args s = true) : CallW (rmD 6) s args RX7 RX7 79 yX7_fine cX7_fine 2 (some .int) wsX7_fine (rmD (0)) 0 0 1 := cwV 1 ht gX7_fits_X7_fine rfl rfl rfl (by decide +kernel) ⟨Nat.le_of_ble_eq_true rfl, Nat.le_of_ble_eq_true rfl⟩
theorem cw_X7_fits_X4_fitting {s : State} {args : Array Value} (ht : ∀ w ∈ wsX7_fits, w.before args s = true) : CallW (rmD 6) s args RX7 RX4 235 yX4_fitting cX4_fitting 11 (some .int) wsX4_fitting (rmD (5)) 0 0 6 := cwV 6 ht gX7_fits_X4_fitting rfl rfl rfl (by decide +kernel) ⟨Nat.le_of_ble_eq_true rfl, Nat.le_of_ble_eq_true rfl⟩
theorem cw_X7_fits_X7_found {s : State} {args : Array Value} (ht : ∀ w ∈ wsX7_fits, w.before args s = true) : CallW (rmD 6) s args RX7 RX7 71 yX7_found cX7_found 2 (some .int) wsX7_found (rmD (0)) 0 0 1 := cwV 1 ht gX7_fits_X7_found rfl rfl rfl (by decide +kernel) ⟨Nat.le_of_ble_eq_true rfl, Nat.le_of_ble_eq_true rfl⟩
theorem cw_X7_fits_X6_spans {s : State} {args : Array Value} (ht : ∀ w ∈ wsX7_fits, w.before args s = true) : CallW (rmD 6) s args RX7 RX6 86 yX6_spans cX6_spans 3 (some .boolean) wsX6_spans (rmD (1)) 0 0 2 := cwV 2 ht gX7_fits_X6_spans rfl rfl rfl (by decide +kernel) ⟨Nat.le_of_ble_eq_true rfl, Nat.le_of_ble_eq_true rfl⟩
theorem cw_X7_fits_X7_within {s : State} {args : Array Value} (ht : ∀ w ∈ wsX7_fits, w.before args s = true) : CallB (rmD 6) s args RX7 66 yX7_within cX7_within 3 (some .boolean) wsX7_within (rmD (0)) 0 0 3 ∧ (Cond.static yX7_within).before args s = true := va_cwS 3 ht gX7_fits_X7_within rfl rfl rfl (by decide +kernel) ⟨Nat.le_of_ble_eq_true rfl, Nat.le_of_ble_eq_true rfl⟩
theorem cw_X7_fits_X7_isRow {s : State} {args : Array Value} (ht : ∀ w ∈ wsX7_fits, w.before args s = true) : CallB (rmD 6) s args RX7 62 yX7_isRow cX7_isRow 1 (some .boolean) wsX7_isRow (rmD (1)) 0 0 1 ∧ (Cond.static yX7_isRow).before args s = true := va_cwS 1 ht gX7_fits_X7_isRow rfl rfl rfl (by decide +kernel) ⟨Nat.le_of_ble_eq_true rfl, Nat.le_of_ble_eq_true rfl⟩
theorem cw_X7_fits_X7_isToy {s : State} {args : Array Value} (ht : ∀ w ∈ wsX7_fits, w.before args s = true) : CallW (rmD 6) s args RX7 RX7 161 yX7_isToy cX7_isToy 2 (some .boolean) wsX7_isToy (rmD (1)) 0 0 1 := cwV 1 ht gX7_fits_X7_isToy rfl rfl rfl (by decide +kernel) ⟨Nat.le_of_ble_eq_true rfl, Nat.le_of_ble_eq_true rfl⟩
def o_X7_fits (Q : Int32 → Mm → Prop) (g : Mm) (x1 : Int32) (x2 : Int32) (x3 : Int32) (x4 : Int32) (x5 : Int32) : Prop := o_X7_isToy (fun (r_2 : Int32) (g_1 : Mm) => ((r_2 = 0) → Q (-1000001) g_1) ∧ ((¬ r_2 = 0) → o_X7_isRow (fun (r_4 : Int32) (g_3 : Mm) => ((r_4 = 0) → Q (-1000001) g_3) ∧ ((¬ r_4 = 0) → o_X7_within (fun (r_6 : Int32) (g_5 : Mm) => ((r_6 = 0) → Q (-1000001) g_5) ∧ ((¬ r_6 = 0) → o_X7_within (fun (r_8 : Int32) (g_7 : Mm) => ((¬ r_8 = 0) → vp_in x2 8 ∧ ((((g_7.1 (60 + 2 * x2.toNatClampNeg) 1) = 0) → o_X6_spans (fun (r_11 : Int32) (g_10 : Mm) => ((¬ r_11 = 0) → o_X4_fitting (fun (r_13 : Int32) (g_12 : Mm) => o_X7_fine (fun (r_15 : Int32) (g_14 : Mm) => Q r_15 g_14) g_12 r_13) 9 (60 + 2 * x2.toNatClampNeg) g_10 x1 x3 x4 x5) ∧ ((r_11 = 0) → o_X7_found (fun (r_17 : Int32) (g_16 : Mm) => Q r_17 g_16) g_10 2)) (60 + 2 * x2.toNatClampNeg) g_7 x3 x4) ∧ ((¬ (g_7.1 (60 + 2 * x2.toNatClampNeg) 1) = 0) → o_X7_found (fun (r_19 : Int32) (g_18 : Mm) => Q r_19 g_18) g_7 1))) ∧ ((r_8 = 0) → Q (-1000001) g_7)) g_5 x5 0 3)) g_3 x4 1 12)) g_1 x2)) g x1
set_option maxHeartbeats 4000000 in
set_option maxRecDepth 100000 in
theorem o_X7_fits_c {l : Launch} {dC : Nat → ClassId} {dI : Nat → Nat → Nat} {cy : Nat → ClassId} {ad tz : Nat → Nat} {Q : Int32 → Mm → Prop} {g : Mm} {x1 : Int32} {x2 : Int32} {x3 : Int32} {x4 : Int32} {x5 : Int32} (h : o_X7_fits Q g x1 x2 x3 x4 x5) : CI l dC dI cy ad tz yX7_fits wsX7_fits (rmD 6) [.ref (ad 0), .int x1, .int x2, .int x3, .int x4, .int x5] g Q := by
  refine CI.of (by decide) rfl rfl (Nat.le_of_ble_eq_true rfl) ?_
  intro p e s m args below meth c ls C hl S
  have hl : lv_has ls 7 [(0, .ref (ad 0)), (1, .int x1), (2, .int x2), (3, .int x3), (4, .int x4), (5, .int x5)] := hl
  have hx := C.1.1
  have hb := C.1.2.1
  unfold o_X7_fits at h
  refine lv_aload_n hx hb dX7_fits_0 rfl (lv_at hl 0 rfl) ?_
  refine lv_iload_n hx hb dX7_fits_1 rfl (lv_at hl 1 rfl) ?_
  refine kV_i (As := [.int x1]) (rest := []) C S hl.1 (o_X7_isToy_c h) (wd_o7 rfl) rfl (cw_X7_fits_X7_isToy C.1.2.2.2.2) rfl rfl (Nat.le_of_ble_eq_true rfl) dX7_fits_2 (fun r_2 g_1 H locs h S => ?_)
  refine lv_if_eq (tgt := 36) hx hb dX7_fits_5 (by decide) (fun c1 => ?_) (fun c1 => ?_)
  · have h := h.1 c1
    refine kLdc C m_X7_fits_1 dX7_fits_36 ?_
    exact kRi C S h dX7_fits_38
  · have h := h.2 c1
    refine lv_iload_n hx hb dX7_fits_8 rfl (lv_at hl 2 rfl) ?_
    refine kS_i (As := [.int x2]) (rest := []) C S hl.1 (o_X7_isRow_c h) (cw_X7_fits_X7_isRow C.1.2.2.2.2) rfl rfl (Nat.le_of_ble_eq_true rfl) dX7_fits_9 (fun r_4 g_3 H locs h S => ?_)
    refine lv_if_eq (tgt := 36) hx hb dX7_fits_12 (by decide) (fun c1 => ?_) (fun c1 => ?_)
    · have h := h.1 c1
      refine kLdc C m_X7_fits_1 dX7_fits_36 ?_
      exact kRi C S h dX7_fits_38
    · have h := h.2 c1
      refine lv_iload hx hb dX7_fits_15 (lv_at hl 4 rfl) ?_
      refine lv_iconst (v := 1) hx hb dX7_fits_17 (by decide) ?_
      refine lv_bipush (v := 12) hx hb dX7_fits_18 (by decide) ?_
      refine kS_i (As := [.int x4, .int 1, .int 12]) (rest := []) C S hl.1 (o_X7_within_c h) (cw_X7_fits_X7_within C.1.2.2.2.2) rfl rfl (Nat.le_of_ble_eq_true rfl) dX7_fits_20 (fun r_6 g_5 H locs h S => ?_)
      refine lv_if_eq (tgt := 36) hx hb dX7_fits_23 (by decide) (fun c1 => ?_) (fun c1 => ?_)
      · have h := h.1 c1
        refine kLdc C m_X7_fits_1 dX7_fits_36 ?_
        exact kRi C S h dX7_fits_38
      · have h := h.2 c1
        refine lv_iload hx hb dX7_fits_26 (lv_at hl 5 rfl) ?_
        refine lv_iconst (v := 0) hx hb dX7_fits_28 (by decide) ?_
        refine lv_iconst (v := 3) hx hb dX7_fits_29 (by decide) ?_
        refine kS_i (As := [.int x5, .int 0, .int 3]) (rest := []) C S hl.1 (o_X7_within_c h) (cw_X7_fits_X7_within C.1.2.2.2.2) rfl rfl (Nat.le_of_ble_eq_true rfl) dX7_fits_30 (fun r_8 g_7 H locs h S => ?_)
        refine lv_if_ne (tgt := 39) hx hb dX7_fits_33 (by decide) (fun c1 => ?_) (fun c1 => ?_)
        · have h := h.1 c1
          refine lv_aload_n hx hb dX7_fits_39 rfl (lv_at hl 0 rfl) ?_
          refine kg7 (k := 0) (v := .ref (ad 1)) C S rfl (by decide) n_X7_fits_X7 m_X7_fits_2 rfl dX7_fits_40 ?_
          refine lv_iload_n hx hb dX7_fits_43 rfl (lv_at hl 2 rfl) ?_
          obtain ⟨hi_9, h⟩ := h
          refine kAr C S rfl rfl hi_9 dX7_fits_44 ?_
          refine lv_astore (lv' := [(6, .ref (ad (60 + 2 * x2.toNatClampNeg))), (0, .ref (ad 0)), (1, .int x1), (2, .int x2), (3, .int x3), (4, .int x4), (5, .int x5)]) hx hb dX7_fits_45 hl (by decide) rfl (fun ls hl => ?_)
          refine lv_aload hx hb dX7_fits_47 (lv_at hl 0 rfl) ?_
          refine kg6 (k := 1) (v := .int (g_7.1 (60 + 2 * x2.toNatClampNeg) 1)) C S (ly_rows _ (in_lt hi_9)) (by decide) n_X7_fits_X6 m_X7_fits_3 rfl dX7_fits_49 ?_
          refine lv_if_eq (tgt := 61) hx hb dX7_fits_52 (by decide) (fun c1 => ?_) (fun c1 => ?_)
          · have h := h.1 c1
            refine lv_aload hx hb dX7_fits_61 (lv_at hl 0 rfl) ?_
            refine lv_iload_n hx hb dX7_fits_63 rfl (lv_at hl 4 rfl) ?_
            refine lv_iload hx hb dX7_fits_64 (lv_at hl 5 rfl) ?_
            refine kV_i (As := [.int x3, .int x4]) (rest := []) C S hl.1 (o_X6_spans_c (ly_rows _ (in_lt hi_9)) h) (wd_o6 (ly_rows _ (in_lt hi_9))) rfl (cw_X7_fits_X6_spans C.1.2.2.2.2) rfl rfl (Nat.le_of_ble_eq_true rfl) dX7_fits_66 (fun r_11 g_10 H locs h S => ?_)
            refine lv_if_ne (tgt := 78) hx hb dX7_fits_69 (by decide) (fun c1 => ?_) (fun c1 => ?_)
            · have h := h.1 c1
              refine lv_aload_n hx hb dX7_fits_78 rfl (lv_at hl 1 rfl) ?_
              refine lv_aload_n hx hb dX7_fits_79 rfl (lv_at hl 1 rfl) ?_
              refine kg7 (k := 5) (v := .ref (ad 41)) C S rfl (by decide) n_X7_fits_X7 m_X7_fits_4 rfl dX7_fits_80 ?_
              refine lv_aload_n hx hb dX7_fits_83 rfl (lv_at hl 1 rfl) ?_
              refine kg7 (k := 2) (v := .ref (ad 9)) C S rfl (by decide) n_X7_fits_X7 m_X7_fits_5 rfl dX7_fits_84 ?_
              refine lv_iload_n hx hb dX7_fits_87 rfl (lv_at hl 2 rfl) ?_
              refine lv_aload hx hb dX7_fits_88 (lv_at hl 0 rfl) ?_
              refine lv_iload_n hx hb dX7_fits_90 rfl (lv_at hl 4 rfl) ?_
              refine lv_iload hx hb dX7_fits_91 (lv_at hl 5 rfl) ?_
              refine lv_iload hx hb dX7_fits_93 (lv_at hl 6 rfl) ?_
              refine kV_i (As := [.ref (ad 9), .int x1, .ref (ad (60 + 2 * x2.toNatClampNeg)), .int x3, .int x4, .int x5]) (rest := [.ref (ad 0)]) C S hl.1 (o_X4_fitting_c rfl (ly_rows _ (in_lt hi_9)) h) (wd_o4 rfl) rfl (cw_X7_fits_X4_fitting C.1.2.2.2.2) rfl rfl (Nat.le_of_ble_eq_true rfl) dX7_fits_95 (fun r_13 g_12 H locs h S => ?_)
              refine kV_i (As := [.int r_13]) (rest := []) C S hl.1 (o_X7_fine_c h) (wd_o7 rfl) rfl (cw_X7_fits_X7_fine C.1.2.2.2.2) rfl rfl (Nat.le_of_ble_eq_true rfl) dX7_fits_98 (fun r_15 g_14 H locs h S => ?_)
              exact kRi C S h dX7_fits_101
            · have h := h.2 c1
              refine lv_aload_n hx hb dX7_fits_72 rfl (lv_at hl 1 rfl) ?_
              refine lv_iconst (v := 2) hx hb dX7_fits_73 (by decide) ?_
              refine kV_i (As := [.int 2]) (rest := []) C S hl.1 (o_X7_found_c h) (wd_o7 rfl) rfl (cw_X7_fits_X7_found C.1.2.2.2.2) rfl rfl (Nat.le_of_ble_eq_true rfl) dX7_fits_74 (fun r_17 g_16 H locs h S => ?_)
              exact kRi C S h dX7_fits_77
          · have h := h.2 c1
            refine lv_aload_n hx hb dX7_fits_55 rfl (lv_at hl 1 rfl) ?_
            refine lv_iconst (v := 1) hx hb dX7_fits_56 (by decide) ?_
            refine kV_i (As := [.int 1]) (rest := []) C S hl.1 (o_X7_found_c h) (wd_o7 rfl) rfl (cw_X7_fits_X7_found C.1.2.2.2.2) rfl rfl (Nat.le_of_ble_eq_true rfl) dX7_fits_57 (fun r_19 g_18 H locs h S => ?_)
            exact kRi C S h dX7_fits_60
        · have h := h.2 c1
          refine kLdc C m_X7_fits_1 dX7_fits_36 ?_
          exact kRi C S h dX7_fits_38
/-! ClawCase.gives(I)I, height 3 -/
theorem m_X7_gives_3 : Cond.fieldLink RX7 25 "ClawCase" "now" "LClawCase$Box;" ∈ wsX7_gives := List.mem_of_getElem? (i := 3) (by decide +kernel)
theorem n_X7_gives_X7 : ∀ w ∈ wsX70, w ∈ wsX7_gives := mem_by [55, 56, 57, 58, 59, 60, 61, 62, 63] (by decide +kernel)
theorem m_X7_gives_4 : Cond.constant RX7 179 (-1000000) ∈ wsX7_gives := List.mem_of_getElem? (i := 4) (by decide +kernel)
theorem cw_X7_gives_X3_landing {s : State} {args : Array Value} (ht : ∀ w ∈ wsX7_gives, w.before args s = true) : CallW (rmD 3) s args RX7 RX3 211 yX3_landing cX3_landing 7 (some .int) wsX3_landing (rmD (2)) 0 0 3 := cwV 3 ht gX7_gives_X3_landing rfl rfl rfl (by decide +kernel) ⟨Nat.le_of_ble_eq_true rfl, Nat.le_of_ble_eq_true rfl⟩
theorem cw_X7_gives_X3_gripAhead {s : State} {args : Array Value} (ht : ∀ w ∈ wsX7_gives, w.before args s = true) : CallW (rmD 3) s args RX7 RX3 150 yX3_gripAhead cX3_gripAhead 2 (some .int) wsX3_gripAhead (rmD (0)) 0 0 1 := cwV 1 ht gX7_gives_X3_gripAhead rfl rfl rfl (by decide +kernel) ⟨Nat.le_of_ble_eq_true rfl, Nat.le_of_ble_eq_true rfl⟩
theorem cw_X7_gives_X3_uppermost {s : State} {args : Array Value} (ht : ∀ w ∈ wsX7_gives, w.before args s = true) : CallW (rmD 3) s args RX7 RX3 205 yX3_uppermost cX3_uppermost 4 (some .int) wsX3_uppermost (rmD (0)) 0 0 1 := cwV 1 ht gX7_gives_X3_uppermost rfl rfl rfl (by decide +kernel) ⟨Nat.le_of_ble_eq_true rfl, Nat.le_of_ble_eq_true rfl⟩
theorem m_X7_gives_2 : Cond.constant RX7 70 (-1000001) ∈ wsX7_gives := List.mem_of_getElem? (i := 2) (by decide +kernel)
theorem cw_X7_gives_X7_isColumn {s : State} {args : Array Value} (ht : ∀ w ∈ wsX7_gives, w.before args s = true) : CallB (rmD 3) s args RX7 144 yX7_isColumn cX7_isColumn 1 (some .boolean) wsX7_isColumn (rmD (1)) 0 0 1 ∧ (Cond.static yX7_isColumn).before args s = true := va_cwS 1 ht gX7_gives_X7_isColumn rfl rfl rfl (by decide +kernel) ⟨Nat.le_of_ble_eq_true rfl, Nat.le_of_ble_eq_true rfl⟩
theorem m_X7_gives_1 : Cond.constant RX7 143 (-1000002) ∈ wsX7_gives := List.mem_of_getElem? (i := 1) (by decide +kernel)
theorem cw_X7_gives_X7_noCase {s : State} {args : Array Value} (ht : ∀ w ∈ wsX7_gives, w.before args s = true) : CallW (rmD 3) s args RX7 RX7 140 yX7_noCase cX7_noCase 1 (some .boolean) wsX7_noCase (rmD (0)) 0 0 0 := cwV 0 ht gX7_gives_X7_noCase rfl rfl rfl (by decide +kernel) ⟨Nat.le_of_ble_eq_true rfl, Nat.le_of_ble_eq_true rfl⟩
def o_X7_gives (Q : Int32 → Mm → Prop) (g : Mm) (x1 : Int32) : Prop := o_X7_noCase (fun (r_2 : Int32) (g_1 : Mm) => ((r_2 = 0) → o_X7_isColumn (fun (r_4 : Int32) (g_3 : Mm) => ((¬ r_4 = 0) → o_X3_uppermost (fun (r_6 : Int32) (g_5 : Mm) => ((¬ r_6 = (-1000000)) → o_X3_gripAhead (fun (r_8 : Int32) (g_7 : Mm) => o_X3_landing (fun (r_10 : Int32) (g_9 : Mm) => Q r_10 g_9) 9 g_7 r_6 x1 r_8) 9 g_5 0) ∧ ((r_6 = (-1000000)) → Q (-1000000) g_5)) 9 g_3 x1) ∧ ((r_4 = 0) → Q (-1000001) g_3)) g_1 x1) ∧ ((¬ r_2 = 0) → Q (-1000002) g_1)) g
set_option maxHeartbeats 4000000 in
set_option maxRecDepth 100000 in
theorem o_X7_gives_c {l : Launch} {dC : Nat → ClassId} {dI : Nat → Nat → Nat} {cy : Nat → ClassId} {ad tz : Nat → Nat} {Q : Int32 → Mm → Prop} {g : Mm} {x1 : Int32} (h : o_X7_gives Q g x1) : CI l dC dI cy ad tz yX7_gives wsX7_gives (rmD 3) [.ref (ad 0), .int x1] g Q := by
  refine CI.of (by decide) rfl rfl (Nat.le_of_ble_eq_true rfl) ?_
  intro p e s m args below meth c ls C hl S
  have hl : lv_has ls 3 [(0, .ref (ad 0)), (1, .int x1)] := hl
  have hx := C.1.1
  have hb := C.1.2.1
  unfold o_X7_gives at h
  refine lv_aload_n hx hb dX7_gives_0 rfl (lv_at hl 0 rfl) ?_
  refine kV_i (As := []) (rest := []) C S hl.1 (o_X7_noCase_c h) (wd_o7 rfl) rfl (cw_X7_gives_X7_noCase C.1.2.2.2.2) rfl rfl (Nat.le_of_ble_eq_true rfl) dX7_gives_1 (fun r_2 g_1 H locs h S => ?_)
  refine lv_if_eq (tgt := 10) hx hb dX7_gives_4 (by decide) (fun c1 => ?_) (fun c1 => ?_)
  · have h := h.1 c1
    refine lv_iload_n hx hb dX7_gives_10 rfl (lv_at hl 1 rfl) ?_
    refine kS_i (As := [.int x1]) (rest := []) C S hl.1 (o_X7_isColumn_c h) (cw_X7_gives_X7_isColumn C.1.2.2.2.2) rfl rfl (Nat.le_of_ble_eq_true rfl) dX7_gives_11 (fun r_4 g_3 H locs h S => ?_)
    refine lv_if_ne (tgt := 20) hx hb dX7_gives_14 (by decide) (fun c1 => ?_) (fun c1 => ?_)
    · have h := h.1 c1
      refine lv_aload_n hx hb dX7_gives_20 rfl (lv_at hl 0 rfl) ?_
      refine kg7 (k := 2) (v := .ref (ad 9)) C S rfl (by decide) n_X7_gives_X7 m_X7_gives_3 rfl dX7_gives_21 ?_
      refine lv_iload_n hx hb dX7_gives_24 rfl (lv_at hl 1 rfl) ?_
      refine kV_i (As := [.int x1]) (rest := []) C S hl.1 (o_X3_uppermost_c rfl h) (wd_o3 rfl) rfl (cw_X7_gives_X3_uppermost C.1.2.2.2.2) rfl rfl (Nat.le_of_ble_eq_true rfl) dX7_gives_25 (fun r_6 g_5 H locs h S => ?_)
      refine lv_istore_n (lv' := [(2, .int r_6), (0, .ref (ad 0)), (1, .int x1)]) hx hb dX7_gives_28 rfl hl (by decide) rfl (fun ls hl => ?_)
      refine lv_iload_n hx hb dX7_gives_29 rfl (lv_at hl 0 rfl) ?_
      refine kLdc C m_X7_gives_4 dX7_gives_30 ?_
      refine lv_icmp_ne (tgt := 40) hx hb dX7_gives_32 (by decide) (fun c1 => ?_) (fun c1 => ?_)
      · have h := h.1 c1
        refine lv_aload_n hx hb dX7_gives_40 rfl (lv_at hl 1 rfl) ?_
        refine kg7 (k := 2) (v := .ref (ad 9)) C S rfl (by decide) n_X7_gives_X7 m_X7_gives_3 rfl dX7_gives_41 ?_
        refine lv_iload_n hx hb dX7_gives_44 rfl (lv_at hl 0 rfl) ?_
        refine lv_iload_n hx hb dX7_gives_45 rfl (lv_at hl 2 rfl) ?_
        refine lv_aload_n hx hb dX7_gives_46 rfl (lv_at hl 1 rfl) ?_
        refine kg7 (k := 2) (v := .ref (ad 9)) C S rfl (by decide) n_X7_gives_X7 m_X7_gives_3 rfl dX7_gives_47 ?_
        refine lv_iconst (v := 0) hx hb dX7_gives_50 (by decide) ?_
        refine kV_i (As := [.int 0]) (rest := [.int x1, .int r_6, .ref (ad 9)]) C S hl.1 (o_X3_gripAhead_c rfl h) (wd_o3 rfl) rfl (cw_X7_gives_X3_gripAhead C.1.2.2.2.2) rfl rfl (Nat.le_of_ble_eq_true rfl) dX7_gives_51 (fun r_8 g_7 H locs h S => ?_)
        refine kV_i (As := [.int r_6, .int x1, .int r_8]) (rest := []) C S hl.1 (o_X3_landing_c rfl h) (wd_o3 rfl) rfl (cw_X7_gives_X3_landing C.1.2.2.2.2) rfl rfl (Nat.le_of_ble_eq_true rfl) dX7_gives_54 (fun r_10 g_9 H locs h S => ?_)
        exact kRi C S h dX7_gives_57
      · have h := h.2 c1
        refine kLdc C m_X7_gives_4 dX7_gives_35 ?_
        refine lv_goto (tgt := 57) hx hb dX7_gives_37 (by decide) ?_
        exact kRi C S h dX7_gives_57
    · have h := h.2 c1
      refine kLdc C m_X7_gives_2 dX7_gives_17 ?_
      exact kRi C S h dX7_gives_19
  · have h := h.2 c1
    refine kLdc C m_X7_gives_1 dX7_gives_7 ?_
    exact kRi C S h dX7_gives_9
/-! ClawCase.glass()I, height 6 -/
theorem m_X7_glass_1 : Cond.fieldLink RX7 18 "ClawCase" "reader" "LClawCase$Reader;" ∈ wsX7_glass := List.mem_of_getElem? (i := 1) (by decide +kernel)
theorem n_X7_glass_X7 : ∀ w ∈ wsX70, w ∈ wsX7_glass := mem_by [100, 101, 102, 103, 104, 105, 106, 107, 108] (by decide +kernel)
theorem m_X7_glass_6 : Cond.fieldLink RX7 25 "ClawCase" "now" "LClawCase$Box;" ∈ wsX7_glass := List.mem_of_getElem? (i := 6) (by decide +kernel)
theorem m_X7_glass_7 : Cond.fieldLink RX7 127 "ClawCase$Reader" "draft" "LClawCase$Box;" ∈ wsX7_glass := List.mem_of_getElem? (i := 7) (by decide +kernel)
theorem n_X7_glass_X5 : ∀ w ∈ wsX50, w ∈ wsX7_glass := mem_by [109, 110, 111, 112, 113, 114, 115, 116] (by decide +kernel)
theorem m_X7_glass_8 : Cond.fieldLink RX7 32 "ClawCase" "acts" "LClawCase$Acts;" ∈ wsX7_glass := List.mem_of_getElem? (i := 8) (by decide +kernel)
theorem m_X7_glass_9 : Cond.fieldLink RX7 137 "ClawCase$Box" "toys" "I" ∈ wsX7_glass := List.mem_of_getElem? (i := 9) (by decide +kernel)
theorem n_X7_glass_X3 : ∀ w ∈ wsX30, w ∈ wsX7_glass := mem_by [117, 118, 119, 120, 121, 122, 123, 124, 125] (by decide +kernel)
theorem cw_X7_glass_X0_forget {s : State} {args : Array Value} (ht : ∀ w ∈ wsX7_glass, w.before args s = true) : CallW (rmD 6) s args RX7 RX0 134 yX0_forget cX0_forget 1 none wsX0_forget (rmD (0)) 0 0 0 := cwV 0 ht gX7_glass_X0_forget rfl rfl rfl (by decide +kernel) ⟨Nat.le_of_ble_eq_true rfl, Nat.le_of_ble_eq_true rfl⟩
theorem cw_X7_glass_X3_become {s : State} {args : Array Value} (ht : ∀ w ∈ wsX7_glass, w.before args s = true) : CallW (rmD 6) s args RX7 RX3 130 yX3_become cX3_become 2 none wsX3_become (rmD (1)) 0 0 1 := cwV 1 ht gX7_glass_X3_become rfl rfl rfl (by decide +kernel) ⟨Nat.le_of_ble_eq_true rfl, Nat.le_of_ble_eq_true rfl⟩
theorem m_X7_glass_2 : Cond.fieldLink RX7 120 "ClawCase$Reader" "wrong" "I" ∈ wsX7_glass := List.mem_of_getElem? (i := 2) (by decide +kernel)
theorem m_X7_glass_3 : Cond.fieldLink RX7 54 "ClawCase" "latestFault" "I" ∈ wsX7_glass := List.mem_of_getElem? (i := 3) (by decide +kernel)
theorem m_X7_glass_4 : Cond.constant RX7 123 (-1000100) ∈ wsX7_glass := List.mem_of_getElem? (i := 4) (by decide +kernel)
theorem m_X7_glass_5 : Cond.fieldLink RX7 124 "ClawCase$Reader" "at" "I" ∈ wsX7_glass := List.mem_of_getElem? (i := 5) (by decide +kernel)
theorem cw_X7_glass_X5_readTape {s : State} {args : Array Value} (ht : ∀ w ∈ wsX7_glass, w.before args s = true) : CallW (rmD 6) s args RX7 RX5 116 yX5_readTape cX5_readTape 3 (some .boolean) wsX5_readTape (rmD (5)) 0 0 0 := cwV 0 ht gX7_glass_X5_readTape rfl rfl rfl (by decide +kernel) ⟨Nat.le_of_ble_eq_true rfl, Nat.le_of_ble_eq_true rfl⟩
def o_X7_glass (Q : Int32 → Mm → Prop) (g : Mm) : Prop := o_X5_readTape (fun (r_2 : Int32) (g_1 : Mm) => ((¬ r_2 = 0) → o_X3_become (fun (g_3 : Mm) => o_X0_forget (fun (g_5 : Mm) => Q (g_5.1 9 4) g_5) g_3) 9 4 g_1) ∧ ((r_2 = 0) → ∀ g_7 : Mm, g_7 = mset g_1 0 7 (g_1.1 2 3) → (Q ((-1000100) - (g_7.1 2 4)) g_7))) g
set_option maxHeartbeats 4000000 in
set_option maxRecDepth 100000 in
theorem o_X7_glass_c {l : Launch} {dC : Nat → ClassId} {dI : Nat → Nat → Nat} {cy : Nat → ClassId} {ad tz : Nat → Nat} {Q : Int32 → Mm → Prop} {g : Mm} (h : o_X7_glass Q g) : CI l dC dI cy ad tz yX7_glass wsX7_glass (rmD 6) [.ref (ad 0)] g Q := by
  refine CI.of (by decide) rfl rfl (Nat.le_of_ble_eq_true rfl) ?_
  intro p e s m args below meth c ls C hl S
  have hl : lv_has ls 2 [(0, .ref (ad 0))] := hl
  have hx := C.1.1
  have hb := C.1.2.1
  unfold o_X7_glass at h
  refine lv_aload_n hx hb dX7_glass_0 rfl (lv_at hl 0 rfl) ?_
  refine kg7 (k := 1) (v := .ref (ad 2)) C S rfl (by decide) n_X7_glass_X7 m_X7_glass_1 rfl dX7_glass_1 ?_
  refine kV_i (As := []) (rest := []) C S hl.1 (o_X5_readTape_c h) (wd_o5 rfl) rfl (cw_X7_glass_X5_readTape C.1.2.2.2.2) rfl rfl (Nat.le_of_ble_eq_true rfl) dX7_glass_4 (fun r_2 g_1 H locs h S => ?_)
  refine lv_istore_n (lv' := [(1, .int r_2), (0, .ref (ad 0))]) hx hb dX7_glass_7 rfl hl (by decide) rfl (fun ls hl => ?_)
  refine lv_iload_n hx hb dX7_glass_8 rfl (lv_at hl 0 rfl) ?_
  refine lv_if_ne (tgt := 34) hx hb dX7_glass_9 (by decide) (fun c1 => ?_) (fun c1 => ?_)
  · have h := h.1 c1
    refine lv_aload_n hx hb dX7_glass_34 rfl (lv_at hl 1 rfl) ?_
    refine kg7 (k := 2) (v := .ref (ad 9)) C S rfl (by decide) n_X7_glass_X7 m_X7_glass_6 rfl dX7_glass_35 ?_
    refine lv_aload_n hx hb dX7_glass_38 rfl (lv_at hl 1 rfl) ?_
    refine kg7 (k := 1) (v := .ref (ad 2)) C S rfl (by decide) n_X7_glass_X7 m_X7_glass_1 rfl dX7_glass_39 ?_
    refine kg5 (k := 1) (v := .ref (ad 4)) C S rfl (by decide) n_X7_glass_X5 m_X7_glass_7 rfl dX7_glass_42 ?_
    refine kV_v (As := [.ref (ad 4)]) (rest := []) C S hl.1 (o_X3_become_c rfl rfl h) (wd_o3 rfl) rfl (cw_X7_glass_X3_become C.1.2.2.2.2) rfl rfl (Nat.le_of_ble_eq_true rfl) dX7_glass_45 (fun g_3 H locs h S => ?_)
    refine lv_aload_n hx hb dX7_glass_48 rfl (lv_at hl 1 rfl) ?_
    refine kg7 (k := 3) (v := .ref (ad 14)) C S rfl (by decide) n_X7_glass_X7 m_X7_glass_8 rfl dX7_glass_49 ?_
    refine kV_v (As := []) (rest := []) C S hl.1 (o_X0_forget_c h) (wd_o0 rfl) rfl (cw_X7_glass_X0_forget C.1.2.2.2.2) rfl rfl (Nat.le_of_ble_eq_true rfl) dX7_glass_52 (fun g_5 H locs h S => ?_)
    refine lv_aload_n hx hb dX7_glass_55 rfl (lv_at hl 1 rfl) ?_
    refine kg7 (k := 2) (v := .ref (ad 9)) C S rfl (by decide) n_X7_glass_X7 m_X7_glass_6 rfl dX7_glass_56 ?_
    refine kg3 (k := 4) (v := .int (g_5.1 9 4)) C S rfl (by decide) n_X7_glass_X3 m_X7_glass_9 rfl dX7_glass_59 ?_
    exact kRi C S h dX7_glass_62
  · have h := h.2 c1
    refine lv_aload_n hx hb dX7_glass_12 rfl (lv_at hl 1 rfl) ?_
    refine lv_aload_n hx hb dX7_glass_13 rfl (lv_at hl 1 rfl) ?_
    refine kg7 (k := 1) (v := .ref (ad 2)) C S rfl (by decide) n_X7_glass_X7 m_X7_glass_1 rfl dX7_glass_14 ?_
    refine kg5 (k := 3) (v := .int (g_1.1 2 3)) C S rfl (by decide) n_X7_glass_X5 m_X7_glass_2 rfl dX7_glass_17 ?_
    refine kp7_7 C S rfl n_X7_glass_X7 m_X7_glass_3 dX7_glass_20 (fun g_7 H locs eg_7 S => ?_)
    have h := h g_7 eg_7
    refine kLdc C m_X7_glass_4 dX7_glass_23 ?_
    refine lv_aload_n hx hb dX7_glass_25 rfl (lv_at hl 1 rfl) ?_
    refine kg7 (k := 1) (v := .ref (ad 2)) C S rfl (by decide) n_X7_glass_X7 m_X7_glass_1 rfl dX7_glass_26 ?_
    refine kg5 (k := 4) (v := .int (g_7.1 2 4)) C S rfl (by decide) n_X7_glass_X5 m_X7_glass_5 rfl dX7_glass_29 ?_
    refine lv_isub hx hb dX7_glass_32 ?_
    exact kRi C S h dX7_glass_33
/-! ClawCase.grip(II)I, height 2 -/
theorem m_X7_grip_2 : Cond.constant RX7 70 (-1000001) ∈ wsX7_grip := List.mem_of_getElem? (i := 2) (by decide +kernel)
theorem m_X7_grip_3 : Cond.fieldLink RX7 32 "ClawCase" "acts" "LClawCase$Acts;" ∈ wsX7_grip := List.mem_of_getElem? (i := 3) (by decide +kernel)
theorem n_X7_grip_X7 : ∀ w ∈ wsX70, w ∈ wsX7_grip := mem_by [46, 47, 48, 49, 50, 51, 52, 53, 54] (by decide +kernel)
theorem m_X7_grip_4 : Cond.fieldLink RX7 25 "ClawCase" "now" "LClawCase$Box;" ∈ wsX7_grip := List.mem_of_getElem? (i := 4) (by decide +kernel)
theorem m_X7_grip_5 : Cond.constant RX7 179 (-1000000) ∈ wsX7_grip := List.mem_of_getElem? (i := 5) (by decide +kernel)
theorem m_X7_grip_7 : Cond.fieldLink RX7 183 "ClawCase$Box" "high" "I" ∈ wsX7_grip := List.mem_of_getElem? (i := 7) (by decide +kernel)
theorem n_X7_grip_X3 : ∀ w ∈ wsX30, w ∈ wsX7_grip := mem_by [55, 56, 57, 58, 59, 60, 61, 62, 63] (by decide +kernel)
theorem m_X7_grip_6 : Cond.fieldLink RX7 180 "ClawCase$Box" "low" "I" ∈ wsX7_grip := List.mem_of_getElem? (i := 6) (by decide +kernel)
theorem cw_X7_grip_X2_keep {s : State} {args : Array Value} (ht : ∀ w ∈ wsX7_grip, w.before args s = true) : CallW (rmD 2) s args RX7 RX2 167 yX2_keep cX2_keep 3 none wsX2_keep (rmD (0)) 0 0 2 := cwV 2 ht gX7_grip_X2_keep rfl rfl rfl (by decide +kernel) ⟨Nat.le_of_ble_eq_true rfl, Nat.le_of_ble_eq_true rfl⟩
theorem cw_X7_grip_X0_begin {s : State} {args : Array Value} (ht : ∀ w ∈ wsX7_grip, w.before args s = true) : CallW (rmD 2) s args RX7 RX0 153 yX0_begin cX0_begin 2 (some (.object "ClawCase$Before")) wsX0_begin (rmD (1)) 0 0 0 := cwV 0 ht gX7_grip_X0_begin rfl rfl rfl (by decide +kernel) ⟨Nat.le_of_ble_eq_true rfl, Nat.le_of_ble_eq_true rfl⟩
theorem cw_X7_grip_X7_within {s : State} {args : Array Value} (ht : ∀ w ∈ wsX7_grip, w.before args s = true) : CallB (rmD 2) s args RX7 66 yX7_within cX7_within 3 (some .boolean) wsX7_within (rmD (0)) 0 0 3 ∧ (Cond.static yX7_within).before args s = true := va_cwS 3 ht gX7_grip_X7_within rfl rfl rfl (by decide +kernel) ⟨Nat.le_of_ble_eq_true rfl, Nat.le_of_ble_eq_true rfl⟩
theorem m_X7_grip_1 : Cond.constant RX7 143 (-1000002) ∈ wsX7_grip := List.mem_of_getElem? (i := 1) (by decide +kernel)
theorem cw_X7_grip_X7_noCase {s : State} {args : Array Value} (ht : ∀ w ∈ wsX7_grip, w.before args s = true) : CallW (rmD 2) s args RX7 RX7 140 yX7_noCase cX7_noCase 1 (some .boolean) wsX7_noCase (rmD (0)) 0 0 0 := cwV 0 ht gX7_grip_X7_noCase rfl rfl rfl (by decide +kernel) ⟨Nat.le_of_ble_eq_true rfl, Nat.le_of_ble_eq_true rfl⟩
def o_X7_grip_69 (Q : Int32 → Mm → Prop) (g : Mm) (x1 : Int32) (x2 : Int32) (s0 : Int32) : Prop := ((¬ x1 = 0) → ∀ g_11 : Mm, g_11 = mset g 9 6 x2 → (Q s0 g_11)) ∧ ((x1 = 0) → ∀ g_12 : Mm, g_12 = mset g 9 5 x2 → (Q s0 g_12))
set_option maxHeartbeats 4000000 in
set_option maxRecDepth 100000 in
theorem o_X7_grip_69_w {p : Program} {l : Launch} {e : Env} {s : State} {m : MethodId} {args : Array Value} {below : List Frame} {meth : Method} {c : Code} {dC : Nat → ClassId} {dI : Nat → Nat → Nat} {cy : Nat → ClassId} {ad tz : Nat → Nat} {Q : Int32 → Mm → Prop} (C : CX p s m args meth c dC dI cy ad tz cX7_grip 4 (some .int) RX7 wsX7_grip) : ∀ (g : Mm) (x1 : Int32) (x2 : Int32) (s0 : Int32) (H : Heap) (locs : List Loc) (ls : Array Slot), St dC dI cy ad s g H locs → lv_has ls 4 [(0, .ref (ad 0)), (1, .int x1), (2, .int x2)] → o_X7_grip_69 Q g x1 x2 s0 → W p l e (rmD 2) s m args below meth c H locs 0 0 (QI dC dI cy ad below args s Q) (F0 m 69 ls [.int s0]) := by
  have hx := C.1.1
  have hb := C.1.2.1
  intro g x1 x2 s0 H locs ls S hl h
  unfold o_X7_grip_69 at h
  refine lv_istore_n (lv' := [(3, .int s0), (0, .ref (ad 0)), (1, .int x1), (2, .int x2)]) hx hb dX7_grip_69 rfl hl (by decide) rfl (fun ls hl => ?_)
  refine lv_iload_n hx hb dX7_grip_70 rfl (lv_at hl 2 rfl) ?_
  refine lv_if_ne (tgt := 85) hx hb dX7_grip_71 (by decide) (fun c1 => ?_) (fun c1 => ?_)
  · have h := h.1 c1
    refine lv_aload_n hx hb dX7_grip_85 rfl (lv_at hl 1 rfl) ?_
    refine kg7 (k := 2) (v := .ref (ad 9)) C S rfl (by decide) n_X7_grip_X7 m_X7_grip_4 rfl dX7_grip_86 ?_
    refine lv_iload_n hx hb dX7_grip_89 rfl (lv_at hl 3 rfl) ?_
    refine kp3_6 C S rfl n_X7_grip_X3 m_X7_grip_7 dX7_grip_90 (fun g_11 H locs eg_11 S => ?_)
    have h := h g_11 eg_11
    refine lv_iload_n hx hb dX7_grip_93 rfl (lv_at hl 0 rfl) ?_
    exact kRi C S h dX7_grip_94
  · have h := h.2 c1
    refine lv_aload_n hx hb dX7_grip_74 rfl (lv_at hl 1 rfl) ?_
    refine kg7 (k := 2) (v := .ref (ad 9)) C S rfl (by decide) n_X7_grip_X7 m_X7_grip_4 rfl dX7_grip_75 ?_
    refine lv_iload_n hx hb dX7_grip_78 rfl (lv_at hl 3 rfl) ?_
    refine kp3_5 C S rfl n_X7_grip_X3 m_X7_grip_6 dX7_grip_79 (fun g_12 H locs eg_12 S => ?_)
    have h := h g_12 eg_12
    refine lv_goto (tgt := 93) hx hb dX7_grip_82 (by decide) ?_
    refine lv_iload_n hx hb dX7_grip_93 rfl (lv_at hl 0 rfl) ?_
    exact kRi C S h dX7_grip_94
def o_X7_grip (Q : Int32 → Mm → Prop) (g : Mm) (x1 : Int32) (x2 : Int32) : Prop := o_X7_noCase (fun (r_2 : Int32) (g_1 : Mm) => ((r_2 = 0) → o_X7_within (fun (r_4 : Int32) (g_3 : Mm) => ((r_4 = 0) → Q (-1000001) g_3) ∧ ((¬ r_4 = 0) → o_X7_within (fun (r_6 : Int32) (g_5 : Mm) => ((¬ r_6 = 0) → o_X0_begin (fun (r_8 : Nat) (g_7 : Mm) => ly r_8 = 2 ∧ o_X2_keep (fun (g_9 : Mm) => ((¬ x1 = 0) → o_X7_grip_69 Q g_9 x1 x2 (g_9.1 9 6)) ∧ ((x1 = 0) → o_X7_grip_69 Q g_9 x1 x2 (g_9.1 9 5))) r_8 9 g_7 (-1000000)) g_5) ∧ ((r_6 = 0) → Q (-1000001) g_5)) g_3 x2 0 9)) g_1 x1 0 1) ∧ ((¬ r_2 = 0) → Q (-1000002) g_1)) g
set_option maxHeartbeats 4000000 in
set_option maxRecDepth 100000 in
theorem o_X7_grip_c {l : Launch} {dC : Nat → ClassId} {dI : Nat → Nat → Nat} {cy : Nat → ClassId} {ad tz : Nat → Nat} {Q : Int32 → Mm → Prop} {g : Mm} {x1 : Int32} {x2 : Int32} (h : o_X7_grip Q g x1 x2) : CI l dC dI cy ad tz yX7_grip wsX7_grip (rmD 2) [.ref (ad 0), .int x1, .int x2] g Q := by
  refine CI.of (by decide) rfl rfl (Nat.le_of_ble_eq_true rfl) ?_
  intro p e s m args below meth c ls C hl S
  have hl : lv_has ls 4 [(0, .ref (ad 0)), (1, .int x1), (2, .int x2)] := hl
  have hx := C.1.1
  have hb := C.1.2.1
  unfold o_X7_grip at h
  refine lv_aload_n hx hb dX7_grip_0 rfl (lv_at hl 0 rfl) ?_
  refine kV_i (As := []) (rest := []) C S hl.1 (o_X7_noCase_c h) (wd_o7 rfl) rfl (cw_X7_grip_X7_noCase C.1.2.2.2.2) rfl rfl (Nat.le_of_ble_eq_true rfl) dX7_grip_1 (fun r_2 g_1 H locs h S => ?_)
  refine lv_if_eq (tgt := 10) hx hb dX7_grip_4 (by decide) (fun c1 => ?_) (fun c1 => ?_)
  · have h := h.1 c1
    refine lv_iload_n hx hb dX7_grip_10 rfl (lv_at hl 1 rfl) ?_
    refine lv_iconst (v := 0) hx hb dX7_grip_11 (by decide) ?_
    refine lv_iconst (v := 1) hx hb dX7_grip_12 (by decide) ?_
    refine kS_i (As := [.int x1, .int 0, .int 1]) (rest := []) C S hl.1 (o_X7_within_c h) (cw_X7_grip_X7_within C.1.2.2.2.2) rfl rfl (Nat.le_of_ble_eq_true rfl) dX7_grip_13 (fun r_4 g_3 H locs h S => ?_)
    refine lv_if_eq (tgt := 29) hx hb dX7_grip_16 (by decide) (fun c1 => ?_) (fun c1 => ?_)
    · have h := h.1 c1
      refine kLdc C m_X7_grip_2 dX7_grip_29 ?_
      exact kRi C S h dX7_grip_31
    · have h := h.2 c1
      refine lv_iload_n hx hb dX7_grip_19 rfl (lv_at hl 2 rfl) ?_
      refine lv_iconst (v := 0) hx hb dX7_grip_20 (by decide) ?_
      refine lv_bipush (v := 9) hx hb dX7_grip_21 (by decide) ?_
      refine kS_i (As := [.int x2, .int 0, .int 9]) (rest := []) C S hl.1 (o_X7_within_c h) (cw_X7_grip_X7_within C.1.2.2.2.2) rfl rfl (Nat.le_of_ble_eq_true rfl) dX7_grip_23 (fun r_6 g_5 H locs h S => ?_)
      refine lv_if_ne (tgt := 32) hx hb dX7_grip_26 (by decide) (fun c1 => ?_) (fun c1 => ?_)
      · have h := h.1 c1
        refine lv_aload_n hx hb dX7_grip_32 rfl (lv_at hl 0 rfl) ?_
        refine kg7 (k := 3) (v := .ref (ad 14)) C S rfl (by decide) n_X7_grip_X7 m_X7_grip_3 rfl dX7_grip_33 ?_
        refine kV_r (As := []) (rest := []) C S hl.1 (o_X0_begin_c h) (wd_o0 rfl) rfl (cw_X7_grip_X0_begin C.1.2.2.2.2) rfl rfl (Nat.le_of_ble_eq_true rfl) dX7_grip_36 (fun r_8 g_7 H locs h S => ?_)
        obtain ⟨hr_8, h⟩ := h
        refine lv_aload_n hx hb dX7_grip_39 rfl (lv_at hl 0 rfl) ?_
        refine kg7 (k := 2) (v := .ref (ad 9)) C S rfl (by decide) n_X7_grip_X7 m_X7_grip_4 rfl dX7_grip_40 ?_
        refine kLdc C m_X7_grip_5 dX7_grip_43 ?_
        refine kV_v (As := [.ref (ad 9), .int (-1000000)]) (rest := []) C S hl.1 (o_X2_keep_c hr_8 rfl h) (wd_o2 hr_8) rfl (cw_X7_grip_X2_keep C.1.2.2.2.2) rfl rfl (Nat.le_of_ble_eq_true rfl) dX7_grip_45 (fun g_9 H locs h S => ?_)
        refine lv_iload_n hx hb dX7_grip_48 rfl (lv_at hl 1 rfl) ?_
        refine lv_if_ne (tgt := 62) hx hb dX7_grip_49 (by decide) (fun c1 => ?_) (fun c1 => ?_)
        · have h := h.1 c1
          refine lv_aload_n hx hb dX7_grip_62 rfl (lv_at hl 0 rfl) ?_
          refine kg7 (k := 2) (v := .ref (ad 9)) C S rfl (by decide) n_X7_grip_X7 m_X7_grip_4 rfl dX7_grip_63 ?_
          refine kg3 (k := 6) (v := .int (g_9.1 9 6)) C S rfl (by decide) n_X7_grip_X3 m_X7_grip_7 rfl dX7_grip_66 ?_
          exact o_X7_grip_69_w C g_9 x1 x2 (g_9.1 9 6) _ _ _ S (lv_sub hl [0, 1, 2] rfl) h
        · have h := h.2 c1
          refine lv_aload_n hx hb dX7_grip_52 rfl (lv_at hl 0 rfl) ?_
          refine kg7 (k := 2) (v := .ref (ad 9)) C S rfl (by decide) n_X7_grip_X7 m_X7_grip_4 rfl dX7_grip_53 ?_
          refine kg3 (k := 5) (v := .int (g_9.1 9 5)) C S rfl (by decide) n_X7_grip_X3 m_X7_grip_6 rfl dX7_grip_56 ?_
          refine lv_goto (tgt := 69) hx hb dX7_grip_59 (by decide) ?_
          exact o_X7_grip_69_w C g_9 x1 x2 (g_9.1 9 5) _ _ _ S (lv_sub hl [0, 1, 2] rfl) h
      · have h := h.2 c1
        refine kLdc C m_X7_grip_2 dX7_grip_29 ?_
        exact kRi C S h dX7_grip_31
  · have h := h.2 c1
    refine kLdc C m_X7_grip_1 dX7_grip_7 ?_
    exact kRi C S h dX7_grip_9
/-! ClawCase.grips(I)I, height 1 -/
theorem m_X7_grips_3 : Cond.constant RX7 70 (-1000001) ∈ wsX7_grips := List.mem_of_getElem? (i := 3) (by decide +kernel)
theorem m_X7_grips_2 : Cond.fieldLink RX7 25 "ClawCase" "now" "LClawCase$Box;" ∈ wsX7_grips := List.mem_of_getElem? (i := 2) (by decide +kernel)
theorem n_X7_grips_X7 : ∀ w ∈ wsX70, w ∈ wsX7_grips := mem_by [22, 23, 24, 25, 26, 27, 28, 29, 30] (by decide +kernel)
theorem cw_X7_grips_X3_gripAhead {s : State} {args : Array Value} (ht : ∀ w ∈ wsX7_grips, w.before args s = true) : CallW (rmD 1) s args RX7 RX3 150 yX3_gripAhead cX3_gripAhead 2 (some .int) wsX3_gripAhead (rmD (0)) 0 0 1 := cwV 1 ht gX7_grips_X3_gripAhead rfl rfl rfl (by decide +kernel) ⟨Nat.le_of_ble_eq_true rfl, Nat.le_of_ble_eq_true rfl⟩
theorem cw_X7_grips_X7_within {s : State} {args : Array Value} (ht : ∀ w ∈ wsX7_grips, w.before args s = true) : CallB (rmD 1) s args RX7 66 yX7_within cX7_within 3 (some .boolean) wsX7_within (rmD (0)) 0 0 3 ∧ (Cond.static yX7_within).before args s = true := va_cwS 3 ht gX7_grips_X7_within rfl rfl rfl (by decide +kernel) ⟨Nat.le_of_ble_eq_true rfl, Nat.le_of_ble_eq_true rfl⟩
theorem m_X7_grips_1 : Cond.constant RX7 143 (-1000002) ∈ wsX7_grips := List.mem_of_getElem? (i := 1) (by decide +kernel)
theorem cw_X7_grips_X7_noCase {s : State} {args : Array Value} (ht : ∀ w ∈ wsX7_grips, w.before args s = true) : CallW (rmD 1) s args RX7 RX7 140 yX7_noCase cX7_noCase 1 (some .boolean) wsX7_noCase (rmD (0)) 0 0 0 := cwV 0 ht gX7_grips_X7_noCase rfl rfl rfl (by decide +kernel) ⟨Nat.le_of_ble_eq_true rfl, Nat.le_of_ble_eq_true rfl⟩
def o_X7_grips (Q : Int32 → Mm → Prop) (g : Mm) (x1 : Int32) : Prop := o_X7_noCase (fun (r_2 : Int32) (g_1 : Mm) => ((r_2 = 0) → o_X7_within (fun (r_4 : Int32) (g_3 : Mm) => ((r_4 = 0) → Q (-1000001) g_3) ∧ ((¬ r_4 = 0) → o_X3_gripAhead (fun (r_6 : Int32) (g_5 : Mm) => Q r_6 g_5) 9 g_3 x1)) g_1 x1 0 60) ∧ ((¬ r_2 = 0) → Q (-1000002) g_1)) g
set_option maxHeartbeats 4000000 in
set_option maxRecDepth 100000 in
theorem o_X7_grips_c {l : Launch} {dC : Nat → ClassId} {dI : Nat → Nat → Nat} {cy : Nat → ClassId} {ad tz : Nat → Nat} {Q : Int32 → Mm → Prop} {g : Mm} {x1 : Int32} (h : o_X7_grips Q g x1) : CI l dC dI cy ad tz yX7_grips wsX7_grips (rmD 1) [.ref (ad 0), .int x1] g Q := by
  refine CI.of (by decide) rfl rfl (Nat.le_of_ble_eq_true rfl) ?_
  intro p e s m args below meth c ls C hl S
  have hl : lv_has ls 2 [(0, .ref (ad 0)), (1, .int x1)] := hl
  have hx := C.1.1
  have hb := C.1.2.1
  unfold o_X7_grips at h
  refine lv_aload_n hx hb dX7_grips_0 rfl (lv_at hl 0 rfl) ?_
  refine kV_i (As := []) (rest := []) C S hl.1 (o_X7_noCase_c h) (wd_o7 rfl) rfl (cw_X7_grips_X7_noCase C.1.2.2.2.2) rfl rfl (Nat.le_of_ble_eq_true rfl) dX7_grips_1 (fun r_2 g_1 H locs h S => ?_)
  refine lv_if_eq (tgt := 10) hx hb dX7_grips_4 (by decide) (fun c1 => ?_) (fun c1 => ?_)
  · have h := h.1 c1
    refine lv_iload_n hx hb dX7_grips_10 rfl (lv_at hl 1 rfl) ?_
    refine lv_iconst (v := 0) hx hb dX7_grips_11 (by decide) ?_
    refine lv_bipush (v := 60) hx hb dX7_grips_12 (by decide) ?_
    refine kS_i (As := [.int x1, .int 0, .int 60]) (rest := []) C S hl.1 (o_X7_within_c h) (cw_X7_grips_X7_within C.1.2.2.2.2) rfl rfl (Nat.le_of_ble_eq_true rfl) dX7_grips_14 (fun r_4 g_3 H locs h S => ?_)
    refine lv_if_eq (tgt := 31) hx hb dX7_grips_17 (by decide) (fun c1 => ?_) (fun c1 => ?_)
    · have h := h.1 c1
      refine kLdc C m_X7_grips_3 dX7_grips_31 ?_
      exact kRi C S h dX7_grips_33
    · have h := h.2 c1
      refine lv_aload_n hx hb dX7_grips_20 rfl (lv_at hl 0 rfl) ?_
      refine kg7 (k := 2) (v := .ref (ad 9)) C S rfl (by decide) n_X7_grips_X7 m_X7_grips_2 rfl dX7_grips_21 ?_
      refine lv_iload_n hx hb dX7_grips_24 rfl (lv_at hl 1 rfl) ?_
      refine kV_i (As := [.int x1]) (rest := []) C S hl.1 (o_X3_gripAhead_c rfl h) (wd_o3 rfl) rfl (cw_X7_grips_X3_gripAhead C.1.2.2.2.2) rfl rfl (Nat.le_of_ble_eq_true rfl) dX7_grips_25 (fun r_6 g_5 H locs h S => ?_)
      refine lv_goto (tgt := 33) hx hb dX7_grips_28 (by decide) ?_
      exact kRi C S h dX7_grips_33
  · have h := h.2 c1
    refine kLdc C m_X7_grips_1 dX7_grips_7 ?_
    exact kRi C S h dX7_grips_9
/-! ClawCase.haul(II)I, height 12 -/
theorem m_X7_haul_2 : Cond.constant RX7 70 (-1000001) ∈ wsX7_haul := List.mem_of_getElem? (i := 2) (by decide +kernel)
theorem m_X7_haul_4 : Cond.fieldLink RX7 43 "ClawCase" "foretold" "LClawCase$Foretold;" ∈ wsX7_haul := List.mem_of_getElem? (i := 4) (by decide +kernel)
theorem n_X7_haul_X7 : ∀ w ∈ wsX70, w ∈ wsX7_haul := mem_by [119, 120, 121, 122, 123, 124, 125, 126, 127] (by decide +kernel)
theorem m_X7_haul_5 : Cond.fieldLink RX7 25 "ClawCase" "now" "LClawCase$Box;" ∈ wsX7_haul := List.mem_of_getElem? (i := 5) (by decide +kernel)
theorem m_X7_haul_7 : Cond.fieldLink RX7 228 "ClawCase$Foretold" "best" "[I" ∈ wsX7_haul := List.mem_of_getElem? (i := 7) (by decide +kernel)
theorem n_X7_haul_X4 : ∀ w ∈ wsX40, w ∈ wsX7_haul := mem_by [128, 129, 130, 131, 132, 133] (by decide +kernel)
theorem m_X7_haul_6 : Cond.fieldLink RX7 225 "ClawCase$Foretold" "bestToys" "I" ∈ wsX7_haul := List.mem_of_getElem? (i := 6) (by decide +kernel)
theorem cw_X7_haul_X4_searchHaul {s : State} {args : Array Value} (ht : ∀ w ∈ wsX7_haul, w.before args s = true) : CallW (rmD 12) s args RX7 RX4 222 yX4_searchHaul cX4_searchHaul 3 none wsX4_searchHaul (rmD (11)) 0 0 2 := cwV 2 ht gX7_haul_X4_searchHaul rfl rfl rfl (by decide +kernel) ⟨Nat.le_of_ble_eq_true rfl, Nat.le_of_ble_eq_true rfl⟩
theorem m_X7_haul_3 : Cond.constant RX7 179 (-1000000) ∈ wsX7_haul := List.mem_of_getElem? (i := 3) (by decide +kernel)
theorem cw_X7_haul_X7_within {s : State} {args : Array Value} (ht : ∀ w ∈ wsX7_haul, w.before args s = true) : CallB (rmD 12) s args RX7 66 yX7_within cX7_within 3 (some .boolean) wsX7_within (rmD (0)) 0 0 3 ∧ (Cond.static yX7_within).before args s = true := va_cwS 3 ht gX7_haul_X7_within rfl rfl rfl (by decide +kernel) ⟨Nat.le_of_ble_eq_true rfl, Nat.le_of_ble_eq_true rfl⟩
theorem m_X7_haul_1 : Cond.constant RX7 143 (-1000002) ∈ wsX7_haul := List.mem_of_getElem? (i := 1) (by decide +kernel)
theorem cw_X7_haul_X7_noCase {s : State} {args : Array Value} (ht : ∀ w ∈ wsX7_haul, w.before args s = true) : CallW (rmD 12) s args RX7 RX7 140 yX7_noCase cX7_noCase 1 (some .boolean) wsX7_noCase (rmD (0)) 0 0 0 := cwV 0 ht gX7_haul_X7_noCase rfl rfl rfl (by decide +kernel) ⟨Nat.le_of_ble_eq_true rfl, Nat.le_of_ble_eq_true rfl⟩
def o_X7_haul (Q : Int32 → Mm → Prop) (g : Mm) (x1 : Int32) (x2 : Int32) : Prop := o_X7_noCase (fun (r_2 : Int32) (g_1 : Mm) => ((r_2 = 0) → o_X7_within (fun (r_4 : Int32) (g_3 : Mm) => ((r_4 = 0) → Q (-1000001) g_3) ∧ ((¬ r_4 = 0) → (((-1) ≤ x2) → ((x2 < x1) → o_X4_searchHaul (fun (g_5 : Mm) => ((¬ x2 = (-1)) → vp_in x2 4 ∧ (Q (g_5.1 48 x2.toNatClampNeg) g_5)) ∧ ((x2 = (-1)) → Q (g_5.1 41 3) g_5)) 9 g_3 x1) ∧ ((¬ x2 < x1) → Q (-1000000) g_3)) ∧ ((¬ (-1) ≤ x2) → Q (-1000001) g_3))) g_1 x1 1 4) ∧ ((¬ r_2 = 0) → Q (-1000002) g_1)) g
set_option maxHeartbeats 4000000 in
set_option maxRecDepth 100000 in
theorem o_X7_haul_c {l : Launch} {dC : Nat → ClassId} {dI : Nat → Nat → Nat} {cy : Nat → ClassId} {ad tz : Nat → Nat} {Q : Int32 → Mm → Prop} {g : Mm} {x1 : Int32} {x2 : Int32} (h : o_X7_haul Q g x1 x2) : CI l dC dI cy ad tz yX7_haul wsX7_haul (rmD 12) [.ref (ad 0), .int x1, .int x2] g Q := by
  refine CI.of (by decide) rfl rfl (Nat.le_of_ble_eq_true rfl) ?_
  intro p e s m args below meth c ls C hl S
  have hl : lv_has ls 3 [(0, .ref (ad 0)), (1, .int x1), (2, .int x2)] := hl
  have hx := C.1.1
  have hb := C.1.2.1
  unfold o_X7_haul at h
  refine lv_aload_n hx hb dX7_haul_0 rfl (lv_at hl 0 rfl) ?_
  refine kV_i (As := []) (rest := []) C S hl.1 (o_X7_noCase_c h) (wd_o7 rfl) rfl (cw_X7_haul_X7_noCase C.1.2.2.2.2) rfl rfl (Nat.le_of_ble_eq_true rfl) dX7_haul_1 (fun r_2 g_1 H locs h S => ?_)
  refine lv_if_eq (tgt := 10) hx hb dX7_haul_4 (by decide) (fun c1 => ?_) (fun c1 => ?_)
  · have h := h.1 c1
    refine lv_iload_n hx hb dX7_haul_10 rfl (lv_at hl 1 rfl) ?_
    refine lv_iconst (v := 1) hx hb dX7_haul_11 (by decide) ?_
    refine lv_iconst (v := 4) hx hb dX7_haul_12 (by decide) ?_
    refine kS_i (As := [.int x1, .int 1, .int 4]) (rest := []) C S hl.1 (o_X7_within_c h) (cw_X7_haul_X7_within C.1.2.2.2.2) rfl rfl (Nat.le_of_ble_eq_true rfl) dX7_haul_13 (fun r_4 g_3 H locs h S => ?_)
    refine lv_if_eq (tgt := 24) hx hb dX7_haul_16 (by decide) (fun c1 => ?_) (fun c1 => ?_)
    · have h := h.1 c1
      refine kLdc C m_X7_haul_2 dX7_haul_24 ?_
      exact kRi C S h dX7_haul_26
    · have h := h.2 c1
      refine lv_iload_n hx hb dX7_haul_19 rfl (lv_at hl 2 rfl) ?_
      refine lv_iconst (v := (-1)) hx hb dX7_haul_20 (by decide) ?_
      refine lv_icmp_ge (tgt := 27) hx hb dX7_haul_21 (by decide) (fun c1 => ?_) (fun c1 => ?_)
      · have h := h.1 c1
        refine lv_iload_n hx hb dX7_haul_27 rfl (lv_at hl 2 rfl) ?_
        refine lv_iload_n hx hb dX7_haul_28 rfl (lv_at hl 1 rfl) ?_
        refine lv_icmp_lt (tgt := 35) hx hb dX7_haul_29 (by decide) (fun c1 => ?_) (fun c1 => ?_)
        · have h := h.1 c1
          refine lv_aload_n hx hb dX7_haul_35 rfl (lv_at hl 0 rfl) ?_
          refine kg7 (k := 5) (v := .ref (ad 41)) C S rfl (by decide) n_X7_haul_X7 m_X7_haul_4 rfl dX7_haul_36 ?_
          refine lv_aload_n hx hb dX7_haul_39 rfl (lv_at hl 0 rfl) ?_
          refine kg7 (k := 2) (v := .ref (ad 9)) C S rfl (by decide) n_X7_haul_X7 m_X7_haul_5 rfl dX7_haul_40 ?_
          refine lv_iload_n hx hb dX7_haul_43 rfl (lv_at hl 1 rfl) ?_
          refine kV_v (As := [.ref (ad 9), .int x1]) (rest := []) C S hl.1 (o_X4_searchHaul_c rfl h) (wd_o4 rfl) rfl (cw_X7_haul_X4_searchHaul C.1.2.2.2.2) rfl rfl (Nat.le_of_ble_eq_true rfl) dX7_haul_44 (fun g_5 H locs h S => ?_)
          refine lv_iload_n hx hb dX7_haul_47 rfl (lv_at hl 2 rfl) ?_
          refine lv_iconst (v := (-1)) hx hb dX7_haul_48 (by decide) ?_
          refine lv_icmp_ne (tgt := 62) hx hb dX7_haul_49 (by decide) (fun c1 => ?_) (fun c1 => ?_)
          · have h := h.1 c1
            refine lv_aload_n hx hb dX7_haul_62 rfl (lv_at hl 0 rfl) ?_
            refine kg7 (k := 5) (v := .ref (ad 41)) C S rfl (by decide) n_X7_haul_X7 m_X7_haul_4 rfl dX7_haul_63 ?_
            refine kg4 (k := 2) (v := .ref (ad 48)) C S rfl (by decide) n_X7_haul_X4 m_X7_haul_7 rfl dX7_haul_66 ?_
            refine lv_iload_n hx hb dX7_haul_69 rfl (lv_at hl 2 rfl) ?_
            obtain ⟨hi, h⟩ := h
            refine kLi C S rfl rfl hi dX7_haul_70 ?_
            exact kRi C S h dX7_haul_71
          · have h := h.2 c1
            refine lv_aload_n hx hb dX7_haul_52 rfl (lv_at hl 0 rfl) ?_
            refine kg7 (k := 5) (v := .ref (ad 41)) C S rfl (by decide) n_X7_haul_X7 m_X7_haul_4 rfl dX7_haul_53 ?_
            refine kg4 (k := 3) (v := .int (g_5.1 41 3)) C S rfl (by decide) n_X7_haul_X4 m_X7_haul_6 rfl dX7_haul_56 ?_
            refine lv_goto (tgt := 71) hx hb dX7_haul_59 (by decide) ?_
            exact kRi C S h dX7_haul_71
        · have h := h.2 c1
          refine kLdc C m_X7_haul_3 dX7_haul_32 ?_
          exact kRi C S h dX7_haul_34
      · have h := h.2 c1
        refine kLdc C m_X7_haul_2 dX7_haul_24 ?_
        exact kRi C S h dX7_haul_26
  · have h := h.2 c1
    refine kLdc C m_X7_haul_1 dX7_haul_7 ?_
    exact kRi C S h dX7_haul_9
/-! ClawCase.image(I)I, height 2 -/
theorem m_X7_image_3 : Cond.fieldLink RX7 36 "ClawCase" "images" "[LClawCase$Box;" ∈ wsX7_image := List.mem_of_getElem? (i := 3) (by decide +kernel)
theorem n_X7_image_X7 : ∀ w ∈ wsX70, w ∈ wsX7_image := mem_by [32, 33, 34, 35, 36, 37, 38, 39, 40] (by decide +kernel)
theorem m_X7_image_4 : Cond.fieldLink RX7 25 "ClawCase" "now" "LClawCase$Box;" ∈ wsX7_image := List.mem_of_getElem? (i := 4) (by decide +kernel)
theorem cw_X7_image_X3_become {s : State} {args : Array Value} (ht : ∀ w ∈ wsX7_image, w.before args s = true) : CallW (rmD 2) s args RX7 RX3 130 yX3_become cX3_become 2 none wsX3_become (rmD (1)) 0 0 1 := cwV 1 ht gX7_image_X3_become rfl rfl rfl (by decide +kernel) ⟨Nat.le_of_ble_eq_true rfl, Nat.le_of_ble_eq_true rfl⟩
theorem m_X7_image_2 : Cond.constant RX7 143 (-1000002) ∈ wsX7_image := List.mem_of_getElem? (i := 2) (by decide +kernel)
theorem cw_X7_image_X7_noCase {s : State} {args : Array Value} (ht : ∀ w ∈ wsX7_image, w.before args s = true) : CallW (rmD 2) s args RX7 RX7 140 yX7_noCase cX7_noCase 1 (some .boolean) wsX7_noCase (rmD (0)) 0 0 0 := cwV 0 ht gX7_image_X7_noCase rfl rfl rfl (by decide +kernel) ⟨Nat.le_of_ble_eq_true rfl, Nat.le_of_ble_eq_true rfl⟩
theorem m_X7_image_1 : Cond.constant RX7 70 (-1000001) ∈ wsX7_image := List.mem_of_getElem? (i := 1) (by decide +kernel)
theorem cw_X7_image_X7_within {s : State} {args : Array Value} (ht : ∀ w ∈ wsX7_image, w.before args s = true) : CallB (rmD 2) s args RX7 66 yX7_within cX7_within 3 (some .boolean) wsX7_within (rmD (0)) 0 0 3 ∧ (Cond.static yX7_within).before args s = true := va_cwS 3 ht gX7_image_X7_within rfl rfl rfl (by decide +kernel) ⟨Nat.le_of_ble_eq_true rfl, Nat.le_of_ble_eq_true rfl⟩
def o_X7_image (Q : Int32 → Mm → Prop) (g : Mm) (x1 : Int32) : Prop := o_X7_within (fun (r_2 : Int32) (g_1 : Mm) => ((¬ r_2 = 0) → o_X7_noCase (fun (r_4 : Int32) (g_3 : Mm) => ((r_4 = 0) → vp_in x1 2 ∧ (o_X3_become (fun (g_6 : Mm) => Q 1 g_6) (76 + 5 * x1.toNatClampNeg) 9 g_3)) ∧ ((¬ r_4 = 0) → Q (-1000002) g_3)) g_1) ∧ ((r_2 = 0) → Q (-1000001) g_1)) g x1 0 1
set_option maxHeartbeats 4000000 in
set_option maxRecDepth 100000 in
theorem o_X7_image_c {l : Launch} {dC : Nat → ClassId} {dI : Nat → Nat → Nat} {cy : Nat → ClassId} {ad tz : Nat → Nat} {Q : Int32 → Mm → Prop} {g : Mm} {x1 : Int32} (h : o_X7_image Q g x1) : CI l dC dI cy ad tz yX7_image wsX7_image (rmD 2) [.ref (ad 0), .int x1] g Q := by
  refine CI.of (by decide) rfl rfl (Nat.le_of_ble_eq_true rfl) ?_
  intro p e s m args below meth c ls C hl S
  have hl : lv_has ls 2 [(0, .ref (ad 0)), (1, .int x1)] := hl
  have hx := C.1.1
  have hb := C.1.2.1
  unfold o_X7_image at h
  refine lv_iload_n hx hb dX7_image_0 rfl (lv_at hl 1 rfl) ?_
  refine lv_iconst (v := 0) hx hb dX7_image_1 (by decide) ?_
  refine lv_iconst (v := 1) hx hb dX7_image_2 (by decide) ?_
  refine kS_i (As := [.int x1, .int 0, .int 1]) (rest := []) C S hl.1 (o_X7_within_c h) (cw_X7_image_X7_within C.1.2.2.2.2) rfl rfl (Nat.le_of_ble_eq_true rfl) dX7_image_3 (fun r_2 g_1 H locs h S => ?_)
  refine lv_if_ne (tgt := 12) hx hb dX7_image_6 (by decide) (fun c1 => ?_) (fun c1 => ?_)
  · have h := h.1 c1
    refine lv_aload_n hx hb dX7_image_12 rfl (lv_at hl 0 rfl) ?_
    refine kV_i (As := []) (rest := []) C S hl.1 (o_X7_noCase_c h) (wd_o7 rfl) rfl (cw_X7_image_X7_noCase C.1.2.2.2.2) rfl rfl (Nat.le_of_ble_eq_true rfl) dX7_image_13 (fun r_4 g_3 H locs h S => ?_)
    refine lv_if_eq (tgt := 22) hx hb dX7_image_16 (by decide) (fun c1 => ?_) (fun c1 => ?_)
    · have h := h.1 c1
      refine lv_aload_n hx hb dX7_image_22 rfl (lv_at hl 0 rfl) ?_
      refine kg7 (k := 4) (v := .ref (ad 40)) C S rfl (by decide) n_X7_image_X7 m_X7_image_3 rfl dX7_image_23 ?_
      refine lv_iload_n hx hb dX7_image_26 rfl (lv_at hl 1 rfl) ?_
      obtain ⟨hi_5, h⟩ := h
      refine kAx C S rfl rfl hi_5 dX7_image_27 ?_
      refine lv_aload_n hx hb dX7_image_28 rfl (lv_at hl 0 rfl) ?_
      refine kg7 (k := 2) (v := .ref (ad 9)) C S rfl (by decide) n_X7_image_X7 m_X7_image_4 rfl dX7_image_29 ?_
      refine kV_v (As := [.ref (ad 9)]) (rest := []) C S hl.1 (o_X3_become_c (ly_imgs _ (in_lt hi_5)) rfl h) (wd_o3 (ly_imgs _ (in_lt hi_5))) rfl (cw_X7_image_X3_become C.1.2.2.2.2) rfl rfl (Nat.le_of_ble_eq_true rfl) dX7_image_32 (fun g_6 H locs h S => ?_)
      refine lv_iconst (v := 1) hx hb dX7_image_35 (by decide) ?_
      exact kRi C S h dX7_image_36
    · have h := h.2 c1
      refine kLdc C m_X7_image_2 dX7_image_19 ?_
      exact kRi C S h dX7_image_21
  · have h := h.2 c1
    refine kLdc C m_X7_image_1 dX7_image_9 ?_
    exact kRi C S h dX7_image_11
/-! ClawCase.kind(I)I, height 2 -/
theorem m_X7_kind_3 : Cond.constant RX7 70 (-1000001) ∈ wsX7_kind := List.mem_of_getElem? (i := 3) (by decide +kernel)
theorem m_X7_kind_1 : Cond.fieldLink RX7 25 "ClawCase" "now" "LClawCase$Box;" ∈ wsX7_kind := List.mem_of_getElem? (i := 1) (by decide +kernel)
theorem n_X7_kind_X7 : ∀ w ∈ wsX70, w ∈ wsX7_kind := mem_by [13, 14, 15, 16, 17, 18, 19, 20, 21] (by decide +kernel)
theorem m_X7_kind_2 : Cond.fieldLink RX7 257 "ClawCase$Box" "kinds" "[I" ∈ wsX7_kind := List.mem_of_getElem? (i := 2) (by decide +kernel)
theorem n_X7_kind_X3 : ∀ w ∈ wsX30, w ∈ wsX7_kind := mem_by [22, 23, 24, 25, 26, 27, 28, 29, 30] (by decide +kernel)
theorem cw_X7_kind_X7_isToy {s : State} {args : Array Value} (ht : ∀ w ∈ wsX7_kind, w.before args s = true) : CallW (rmD 2) s args RX7 RX7 161 yX7_isToy cX7_isToy 2 (some .boolean) wsX7_isToy (rmD (1)) 0 0 1 := cwV 1 ht gX7_kind_X7_isToy rfl rfl rfl (by decide +kernel) ⟨Nat.le_of_ble_eq_true rfl, Nat.le_of_ble_eq_true rfl⟩
def o_X7_kind (Q : Int32 → Mm → Prop) (g : Mm) (x1 : Int32) : Prop := o_X7_isToy (fun (r_2 : Int32) (g_1 : Mm) => ((r_2 = 0) → Q (-1000001) g_1) ∧ ((¬ r_2 = 0) → vp_in x1 7 ∧ (Q (g_1.1 10 x1.toNatClampNeg) g_1))) g x1
set_option maxHeartbeats 4000000 in
set_option maxRecDepth 100000 in
theorem o_X7_kind_c {l : Launch} {dC : Nat → ClassId} {dI : Nat → Nat → Nat} {cy : Nat → ClassId} {ad tz : Nat → Nat} {Q : Int32 → Mm → Prop} {g : Mm} {x1 : Int32} (h : o_X7_kind Q g x1) : CI l dC dI cy ad tz yX7_kind wsX7_kind (rmD 2) [.ref (ad 0), .int x1] g Q := by
  refine CI.of (by decide) rfl rfl (Nat.le_of_ble_eq_true rfl) ?_
  intro p e s m args below meth c ls C hl S
  have hl : lv_has ls 2 [(0, .ref (ad 0)), (1, .int x1)] := hl
  have hx := C.1.1
  have hb := C.1.2.1
  unfold o_X7_kind at h
  refine lv_aload_n hx hb dX7_kind_0 rfl (lv_at hl 0 rfl) ?_
  refine lv_iload_n hx hb dX7_kind_1 rfl (lv_at hl 1 rfl) ?_
  refine kV_i (As := [.int x1]) (rest := []) C S hl.1 (o_X7_isToy_c h) (wd_o7 rfl) rfl (cw_X7_kind_X7_isToy C.1.2.2.2.2) rfl rfl (Nat.le_of_ble_eq_true rfl) dX7_kind_2 (fun r_2 g_1 H locs h S => ?_)
  refine lv_if_eq (tgt := 20) hx hb dX7_kind_5 (by decide) (fun c1 => ?_) (fun c1 => ?_)
  · have h := h.1 c1
    refine kLdc C m_X7_kind_3 dX7_kind_20 ?_
    exact kRi C S h dX7_kind_22
  · have h := h.2 c1
    refine lv_aload_n hx hb dX7_kind_8 rfl (lv_at hl 0 rfl) ?_
    refine kg7 (k := 2) (v := .ref (ad 9)) C S rfl (by decide) n_X7_kind_X7 m_X7_kind_1 rfl dX7_kind_9 ?_
    refine kg3 (k := 0) (v := .ref (ad 10)) C S rfl (by decide) n_X7_kind_X3 m_X7_kind_2 rfl dX7_kind_12 ?_
    refine lv_iload_n hx hb dX7_kind_15 rfl (lv_at hl 1 rfl) ?_
    obtain ⟨hi, h⟩ := h
    refine kLi C S rfl rfl hi dX7_kind_16 ?_
    refine lv_goto (tgt := 22) hx hb dX7_kind_17 (by decide) ?_
    exact kRi C S h dX7_kind_22
/-! ClawCase.play(I)I, height 4 -/
theorem m_X7_play_3 : Cond.fieldLink RX7 25 "ClawCase" "now" "LClawCase$Box;" ∈ wsX7_play := List.mem_of_getElem? (i := 3) (by decide +kernel)
theorem n_X7_play_X7 : ∀ w ∈ wsX70, w ∈ wsX7_play := mem_by [94, 95, 96, 97, 98, 99, 100, 101, 102] (by decide +kernel)
theorem m_X7_play_4 : Cond.fieldLink RX7 147 "ClawCase$Box" "plays" "I" ∈ wsX7_play := List.mem_of_getElem? (i := 4) (by decide +kernel)
theorem n_X7_play_X3 : ∀ w ∈ wsX30, w ∈ wsX7_play := mem_by [103, 104, 105, 106, 107, 108, 109, 110, 111] (by decide +kernel)
theorem m_X7_play_6 : Cond.fieldLink RX7 32 "ClawCase" "acts" "LClawCase$Acts;" ∈ wsX7_play := List.mem_of_getElem? (i := 6) (by decide +kernel)
theorem cw_X7_play_X3_playAt {s : State} {args : Array Value} (ht : ∀ w ∈ wsX7_play, w.before args s = true) : CallW (rmD 4) s args RX7 RX3 157 yX3_playAt cX3_playAt 6 (some .int) wsX3_playAt (rmD (3)) 0 0 3 := cwV 3 ht gX7_play_X3_playAt rfl rfl rfl (by decide +kernel) ⟨Nat.le_of_ble_eq_true rfl, Nat.le_of_ble_eq_true rfl⟩
theorem cw_X7_play_X0_begin {s : State} {args : Array Value} (ht : ∀ w ∈ wsX7_play, w.before args s = true) : CallW (rmD 4) s args RX7 RX0 153 yX0_begin cX0_begin 2 (some (.object "ClawCase$Before")) wsX0_begin (rmD (1)) 0 0 0 := cwV 0 ht gX7_play_X0_begin rfl rfl rfl (by decide +kernel) ⟨Nat.le_of_ble_eq_true rfl, Nat.le_of_ble_eq_true rfl⟩
theorem cw_X7_play_X3_gripAhead {s : State} {args : Array Value} (ht : ∀ w ∈ wsX7_play, w.before args s = true) : CallW (rmD 4) s args RX7 RX3 150 yX3_gripAhead cX3_gripAhead 2 (some .int) wsX3_gripAhead (rmD (0)) 0 0 1 := cwV 1 ht gX7_play_X3_gripAhead rfl rfl rfl (by decide +kernel) ⟨Nat.le_of_ble_eq_true rfl, Nat.le_of_ble_eq_true rfl⟩
theorem m_X7_play_5 : Cond.constant RX7 112 (-1000003) ∈ wsX7_play := List.mem_of_getElem? (i := 5) (by decide +kernel)
theorem m_X7_play_2 : Cond.constant RX7 70 (-1000001) ∈ wsX7_play := List.mem_of_getElem? (i := 2) (by decide +kernel)
theorem cw_X7_play_X7_isColumn {s : State} {args : Array Value} (ht : ∀ w ∈ wsX7_play, w.before args s = true) : CallB (rmD 4) s args RX7 144 yX7_isColumn cX7_isColumn 1 (some .boolean) wsX7_isColumn (rmD (1)) 0 0 1 ∧ (Cond.static yX7_isColumn).before args s = true := va_cwS 1 ht gX7_play_X7_isColumn rfl rfl rfl (by decide +kernel) ⟨Nat.le_of_ble_eq_true rfl, Nat.le_of_ble_eq_true rfl⟩
theorem m_X7_play_1 : Cond.constant RX7 143 (-1000002) ∈ wsX7_play := List.mem_of_getElem? (i := 1) (by decide +kernel)
theorem cw_X7_play_X7_noCase {s : State} {args : Array Value} (ht : ∀ w ∈ wsX7_play, w.before args s = true) : CallW (rmD 4) s args RX7 RX7 140 yX7_noCase cX7_noCase 1 (some .boolean) wsX7_noCase (rmD (0)) 0 0 0 := cwV 0 ht gX7_play_X7_noCase rfl rfl rfl (by decide +kernel) ⟨Nat.le_of_ble_eq_true rfl, Nat.le_of_ble_eq_true rfl⟩
def o_X7_play (Q : Int32 → Mm → Prop) (g : Mm) (x1 : Int32) : Prop := o_X7_noCase (fun (r_2 : Int32) (g_1 : Mm) => ((r_2 = 0) → o_X7_isColumn (fun (r_4 : Int32) (g_3 : Mm) => ((¬ r_4 = 0) → (((g_3.1 9 8) < 9999) → o_X3_gripAhead (fun (r_6 : Int32) (g_5 : Mm) => o_X0_begin (fun (r_8 : Nat) (g_7 : Mm) => ly r_8 = 2 ∧ o_X3_playAt (fun (r_10 : Int32) (g_9 : Mm) => Q r_10 g_9) 9 r_8 g_7 x1 r_6) g_5) 9 g_3 0) ∧ ((¬ (g_3.1 9 8) < 9999) → Q (-1000003) g_3)) ∧ ((r_4 = 0) → Q (-1000001) g_3)) g_1 x1) ∧ ((¬ r_2 = 0) → Q (-1000002) g_1)) g
set_option maxHeartbeats 4000000 in
set_option maxRecDepth 100000 in
theorem o_X7_play_c {l : Launch} {dC : Nat → ClassId} {dI : Nat → Nat → Nat} {cy : Nat → ClassId} {ad tz : Nat → Nat} {Q : Int32 → Mm → Prop} {g : Mm} {x1 : Int32} (h : o_X7_play Q g x1) : CI l dC dI cy ad tz yX7_play wsX7_play (rmD 4) [.ref (ad 0), .int x1] g Q := by
  refine CI.of (by decide) rfl rfl (Nat.le_of_ble_eq_true rfl) ?_
  intro p e s m args below meth c ls C hl S
  have hl : lv_has ls 2 [(0, .ref (ad 0)), (1, .int x1)] := hl
  have hx := C.1.1
  have hb := C.1.2.1
  unfold o_X7_play at h
  refine lv_aload_n hx hb dX7_play_0 rfl (lv_at hl 0 rfl) ?_
  refine kV_i (As := []) (rest := []) C S hl.1 (o_X7_noCase_c h) (wd_o7 rfl) rfl (cw_X7_play_X7_noCase C.1.2.2.2.2) rfl rfl (Nat.le_of_ble_eq_true rfl) dX7_play_1 (fun r_2 g_1 H locs h S => ?_)
  refine lv_if_eq (tgt := 10) hx hb dX7_play_4 (by decide) (fun c1 => ?_) (fun c1 => ?_)
  · have h := h.1 c1
    refine lv_iload_n hx hb dX7_play_10 rfl (lv_at hl 1 rfl) ?_
    refine kS_i (As := [.int x1]) (rest := []) C S hl.1 (o_X7_isColumn_c h) (cw_X7_play_X7_isColumn C.1.2.2.2.2) rfl rfl (Nat.le_of_ble_eq_true rfl) dX7_play_11 (fun r_4 g_3 H locs h S => ?_)
    refine lv_if_ne (tgt := 20) hx hb dX7_play_14 (by decide) (fun c1 => ?_) (fun c1 => ?_)
    · have h := h.1 c1
      refine lv_aload_n hx hb dX7_play_20 rfl (lv_at hl 0 rfl) ?_
      refine kg7 (k := 2) (v := .ref (ad 9)) C S rfl (by decide) n_X7_play_X7 m_X7_play_3 rfl dX7_play_21 ?_
      refine kg3 (k := 8) (v := .int (g_3.1 9 8)) C S rfl (by decide) n_X7_play_X3 m_X7_play_4 rfl dX7_play_24 ?_
      refine lv_sipush (v := 9999) hx hb dX7_play_27 (by decide) ?_
      refine lv_icmp_lt (tgt := 36) hx hb dX7_play_30 (by decide) (fun c1 => ?_) (fun c1 => ?_)
      · have h := h.1 c1
        refine lv_aload_n hx hb dX7_play_36 rfl (lv_at hl 0 rfl) ?_
        refine kg7 (k := 2) (v := .ref (ad 9)) C S rfl (by decide) n_X7_play_X7 m_X7_play_3 rfl dX7_play_37 ?_
        refine lv_iload_n hx hb dX7_play_40 rfl (lv_at hl 1 rfl) ?_
        refine lv_aload_n hx hb dX7_play_41 rfl (lv_at hl 0 rfl) ?_
        refine kg7 (k := 2) (v := .ref (ad 9)) C S rfl (by decide) n_X7_play_X7 m_X7_play_3 rfl dX7_play_42 ?_
        refine lv_iconst (v := 0) hx hb dX7_play_45 (by decide) ?_
        refine kV_i (As := [.int 0]) (rest := [.int x1, .ref (ad 9)]) C S hl.1 (o_X3_gripAhead_c rfl h) (wd_o3 rfl) rfl (cw_X7_play_X3_gripAhead C.1.2.2.2.2) rfl rfl (Nat.le_of_ble_eq_true rfl) dX7_play_46 (fun r_6 g_5 H locs h S => ?_)
        refine lv_aload_n hx hb dX7_play_49 rfl (lv_at hl 0 rfl) ?_
        refine kg7 (k := 3) (v := .ref (ad 14)) C S rfl (by decide) n_X7_play_X7 m_X7_play_6 rfl dX7_play_50 ?_
        refine kV_r (As := []) (rest := [.int r_6, .int x1, .ref (ad 9)]) C S hl.1 (o_X0_begin_c h) (wd_o0 rfl) rfl (cw_X7_play_X0_begin C.1.2.2.2.2) rfl rfl (Nat.le_of_ble_eq_true rfl) dX7_play_53 (fun r_8 g_7 H locs h S => ?_)
        obtain ⟨hr_8, h⟩ := h
        refine kV_i (As := [.int x1, .int r_6, .ref (ad r_8)]) (rest := []) C S hl.1 (o_X3_playAt_c rfl hr_8 h) (wd_o3 rfl) rfl (cw_X7_play_X3_playAt C.1.2.2.2.2) rfl rfl (Nat.le_of_ble_eq_true rfl) dX7_play_56 (fun r_10 g_9 H locs h S => ?_)
        exact kRi C S h dX7_play_59
      · have h := h.2 c1
        refine kLdc C m_X7_play_5 dX7_play_33 ?_
        exact kRi C S h dX7_play_35
    · have h := h.2 c1
      refine kLdc C m_X7_play_2 dX7_play_17 ?_
      exact kRi C S h dX7_play_19
  · have h := h.2 c1
    refine kLdc C m_X7_play_1 dX7_play_7 ?_
    exact kRi C S h dX7_play_9
/-! ClawCase.put(II)I, height 3 -/
theorem m_X7_put_1 : Cond.constant RX7 70 (-1000001) ∈ wsX7_put := List.mem_of_getElem? (i := 1) (by decide +kernel)
theorem m_X7_put_2 : Cond.fieldLink RX7 25 "ClawCase" "now" "LClawCase$Box;" ∈ wsX7_put := List.mem_of_getElem? (i := 2) (by decide +kernel)
theorem n_X7_put_X7 : ∀ w ∈ wsX70, w ∈ wsX7_put := mem_by [60, 61, 62, 63, 64, 65, 66, 67, 68] (by decide +kernel)
theorem m_X7_put_3 : Cond.fieldLink RX7 164 "ClawCase$Box" "places" "[I" ∈ wsX7_put := List.mem_of_getElem? (i := 3) (by decide +kernel)
theorem n_X7_put_X3 : ∀ w ∈ wsX30, w ∈ wsX7_put := mem_by [69, 70, 71, 72, 73, 74, 75, 76, 77] (by decide +kernel)
theorem m_X7_put_5 : Cond.fieldLink RX7 32 "ClawCase" "acts" "LClawCase$Acts;" ∈ wsX7_put := List.mem_of_getElem? (i := 5) (by decide +kernel)
theorem cw_X7_put_X3_howMany {s : State} {args : Array Value} (ht : ∀ w ∈ wsX7_put, w.before args s = true) : CallW (rmD 3) s args RX7 RX3 176 yX3_howMany cX3_howMany 4 (some .int) wsX3_howMany (rmD (0)) 0 0 1 := cwV 1 ht gX7_put_X3_howMany rfl rfl rfl (by decide +kernel) ⟨Nat.le_of_ble_eq_true rfl, Nat.le_of_ble_eq_true rfl⟩
theorem cw_X7_put_X3_lay {s : State} {args : Array Value} (ht : ∀ w ∈ wsX7_put, w.before args s = true) : CallW (rmD 3) s args RX7 RX3 173 yX3_lay cX3_lay 3 none wsX3_lay (rmD (2)) 0 0 2 := cwV 2 ht gX7_put_X3_lay rfl rfl rfl (by decide +kernel) ⟨Nat.le_of_ble_eq_true rfl, Nat.le_of_ble_eq_true rfl⟩
theorem cw_X7_put_X2_keep {s : State} {args : Array Value} (ht : ∀ w ∈ wsX7_put, w.before args s = true) : CallW (rmD 3) s args RX7 RX2 167 yX2_keep cX2_keep 3 none wsX2_keep (rmD (0)) 0 0 2 := cwV 2 ht gX7_put_X2_keep rfl rfl rfl (by decide +kernel) ⟨Nat.le_of_ble_eq_true rfl, Nat.le_of_ble_eq_true rfl⟩
theorem cw_X7_put_X0_begin {s : State} {args : Array Value} (ht : ∀ w ∈ wsX7_put, w.before args s = true) : CallW (rmD 3) s args RX7 RX0 153 yX0_begin cX0_begin 2 (some (.object "ClawCase$Before")) wsX0_begin (rmD (1)) 0 0 0 := cwV 0 ht gX7_put_X0_begin rfl rfl rfl (by decide +kernel) ⟨Nat.le_of_ble_eq_true rfl, Nat.le_of_ble_eq_true rfl⟩
theorem m_X7_put_4 : Cond.constant RX7 143 (-1000002) ∈ wsX7_put := List.mem_of_getElem? (i := 4) (by decide +kernel)
theorem cw_X7_put_X7_isColumn {s : State} {args : Array Value} (ht : ∀ w ∈ wsX7_put, w.before args s = true) : CallB (rmD 3) s args RX7 144 yX7_isColumn cX7_isColumn 1 (some .boolean) wsX7_isColumn (rmD (1)) 0 0 1 ∧ (Cond.static yX7_isColumn).before args s = true := va_cwS 1 ht gX7_put_X7_isColumn rfl rfl rfl (by decide +kernel) ⟨Nat.le_of_ble_eq_true rfl, Nat.le_of_ble_eq_true rfl⟩
theorem cw_X7_put_X7_isToy {s : State} {args : Array Value} (ht : ∀ w ∈ wsX7_put, w.before args s = true) : CallW (rmD 3) s args RX7 RX7 161 yX7_isToy cX7_isToy 2 (some .boolean) wsX7_isToy (rmD (1)) 0 0 1 := cwV 1 ht gX7_put_X7_isToy rfl rfl rfl (by decide +kernel) ⟨Nat.le_of_ble_eq_true rfl, Nat.le_of_ble_eq_true rfl⟩
def o_X7_put (Q : Int32 → Mm → Prop) (g : Mm) (x1 : Int32) (x2 : Int32) : Prop := o_X7_isToy (fun (r_2 : Int32) (g_1 : Mm) => ((r_2 = 0) → Q (-1000001) g_1) ∧ ((¬ r_2 = 0) → o_X7_isColumn (fun (r_4 : Int32) (g_3 : Mm) => ((¬ r_4 = 0) → vp_in x1 7 ∧ (o_X7_isColumn (fun (r_6 : Int32) (g_5 : Mm) => ((r_6 = 0) → o_X0_begin (fun (r_8 : Nat) (g_7 : Mm) => ly r_8 = 2 ∧ o_X2_keep (fun (g_9 : Mm) => o_X3_lay (fun (g_11 : Mm) => o_X3_howMany (fun (r_14 : Int32) (g_13 : Mm) => Q r_14 g_13) 9 g_11 x2) 9 g_9 x1 x2) r_8 9 g_7 x1) g_5) ∧ ((¬ r_6 = 0) → Q (-1000002) g_5)) g_3 (g_3.1 12 x1.toNatClampNeg))) ∧ ((r_4 = 0) → Q (-1000001) g_3)) g_1 x2)) g x1
set_option maxHeartbeats 4000000 in
set_option maxRecDepth 100000 in
theorem o_X7_put_c {l : Launch} {dC : Nat → ClassId} {dI : Nat → Nat → Nat} {cy : Nat → ClassId} {ad tz : Nat → Nat} {Q : Int32 → Mm → Prop} {g : Mm} {x1 : Int32} {x2 : Int32} (h : o_X7_put Q g x1 x2) : CI l dC dI cy ad tz yX7_put wsX7_put (rmD 3) [.ref (ad 0), .int x1, .int x2] g Q := by
  refine CI.of (by decide) rfl rfl (Nat.le_of_ble_eq_true rfl) ?_
  intro p e s m args below meth c ls C hl S
  have hl : lv_has ls 3 [(0, .ref (ad 0)), (1, .int x1), (2, .int x2)] := hl
  have hx := C.1.1
  have hb := C.1.2.1
  unfold o_X7_put at h
  refine lv_aload_n hx hb dX7_put_0 rfl (lv_at hl 0 rfl) ?_
  refine lv_iload_n hx hb dX7_put_1 rfl (lv_at hl 1 rfl) ?_
  refine kV_i (As := [.int x1]) (rest := []) C S hl.1 (o_X7_isToy_c h) (wd_o7 rfl) rfl (cw_X7_put_X7_isToy C.1.2.2.2.2) rfl rfl (Nat.le_of_ble_eq_true rfl) dX7_put_2 (fun r_2 g_1 H locs h S => ?_)
  refine lv_if_eq (tgt := 15) hx hb dX7_put_5 (by decide) (fun c1 => ?_) (fun c1 => ?_)
  · have h := h.1 c1
    refine kLdc C m_X7_put_1 dX7_put_15 ?_
    exact kRi C S h dX7_put_17
  · have h := h.2 c1
    refine lv_iload_n hx hb dX7_put_8 rfl (lv_at hl 2 rfl) ?_
    refine kS_i (As := [.int x2]) (rest := []) C S hl.1 (o_X7_isColumn_c h) (cw_X7_put_X7_isColumn C.1.2.2.2.2) rfl rfl (Nat.le_of_ble_eq_true rfl) dX7_put_9 (fun r_4 g_3 H locs h S => ?_)
    refine lv_if_ne (tgt := 18) hx hb dX7_put_12 (by decide) (fun c1 => ?_) (fun c1 => ?_)
    · have h := h.1 c1
      refine lv_aload_n hx hb dX7_put_18 rfl (lv_at hl 0 rfl) ?_
      refine kg7 (k := 2) (v := .ref (ad 9)) C S rfl (by decide) n_X7_put_X7 m_X7_put_2 rfl dX7_put_19 ?_
      refine kg3 (k := 2) (v := .ref (ad 12)) C S rfl (by decide) n_X7_put_X3 m_X7_put_3 rfl dX7_put_22 ?_
      refine lv_iload_n hx hb dX7_put_25 rfl (lv_at hl 1 rfl) ?_
      obtain ⟨hi, h⟩ := h
      refine kLi C S rfl rfl hi dX7_put_26 ?_
      refine kS_i (As := [.int (g_3.1 12 x1.toNatClampNeg)]) (rest := []) C S hl.1 (o_X7_isColumn_c h) (cw_X7_put_X7_isColumn C.1.2.2.2.2) rfl rfl (Nat.le_of_ble_eq_true rfl) dX7_put_27 (fun r_6 g_5 H locs h S => ?_)
      refine lv_if_eq (tgt := 36) hx hb dX7_put_30 (by decide) (fun c1 => ?_) (fun c1 => ?_)
      · have h := h.1 c1
        refine lv_aload_n hx hb dX7_put_36 rfl (lv_at hl 0 rfl) ?_
        refine kg7 (k := 3) (v := .ref (ad 14)) C S rfl (by decide) n_X7_put_X7 m_X7_put_5 rfl dX7_put_37 ?_
        refine kV_r (As := []) (rest := []) C S hl.1 (o_X0_begin_c h) (wd_o0 rfl) rfl (cw_X7_put_X0_begin C.1.2.2.2.2) rfl rfl (Nat.le_of_ble_eq_true rfl) dX7_put_40 (fun r_8 g_7 H locs h S => ?_)
        obtain ⟨hr_8, h⟩ := h
        refine lv_aload_n hx hb dX7_put_43 rfl (lv_at hl 0 rfl) ?_
        refine kg7 (k := 2) (v := .ref (ad 9)) C S rfl (by decide) n_X7_put_X7 m_X7_put_2 rfl dX7_put_44 ?_
        refine lv_iload_n hx hb dX7_put_47 rfl (lv_at hl 1 rfl) ?_
        refine kV_v (As := [.ref (ad 9), .int x1]) (rest := []) C S hl.1 (o_X2_keep_c hr_8 rfl h) (wd_o2 hr_8) rfl (cw_X7_put_X2_keep C.1.2.2.2.2) rfl rfl (Nat.le_of_ble_eq_true rfl) dX7_put_48 (fun g_9 H locs h S => ?_)
        refine lv_aload_n hx hb dX7_put_51 rfl (lv_at hl 0 rfl) ?_
        refine kg7 (k := 2) (v := .ref (ad 9)) C S rfl (by decide) n_X7_put_X7 m_X7_put_2 rfl dX7_put_52 ?_
        refine lv_iload_n hx hb dX7_put_55 rfl (lv_at hl 1 rfl) ?_
        refine lv_iload_n hx hb dX7_put_56 rfl (lv_at hl 2 rfl) ?_
        refine kV_v (As := [.int x1, .int x2]) (rest := []) C S hl.1 (o_X3_lay_c rfl h) (wd_o3 rfl) rfl (cw_X7_put_X3_lay C.1.2.2.2.2) rfl rfl (Nat.le_of_ble_eq_true rfl) dX7_put_57 (fun g_11 H locs h S => ?_)
        refine lv_aload_n hx hb dX7_put_60 rfl (lv_at hl 0 rfl) ?_
        refine kg7 (k := 2) (v := .ref (ad 9)) C S rfl (by decide) n_X7_put_X7 m_X7_put_2 rfl dX7_put_61 ?_
        refine lv_iload_n hx hb dX7_put_64 rfl (lv_at hl 2 rfl) ?_
        refine kV_i (As := [.int x2]) (rest := []) C S hl.1 (o_X3_howMany_c rfl h) (wd_o3 rfl) rfl (cw_X7_put_X3_howMany C.1.2.2.2.2) rfl rfl (Nat.le_of_ble_eq_true rfl) dX7_put_65 (fun r_14 g_13 H locs h S => ?_)
        exact kRi C S h dX7_put_68
      · have h := h.2 c1
        refine kLdc C m_X7_put_4 dX7_put_33 ?_
        exact kRi C S h dX7_put_35
    · have h := h.2 c1
      refine kLdc C m_X7_put_1 dX7_put_15 ?_
      exact kRi C S h dX7_put_17
/-! ClawCase.restore(I)I, height 2 -/
theorem m_X7_restore_2 : Cond.fieldLink RX7 36 "ClawCase" "images" "[LClawCase$Box;" ∈ wsX7_restore := List.mem_of_getElem? (i := 2) (by decide +kernel)
theorem n_X7_restore_X7 : ∀ w ∈ wsX70, w ∈ wsX7_restore := mem_by [35, 36, 37, 38, 39, 40, 41, 42, 43] (by decide +kernel)
theorem m_X7_restore_3 : Cond.fieldLink RX7 137 "ClawCase$Box" "toys" "I" ∈ wsX7_restore := List.mem_of_getElem? (i := 3) (by decide +kernel)
theorem n_X7_restore_X3 : ∀ w ∈ wsX30, w ∈ wsX7_restore := mem_by [44, 45, 46, 47, 48, 49, 50, 51, 52] (by decide +kernel)
theorem m_X7_restore_5 : Cond.fieldLink RX7 25 "ClawCase" "now" "LClawCase$Box;" ∈ wsX7_restore := List.mem_of_getElem? (i := 5) (by decide +kernel)
theorem m_X7_restore_6 : Cond.fieldLink RX7 32 "ClawCase" "acts" "LClawCase$Acts;" ∈ wsX7_restore := List.mem_of_getElem? (i := 6) (by decide +kernel)
theorem cw_X7_restore_X0_forget {s : State} {args : Array Value} (ht : ∀ w ∈ wsX7_restore, w.before args s = true) : CallW (rmD 2) s args RX7 RX0 134 yX0_forget cX0_forget 1 none wsX0_forget (rmD (0)) 0 0 0 := cwV 0 ht gX7_restore_X0_forget rfl rfl rfl (by decide +kernel) ⟨Nat.le_of_ble_eq_true rfl, Nat.le_of_ble_eq_true rfl⟩
theorem cw_X7_restore_X3_become {s : State} {args : Array Value} (ht : ∀ w ∈ wsX7_restore, w.before args s = true) : CallW (rmD 2) s args RX7 RX3 130 yX3_become cX3_become 2 none wsX3_become (rmD (1)) 0 0 1 := cwV 1 ht gX7_restore_X3_become rfl rfl rfl (by decide +kernel) ⟨Nat.le_of_ble_eq_true rfl, Nat.le_of_ble_eq_true rfl⟩
theorem m_X7_restore_4 : Cond.constant RX7 143 (-1000002) ∈ wsX7_restore := List.mem_of_getElem? (i := 4) (by decide +kernel)
theorem m_X7_restore_1 : Cond.constant RX7 70 (-1000001) ∈ wsX7_restore := List.mem_of_getElem? (i := 1) (by decide +kernel)
theorem cw_X7_restore_X7_within {s : State} {args : Array Value} (ht : ∀ w ∈ wsX7_restore, w.before args s = true) : CallB (rmD 2) s args RX7 66 yX7_within cX7_within 3 (some .boolean) wsX7_within (rmD (0)) 0 0 3 ∧ (Cond.static yX7_within).before args s = true := va_cwS 3 ht gX7_restore_X7_within rfl rfl rfl (by decide +kernel) ⟨Nat.le_of_ble_eq_true rfl, Nat.le_of_ble_eq_true rfl⟩
def o_X7_restore (Q : Int32 → Mm → Prop) (g : Mm) (x1 : Int32) : Prop := o_X7_within (fun (r_2 : Int32) (g_1 : Mm) => ((¬ r_2 = 0) → vp_in x1 2 ∧ (((¬ (g_1.1 (76 + 5 * x1.toNatClampNeg) 4) = 0) → vp_in x1 2 ∧ (o_X3_become (fun (g_5 : Mm) => o_X0_forget (fun (g_7 : Mm) => Q 1 g_7) g_5) 9 (76 + 5 * x1.toNatClampNeg) g_1)) ∧ (((g_1.1 (76 + 5 * x1.toNatClampNeg) 4) = 0) → Q (-1000002) g_1))) ∧ ((r_2 = 0) → Q (-1000001) g_1)) g x1 0 1
set_option maxHeartbeats 4000000 in
set_option maxRecDepth 100000 in
theorem o_X7_restore_c {l : Launch} {dC : Nat → ClassId} {dI : Nat → Nat → Nat} {cy : Nat → ClassId} {ad tz : Nat → Nat} {Q : Int32 → Mm → Prop} {g : Mm} {x1 : Int32} (h : o_X7_restore Q g x1) : CI l dC dI cy ad tz yX7_restore wsX7_restore (rmD 2) [.ref (ad 0), .int x1] g Q := by
  refine CI.of (by decide) rfl rfl (Nat.le_of_ble_eq_true rfl) ?_
  intro p e s m args below meth c ls C hl S
  have hl : lv_has ls 2 [(0, .ref (ad 0)), (1, .int x1)] := hl
  have hx := C.1.1
  have hb := C.1.2.1
  unfold o_X7_restore at h
  refine lv_iload_n hx hb dX7_restore_0 rfl (lv_at hl 1 rfl) ?_
  refine lv_iconst (v := 0) hx hb dX7_restore_1 (by decide) ?_
  refine lv_iconst (v := 1) hx hb dX7_restore_2 (by decide) ?_
  refine kS_i (As := [.int x1, .int 0, .int 1]) (rest := []) C S hl.1 (o_X7_within_c h) (cw_X7_restore_X7_within C.1.2.2.2.2) rfl rfl (Nat.le_of_ble_eq_true rfl) dX7_restore_3 (fun r_2 g_1 H locs h S => ?_)
  refine lv_if_ne (tgt := 12) hx hb dX7_restore_6 (by decide) (fun c1 => ?_) (fun c1 => ?_)
  · have h := h.1 c1
    refine lv_aload_n hx hb dX7_restore_12 rfl (lv_at hl 0 rfl) ?_
    refine kg7 (k := 4) (v := .ref (ad 40)) C S rfl (by decide) n_X7_restore_X7 m_X7_restore_2 rfl dX7_restore_13 ?_
    refine lv_iload_n hx hb dX7_restore_16 rfl (lv_at hl 1 rfl) ?_
    obtain ⟨hi_3, h⟩ := h
    refine kAx C S rfl rfl hi_3 dX7_restore_17 ?_
    refine kg3 (k := 4) (v := .int (g_1.1 (76 + 5 * x1.toNatClampNeg) 4)) C S (ly_imgs _ (in_lt hi_3)) (by decide) n_X7_restore_X3 m_X7_restore_3 rfl dX7_restore_18 ?_
    refine lv_if_ne (tgt := 27) hx hb dX7_restore_21 (by decide) (fun c1 => ?_) (fun c1 => ?_)
    · have h := h.1 c1
      refine lv_aload_n hx hb dX7_restore_27 rfl (lv_at hl 0 rfl) ?_
      refine kg7 (k := 2) (v := .ref (ad 9)) C S rfl (by decide) n_X7_restore_X7 m_X7_restore_5 rfl dX7_restore_28 ?_
      refine lv_aload_n hx hb dX7_restore_31 rfl (lv_at hl 0 rfl) ?_
      refine kg7 (k := 4) (v := .ref (ad 40)) C S rfl (by decide) n_X7_restore_X7 m_X7_restore_2 rfl dX7_restore_32 ?_
      refine lv_iload_n hx hb dX7_restore_35 rfl (lv_at hl 1 rfl) ?_
      obtain ⟨hi_4, h⟩ := h
      refine kAx C S rfl rfl hi_4 dX7_restore_36 ?_
      refine kV_v (As := [.ref (ad (76 + 5 * x1.toNatClampNeg))]) (rest := []) C S hl.1 (o_X3_become_c rfl (ly_imgs _ (in_lt hi_4)) h) (wd_o3 rfl) rfl (cw_X7_restore_X3_become C.1.2.2.2.2) rfl rfl (Nat.le_of_ble_eq_true rfl) dX7_restore_37 (fun g_5 H locs h S => ?_)
      refine lv_aload_n hx hb dX7_restore_40 rfl (lv_at hl 0 rfl) ?_
      refine kg7 (k := 3) (v := .ref (ad 14)) C S rfl (by decide) n_X7_restore_X7 m_X7_restore_6 rfl dX7_restore_41 ?_
      refine kV_v (As := []) (rest := []) C S hl.1 (o_X0_forget_c h) (wd_o0 rfl) rfl (cw_X7_restore_X0_forget C.1.2.2.2.2) rfl rfl (Nat.le_of_ble_eq_true rfl) dX7_restore_44 (fun g_7 H locs h S => ?_)
      refine lv_iconst (v := 1) hx hb dX7_restore_47 (by decide) ?_
      exact kRi C S h dX7_restore_48
    · have h := h.2 c1
      refine kLdc C m_X7_restore_4 dX7_restore_24 ?_
      exact kRi C S h dX7_restore_26
  · have h := h.2 c1
    refine kLdc C m_X7_restore_1 dX7_restore_9 ?_
    exact kRi C S h dX7_restore_11
/-! ClawCase.row(III)I, height 2 -/
theorem m_X7_row_1 : Cond.constant RX7 70 (-1000001) ∈ wsX7_row := List.mem_of_getElem? (i := 1) (by decide +kernel)
theorem m_X7_row_2 : Cond.fieldLink RX7 11 "ClawCase" "rows" "[LClawCase$Row;" ∈ wsX7_row := List.mem_of_getElem? (i := 2) (by decide +kernel)
theorem n_X7_row_X7 : ∀ w ∈ wsX70, w ∈ wsX7_row := mem_by [33, 34, 35, 36, 37, 38, 39, 40, 41] (by decide +kernel)
theorem cw_X7_row_X7_fine {s : State} {args : Array Value} (ht : ∀ w ∈ wsX7_row, w.before args s = true) : CallW (rmD 2) s args RX7 RX7 79 yX7_fine cX7_fine 2 (some .int) wsX7_fine (rmD (0)) 0 0 1 := cwV 1 ht gX7_row_X7_fine rfl rfl rfl (by decide +kernel) ⟨Nat.le_of_ble_eq_true rfl, Nat.le_of_ble_eq_true rfl⟩
theorem cw_X7_row_X6_renew {s : State} {args : Array Value} (ht : ∀ w ∈ wsX7_row, w.before args s = true) : CallW (rmD 2) s args RX7 RX6 75 yX6_renew cX6_renew 3 none wsX6_renew (rmD (1)) 0 0 2 := cwV 2 ht gX7_row_X6_renew rfl rfl rfl (by decide +kernel) ⟨Nat.le_of_ble_eq_true rfl, Nat.le_of_ble_eq_true rfl⟩
theorem cw_X7_row_X7_found {s : State} {args : Array Value} (ht : ∀ w ∈ wsX7_row, w.before args s = true) : CallW (rmD 2) s args RX7 RX7 71 yX7_found cX7_found 2 (some .int) wsX7_found (rmD (0)) 0 0 1 := cwV 1 ht gX7_row_X7_found rfl rfl rfl (by decide +kernel) ⟨Nat.le_of_ble_eq_true rfl, Nat.le_of_ble_eq_true rfl⟩
theorem cw_X7_row_X7_within {s : State} {args : Array Value} (ht : ∀ w ∈ wsX7_row, w.before args s = true) : CallB (rmD 2) s args RX7 66 yX7_within cX7_within 3 (some .boolean) wsX7_within (rmD (0)) 0 0 3 ∧ (Cond.static yX7_within).before args s = true := va_cwS 3 ht gX7_row_X7_within rfl rfl rfl (by decide +kernel) ⟨Nat.le_of_ble_eq_true rfl, Nat.le_of_ble_eq_true rfl⟩
theorem cw_X7_row_X7_isRow {s : State} {args : Array Value} (ht : ∀ w ∈ wsX7_row, w.before args s = true) : CallB (rmD 2) s args RX7 62 yX7_isRow cX7_isRow 1 (some .boolean) wsX7_isRow (rmD (1)) 0 0 1 ∧ (Cond.static yX7_isRow).before args s = true := va_cwS 1 ht gX7_row_X7_isRow rfl rfl rfl (by decide +kernel) ⟨Nat.le_of_ble_eq_true rfl, Nat.le_of_ble_eq_true rfl⟩
def o_X7_row (Q : Int32 → Mm → Prop) (g : Mm) (x1 : Int32) (x2 : Int32) (x3 : Int32) : Prop := o_X7_isRow (fun (r_2 : Int32) (g_1 : Mm) => ((r_2 = 0) → Q (-1000001) g_1) ∧ ((¬ r_2 = 0) → o_X7_within (fun (r_4 : Int32) (g_3 : Mm) => ((r_4 = 0) → Q (-1000001) g_3) ∧ ((¬ r_4 = 0) → ((x3 ≤ 40) → ((0 ≤ x3) → vp_in x1 8 ∧ (o_X6_renew (fun (g_6 : Mm) => o_X7_fine (fun (r_9 : Int32) (g_8 : Mm) => Q r_9 g_8) g_6 x3) (60 + 2 * x1.toNatClampNeg) g_3 x2 x3)) ∧ ((¬ 0 ≤ x3) → o_X7_found (fun (r_11 : Int32) (g_10 : Mm) => Q r_11 g_10) g_3 4)) ∧ ((¬ x3 ≤ 40) → Q (-1000001) g_3))) g_1 x2 0 2)) g x1
set_option maxHeartbeats 4000000 in
set_option maxRecDepth 100000 in
theorem o_X7_row_c {l : Launch} {dC : Nat → ClassId} {dI : Nat → Nat → Nat} {cy : Nat → ClassId} {ad tz : Nat → Nat} {Q : Int32 → Mm → Prop} {g : Mm} {x1 : Int32} {x2 : Int32} {x3 : Int32} (h : o_X7_row Q g x1 x2 x3) : CI l dC dI cy ad tz yX7_row wsX7_row (rmD 2) [.ref (ad 0), .int x1, .int x2, .int x3] g Q := by
  refine CI.of (by decide) rfl rfl (Nat.le_of_ble_eq_true rfl) ?_
  intro p e s m args below meth c ls C hl S
  have hl : lv_has ls 4 [(0, .ref (ad 0)), (1, .int x1), (2, .int x2), (3, .int x3)] := hl
  have hx := C.1.1
  have hb := C.1.2.1
  unfold o_X7_row at h
  refine lv_iload_n hx hb dX7_row_0 rfl (lv_at hl 1 rfl) ?_
  refine kS_i (As := [.int x1]) (rest := []) C S hl.1 (o_X7_isRow_c h) (cw_X7_row_X7_isRow C.1.2.2.2.2) rfl rfl (Nat.le_of_ble_eq_true rfl) dX7_row_1 (fun r_2 g_1 H locs h S => ?_)
  refine lv_if_eq (tgt := 22) hx hb dX7_row_4 (by decide) (fun c1 => ?_) (fun c1 => ?_)
  · have h := h.1 c1
    refine kLdc C m_X7_row_1 dX7_row_22 ?_
    exact kRi C S h dX7_row_24
  · have h := h.2 c1
    refine lv_iload_n hx hb dX7_row_7 rfl (lv_at hl 2 rfl) ?_
    refine lv_iconst (v := 0) hx hb dX7_row_8 (by decide) ?_
    refine lv_iconst (v := 2) hx hb dX7_row_9 (by decide) ?_
    refine kS_i (As := [.int x2, .int 0, .int 2]) (rest := []) C S hl.1 (o_X7_within_c h) (cw_X7_row_X7_within C.1.2.2.2.2) rfl rfl (Nat.le_of_ble_eq_true rfl) dX7_row_10 (fun r_4 g_3 H locs h S => ?_)
    refine lv_if_eq (tgt := 22) hx hb dX7_row_13 (by decide) (fun c1 => ?_) (fun c1 => ?_)
    · have h := h.1 c1
      refine kLdc C m_X7_row_1 dX7_row_22 ?_
      exact kRi C S h dX7_row_24
    · have h := h.2 c1
      refine lv_iload_n hx hb dX7_row_16 rfl (lv_at hl 3 rfl) ?_
      refine lv_bipush (v := 40) hx hb dX7_row_17 (by decide) ?_
      refine lv_icmp_le (tgt := 25) hx hb dX7_row_19 (by decide) (fun c1 => ?_) (fun c1 => ?_)
      · have h := h.1 c1
        refine lv_iload_n hx hb dX7_row_25 rfl (lv_at hl 3 rfl) ?_
        refine lv_if_ge (tgt := 35) hx hb dX7_row_26 (by decide) (fun c1 => ?_) (fun c1 => ?_)
        · have h := h.1 c1
          refine lv_aload_n hx hb dX7_row_35 rfl (lv_at hl 0 rfl) ?_
          refine kg7 (k := 0) (v := .ref (ad 1)) C S rfl (by decide) n_X7_row_X7 m_X7_row_2 rfl dX7_row_36 ?_
          refine lv_iload_n hx hb dX7_row_39 rfl (lv_at hl 1 rfl) ?_
          obtain ⟨hi_5, h⟩ := h
          refine kAr C S rfl rfl hi_5 dX7_row_40 ?_
          refine lv_iload_n hx hb dX7_row_41 rfl (lv_at hl 2 rfl) ?_
          refine lv_iload_n hx hb dX7_row_42 rfl (lv_at hl 3 rfl) ?_
          refine kV_v (As := [.int x2, .int x3]) (rest := []) C S hl.1 (o_X6_renew_c (ly_rows _ (in_lt hi_5)) h) (wd_o6 (ly_rows _ (in_lt hi_5))) rfl (cw_X7_row_X6_renew C.1.2.2.2.2) rfl rfl (Nat.le_of_ble_eq_true rfl) dX7_row_43 (fun g_6 H locs h S => ?_)
          refine lv_aload_n hx hb dX7_row_46 rfl (lv_at hl 0 rfl) ?_
          refine lv_iload_n hx hb dX7_row_47 rfl (lv_at hl 3 rfl) ?_
          refine kV_i (As := [.int x3]) (rest := []) C S hl.1 (o_X7_fine_c h) (wd_o7 rfl) rfl (cw_X7_row_X7_fine C.1.2.2.2.2) rfl rfl (Nat.le_of_ble_eq_true rfl) dX7_row_48 (fun r_9 g_8 H locs h S => ?_)
          exact kRi C S h dX7_row_51
        · have h := h.2 c1
          refine lv_aload_n hx hb dX7_row_29 rfl (lv_at hl 0 rfl) ?_
          refine lv_iconst (v := 4) hx hb dX7_row_30 (by decide) ?_
          refine kV_i (As := [.int 4]) (rest := []) C S hl.1 (o_X7_found_c h) (wd_o7 rfl) rfl (cw_X7_row_X7_found C.1.2.2.2.2) rfl rfl (Nat.le_of_ble_eq_true rfl) dX7_row_31 (fun r_11 g_10 H locs h S => ?_)
          exact kRi C S h dX7_row_34
      · have h := h.2 c1
        refine kLdc C m_X7_row_1 dX7_row_22 ?_
        exact kRi C S h dX7_row_24
/-! ClawCase.set(III)I, height 2 -/
theorem m_X7_set_2 : Cond.fieldLink RX7 11 "ClawCase" "rows" "[LClawCase$Row;" ∈ wsX7_set := List.mem_of_getElem? (i := 2) (by decide +kernel)
theorem n_X7_set_X7 : ∀ w ∈ wsX70, w ∈ wsX7_set := mem_by [33, 34, 35, 36, 37, 38, 39, 40, 41] (by decide +kernel)
theorem m_X7_set_3 : Cond.fieldLink RX7 82 "ClawCase$Row" "missing" "Z" ∈ wsX7_set := List.mem_of_getElem? (i := 3) (by decide +kernel)
theorem n_X7_set_X6 : ∀ w ∈ wsX60, w ∈ wsX7_set := mem_by [42, 43, 44, 45] (by decide +kernel)
theorem m_X7_set_4 : Cond.fieldLink RX7 90 "ClawCase$Row" "items" "[I" ∈ wsX7_set := List.mem_of_getElem? (i := 4) (by decide +kernel)
theorem cw_X7_set_X7_fine {s : State} {args : Array Value} (ht : ∀ w ∈ wsX7_set, w.before args s = true) : CallW (rmD 2) s args RX7 RX7 79 yX7_fine cX7_fine 2 (some .int) wsX7_fine (rmD (0)) 0 0 1 := cwV 1 ht gX7_set_X7_fine rfl rfl rfl (by decide +kernel) ⟨Nat.le_of_ble_eq_true rfl, Nat.le_of_ble_eq_true rfl⟩
theorem cw_X7_set_X6_lowestBits {s : State} {args : Array Value} (ht : ∀ w ∈ wsX7_set, w.before args s = true) : CallW (rmD 2) s args RX7 RX6 94 yX6_lowestBits cX6_lowestBits 2 (some .int) wsX6_lowestBits (rmD (0)) 0 0 1 := cwV 1 ht gX7_set_X6_lowestBits rfl rfl rfl (by decide +kernel) ⟨Nat.le_of_ble_eq_true rfl, Nat.le_of_ble_eq_true rfl⟩
theorem cw_X7_set_X7_found {s : State} {args : Array Value} (ht : ∀ w ∈ wsX7_set, w.before args s = true) : CallW (rmD 2) s args RX7 RX7 71 yX7_found cX7_found 2 (some .int) wsX7_found (rmD (0)) 0 0 1 := cwV 1 ht gX7_set_X7_found rfl rfl rfl (by decide +kernel) ⟨Nat.le_of_ble_eq_true rfl, Nat.le_of_ble_eq_true rfl⟩
theorem cw_X7_set_X6_spans {s : State} {args : Array Value} (ht : ∀ w ∈ wsX7_set, w.before args s = true) : CallW (rmD 2) s args RX7 RX6 86 yX6_spans cX6_spans 3 (some .boolean) wsX6_spans (rmD (1)) 0 0 2 := cwV 2 ht gX7_set_X6_spans rfl rfl rfl (by decide +kernel) ⟨Nat.le_of_ble_eq_true rfl, Nat.le_of_ble_eq_true rfl⟩
theorem m_X7_set_1 : Cond.constant RX7 70 (-1000001) ∈ wsX7_set := List.mem_of_getElem? (i := 1) (by decide +kernel)
theorem cw_X7_set_X7_isRow {s : State} {args : Array Value} (ht : ∀ w ∈ wsX7_set, w.before args s = true) : CallB (rmD 2) s args RX7 62 yX7_isRow cX7_isRow 1 (some .boolean) wsX7_isRow (rmD (1)) 0 0 1 ∧ (Cond.static yX7_isRow).before args s = true := va_cwS 1 ht gX7_set_X7_isRow rfl rfl rfl (by decide +kernel) ⟨Nat.le_of_ble_eq_true rfl, Nat.le_of_ble_eq_true rfl⟩
def o_X7_set (Q : Int32 → Mm → Prop) (g : Mm) (x1 : Int32) (x2 : Int32) (x3 : Int32) : Prop := o_X7_isRow (fun (r_2 : Int32) (g_1 : Mm) => ((¬ r_2 = 0) → vp_in x1 8 ∧ ((((g_1.1 (60 + 2 * x1.toNatClampNeg) 1) = 0) → o_X6_spans (fun (r_5 : Int32) (g_4 : Mm) => ((¬ r_5 = 0) → o_X6_lowestBits (fun (r_7 : Int32) (g_6 : Mm) => vp_in x2 40 ∧ (∀ g_8 : Mm, g_8 = mset g_6 ((60 + 2 * x1.toNatClampNeg) + 1) x2.toNatClampNeg r_7 → (vp_in x2 40 ∧ (o_X7_fine (fun (r_10 : Int32) (g_9 : Mm) => Q r_10 g_9) g_8 (g_8.1 ((60 + 2 * x1.toNatClampNeg) + 1) x2.toNatClampNeg))))) (60 + 2 * x1.toNatClampNeg) g_4 x3) ∧ ((r_5 = 0) → o_X7_found (fun (r_12 : Int32) (g_11 : Mm) => Q r_12 g_11) g_4 2)) (60 + 2 * x1.toNatClampNeg) g_1 x2 1) ∧ ((¬ (g_1.1 (60 + 2 * x1.toNatClampNeg) 1) = 0) → o_X7_found (fun (r_14 : Int32) (g_13 : Mm) => Q r_14 g_13) g_1 1))) ∧ ((r_2 = 0) → Q (-1000001) g_1)) g x1
set_option maxHeartbeats 4000000 in
set_option maxRecDepth 100000 in
theorem o_X7_set_c {l : Launch} {dC : Nat → ClassId} {dI : Nat → Nat → Nat} {cy : Nat → ClassId} {ad tz : Nat → Nat} {Q : Int32 → Mm → Prop} {g : Mm} {x1 : Int32} {x2 : Int32} {x3 : Int32} (h : o_X7_set Q g x1 x2 x3) : CI l dC dI cy ad tz yX7_set wsX7_set (rmD 2) [.ref (ad 0), .int x1, .int x2, .int x3] g Q := by
  refine CI.of (by decide) rfl rfl (Nat.le_of_ble_eq_true rfl) ?_
  intro p e s m args below meth c ls C hl S
  have hl : lv_has ls 5 [(0, .ref (ad 0)), (1, .int x1), (2, .int x2), (3, .int x3)] := hl
  have hx := C.1.1
  have hb := C.1.2.1
  unfold o_X7_set at h
  refine lv_iload_n hx hb dX7_set_0 rfl (lv_at hl 1 rfl) ?_
  refine kS_i (As := [.int x1]) (rest := []) C S hl.1 (o_X7_isRow_c h) (cw_X7_set_X7_isRow C.1.2.2.2.2) rfl rfl (Nat.le_of_ble_eq_true rfl) dX7_set_1 (fun r_2 g_1 H locs h S => ?_)
  refine lv_if_ne (tgt := 10) hx hb dX7_set_4 (by decide) (fun c1 => ?_) (fun c1 => ?_)
  · have h := h.1 c1
    refine lv_aload_n hx hb dX7_set_10 rfl (lv_at hl 0 rfl) ?_
    refine kg7 (k := 0) (v := .ref (ad 1)) C S rfl (by decide) n_X7_set_X7 m_X7_set_2 rfl dX7_set_11 ?_
    refine lv_iload_n hx hb dX7_set_14 rfl (lv_at hl 1 rfl) ?_
    obtain ⟨hi_3, h⟩ := h
    refine kAr C S rfl rfl hi_3 dX7_set_15 ?_
    refine lv_astore (lv' := [(4, .ref (ad (60 + 2 * x1.toNatClampNeg))), (0, .ref (ad 0)), (1, .int x1), (2, .int x2), (3, .int x3)]) hx hb dX7_set_16 hl (by decide) rfl (fun ls hl => ?_)
    refine lv_aload hx hb dX7_set_18 (lv_at hl 0 rfl) ?_
    refine kg6 (k := 1) (v := .int (g_1.1 (60 + 2 * x1.toNatClampNeg) 1)) C S (ly_rows _ (in_lt hi_3)) (by decide) n_X7_set_X6 m_X7_set_3 rfl dX7_set_20 ?_
    refine lv_if_eq (tgt := 32) hx hb dX7_set_23 (by decide) (fun c1 => ?_) (fun c1 => ?_)
    · have h := h.1 c1
      refine lv_aload hx hb dX7_set_32 (lv_at hl 0 rfl) ?_
      refine lv_iload_n hx hb dX7_set_34 rfl (lv_at hl 3 rfl) ?_
      refine lv_iconst (v := 1) hx hb dX7_set_35 (by decide) ?_
      refine kV_i (As := [.int x2, .int 1]) (rest := []) C S hl.1 (o_X6_spans_c (ly_rows _ (in_lt hi_3)) h) (wd_o6 (ly_rows _ (in_lt hi_3))) rfl (cw_X7_set_X6_spans C.1.2.2.2.2) rfl rfl (Nat.le_of_ble_eq_true rfl) dX7_set_36 (fun r_5 g_4 H locs h S => ?_)
      refine lv_if_ne (tgt := 48) hx hb dX7_set_39 (by decide) (fun c1 => ?_) (fun c1 => ?_)
      · have h := h.1 c1
        refine lv_aload hx hb dX7_set_48 (lv_at hl 0 rfl) ?_
        refine kg6 (k := 0) (v := .ref (ad ((60 + 2 * x1.toNatClampNeg) + 1))) C S (ly_rows _ (in_lt hi_3)) (by decide) n_X7_set_X6 m_X7_set_4 rfl dX7_set_50 ?_
        refine lv_iload_n hx hb dX7_set_53 rfl (lv_at hl 3 rfl) ?_
        refine lv_aload hx hb dX7_set_54 (lv_at hl 0 rfl) ?_
        refine lv_iload_n hx hb dX7_set_56 rfl (lv_at hl 4 rfl) ?_
        refine kV_i (As := [.int x3]) (rest := [.int x2, .ref (ad ((60 + 2 * x1.toNatClampNeg) + 1))]) C S hl.1 (o_X6_lowestBits_c (ly_rows _ (in_lt hi_3)) h) (wd_o6 (ly_rows _ (in_lt hi_3))) rfl (cw_X7_set_X6_lowestBits C.1.2.2.2.2) rfl rfl (Nat.le_of_ble_eq_true rfl) dX7_set_57 (fun r_7 g_6 H locs h S => ?_)
        obtain ⟨hi, h⟩ := h
        refine kSi C S ((lyR (ly_rows _ (in_lt hi_3))).1) ((lyR (ly_rows _ (in_lt hi_3))).2) hi dX7_set_60 (fun g_8 H locs eg_8 S => ?_)
        have h := h g_8 eg_8
        refine lv_aload_n hx hb dX7_set_61 rfl (lv_at hl 1 rfl) ?_
        refine lv_aload hx hb dX7_set_62 (lv_at hl 0 rfl) ?_
        refine kg6 (k := 0) (v := .ref (ad ((60 + 2 * x1.toNatClampNeg) + 1))) C S (ly_rows _ (in_lt hi_3)) (by decide) n_X7_set_X6 m_X7_set_4 rfl dX7_set_64 ?_
        refine lv_iload_n hx hb dX7_set_67 rfl (lv_at hl 3 rfl) ?_
        obtain ⟨hi, h⟩ := h
        refine kLi C S ((lyR (ly_rows _ (in_lt hi_3))).1) ((lyR (ly_rows _ (in_lt hi_3))).2) hi dX7_set_68 ?_
        refine kV_i (As := [.int (g_8.1 ((60 + 2 * x1.toNatClampNeg) + 1) x2.toNatClampNeg)]) (rest := []) C S hl.1 (o_X7_fine_c h) (wd_o7 rfl) rfl (cw_X7_set_X7_fine C.1.2.2.2.2) rfl rfl (Nat.le_of_ble_eq_true rfl) dX7_set_69 (fun r_10 g_9 H locs h S => ?_)
        exact kRi C S h dX7_set_72
      · have h := h.2 c1
        refine lv_aload_n hx hb dX7_set_42 rfl (lv_at hl 1 rfl) ?_
        refine lv_iconst (v := 2) hx hb dX7_set_43 (by decide) ?_
        refine kV_i (As := [.int 2]) (rest := []) C S hl.1 (o_X7_found_c h) (wd_o7 rfl) rfl (cw_X7_set_X7_found C.1.2.2.2.2) rfl rfl (Nat.le_of_ble_eq_true rfl) dX7_set_44 (fun r_12 g_11 H locs h S => ?_)
        exact kRi C S h dX7_set_47
    · have h := h.2 c1
      refine lv_aload_n hx hb dX7_set_26 rfl (lv_at hl 1 rfl) ?_
      refine lv_iconst (v := 1) hx hb dX7_set_27 (by decide) ?_
      refine kV_i (As := [.int 1]) (rest := []) C S hl.1 (o_X7_found_c h) (wd_o7 rfl) rfl (cw_X7_set_X7_found C.1.2.2.2.2) rfl rfl (Nat.le_of_ble_eq_true rfl) dX7_set_28 (fun r_14 g_13 H locs h S => ?_)
      exact kRi C S h dX7_set_31
  · have h := h.2 c1
    refine kLdc C m_X7_set_1 dX7_set_7 ?_
    exact kRi C S h dX7_set_9
/-! ClawCase.share(II)I, height 2 -/
theorem m_X7_share_1 : Cond.constant RX7 70 (-1000001) ∈ wsX7_share := List.mem_of_getElem? (i := 1) (by decide +kernel)
theorem m_X7_share_2 : Cond.fieldLink RX7 25 "ClawCase" "now" "LClawCase$Box;" ∈ wsX7_share := List.mem_of_getElem? (i := 2) (by decide +kernel)
theorem n_X7_share_X7 : ∀ w ∈ wsX70, w ∈ wsX7_share := mem_by [29, 30, 31, 32, 33, 34, 35, 36, 37] (by decide +kernel)
theorem m_X7_share_3 : Cond.fieldLink RX7 164 "ClawCase$Box" "places" "[I" ∈ wsX7_share := List.mem_of_getElem? (i := 3) (by decide +kernel)
theorem n_X7_share_X3 : ∀ w ∈ wsX30, w ∈ wsX7_share := mem_by [38, 39, 40, 41, 42, 43, 44, 45, 46] (by decide +kernel)
theorem cw_X7_share_X3_shareOf {s : State} {args : Array Value} (ht : ∀ w ∈ wsX7_share, w.before args s = true) : CallW (rmD 2) s args RX7 RX3 231 yX3_shareOf cX3_shareOf 7 (some .int) wsX3_shareOf (rmD (1)) 0 0 2 := cwV 2 ht gX7_share_X3_shareOf rfl rfl rfl (by decide +kernel) ⟨Nat.le_of_ble_eq_true rfl, Nat.le_of_ble_eq_true rfl⟩
theorem cw_X7_share_X7_within {s : State} {args : Array Value} (ht : ∀ w ∈ wsX7_share, w.before args s = true) : CallB (rmD 2) s args RX7 66 yX7_within cX7_within 3 (some .boolean) wsX7_within (rmD (0)) 0 0 3 ∧ (Cond.static yX7_within).before args s = true := va_cwS 3 ht gX7_share_X7_within rfl rfl rfl (by decide +kernel) ⟨Nat.le_of_ble_eq_true rfl, Nat.le_of_ble_eq_true rfl⟩
theorem cw_X7_share_X7_isToy {s : State} {args : Array Value} (ht : ∀ w ∈ wsX7_share, w.before args s = true) : CallW (rmD 2) s args RX7 RX7 161 yX7_isToy cX7_isToy 2 (some .boolean) wsX7_isToy (rmD (1)) 0 0 1 := cwV 1 ht gX7_share_X7_isToy rfl rfl rfl (by decide +kernel) ⟨Nat.le_of_ble_eq_true rfl, Nat.le_of_ble_eq_true rfl⟩
def o_X7_share (Q : Int32 → Mm → Prop) (g : Mm) (x1 : Int32) (x2 : Int32) : Prop := o_X7_isToy (fun (r_2 : Int32) (g_1 : Mm) => ((r_2 = 0) → Q (-1000001) g_1) ∧ ((¬ r_2 = 0) → o_X7_within (fun (r_4 : Int32) (g_3 : Mm) => ((¬ r_4 = 0) → vp_in x1 7 ∧ (((¬ (g_3.1 12 x1.toNatClampNeg) = 0) → Q 0 g_3) ∧ (((g_3.1 12 x1.toNatClampNeg) = 0) → o_X3_shareOf (fun (r_6 : Int32) (g_5 : Mm) => Q r_6 g_5) 9 g_3 x1 x2))) ∧ ((r_4 = 0) → Q (-1000001) g_3)) g_1 x2 0 999)) g x1
set_option maxHeartbeats 4000000 in
set_option maxRecDepth 100000 in
theorem o_X7_share_c {l : Launch} {dC : Nat → ClassId} {dI : Nat → Nat → Nat} {cy : Nat → ClassId} {ad tz : Nat → Nat} {Q : Int32 → Mm → Prop} {g : Mm} {x1 : Int32} {x2 : Int32} (h : o_X7_share Q g x1 x2) : CI l dC dI cy ad tz yX7_share wsX7_share (rmD 2) [.ref (ad 0), .int x1, .int x2] g Q := by
  refine CI.of (by decide) rfl rfl (Nat.le_of_ble_eq_true rfl) ?_
  intro p e s m args below meth c ls C hl S
  have hl : lv_has ls 3 [(0, .ref (ad 0)), (1, .int x1), (2, .int x2)] := hl
  have hx := C.1.1
  have hb := C.1.2.1
  unfold o_X7_share at h
  refine lv_aload_n hx hb dX7_share_0 rfl (lv_at hl 0 rfl) ?_
  refine lv_iload_n hx hb dX7_share_1 rfl (lv_at hl 1 rfl) ?_
  refine kV_i (As := [.int x1]) (rest := []) C S hl.1 (o_X7_isToy_c h) (wd_o7 rfl) rfl (cw_X7_share_X7_isToy C.1.2.2.2.2) rfl rfl (Nat.le_of_ble_eq_true rfl) dX7_share_2 (fun r_2 g_1 H locs h S => ?_)
  refine lv_if_eq (tgt := 19) hx hb dX7_share_5 (by decide) (fun c1 => ?_) (fun c1 => ?_)
  · have h := h.1 c1
    refine kLdc C m_X7_share_1 dX7_share_19 ?_
    exact kRi C S h dX7_share_21
  · have h := h.2 c1
    refine lv_iload_n hx hb dX7_share_8 rfl (lv_at hl 2 rfl) ?_
    refine lv_iconst (v := 0) hx hb dX7_share_9 (by decide) ?_
    refine lv_sipush (v := 999) hx hb dX7_share_10 (by decide) ?_
    refine kS_i (As := [.int x2, .int 0, .int 999]) (rest := []) C S hl.1 (o_X7_within_c h) (cw_X7_share_X7_within C.1.2.2.2.2) rfl rfl (Nat.le_of_ble_eq_true rfl) dX7_share_13 (fun r_4 g_3 H locs h S => ?_)
    refine lv_if_ne (tgt := 22) hx hb dX7_share_16 (by decide) (fun c1 => ?_) (fun c1 => ?_)
    · have h := h.1 c1
      refine lv_aload_n hx hb dX7_share_22 rfl (lv_at hl 0 rfl) ?_
      refine kg7 (k := 2) (v := .ref (ad 9)) C S rfl (by decide) n_X7_share_X7 m_X7_share_2 rfl dX7_share_23 ?_
      refine kg3 (k := 2) (v := .ref (ad 12)) C S rfl (by decide) n_X7_share_X3 m_X7_share_3 rfl dX7_share_26 ?_
      refine lv_iload_n hx hb dX7_share_29 rfl (lv_at hl 1 rfl) ?_
      obtain ⟨hi, h⟩ := h
      refine kLi C S rfl rfl hi dX7_share_30 ?_
      refine lv_if_ne (tgt := 46) hx hb dX7_share_31 (by decide) (fun c1 => ?_) (fun c1 => ?_)
      · have h := h.1 c1
        refine lv_iconst (v := 0) hx hb dX7_share_46 (by decide) ?_
        exact kRi C S h dX7_share_47
      · have h := h.2 c1
        refine lv_aload_n hx hb dX7_share_34 rfl (lv_at hl 0 rfl) ?_
        refine kg7 (k := 2) (v := .ref (ad 9)) C S rfl (by decide) n_X7_share_X7 m_X7_share_2 rfl dX7_share_35 ?_
        refine lv_iload_n hx hb dX7_share_38 rfl (lv_at hl 1 rfl) ?_
        refine lv_iload_n hx hb dX7_share_39 rfl (lv_at hl 2 rfl) ?_
        refine kV_i (As := [.int x1, .int x2]) (rest := []) C S hl.1 (o_X3_shareOf_c rfl h) (wd_o3 rfl) rfl (cw_X7_share_X3_shareOf C.1.2.2.2.2) rfl rfl (Nat.le_of_ble_eq_true rfl) dX7_share_40 (fun r_6 g_5 H locs h S => ?_)
        refine lv_goto (tgt := 47) hx hb dX7_share_43 (by decide) ?_
        exact kRi C S h dX7_share_47
    · have h := h.2 c1
      refine kLdc C m_X7_share_1 dX7_share_19 ?_
      exact kRi C S h dX7_share_21
/-! ClawCase.status()I, height 0 -/
theorem m_X7_status_1 : Cond.fieldLink RX7 58 "ClawCase" "latestFinding" "I" ∈ wsX7_status := List.mem_of_getElem? (i := 1) (by decide +kernel)
theorem n_X7_status_X7 : ∀ w ∈ wsX70, w ∈ wsX7_status := mem_by [2, 3, 4, 5, 6, 7, 8, 9, 10] (by decide +kernel)
def o_X7_status (Q : Int32 → Mm → Prop) (g : Mm) : Prop := Q (g.1 0 8) g
set_option maxHeartbeats 4000000 in
set_option maxRecDepth 100000 in
theorem o_X7_status_c {l : Launch} {dC : Nat → ClassId} {dI : Nat → Nat → Nat} {cy : Nat → ClassId} {ad tz : Nat → Nat} {Q : Int32 → Mm → Prop} {g : Mm} (h : o_X7_status Q g) : CI l dC dI cy ad tz yX7_status wsX7_status (rmD 0) [.ref (ad 0)] g Q := by
  refine CI.of (by decide) rfl rfl (Nat.le_of_ble_eq_true rfl) ?_
  intro p e s m args below meth c ls C hl S
  have hl : lv_has ls 1 [(0, .ref (ad 0))] := hl
  have hx := C.1.1
  have hb := C.1.2.1
  unfold o_X7_status at h
  refine lv_aload_n hx hb dX7_status_0 rfl (lv_at hl 0 rfl) ?_
  refine kg7 (k := 8) (v := .int (g.1 0 8)) C S rfl (by decide) n_X7_status_X7 m_X7_status_1 rfl dX7_status_1 ?_
  exact kRi C S h dX7_status_4
/-! ClawCase.toy(II)I, height 3 -/
theorem m_X7_toy_2 : Cond.fieldLink RX7 25 "ClawCase" "now" "LClawCase$Box;" ∈ wsX7_toy := List.mem_of_getElem? (i := 2) (by decide +kernel)
theorem n_X7_toy_X7 : ∀ w ∈ wsX70, w ∈ wsX7_toy := mem_by [35, 36, 37, 38, 39, 40, 41, 42, 43] (by decide +kernel)
theorem m_X7_toy_3 : Cond.fieldLink RX7 193 "ClawCase$Box" "weights" "[I" ∈ wsX7_toy := List.mem_of_getElem? (i := 3) (by decide +kernel)
theorem n_X7_toy_X3 : ∀ w ∈ wsX30, w ∈ wsX7_toy := mem_by [44, 45, 46, 47, 48, 49, 50, 51, 52] (by decide +kernel)
theorem m_X7_toy_4 : Cond.fieldLink RX7 164 "ClawCase$Box" "places" "[I" ∈ wsX7_toy := List.mem_of_getElem? (i := 4) (by decide +kernel)
theorem cw_X7_toy_X3_need {s : State} {args : Array Value} (ht : ∀ w ∈ wsX7_toy, w.before args s = true) : CallW (rmD 3) s args RX7 RX3 196 yX3_need cX3_need 2 (some .int) wsX3_need (rmD (0)) 0 0 1 := cwV 1 ht gX7_toy_X3_need rfl rfl rfl (by decide +kernel) ⟨Nat.le_of_ble_eq_true rfl, Nat.le_of_ble_eq_true rfl⟩
theorem cw_X7_toy_X3_above {s : State} {args : Array Value} (ht : ∀ w ∈ wsX7_toy, w.before args s = true) : CallW (rmD 3) s args RX7 RX3 199 yX3_above cX3_above 2 (some .int) wsX3_above (rmD (2)) 0 0 1 := cwV 1 ht gX7_toy_X3_above rfl rfl rfl (by decide +kernel) ⟨Nat.le_of_ble_eq_true rfl, Nat.le_of_ble_eq_true rfl⟩
theorem m_X7_toy_5 : Cond.fieldLink RX7 202 "ClawCase$Box" "under" "[I" ∈ wsX7_toy := List.mem_of_getElem? (i := 5) (by decide +kernel)
theorem m_X7_toy_1 : Cond.constant RX7 70 (-1000001) ∈ wsX7_toy := List.mem_of_getElem? (i := 1) (by decide +kernel)
theorem cw_X7_toy_X7_isToy {s : State} {args : Array Value} (ht : ∀ w ∈ wsX7_toy, w.before args s = true) : CallW (rmD 3) s args RX7 RX7 161 yX7_isToy cX7_isToy 2 (some .boolean) wsX7_isToy (rmD (1)) 0 0 1 := cwV 1 ht gX7_toy_X7_isToy rfl rfl rfl (by decide +kernel) ⟨Nat.le_of_ble_eq_true rfl, Nat.le_of_ble_eq_true rfl⟩
def o_X7_toy (Q : Int32 → Mm → Prop) (g : Mm) (x1 : Int32) (x2 : Int32) : Prop := o_X7_isToy (fun (r_2 : Int32) (g_1 : Mm) => ((¬ r_2 = 0) → (x2 = 0 → vp_in x1 7 ∧ (Q (g_1.1 11 x1.toNatClampNeg) g_1)) ∧ (x2 = 1 → vp_in x1 7 ∧ (Q (g_1.1 12 x1.toNatClampNeg) g_1)) ∧ (x2 = 2 → o_X3_need (fun (r_4 : Int32) (g_3 : Mm) => Q r_4 g_3) 9 g_1 x1) ∧ (x2 = 3 → o_X3_above (fun (r_6 : Int32) (g_5 : Mm) => Q r_6 g_5) 9 g_1 x1) ∧ (x2 = 4 → vp_in x1 7 ∧ (Q (g_1.1 13 x1.toNatClampNeg) g_1)) ∧ ((¬ x2 = 0 ∧ ¬ x2 = 1 ∧ ¬ x2 = 2 ∧ ¬ x2 = 3 ∧ ¬ x2 = 4) → Q (-1000001) g_1)) ∧ ((r_2 = 0) → Q (-1000001) g_1)) g x1
set_option maxHeartbeats 4000000 in
set_option maxRecDepth 100000 in
theorem o_X7_toy_c {l : Launch} {dC : Nat → ClassId} {dI : Nat → Nat → Nat} {cy : Nat → ClassId} {ad tz : Nat → Nat} {Q : Int32 → Mm → Prop} {g : Mm} {x1 : Int32} {x2 : Int32} (h : o_X7_toy Q g x1 x2) : CI l dC dI cy ad tz yX7_toy wsX7_toy (rmD 3) [.ref (ad 0), .int x1, .int x2] g Q := by
  refine CI.of (by decide) rfl rfl (Nat.le_of_ble_eq_true rfl) ?_
  intro p e s m args below meth c ls C hl S
  have hl : lv_has ls 3 [(0, .ref (ad 0)), (1, .int x1), (2, .int x2)] := hl
  have hx := C.1.1
  have hb := C.1.2.1
  unfold o_X7_toy at h
  refine lv_aload_n hx hb dX7_toy_0 rfl (lv_at hl 0 rfl) ?_
  refine lv_iload_n hx hb dX7_toy_1 rfl (lv_at hl 1 rfl) ?_
  refine kV_i (As := [.int x1]) (rest := []) C S hl.1 (o_X7_isToy_c h) (wd_o7 rfl) rfl (cw_X7_toy_X7_isToy C.1.2.2.2.2) rfl rfl (Nat.le_of_ble_eq_true rfl) dX7_toy_2 (fun r_2 g_1 H locs h S => ?_)
  refine lv_if_ne (tgt := 11) hx hb dX7_toy_5 (by decide) (fun c1 => ?_) (fun c1 => ?_)
  · have h := h.1 c1
    refine lv_iload_n hx hb dX7_toy_11 rfl (lv_at hl 2 rfl) ?_
    by_cases c0 : x2 = 0
    · have h := h.1 c0
      refine lv_tableIn (off := 36) (tgt := 48) hx hb dX7_toy_12 (by rw [c0]; decide) (by rw [c0]; decide) (by rw [c0]; decide) (by decide) ?_
      refine lv_aload_n hx hb dX7_toy_48 rfl (lv_at hl 0 rfl) ?_
      refine kg7 (k := 2) (v := .ref (ad 9)) C S rfl (by decide) n_X7_toy_X7 m_X7_toy_2 rfl dX7_toy_49 ?_
      refine kg3 (k := 1) (v := .ref (ad 11)) C S rfl (by decide) n_X7_toy_X3 m_X7_toy_3 rfl dX7_toy_52 ?_
      refine lv_iload_n hx hb dX7_toy_55 rfl (lv_at hl 1 rfl) ?_
      obtain ⟨hi, h⟩ := h
      refine kLi C S rfl rfl hi dX7_toy_56 ?_
      exact kRi C S h dX7_toy_57
    by_cases c1 : x2 = 1
    · have h := h.2.1 c1
      refine lv_tableIn (off := 46) (tgt := 58) hx hb dX7_toy_12 (by rw [c1]; decide) (by rw [c1]; decide) (by rw [c1]; decide) (by decide) ?_
      refine lv_aload_n hx hb dX7_toy_58 rfl (lv_at hl 0 rfl) ?_
      refine kg7 (k := 2) (v := .ref (ad 9)) C S rfl (by decide) n_X7_toy_X7 m_X7_toy_2 rfl dX7_toy_59 ?_
      refine kg3 (k := 2) (v := .ref (ad 12)) C S rfl (by decide) n_X7_toy_X3 m_X7_toy_4 rfl dX7_toy_62 ?_
      refine lv_iload_n hx hb dX7_toy_65 rfl (lv_at hl 1 rfl) ?_
      obtain ⟨hi, h⟩ := h
      refine kLi C S rfl rfl hi dX7_toy_66 ?_
      exact kRi C S h dX7_toy_67
    by_cases c2 : x2 = 2
    · have h := h.2.2.1 c2
      refine lv_tableIn (off := 56) (tgt := 68) hx hb dX7_toy_12 (by rw [c2]; decide) (by rw [c2]; decide) (by rw [c2]; decide) (by decide) ?_
      refine lv_aload_n hx hb dX7_toy_68 rfl (lv_at hl 0 rfl) ?_
      refine kg7 (k := 2) (v := .ref (ad 9)) C S rfl (by decide) n_X7_toy_X7 m_X7_toy_2 rfl dX7_toy_69 ?_
      refine lv_iload_n hx hb dX7_toy_72 rfl (lv_at hl 1 rfl) ?_
      refine kV_i (As := [.int x1]) (rest := []) C S hl.1 (o_X3_need_c rfl h) (wd_o3 rfl) rfl (cw_X7_toy_X3_need C.1.2.2.2.2) rfl rfl (Nat.le_of_ble_eq_true rfl) dX7_toy_73 (fun r_4 g_3 H locs h S => ?_)
      exact kRi C S h dX7_toy_76
    by_cases c3 : x2 = 3
    · have h := h.2.2.2.1 c3
      refine lv_tableIn (off := 65) (tgt := 77) hx hb dX7_toy_12 (by rw [c3]; decide) (by rw [c3]; decide) (by rw [c3]; decide) (by decide) ?_
      refine lv_aload_n hx hb dX7_toy_77 rfl (lv_at hl 0 rfl) ?_
      refine kg7 (k := 2) (v := .ref (ad 9)) C S rfl (by decide) n_X7_toy_X7 m_X7_toy_2 rfl dX7_toy_78 ?_
      refine lv_iload_n hx hb dX7_toy_81 rfl (lv_at hl 1 rfl) ?_
      refine kV_i (As := [.int x1]) (rest := []) C S hl.1 (o_X3_above_c rfl h) (wd_o3 rfl) rfl (cw_X7_toy_X3_above C.1.2.2.2.2) rfl rfl (Nat.le_of_ble_eq_true rfl) dX7_toy_82 (fun r_6 g_5 H locs h S => ?_)
      exact kRi C S h dX7_toy_85
    by_cases c4 : x2 = 4
    · have h := h.2.2.2.2.1 c4
      refine lv_tableIn (off := 74) (tgt := 86) hx hb dX7_toy_12 (by rw [c4]; decide) (by rw [c4]; decide) (by rw [c4]; decide) (by decide) ?_
      refine lv_aload_n hx hb dX7_toy_86 rfl (lv_at hl 0 rfl) ?_
      refine kg7 (k := 2) (v := .ref (ad 9)) C S rfl (by decide) n_X7_toy_X7 m_X7_toy_2 rfl dX7_toy_87 ?_
      refine kg3 (k := 3) (v := .ref (ad 13)) C S rfl (by decide) n_X7_toy_X3 m_X7_toy_5 rfl dX7_toy_90 ?_
      refine lv_iload_n hx hb dX7_toy_93 rfl (lv_at hl 1 rfl) ?_
      obtain ⟨hi, h⟩ := h
      refine kLi C S rfl rfl hi dX7_toy_94 ?_
      exact kRi C S h dX7_toy_95
    have h := h.2.2.2.2.2 ⟨c0, c1, c2, c3, c4⟩
    refine lv_tableOut (tgt := 96) hx hb dX7_toy_12 (tb_out 0 4 ?_) (by decide) ?_
    · intro k h1 h2
      rcases (show k = 0 ∨ k = 1 ∨ k = 2 ∨ k = 3 ∨ k = 4 by omega) with rfl | rfl | rfl | rfl | rfl
      · exact lk_ne c0 (by decide)
      · exact lk_ne c1 (by decide)
      · exact lk_ne c2 (by decide)
      · exact lk_ne c3 (by decide)
      · exact lk_ne c4 (by decide)
    refine kLdc C m_X7_toy_1 dX7_toy_96 ?_
    exact kRi C S h dX7_toy_98
  · have h := h.2 c1
    refine kLdc C m_X7_toy_1 dX7_toy_8 ?_
    exact kRi C S h dX7_toy_10
/-! ClawCase.trace(I)I, height 1 -/
theorem m_X7_trace_1 : Cond.fieldLink RX7 50 "ClawCase" "asked" "LClawCase$Asked;" ∈ wsX7_trace := List.mem_of_getElem? (i := 1) (by decide +kernel)
theorem n_X7_trace_X7 : ∀ w ∈ wsX70, w ∈ wsX7_trace := mem_by [9, 10, 11, 12, 13, 14, 15, 16, 17] (by decide +kernel)
theorem m_X7_trace_2 : Cond.fieldLink RX7 272 "ClawCase$Asked" "begun" "I" ∈ wsX7_trace := List.mem_of_getElem? (i := 2) (by decide +kernel)
theorem n_X7_trace_X1 : ∀ w ∈ wsX10, w ∈ wsX7_trace := mem_by [18, 19] (by decide +kernel)
theorem m_X7_trace_4 : Cond.constant RX7 179 (-1000000) ∈ wsX7_trace := List.mem_of_getElem? (i := 4) (by decide +kernel)
theorem m_X7_trace_3 : Cond.fieldLink RX7 275 "ClawCase$Asked" "bodies" "[I" ∈ wsX7_trace := List.mem_of_getElem? (i := 3) (by decide +kernel)
theorem cw_X7_trace_X7_within {s : State} {args : Array Value} (ht : ∀ w ∈ wsX7_trace, w.before args s = true) : CallB (rmD 1) s args RX7 66 yX7_within cX7_within 3 (some .boolean) wsX7_within (rmD (0)) 0 0 3 ∧ (Cond.static yX7_within).before args s = true := va_cwS 3 ht gX7_trace_X7_within rfl rfl rfl (by decide +kernel) ⟨Nat.le_of_ble_eq_true rfl, Nat.le_of_ble_eq_true rfl⟩
def o_X7_trace (Q : Int32 → Mm → Prop) (g : Mm) (x1 : Int32) : Prop := o_X7_within (fun (r_2 : Int32) (g_1 : Mm) => ((r_2 = 0) → Q (-1000000) g_1) ∧ ((¬ r_2 = 0) → vp_in x1 16 ∧ (Q (g_1.1 59 x1.toNatClampNeg) g_1))) g x1 0 ((g.1 58 1) - 1)
set_option maxHeartbeats 4000000 in
set_option maxRecDepth 100000 in
theorem o_X7_trace_c {l : Launch} {dC : Nat → ClassId} {dI : Nat → Nat → Nat} {cy : Nat → ClassId} {ad tz : Nat → Nat} {Q : Int32 → Mm → Prop} {g : Mm} {x1 : Int32} (h : o_X7_trace Q g x1) : CI l dC dI cy ad tz yX7_trace wsX7_trace (rmD 1) [.ref (ad 0), .int x1] g Q := by
  refine CI.of (by decide) rfl rfl (Nat.le_of_ble_eq_true rfl) ?_
  intro p e s m args below meth c ls C hl S
  have hl : lv_has ls 2 [(0, .ref (ad 0)), (1, .int x1)] := hl
  have hx := C.1.1
  have hb := C.1.2.1
  unfold o_X7_trace at h
  refine lv_iload_n hx hb dX7_trace_0 rfl (lv_at hl 1 rfl) ?_
  refine lv_iconst (v := 0) hx hb dX7_trace_1 (by decide) ?_
  refine lv_aload_n hx hb dX7_trace_2 rfl (lv_at hl 0 rfl) ?_
  refine kg7 (k := 6) (v := .ref (ad 58)) C S rfl (by decide) n_X7_trace_X7 m_X7_trace_1 rfl dX7_trace_3 ?_
  refine kg1 (k := 1) (v := .int (g.1 58 1)) C S rfl (by decide) n_X7_trace_X1 m_X7_trace_2 rfl dX7_trace_6 ?_
  refine lv_iconst (v := 1) hx hb dX7_trace_9 (by decide) ?_
  refine lv_isub hx hb dX7_trace_10 ?_
  refine kS_i (As := [.int x1, .int 0, .int ((g.1 58 1) - 1)]) (rest := []) C S hl.1 (o_X7_within_c h) (cw_X7_trace_X7_within C.1.2.2.2.2) rfl rfl (Nat.le_of_ble_eq_true rfl) dX7_trace_11 (fun r_2 g_1 H locs h S => ?_)
  refine lv_if_eq (tgt := 29) hx hb dX7_trace_14 (by decide) (fun c1 => ?_) (fun c1 => ?_)
  · have h := h.1 c1
    refine kLdc C m_X7_trace_4 dX7_trace_29 ?_
    exact kRi C S h dX7_trace_31
  · have h := h.2 c1
    refine lv_aload_n hx hb dX7_trace_17 rfl (lv_at hl 0 rfl) ?_
    refine kg7 (k := 6) (v := .ref (ad 58)) C S rfl (by decide) n_X7_trace_X7 m_X7_trace_1 rfl dX7_trace_18 ?_
    refine kg1 (k := 0) (v := .ref (ad 59)) C S rfl (by decide) n_X7_trace_X1 m_X7_trace_3 rfl dX7_trace_21 ?_
    refine lv_iload_n hx hb dX7_trace_24 rfl (lv_at hl 1 rfl) ?_
    obtain ⟨hi, h⟩ := h
    refine kLi C S rfl rfl hi dX7_trace_25 ?_
    refine lv_goto (tgt := 31) hx hb dX7_trace_26 (by decide) ?_
    exact kRi C S h dX7_trace_31
/-! ClawCase.undo()I, height 2 -/
theorem m_X7_undo_1 : Cond.fieldLink RX7 32 "ClawCase" "acts" "LClawCase$Acts;" ∈ wsX7_undo := List.mem_of_getElem? (i := 1) (by decide +kernel)
theorem n_X7_undo_X7 : ∀ w ∈ wsX70, w ∈ wsX7_undo := mem_by [30, 31, 32, 33, 34, 35, 36, 37, 38] (by decide +kernel)
theorem m_X7_undo_2 : Cond.fieldLink RX7 186 "ClawCase$Acts" "kept" "I" ∈ wsX7_undo := List.mem_of_getElem? (i := 2) (by decide +kernel)
theorem n_X7_undo_X0 : ∀ w ∈ wsX00, w ∈ wsX7_undo := mem_by [39, 40, 41] (by decide +kernel)
theorem m_X7_undo_4 : Cond.fieldLink RX7 25 "ClawCase" "now" "LClawCase$Box;" ∈ wsX7_undo := List.mem_of_getElem? (i := 4) (by decide +kernel)
theorem cw_X7_undo_X0_takeBack {s : State} {args : Array Value} (ht : ∀ w ∈ wsX7_undo, w.before args s = true) : CallW (rmD 2) s args RX7 RX0 189 yX0_takeBack cX0_takeBack 2 (some .int) wsX0_takeBack (rmD (1)) 0 0 1 := cwV 1 ht gX7_undo_X0_takeBack rfl rfl rfl (by decide +kernel) ⟨Nat.le_of_ble_eq_true rfl, Nat.le_of_ble_eq_true rfl⟩
theorem m_X7_undo_3 : Cond.constant RX7 143 (-1000002) ∈ wsX7_undo := List.mem_of_getElem? (i := 3) (by decide +kernel)
def o_X7_undo (Q : Int32 → Mm → Prop) (g : Mm) : Prop := ((¬ (g.1 14 2) = 0) → o_X0_takeBack (fun (r_2 : Int32) (g_1 : Mm) => Q r_2 g_1) 9 g) ∧ (((g.1 14 2) = 0) → Q (-1000002) g)
set_option maxHeartbeats 4000000 in
set_option maxRecDepth 100000 in
theorem o_X7_undo_c {l : Launch} {dC : Nat → ClassId} {dI : Nat → Nat → Nat} {cy : Nat → ClassId} {ad tz : Nat → Nat} {Q : Int32 → Mm → Prop} {g : Mm} (h : o_X7_undo Q g) : CI l dC dI cy ad tz yX7_undo wsX7_undo (rmD 2) [.ref (ad 0)] g Q := by
  refine CI.of (by decide) rfl rfl (Nat.le_of_ble_eq_true rfl) ?_
  intro p e s m args below meth c ls C hl S
  have hl : lv_has ls 1 [(0, .ref (ad 0))] := hl
  have hx := C.1.1
  have hb := C.1.2.1
  unfold o_X7_undo at h
  refine lv_aload_n hx hb dX7_undo_0 rfl (lv_at hl 0 rfl) ?_
  refine kg7 (k := 3) (v := .ref (ad 14)) C S rfl (by decide) n_X7_undo_X7 m_X7_undo_1 rfl dX7_undo_1 ?_
  refine kg0 (k := 2) (v := .int (g.1 14 2)) C S rfl (by decide) n_X7_undo_X0 m_X7_undo_2 rfl dX7_undo_4 ?_
  refine lv_if_ne (tgt := 13) hx hb dX7_undo_7 (by decide) (fun c1 => ?_) (fun c1 => ?_)
  · have h := h.1 c1
    refine lv_aload_n hx hb dX7_undo_13 rfl (lv_at hl 0 rfl) ?_
    refine kg7 (k := 3) (v := .ref (ad 14)) C S rfl (by decide) n_X7_undo_X7 m_X7_undo_1 rfl dX7_undo_14 ?_
    refine lv_aload_n hx hb dX7_undo_17 rfl (lv_at hl 0 rfl) ?_
    refine kg7 (k := 2) (v := .ref (ad 9)) C S rfl (by decide) n_X7_undo_X7 m_X7_undo_4 rfl dX7_undo_18 ?_
    refine kV_i (As := [.ref (ad 9)]) (rest := []) C S hl.1 (o_X0_takeBack_c rfl h) (wd_o0 rfl) rfl (cw_X7_undo_X0_takeBack C.1.2.2.2.2) rfl rfl (Nat.le_of_ble_eq_true rfl) dX7_undo_21 (fun r_2 g_1 H locs h S => ?_)
    exact kRi C S h dX7_undo_24
  · have h := h.2 c1
    refine kLdc C m_X7_undo_3 dX7_undo_10 ?_
    exact kRi C S h dX7_undo_12
/-! ClawCase.win(II)I, height 12 -/
theorem m_X7_win_1 : Cond.constant RX7 70 (-1000001) ∈ wsX7_win := List.mem_of_getElem? (i := 1) (by decide +kernel)
theorem m_X7_win_2 : Cond.fieldLink RX7 43 "ClawCase" "foretold" "LClawCase$Foretold;" ∈ wsX7_win := List.mem_of_getElem? (i := 2) (by decide +kernel)
theorem n_X7_win_X7 : ∀ w ∈ wsX70, w ∈ wsX7_win := mem_by [106, 107, 108, 109, 110, 111, 112, 113, 114] (by decide +kernel)
theorem m_X7_win_3 : Cond.fieldLink RX7 25 "ClawCase" "now" "LClawCase$Box;" ∈ wsX7_win := List.mem_of_getElem? (i := 3) (by decide +kernel)
theorem m_X7_win_5 : Cond.constant RX7 179 (-1000000) ∈ wsX7_win := List.mem_of_getElem? (i := 5) (by decide +kernel)
theorem m_X7_win_4 : Cond.fieldLink RX7 219 "ClawCase$Foretold" "path" "[I" ∈ wsX7_win := List.mem_of_getElem? (i := 4) (by decide +kernel)
theorem n_X7_win_X4 : ∀ w ∈ wsX40, w ∈ wsX7_win := mem_by [115, 116, 117, 118, 119, 120] (by decide +kernel)
theorem cw_X7_win_X4_fewestPlays {s : State} {args : Array Value} (ht : ∀ w ∈ wsX7_win, w.before args s = true) : CallW (rmD 12) s args RX7 RX4 215 yX4_fewestPlays cX4_fewestPlays 4 (some .int) wsX4_fewestPlays (rmD (11)) 0 0 2 := cwV 2 ht gX7_win_X4_fewestPlays rfl rfl rfl (by decide +kernel) ⟨Nat.le_of_ble_eq_true rfl, Nat.le_of_ble_eq_true rfl⟩
theorem cw_X7_win_X7_isToy {s : State} {args : Array Value} (ht : ∀ w ∈ wsX7_win, w.before args s = true) : CallW (rmD 12) s args RX7 RX7 161 yX7_isToy cX7_isToy 2 (some .boolean) wsX7_isToy (rmD (1)) 0 0 1 := cwV 1 ht gX7_win_X7_isToy rfl rfl rfl (by decide +kernel) ⟨Nat.le_of_ble_eq_true rfl, Nat.le_of_ble_eq_true rfl⟩
def o_X7_win (Q : Int32 → Mm → Prop) (g : Mm) (x1 : Int32) (x2 : Int32) : Prop := o_X7_isToy (fun (r_2 : Int32) (g_1 : Mm) => ((r_2 = 0) → Q (-1000001) g_1) ∧ ((¬ r_2 = 0) → (((-1) ≤ x2) → o_X4_fewestPlays (fun (r_4 : Int32) (g_3 : Mm) => ((¬ x2 = (-1)) → ((r_4 ≤ x2) → Q (-1000000) g_3) ∧ ((¬ r_4 ≤ x2) → vp_in x2 4 ∧ (Q (g_3.1 47 x2.toNatClampNeg) g_3))) ∧ ((x2 = (-1)) → Q r_4 g_3)) 9 g_1 x1) ∧ ((¬ (-1) ≤ x2) → Q (-1000001) g_1))) g x1
set_option maxHeartbeats 4000000 in
set_option maxRecDepth 100000 in
theorem o_X7_win_c {l : Launch} {dC : Nat → ClassId} {dI : Nat → Nat → Nat} {cy : Nat → ClassId} {ad tz : Nat → Nat} {Q : Int32 → Mm → Prop} {g : Mm} {x1 : Int32} {x2 : Int32} (h : o_X7_win Q g x1 x2) : CI l dC dI cy ad tz yX7_win wsX7_win (rmD 12) [.ref (ad 0), .int x1, .int x2] g Q := by
  refine CI.of (by decide) rfl rfl (Nat.le_of_ble_eq_true rfl) ?_
  intro p e s m args below meth c ls C hl S
  have hl : lv_has ls 4 [(0, .ref (ad 0)), (1, .int x1), (2, .int x2)] := hl
  have hx := C.1.1
  have hb := C.1.2.1
  unfold o_X7_win at h
  refine lv_aload_n hx hb dX7_win_0 rfl (lv_at hl 0 rfl) ?_
  refine lv_iload_n hx hb dX7_win_1 rfl (lv_at hl 1 rfl) ?_
  refine kV_i (As := [.int x1]) (rest := []) C S hl.1 (o_X7_isToy_c h) (wd_o7 rfl) rfl (cw_X7_win_X7_isToy C.1.2.2.2.2) rfl rfl (Nat.le_of_ble_eq_true rfl) dX7_win_2 (fun r_2 g_1 H locs h S => ?_)
  refine lv_if_eq (tgt := 13) hx hb dX7_win_5 (by decide) (fun c1 => ?_) (fun c1 => ?_)
  · have h := h.1 c1
    refine kLdc C m_X7_win_1 dX7_win_13 ?_
    exact kRi C S h dX7_win_15
  · have h := h.2 c1
    refine lv_iload_n hx hb dX7_win_8 rfl (lv_at hl 2 rfl) ?_
    refine lv_iconst (v := (-1)) hx hb dX7_win_9 (by decide) ?_
    refine lv_icmp_ge (tgt := 16) hx hb dX7_win_10 (by decide) (fun c1 => ?_) (fun c1 => ?_)
    · have h := h.1 c1
      refine lv_aload_n hx hb dX7_win_16 rfl (lv_at hl 0 rfl) ?_
      refine kg7 (k := 5) (v := .ref (ad 41)) C S rfl (by decide) n_X7_win_X7 m_X7_win_2 rfl dX7_win_17 ?_
      refine lv_aload_n hx hb dX7_win_20 rfl (lv_at hl 0 rfl) ?_
      refine kg7 (k := 2) (v := .ref (ad 9)) C S rfl (by decide) n_X7_win_X7 m_X7_win_3 rfl dX7_win_21 ?_
      refine lv_iload_n hx hb dX7_win_24 rfl (lv_at hl 1 rfl) ?_
      refine kV_i (As := [.ref (ad 9), .int x1]) (rest := []) C S hl.1 (o_X4_fewestPlays_c rfl h) (wd_o4 rfl) rfl (cw_X7_win_X4_fewestPlays C.1.2.2.2.2) rfl rfl (Nat.le_of_ble_eq_true rfl) dX7_win_25 (fun r_4 g_3 H locs h S => ?_)
      refine lv_istore_n (lv' := [(3, .int r_4), (0, .ref (ad 0)), (1, .int x1), (2, .int x2)]) hx hb dX7_win_28 rfl hl (by decide) rfl (fun ls hl => ?_)
      refine lv_iload_n hx hb dX7_win_29 rfl (lv_at hl 3 rfl) ?_
      refine lv_iconst (v := (-1)) hx hb dX7_win_30 (by decide) ?_
      refine lv_icmp_ne (tgt := 36) hx hb dX7_win_31 (by decide) (fun c1 => ?_) (fun c1 => ?_)
      · have h := h.1 c1
        refine lv_iload_n hx hb dX7_win_36 rfl (lv_at hl 3 rfl) ?_
        refine lv_iload_n hx hb dX7_win_37 rfl (lv_at hl 0 rfl) ?_
        refine lv_icmp_ge (tgt := 53) hx hb dX7_win_38 (by decide) (fun c1 => ?_) (fun c1 => ?_)
        · have h := h.1 c1
          refine kLdc C m_X7_win_5 dX7_win_53 ?_
          exact kRi C S h dX7_win_55
        · have h := h.2 c1
          refine lv_aload_n hx hb dX7_win_41 rfl (lv_at hl 1 rfl) ?_
          refine kg7 (k := 5) (v := .ref (ad 41)) C S rfl (by decide) n_X7_win_X7 m_X7_win_2 rfl dX7_win_42 ?_
          refine kg4 (k := 1) (v := .ref (ad 47)) C S rfl (by decide) n_X7_win_X4 m_X7_win_4 rfl dX7_win_45 ?_
          refine lv_iload_n hx hb dX7_win_48 rfl (lv_at hl 3 rfl) ?_
          obtain ⟨hi, h⟩ := h
          refine kLi C S rfl rfl hi dX7_win_49 ?_
          refine lv_goto (tgt := 55) hx hb dX7_win_50 (by decide) ?_
          exact kRi C S h dX7_win_55
      · have h := h.2 c1
        refine lv_iload_n hx hb dX7_win_34 rfl (lv_at hl 0 rfl) ?_
        exact kRi C S h dX7_win_35
    · have h := h.2 c1
      refine kLdc C m_X7_win_1 dX7_win_13 ?_
      exact kRi C S h dX7_win_15
/-! ClawCaseModel.found(I)I, height 0 -/
theorem m_X8_found_1 : Cond.fieldLink RX8 54 "ClawCaseModel" "found0" "I" ∈ wsX8_found := List.mem_of_getElem? (i := 1) (by decide +kernel)
theorem n_X8_found_X8 : ∀ w ∈ wsX80, w ∈ wsX8_found := mem_by [3, 4, 5, 6, 7, 8, 9, 10, 11, 12, 13, 14, 15, 16, 17, 18, 19, 20, 21, 22, 23, 24, 25, 26] (by decide +kernel)
theorem m_X8_found_2 : Cond.constant RX8 58 (-1000010) ∈ wsX8_found := List.mem_of_getElem? (i := 2) (by decide +kernel)
def o_X8_found (Q : Int32 → Mm → Prop) (g : Mm) (x1 : Int32) : Prop := ∀ g_1 : Mm, g_1 = mset g 86 5 x1 → (Q ((-1000010) - x1) g_1)
set_option maxHeartbeats 4000000 in
set_option maxRecDepth 100000 in
theorem o_X8_found_c {l : Launch} {dC : Nat → ClassId} {dI : Nat → Nat → Nat} {cy : Nat → ClassId} {ad tz : Nat → Nat} {Q : Int32 → Mm → Prop} {g : Mm} {x1 : Int32} (h : o_X8_found Q g x1) : CI l dC dI cy ad tz yX8_found wsX8_found (rmD 0) [.ref (ad 86), .int x1] g Q := by
  refine CI.of (by decide) rfl rfl (Nat.le_of_ble_eq_true rfl) ?_
  intro p e s m args below meth c ls C hl S
  have hl : lv_has ls 2 [(0, .ref (ad 86)), (1, .int x1)] := hl
  have hx := C.1.1
  have hb := C.1.2.1
  unfold o_X8_found at h
  refine lv_aload_n hx hb dX8_found_0 rfl (lv_at hl 0 rfl) ?_
  refine lv_iload_n hx hb dX8_found_1 rfl (lv_at hl 1 rfl) ?_
  refine kp8_5 C S rfl n_X8_found_X8 m_X8_found_1 dX8_found_2 (fun g_1 H locs eg_1 S => ?_)
  have h := h g_1 eg_1
  refine kLdc C m_X8_found_2 dX8_found_5 ?_
  refine lv_iload_n hx hb dX8_found_7 rfl (lv_at hl 1 rfl) ?_
  refine lv_isub hx hb dX8_found_8 ?_
  exact kRi C S h dX8_found_9
/-! ClawCaseModel.in(JJJ)Z, height 0 -/
def o_X8_in (Q : Int32 → Mm → Prop) (g : Mm) (y0 : Int64) (y2 : Int64) (y4 : Int64) : Prop := (((lg_cmp y0 y2) < 0) → Q 0 g) ∧ ((¬ (lg_cmp y0 y2) < 0) → ((0 < (lg_cmp y0 y4)) → Q 0 g) ∧ ((¬ 0 < (lg_cmp y0 y4)) → Q 1 g))
set_option maxHeartbeats 4000000 in
set_option maxRecDepth 100000 in
theorem o_X8_in_c {l : Launch} {dC : Nat → ClassId} {dI : Nat → Nat → Nat} {cy : Nat → ClassId} {ad tz : Nat → Nat} {Q : Int32 → Mm → Prop} {g : Mm} {y0 : Int64} {y2 : Int64} {y4 : Int64} (h : o_X8_in Q g y0 y2 y4) : CI l dC dI cy ad tz yX8_in wsX8_in (rmD 0) [.long y0, .long y2, .long y4] g Q := by
  refine CI.of (by decide) rfl rfl (Nat.le_of_ble_eq_true rfl) ?_
  intro p e s m args below meth c ls C hl S
  have hl : lv_has ls 6 [(0, .long y0), (2, .long y2), (4, .long y4)] := hl
  have hx := C.1.1
  have hb := C.1.2.1
  unfold o_X8_in at h
  refine lv_lload_n hx hb dX8_in_0 rfl (lv_at hl 0 rfl) ?_
  refine lv_lload_n hx hb dX8_in_1 rfl (lv_at hl 1 rfl) ?_
  refine W.lcmp hx hb dX8_in_2 ?_
  refine lv_if_lt (tgt := 17) hx hb dX8_in_3 (by decide) (fun c1 => ?_) (fun c1 => ?_)
  · have h := h.1 c1
    refine lv_iconst (v := 0) hx hb dX8_in_17 (by decide) ?_
    exact kRz C S rfl h dX8_in_18
  · have h := h.2 c1
    refine lv_lload_n hx hb dX8_in_6 rfl (lv_at hl 0 rfl) ?_
    refine lv_lload hx hb dX8_in_7 (lv_at hl 2 rfl) ?_
    refine W.lcmp hx hb dX8_in_9 ?_
    refine lv_if_gt (tgt := 17) hx hb dX8_in_10 (by decide) (fun c1 => ?_) (fun c1 => ?_)
    · have h := h.1 c1
      refine lv_iconst (v := 0) hx hb dX8_in_17 (by decide) ?_
      exact kRz C S rfl h dX8_in_18
    · have h := h.2 c1
      refine lv_iconst (v := 1) hx hb dX8_in_13 (by decide) ?_
      refine lv_goto (tgt := 18) hx hb dX8_in_14 (by decide) ?_
      exact kRz C S rfl h dX8_in_18
/-! ClawCaseModel.isOf(II)Z, height 0 -/
def o_X8_isOf_19 (Q : Int32 → Mm → Prop) (g : Mm) (x0 : Int32) (x1 : Int32) : Prop := ((¬ x1 = 4) → Q 0 g) ∧ ((x1 = 4) → ((¬ x0 = 5) → Q 0 g) ∧ ((x0 = 5) → Q 1 g))
set_option maxHeartbeats 4000000 in
set_option maxRecDepth 100000 in
theorem o_X8_isOf_19_w {p : Program} {l : Launch} {e : Env} {s : State} {m : MethodId} {args : Array Value} {below : List Frame} {meth : Method} {c : Code} {dC : Nat → ClassId} {dI : Nat → Nat → Nat} {cy : Nat → ClassId} {ad tz : Nat → Nat} {Q : Int32 → Mm → Prop} (C : CX p s m args meth c dC dI cy ad tz cX8_isOf 2 (some .boolean) RX8 wsX8_isOf) : ∀ (g : Mm) (x0 : Int32) (x1 : Int32) (H : Heap) (locs : List Loc) (ls : Array Slot), St dC dI cy ad s g H locs → lv_has ls 2 [(0, .int x0), (1, .int x1)] → o_X8_isOf_19 Q g x0 x1 → W p l e (rmD 0) s m args below meth c H locs 0 0 (QI dC dI cy ad below args s Q) (F0 m 19 ls []) := by
  have hx := C.1.1
  have hb := C.1.2.1
  intro g x0 x1 H locs ls S hl h
  unfold o_X8_isOf_19 at h
  refine lv_iload_n hx hb dX8_isOf_19 rfl (lv_at hl 1 rfl) ?_
  refine lv_iconst (v := 4) hx hb dX8_isOf_20 (by decide) ?_
  refine lv_icmp_ne (tgt := 33) hx hb dX8_isOf_21 (by decide) (fun c1 => ?_) (fun c1 => ?_)
  · have h := h.1 c1
    refine lv_iconst (v := 0) hx hb dX8_isOf_33 (by decide) ?_
    exact kRz C S rfl h dX8_isOf_34
  · have h := h.2 c1
    refine lv_iload_n hx hb dX8_isOf_24 rfl (lv_at hl 0 rfl) ?_
    refine lv_iconst (v := 5) hx hb dX8_isOf_25 (by decide) ?_
    refine lv_icmp_ne (tgt := 33) hx hb dX8_isOf_26 (by decide) (fun c1 => ?_) (fun c1 => ?_)
    · have h := h.1 c1
      refine lv_iconst (v := 0) hx hb dX8_isOf_33 (by decide) ?_
      exact kRz C S rfl h dX8_isOf_34
    · have h := h.2 c1
      refine lv_iconst (v := 1) hx hb dX8_isOf_29 (by decide) ?_
      refine lv_goto (tgt := 34) hx hb dX8_isOf_30 (by decide) ?_
      exact kRz C S rfl h dX8_isOf_34
def o_X8_isOf (Q : Int32 → Mm → Prop) (g : Mm) (x0 : Int32) (x1 : Int32) : Prop := ((x1 = 0) → Q 1 g) ∧ ((¬ x1 = 0) → ((x0 = x1) → Q 1 g) ∧ ((¬ x0 = x1) → ((¬ x1 = 1) → o_X8_isOf_19 Q g x0 x1) ∧ ((x1 = 1) → ((x0 < 4) → Q 1 g) ∧ ((¬ x0 < 4) → o_X8_isOf_19 Q g x0 x1))))
set_option maxHeartbeats 4000000 in
set_option maxRecDepth 100000 in
theorem o_X8_isOf_c {l : Launch} {dC : Nat → ClassId} {dI : Nat → Nat → Nat} {cy : Nat → ClassId} {ad tz : Nat → Nat} {Q : Int32 → Mm → Prop} {g : Mm} {x0 : Int32} {x1 : Int32} (h : o_X8_isOf Q g x0 x1) : CI l dC dI cy ad tz yX8_isOf wsX8_isOf (rmD 0) [.int x0, .int x1] g Q := by
  refine CI.of (by decide) rfl rfl (Nat.le_of_ble_eq_true rfl) ?_
  intro p e s m args below meth c ls C hl S
  have hl : lv_has ls 2 [(0, .int x0), (1, .int x1)] := hl
  have hx := C.1.1
  have hb := C.1.2.1
  unfold o_X8_isOf at h
  refine lv_iload_n hx hb dX8_isOf_0 rfl (lv_at hl 1 rfl) ?_
  refine lv_if_eq (tgt := 29) hx hb dX8_isOf_1 (by decide) (fun c1 => ?_) (fun c1 => ?_)
  · have h := h.1 c1
    refine lv_iconst (v := 1) hx hb dX8_isOf_29 (by decide) ?_
    refine lv_goto (tgt := 34) hx hb dX8_isOf_30 (by decide) ?_
    exact kRz C S rfl h dX8_isOf_34
  · have h := h.2 c1
    refine lv_iload_n hx hb dX8_isOf_4 rfl (lv_at hl 0 rfl) ?_
    refine lv_iload_n hx hb dX8_isOf_5 rfl (lv_at hl 1 rfl) ?_
    refine lv_icmp_eq (tgt := 29) hx hb dX8_isOf_6 (by decide) (fun c1 => ?_) (fun c1 => ?_)
    · have h := h.1 c1
      refine lv_iconst (v := 1) hx hb dX8_isOf_29 (by decide) ?_
      refine lv_goto (tgt := 34) hx hb dX8_isOf_30 (by decide) ?_
      exact kRz C S rfl h dX8_isOf_34
    · have h := h.2 c1
      refine lv_iload_n hx hb dX8_isOf_9 rfl (lv_at hl 1 rfl) ?_
      refine lv_iconst (v := 1) hx hb dX8_isOf_10 (by decide) ?_
      refine lv_icmp_ne (tgt := 19) hx hb dX8_isOf_11 (by decide) (fun c1 => ?_) (fun c1 => ?_)
      · have h := h.1 c1
        exact o_X8_isOf_19_w C g x0 x1 _ _ _ S (lv_sub hl [0, 1] rfl) h
      · have h := h.2 c1
        refine lv_iload_n hx hb dX8_isOf_14 rfl (lv_at hl 0 rfl) ?_
        refine lv_iconst (v := 4) hx hb dX8_isOf_15 (by decide) ?_
        refine lv_icmp_lt (tgt := 29) hx hb dX8_isOf_16 (by decide) (fun c1 => ?_) (fun c1 => ?_)
        · have h := h.1 c1
          refine lv_iconst (v := 1) hx hb dX8_isOf_29 (by decide) ?_
          refine lv_goto (tgt := 34) hx hb dX8_isOf_30 (by decide) ?_
          exact kRz C S rfl h dX8_isOf_34
        · have h := h.2 c1
          exact o_X8_isOf_19_w C g x0 x1 _ _ _ S (lv_sub hl [0, 1] rfl) h
/-! ClawCaseModel.toys()I, height 0 -/
theorem m_X8_toys_1 : Cond.fieldLink RX8 7 "ClawCaseModel" "now" "[I" ∈ wsX8_toys := List.mem_of_getElem? (i := 1) (by decide +kernel)
theorem n_X8_toys_X8 : ∀ w ∈ wsX80, w ∈ wsX8_toys := mem_by [2, 3, 4, 5, 6, 7, 8, 9, 10, 11, 12, 13, 14, 15, 16, 17, 18, 19, 20, 21, 22, 23, 24, 25] (by decide +kernel)
def o_X8_toys (Q : Int32 → Mm → Prop) (g : Mm) : Prop := vp_in 0 33 ∧ (Q (g.1 87 (0 : Int32).toNatClampNeg) g)
set_option maxHeartbeats 4000000 in
set_option maxRecDepth 100000 in
theorem o_X8_toys_c {l : Launch} {dC : Nat → ClassId} {dI : Nat → Nat → Nat} {cy : Nat → ClassId} {ad tz : Nat → Nat} {Q : Int32 → Mm → Prop} {g : Mm} (h : o_X8_toys Q g) : CI l dC dI cy ad tz yX8_toys wsX8_toys (rmD 0) [.ref (ad 86)] g Q := by
  refine CI.of (by decide) rfl rfl (Nat.le_of_ble_eq_true rfl) ?_
  intro p e s m args below meth c ls C hl S
  have hl : lv_has ls 1 [(0, .ref (ad 86))] := hl
  have hx := C.1.1
  have hb := C.1.2.1
  unfold o_X8_toys at h
  refine lv_aload_n hx hb dX8_toys_0 rfl (lv_at hl 0 rfl) ?_
  refine kg8 (k := 0) (v := .ref (ad 87)) C S rfl (by decide) n_X8_toys_X8 m_X8_toys_1 rfl dX8_toys_1 ?_
  refine lv_iconst (v := 0) hx hb dX8_toys_4 (by decide) ?_
  obtain ⟨hi, h⟩ := h
  refine kLi C S rfl rfl hi dX8_toys_5 ?_
  exact kRi C S h dX8_toys_6
/-! ClawCaseModel.isToy(I)Z, height 1 -/
theorem cw_X8_isToy_X8_in {s : State} {args : Array Value} (ht : ∀ w ∈ wsX8_isToy, w.before args s = true) : CallB (rmD 1) s args RX8 61 yX8_in cX8_in 6 (some .boolean) wsX8_in (rmD (0)) 0 0 3 ∧ (Cond.static yX8_in).before args s = true := va_cwS 3 ht gX8_isToy_X8_in rfl rfl rfl (by decide +kernel) ⟨Nat.le_of_ble_eq_true rfl, Nat.le_of_ble_eq_true rfl⟩
theorem cw_X8_isToy_X8_toys {s : State} {args : Array Value} (ht : ∀ w ∈ wsX8_isToy, w.before args s = true) : CallW (rmD 1) s args RX8 RX8 140 yX8_toys cX8_toys 1 (some .int) wsX8_toys (rmD (0)) 0 0 0 := cwV 0 ht gX8_isToy_X8_toys rfl rfl rfl (by decide +kernel) ⟨Nat.le_of_ble_eq_true rfl, Nat.le_of_ble_eq_true rfl⟩
def o_X8_isToy (Q : Int32 → Mm → Prop) (g : Mm) (x1 : Int32) : Prop := o_X8_toys (fun (r_2 : Int32) (g_1 : Mm) => o_X8_in (fun (r_4 : Int32) (g_3 : Mm) => narrow .boolean (.int r_4) = .int r_4 ∧ (Q r_4 g_3)) g_1 ((x1 : Int32).toInt64) 0 ((r_2 - 1 : Int32).toInt64)) g
set_option maxHeartbeats 4000000 in
set_option maxRecDepth 100000 in
theorem o_X8_isToy_c {l : Launch} {dC : Nat → ClassId} {dI : Nat → Nat → Nat} {cy : Nat → ClassId} {ad tz : Nat → Nat} {Q : Int32 → Mm → Prop} {g : Mm} {x1 : Int32} (h : o_X8_isToy Q g x1) : CI l dC dI cy ad tz yX8_isToy wsX8_isToy (rmD 1) [.ref (ad 86), .int x1] g Q := by
  refine CI.of (by decide) rfl rfl (Nat.le_of_ble_eq_true rfl) ?_
  intro p e s m args below meth c ls C hl S
  have hl : lv_has ls 2 [(0, .ref (ad 86)), (1, .int x1)] := hl
  have hx := C.1.1
  have hb := C.1.2.1
  unfold o_X8_isToy at h
  refine lv_iload_n hx hb dX8_isToy_0 rfl (lv_at hl 1 rfl) ?_
  refine lv_i2l hx hb dX8_isToy_1 rfl ?_
  refine lv_lconst (v := 0) hx hb dX8_isToy_2 (by decide) ?_
  refine lv_aload_n hx hb dX8_isToy_3 rfl (lv_at hl 0 rfl) ?_
  refine kV_i (As := []) (rest := [.long 0, .long ((x1 : Int32).toInt64)]) C S hl.1 (o_X8_toys_c h) (wd_o8 rfl) rfl (cw_X8_isToy_X8_toys C.1.2.2.2.2) rfl rfl (Nat.le_of_ble_eq_true rfl) dX8_isToy_4 (fun r_2 g_1 H locs h S => ?_)
  refine lv_iconst (v := 1) hx hb dX8_isToy_7 (by decide) ?_
  refine lv_isub hx hb dX8_isToy_8 ?_
  refine lv_i2l hx hb dX8_isToy_9 rfl ?_
  refine kS_i (As := [.long ((x1 : Int32).toInt64), .long 0, .long ((r_2 - 1 : Int32).toInt64)]) (rest := []) C S hl.1 (o_X8_in_c h) (cw_X8_isToy_X8_in C.1.2.2.2.2) rfl rfl (Nat.le_of_ble_eq_true rfl) dX8_isToy_10 (fun r_4 g_3 H locs h S => ?_)
  obtain ⟨hz, h⟩ := h
  exact kRz C S hz h dX8_isToy_13
/-! ClawCaseModel.well(I)I, height 0 -/
theorem m_X8_well_1 : Cond.fieldLink RX8 54 "ClawCaseModel" "found0" "I" ∈ wsX8_well := List.mem_of_getElem? (i := 1) (by decide +kernel)
theorem n_X8_well_X8 : ∀ w ∈ wsX80, w ∈ wsX8_well := mem_by [2, 3, 4, 5, 6, 7, 8, 9, 10, 11, 12, 13, 14, 15, 16, 17, 18, 19, 20, 21, 22, 23, 24, 25] (by decide +kernel)
def o_X8_well (Q : Int32 → Mm → Prop) (g : Mm) (x1 : Int32) : Prop := ∀ g_1 : Mm, g_1 = mset g 86 5 0 → (Q x1 g_1)
set_option maxHeartbeats 4000000 in
set_option maxRecDepth 100000 in
theorem o_X8_well_c {l : Launch} {dC : Nat → ClassId} {dI : Nat → Nat → Nat} {cy : Nat → ClassId} {ad tz : Nat → Nat} {Q : Int32 → Mm → Prop} {g : Mm} {x1 : Int32} (h : o_X8_well Q g x1) : CI l dC dI cy ad tz yX8_well wsX8_well (rmD 0) [.ref (ad 86), .int x1] g Q := by
  refine CI.of (by decide) rfl rfl (Nat.le_of_ble_eq_true rfl) ?_
  intro p e s m args below meth c ls C hl S
  have hl : lv_has ls 2 [(0, .ref (ad 86)), (1, .int x1)] := hl
  have hx := C.1.1
  have hb := C.1.2.1
  unfold o_X8_well at h
  refine lv_aload_n hx hb dX8_well_0 rfl (lv_at hl 0 rfl) ?_
  refine lv_iconst (v := 0) hx hb dX8_well_1 (by decide) ?_
  refine kp8_5 C S rfl n_X8_well_X8 m_X8_well_1 dX8_well_2 (fun g_1 H locs eg_1 S => ?_)
  have h := h g_1 eg_1
  refine lv_iload_n hx hb dX8_well_5 rfl (lv_at hl 1 rfl) ?_
  exact kRi C S h dX8_well_6
/-! ClawCaseModel.as(II)I, height 2 -/
theorem m_X8_as_2 : Cond.constant RX8 71 (-1000001) ∈ wsX8_as := List.mem_of_getElem? (i := 2) (by decide +kernel)
theorem m_X8_as_1 : Cond.constantLong RX8 143 (5) ∈ wsX8_as := List.mem_of_getElem? (i := 1) (by decide +kernel)
theorem m_X8_as_3 : Cond.fieldLink RX8 7 "ClawCaseModel" "now" "[I" ∈ wsX8_as := List.mem_of_getElem? (i := 3) (by decide +kernel)
theorem n_X8_as_X8 : ∀ w ∈ wsX80, w ∈ wsX8_as := mem_by [29, 30, 31, 32, 33, 34, 35, 36, 37, 38, 39, 40, 41, 42, 43, 44, 45, 46, 47, 48, 49, 50, 51, 52] (by decide +kernel)
theorem cw_X8_as_X8_found {s : State} {args : Array Value} (ht : ∀ w ∈ wsX8_as, w.before args s = true) : CallW (rmD 2) s args RX8 RX8 72 yX8_found cX8_found 2 (some .int) wsX8_found (rmD (0)) 0 0 1 := cwV 1 ht gX8_as_X8_found rfl rfl rfl (by decide +kernel) ⟨Nat.le_of_ble_eq_true rfl, Nat.le_of_ble_eq_true rfl⟩
theorem cw_X8_as_X8_well {s : State} {args : Array Value} (ht : ∀ w ∈ wsX8_as, w.before args s = true) : CallW (rmD 2) s args RX8 RX8 76 yX8_well cX8_well 2 (some .int) wsX8_well (rmD (0)) 0 0 1 := cwV 1 ht gX8_as_X8_well rfl rfl rfl (by decide +kernel) ⟨Nat.le_of_ble_eq_true rfl, Nat.le_of_ble_eq_true rfl⟩
theorem cw_X8_as_X8_isOf {s : State} {args : Array Value} (ht : ∀ w ∈ wsX8_as, w.before args s = true) : CallB (rmD 2) s args RX8 250 yX8_isOf cX8_isOf 2 (some .boolean) wsX8_isOf (rmD (0)) 0 0 2 ∧ (Cond.static yX8_isOf).before args s = true := va_cwS 2 ht gX8_as_X8_isOf rfl rfl rfl (by decide +kernel) ⟨Nat.le_of_ble_eq_true rfl, Nat.le_of_ble_eq_true rfl⟩
theorem cw_X8_as_X8_in {s : State} {args : Array Value} (ht : ∀ w ∈ wsX8_as, w.before args s = true) : CallB (rmD 2) s args RX8 61 yX8_in cX8_in 6 (some .boolean) wsX8_in (rmD (0)) 0 0 3 ∧ (Cond.static yX8_in).before args s = true := va_cwS 3 ht gX8_as_X8_in rfl rfl rfl (by decide +kernel) ⟨Nat.le_of_ble_eq_true rfl, Nat.le_of_ble_eq_true rfl⟩
theorem cw_X8_as_X8_isToy {s : State} {args : Array Value} (ht : ∀ w ∈ wsX8_as, w.before args s = true) : CallW (rmD 2) s args RX8 RX8 187 yX8_isToy cX8_isToy 2 (some .boolean) wsX8_isToy (rmD (1)) 0 0 1 := cwV 1 ht gX8_as_X8_isToy rfl rfl rfl (by decide +kernel) ⟨Nat.le_of_ble_eq_true rfl, Nat.le_of_ble_eq_true rfl⟩
def o_X8_as (Q : Int32 → Mm → Prop) (g : Mm) (x1 : Int32) (x2 : Int32) : Prop := o_X8_isToy (fun (r_2 : Int32) (g_1 : Mm) => ((r_2 = 0) → Q (-1000001) g_1) ∧ ((¬ r_2 = 0) → o_X8_in (fun (r_4 : Int32) (g_3 : Mm) => ((¬ r_4 = 0) → vp_in (1 + x1) 33 ∧ (o_X8_isOf (fun (r_6 : Int32) (g_5 : Mm) => ((r_6 = 0) → o_X8_found (fun (r_8 : Int32) (g_7 : Mm) => Q r_8 g_7) g_5 3) ∧ ((¬ r_6 = 0) → o_X8_well (fun (r_10 : Int32) (g_9 : Mm) => Q r_10 g_9) g_5 x1)) g_3 (g_3.1 87 (1 + x1 : Int32).toNatClampNeg) x2)) ∧ ((r_4 = 0) → Q (-1000001) g_3)) g_1 ((x2 : Int32).toInt64) 0 5)) g x1
set_option maxHeartbeats 4000000 in
set_option maxRecDepth 100000 in
theorem o_X8_as_c {l : Launch} {dC : Nat → ClassId} {dI : Nat → Nat → Nat} {cy : Nat → ClassId} {ad tz : Nat → Nat} {Q : Int32 → Mm → Prop} {g : Mm} {x1 : Int32} {x2 : Int32} (h : o_X8_as Q g x1 x2) : CI l dC dI cy ad tz yX8_as wsX8_as (rmD 2) [.ref (ad 86), .int x1, .int x2] g Q := by
  refine CI.of (by decide) rfl rfl (Nat.le_of_ble_eq_true rfl) ?_
  intro p e s m args below meth c ls C hl S
  have hl : lv_has ls 3 [(0, .ref (ad 86)), (1, .int x1), (2, .int x2)] := hl
  have hx := C.1.1
  have hb := C.1.2.1
  unfold o_X8_as at h
  refine lv_aload_n hx hb dX8_as_0 rfl (lv_at hl 0 rfl) ?_
  refine lv_iload_n hx hb dX8_as_1 rfl (lv_at hl 1 rfl) ?_
  refine kV_i (As := [.int x1]) (rest := []) C S hl.1 (o_X8_isToy_c h) (wd_o8 rfl) rfl (cw_X8_as_X8_isToy C.1.2.2.2.2) rfl rfl (Nat.le_of_ble_eq_true rfl) dX8_as_2 (fun r_2 g_1 H locs h S => ?_)
  refine lv_if_eq (tgt := 20) hx hb dX8_as_5 (by decide) (fun c1 => ?_) (fun c1 => ?_)
  · have h := h.1 c1
    refine kLdc C m_X8_as_2 dX8_as_20 ?_
    exact kRi C S h dX8_as_22
  · have h := h.2 c1
    refine lv_iload_n hx hb dX8_as_8 rfl (lv_at hl 2 rfl) ?_
    refine lv_i2l hx hb dX8_as_9 rfl ?_
    refine lv_lconst (v := 0) hx hb dX8_as_10 (by decide) ?_
    refine kLdc2 C m_X8_as_1 dX8_as_11 ?_
    refine kS_i (As := [.long ((x2 : Int32).toInt64), .long 0, .long 5]) (rest := []) C S hl.1 (o_X8_in_c h) (cw_X8_as_X8_in C.1.2.2.2.2) rfl rfl (Nat.le_of_ble_eq_true rfl) dX8_as_14 (fun r_4 g_3 H locs h S => ?_)
    refine lv_if_ne (tgt := 23) hx hb dX8_as_17 (by decide) (fun c1 => ?_) (fun c1 => ?_)
    · have h := h.1 c1
      refine lv_aload_n hx hb dX8_as_23 rfl (lv_at hl 0 rfl) ?_
      refine kg8 (k := 0) (v := .ref (ad 87)) C S rfl (by decide) n_X8_as_X8 m_X8_as_3 rfl dX8_as_24 ?_
      refine lv_iconst (v := 1) hx hb dX8_as_27 (by decide) ?_
      refine lv_iload_n hx hb dX8_as_28 rfl (lv_at hl 1 rfl) ?_
      refine lv_iadd hx hb dX8_as_29 ?_
      obtain ⟨hi, h⟩ := h
      refine kLi C S rfl rfl hi dX8_as_30 ?_
      refine lv_iload_n hx hb dX8_as_31 rfl (lv_at hl 2 rfl) ?_
      refine kS_i (As := [.int (g_3.1 87 (1 + x1 : Int32).toNatClampNeg), .int x2]) (rest := []) C S hl.1 (o_X8_isOf_c h) (cw_X8_as_X8_isOf C.1.2.2.2.2) rfl rfl (Nat.le_of_ble_eq_true rfl) dX8_as_32 (fun r_6 g_5 H locs h S => ?_)
      refine lv_if_eq (tgt := 46) hx hb dX8_as_35 (by decide) (fun c1 => ?_) (fun c1 => ?_)
      · have h := h.1 c1
        refine lv_aload_n hx hb dX8_as_46 rfl (lv_at hl 0 rfl) ?_
        refine lv_iconst (v := 3) hx hb dX8_as_47 (by decide) ?_
        refine kV_i (As := [.int 3]) (rest := []) C S hl.1 (o_X8_found_c h) (wd_o8 rfl) rfl (cw_X8_as_X8_found C.1.2.2.2.2) rfl rfl (Nat.le_of_ble_eq_true rfl) dX8_as_48 (fun r_8 g_7 H locs h S => ?_)
        exact kRi C S h dX8_as_51
      · have h := h.2 c1
        refine lv_aload_n hx hb dX8_as_38 rfl (lv_at hl 0 rfl) ?_
        refine lv_iload_n hx hb dX8_as_39 rfl (lv_at hl 1 rfl) ?_
        refine kV_i (As := [.int x1]) (rest := []) C S hl.1 (o_X8_well_c h) (wd_o8 rfl) rfl (cw_X8_as_X8_well C.1.2.2.2.2) rfl rfl (Nat.le_of_ble_eq_true rfl) dX8_as_40 (fun r_10 g_9 H locs h S => ?_)
        refine lv_goto (tgt := 51) hx hb dX8_as_43 (by decide) ?_
        exact kRi C S h dX8_as_51
    · have h := h.2 c1
      refine kLdc C m_X8_as_2 dX8_as_20 ?_
      exact kRi C S h dX8_as_22
/-! ClawCaseModel.leave(I)V, height 0 -/
theorem m_X8_leave_1 : Cond.fieldLink RX8 253 "ClawCaseModel" "traceLong" "I" ∈ wsX8_leave := List.mem_of_getElem? (i := 1) (by decide +kernel)
theorem n_X8_leave_X8 : ∀ w ∈ wsX80, w ∈ wsX8_leave := mem_by [3, 4, 5, 6, 7, 8, 9, 10, 11, 12, 13, 14, 15, 16, 17, 18, 19, 20, 21, 22, 23, 24, 25, 26] (by decide +kernel)
theorem m_X8_leave_2 : Cond.fieldLink RX8 51 "ClawCaseModel" "traced" "[I" ∈ wsX8_leave := List.mem_of_getElem? (i := 2) (by decide +kernel)
def o_X8_leave (Q : Mm → Prop) (g : Mm) (x1 : Int32) : Prop := ((16 ≤ (g.1 86 23)) → Q g) ∧ ((¬ 16 ≤ (g.1 86 23)) → vp_in (g.1 86 23) 16 ∧ (∀ g_1 : Mm, g_1 = mset g 99 (g.1 86 23 : Int32).toNatClampNeg x1 → (∀ g_2 : Mm, g_2 = mset g_1 86 23 ((g_1.1 86 23) + 1) → (Q g_2))))
set_option maxHeartbeats 4000000 in
set_option maxRecDepth 100000 in
theorem o_X8_leave_c {l : Launch} {dC : Nat → ClassId} {dI : Nat → Nat → Nat} {cy : Nat → ClassId} {ad tz : Nat → Nat} {Q : Mm → Prop} {g : Mm} {x1 : Int32} (h : o_X8_leave Q g x1) : CV l dC dI cy ad tz yX8_leave wsX8_leave (rmD 0) [.ref (ad 86), .int x1] g Q := by
  refine CV.of (by decide) rfl rfl (Nat.le_of_ble_eq_true rfl) ?_
  intro p e s m args below meth c ls C hl S
  have hl : lv_has ls 2 [(0, .ref (ad 86)), (1, .int x1)] := hl
  have hx := C.1.1
  have hb := C.1.2.1
  unfold o_X8_leave at h
  refine lv_aload_n hx hb dX8_leave_0 rfl (lv_at hl 0 rfl) ?_
  refine kg8 (k := 23) (v := .int (g.1 86 23)) C S rfl (by decide) n_X8_leave_X8 m_X8_leave_1 rfl dX8_leave_1 ?_
  refine lv_bipush (v := 16) hx hb dX8_leave_4 (by decide) ?_
  refine lv_icmp_ge (tgt := 29) hx hb dX8_leave_6 (by decide) (fun c1 => ?_) (fun c1 => ?_)
  · have h := h.1 c1
    exact kRv C S h dX8_leave_29
  · have h := h.2 c1
    refine lv_aload_n hx hb dX8_leave_9 rfl (lv_at hl 0 rfl) ?_
    refine kg8 (k := 22) (v := .ref (ad 99)) C S rfl (by decide) n_X8_leave_X8 m_X8_leave_2 rfl dX8_leave_10 ?_
    refine lv_aload_n hx hb dX8_leave_13 rfl (lv_at hl 0 rfl) ?_
    refine kg8 (k := 23) (v := .int (g.1 86 23)) C S rfl (by decide) n_X8_leave_X8 m_X8_leave_1 rfl dX8_leave_14 ?_
    refine lv_iload_n hx hb dX8_leave_17 rfl (lv_at hl 1 rfl) ?_
    obtain ⟨hi, h⟩ := h
    refine kSi C S rfl rfl hi dX8_leave_18 (fun g_1 H locs eg_1 S => ?_)
    have h := h g_1 eg_1
    refine lv_aload_n hx hb dX8_leave_19 rfl (lv_at hl 0 rfl) ?_
    refine lv_dup hx hb dX8_leave_20 rfl ?_
    refine kg8 (k := 23) (v := .int (g_1.1 86 23)) C S rfl (by decide) n_X8_leave_X8 m_X8_leave_1 rfl dX8_leave_21 ?_
    refine lv_iconst (v := 1) hx hb dX8_leave_24 (by decide) ?_
    refine lv_iadd hx hb dX8_leave_25 ?_
    refine kp8_23 C S rfl n_X8_leave_X8 m_X8_leave_1 dX8_leave_26 (fun g_2 H locs eg_2 S => ?_)
    have h := h g_2 eg_2
    exact kRv C S h dX8_leave_29
/-! ClawCaseModel.mark20(I)I, height 1 -/
theorem cw_X8_mark20_X8_leave {s : State} {args : Array Value} (ht : ∀ w ∈ wsX8_mark20, w.before args s = true) : CallW (rmD 1) s args RX8 RX8 256 yX8_leave cX8_leave 2 none wsX8_leave (rmD (0)) 0 0 1 := cwV 1 ht gX8_mark20_X8_leave rfl rfl rfl (by decide +kernel) ⟨Nat.le_of_ble_eq_true rfl, Nat.le_of_ble_eq_true rfl⟩
def o_X8_mark20 (Q : Int32 → Mm → Prop) (g : Mm) (x1 : Int32) : Prop := o_X8_leave (fun (g_1 : Mm) => Q x1 g_1) g 20
set_option maxHeartbeats 4000000 in
set_option maxRecDepth 100000 in
theorem o_X8_mark20_c {l : Launch} {dC : Nat → ClassId} {dI : Nat → Nat → Nat} {cy : Nat → ClassId} {ad tz : Nat → Nat} {Q : Int32 → Mm → Prop} {g : Mm} {x1 : Int32} (h : o_X8_mark20 Q g x1) : CI l dC dI cy ad tz yX8_mark20 wsX8_mark20 (rmD 1) [.ref (ad 86), .int x1] g Q := by
  refine CI.of (by decide) rfl rfl (Nat.le_of_ble_eq_true rfl) ?_
  intro p e s m args below meth c ls C hl S
  have hl : lv_has ls 2 [(0, .ref (ad 86)), (1, .int x1)] := hl
  have hx := C.1.1
  have hb := C.1.2.1
  unfold o_X8_mark20 at h
  refine lv_aload_n hx hb dX8_mark20_0 rfl (lv_at hl 0 rfl) ?_
  refine lv_bipush (v := 20) hx hb dX8_mark20_1 (by decide) ?_
  refine kV_v (As := [.int 20]) (rest := []) C S hl.1 (o_X8_leave_c h) (wd_o8 rfl) rfl (cw_X8_mark20_X8_leave C.1.2.2.2.2) rfl rfl (Nat.le_of_ble_eq_true rfl) dX8_mark20_3 (fun g_1 H locs h S => ?_)
  refine lv_iload_n hx hb dX8_mark20_6 rfl (lv_at hl 1 rfl) ?_
  exact kRi C S h dX8_mark20_7
/-! ClawCaseModel.mark21(I)I, height 2 -/
theorem m_X8_mark21_1 : Cond.fieldLink RX8 7 "ClawCaseModel" "now" "[I" ∈ wsX8_mark21 := List.mem_of_getElem? (i := 1) (by decide +kernel)
theorem n_X8_mark21_X8 : ∀ w ∈ wsX80, w ∈ wsX8_mark21 := mem_by [13, 14, 15, 16, 17, 18, 19, 20, 21, 22, 23, 24, 25, 26, 27, 28, 29, 30, 31, 32, 33, 34, 35, 36] (by decide +kernel)
theorem cw_X8_mark21_X8_mark20 {s : State} {args : Array Value} (ht : ∀ w ∈ wsX8_mark21, w.before args s = true) : CallW (rmD 2) s args RX8 RX8 259 yX8_mark20 cX8_mark20 2 (some .int) wsX8_mark20 (rmD (1)) 0 0 1 := cwV 1 ht gX8_mark21_X8_mark20 rfl rfl rfl (by decide +kernel) ⟨Nat.le_of_ble_eq_true rfl, Nat.le_of_ble_eq_true rfl⟩
theorem cw_X8_mark21_X8_leave {s : State} {args : Array Value} (ht : ∀ w ∈ wsX8_mark21, w.before args s = true) : CallW (rmD 2) s args RX8 RX8 256 yX8_leave cX8_leave 2 none wsX8_leave (rmD (0)) 0 0 1 := cwV 1 ht gX8_mark21_X8_leave rfl rfl rfl (by decide +kernel) ⟨Nat.le_of_ble_eq_true rfl, Nat.le_of_ble_eq_true rfl⟩
def o_X8_mark21 (Q : Int32 → Mm → Prop) (g : Mm) (x1 : Int32) : Prop := o_X8_leave (fun (g_1 : Mm) => o_X8_mark20 (fun (r_4 : Int32) (g_3 : Mm) => vp_in (19 + x1) 33 ∧ (Q (r_4 + (g_3.1 87 (19 + x1 : Int32).toNatClampNeg)) g_3)) g_1 x1) g 21
set_option maxHeartbeats 4000000 in
set_option maxRecDepth 100000 in
theorem o_X8_mark21_c {l : Launch} {dC : Nat → ClassId} {dI : Nat → Nat → Nat} {cy : Nat → ClassId} {ad tz : Nat → Nat} {Q : Int32 → Mm → Prop} {g : Mm} {x1 : Int32} (h : o_X8_mark21 Q g x1) : CI l dC dI cy ad tz yX8_mark21 wsX8_mark21 (rmD 2) [.ref (ad 86), .int x1] g Q := by
  refine CI.of (by decide) rfl rfl (Nat.le_of_ble_eq_true rfl) ?_
  intro p e s m args below meth c ls C hl S
  have hl : lv_has ls 2 [(0, .ref (ad 86)), (1, .int x1)] := hl
  have hx := C.1.1
  have hb := C.1.2.1
  unfold o_X8_mark21 at h
  refine lv_aload_n hx hb dX8_mark21_0 rfl (lv_at hl 0 rfl) ?_
  refine lv_bipush (v := 21) hx hb dX8_mark21_1 (by decide) ?_
  refine kV_v (As := [.int 21]) (rest := []) C S hl.1 (o_X8_leave_c h) (wd_o8 rfl) rfl (cw_X8_mark21_X8_leave C.1.2.2.2.2) rfl rfl (Nat.le_of_ble_eq_true rfl) dX8_mark21_3 (fun g_1 H locs h S => ?_)
  refine lv_aload_n hx hb dX8_mark21_6 rfl (lv_at hl 0 rfl) ?_
  refine lv_iload_n hx hb dX8_mark21_7 rfl (lv_at hl 1 rfl) ?_
  refine kV_i (As := [.int x1]) (rest := []) C S hl.1 (o_X8_mark20_c h) (wd_o8 rfl) rfl (cw_X8_mark21_X8_mark20 C.1.2.2.2.2) rfl rfl (Nat.le_of_ble_eq_true rfl) dX8_mark21_8 (fun r_4 g_3 H locs h S => ?_)
  refine lv_aload_n hx hb dX8_mark21_11 rfl (lv_at hl 0 rfl) ?_
  refine kg8 (k := 0) (v := .ref (ad 87)) C S rfl (by decide) n_X8_mark21_X8 m_X8_mark21_1 rfl dX8_mark21_12 ?_
  refine lv_bipush (v := 19) hx hb dX8_mark21_15 (by decide) ?_
  refine lv_iload_n hx hb dX8_mark21_17 rfl (lv_at hl 1 rfl) ?_
  refine lv_iadd hx hb dX8_mark21_18 ?_
  obtain ⟨hi, h⟩ := h
  refine kLi C S rfl rfl hi dX8_mark21_19 ?_
  refine lv_iadd hx hb dX8_mark21_20 ?_
  exact kRi C S h dX8_mark21_21
/-! ClawCaseModel.size10(I)I, height 1 -/
theorem m_X8_size10_1 : Cond.fieldLink RX8 7 "ClawCaseModel" "now" "[I" ∈ wsX8_size10 := List.mem_of_getElem? (i := 1) (by decide +kernel)
theorem n_X8_size10_X8 : ∀ w ∈ wsX80, w ∈ wsX8_size10 := mem_by [9, 10, 11, 12, 13, 14, 15, 16, 17, 18, 19, 20, 21, 22, 23, 24, 25, 26, 27, 28, 29, 30, 31, 32] (by decide +kernel)
theorem cw_X8_size10_X8_leave {s : State} {args : Array Value} (ht : ∀ w ∈ wsX8_size10, w.before args s = true) : CallW (rmD 1) s args RX8 RX8 256 yX8_leave cX8_leave 2 none wsX8_leave (rmD (0)) 0 0 1 := cwV 1 ht gX8_size10_X8_leave rfl rfl rfl (by decide +kernel) ⟨Nat.le_of_ble_eq_true rfl, Nat.le_of_ble_eq_true rfl⟩
def o_X8_size10 (Q : Int32 → Mm → Prop) (g : Mm) (x1 : Int32) : Prop := o_X8_leave (fun (g_1 : Mm) => vp_in (8 + x1) 33 ∧ (Q (g_1.1 87 (8 + x1 : Int32).toNatClampNeg) g_1)) g 10
set_option maxHeartbeats 4000000 in
set_option maxRecDepth 100000 in
theorem o_X8_size10_c {l : Launch} {dC : Nat → ClassId} {dI : Nat → Nat → Nat} {cy : Nat → ClassId} {ad tz : Nat → Nat} {Q : Int32 → Mm → Prop} {g : Mm} {x1 : Int32} (h : o_X8_size10 Q g x1) : CI l dC dI cy ad tz yX8_size10 wsX8_size10 (rmD 1) [.ref (ad 86), .int x1] g Q := by
  refine CI.of (by decide) rfl rfl (Nat.le_of_ble_eq_true rfl) ?_
  intro p e s m args below meth c ls C hl S
  have hl : lv_has ls 2 [(0, .ref (ad 86)), (1, .int x1)] := hl
  have hx := C.1.1
  have hb := C.1.2.1
  unfold o_X8_size10 at h
  refine lv_aload_n hx hb dX8_size10_0 rfl (lv_at hl 0 rfl) ?_
  refine lv_bipush (v := 10) hx hb dX8_size10_1 (by decide) ?_
  refine kV_v (As := [.int 10]) (rest := []) C S hl.1 (o_X8_leave_c h) (wd_o8 rfl) rfl (cw_X8_size10_X8_leave C.1.2.2.2.2) rfl rfl (Nat.le_of_ble_eq_true rfl) dX8_size10_3 (fun g_1 H locs h S => ?_)
  refine lv_aload_n hx hb dX8_size10_6 rfl (lv_at hl 0 rfl) ?_
  refine kg8 (k := 0) (v := .ref (ad 87)) C S rfl (by decide) n_X8_size10_X8 m_X8_size10_1 rfl dX8_size10_7 ?_
  refine lv_bipush (v := 8) hx hb dX8_size10_10 (by decide) ?_
  refine lv_iload_n hx hb dX8_size10_12 rfl (lv_at hl 1 rfl) ?_
  refine lv_iadd hx hb dX8_size10_13 ?_
  obtain ⟨hi, h⟩ := h
  refine kLi C S rfl rfl hi dX8_size10_14 ?_
  exact kRi C S h dX8_size10_15
/-! ClawCaseModel.size13(I)I, height 2 -/
theorem cw_X8_size13_X8_size10 {s : State} {args : Array Value} (ht : ∀ w ∈ wsX8_size13, w.before args s = true) : CallW (rmD 2) s args RX8 RX8 262 yX8_size10 cX8_size10 2 (some .int) wsX8_size10 (rmD (1)) 0 0 1 := cwV 1 ht gX8_size13_X8_size10 rfl rfl rfl (by decide +kernel) ⟨Nat.le_of_ble_eq_true rfl, Nat.le_of_ble_eq_true rfl⟩
theorem cw_X8_size13_X8_leave {s : State} {args : Array Value} (ht : ∀ w ∈ wsX8_size13, w.before args s = true) : CallW (rmD 2) s args RX8 RX8 256 yX8_leave cX8_leave 2 none wsX8_leave (rmD (0)) 0 0 1 := cwV 1 ht gX8_size13_X8_leave rfl rfl rfl (by decide +kernel) ⟨Nat.le_of_ble_eq_true rfl, Nat.le_of_ble_eq_true rfl⟩
def o_X8_size13 (Q : Int32 → Mm → Prop) (g : Mm) (x1 : Int32) : Prop := o_X8_leave (fun (g_1 : Mm) => o_X8_size10 (fun (r_4 : Int32) (g_3 : Mm) => Q (r_4 - 100) g_3) g_1 x1) g 13
set_option maxHeartbeats 4000000 in
set_option maxRecDepth 100000 in
theorem o_X8_size13_c {l : Launch} {dC : Nat → ClassId} {dI : Nat → Nat → Nat} {cy : Nat → ClassId} {ad tz : Nat → Nat} {Q : Int32 → Mm → Prop} {g : Mm} {x1 : Int32} (h : o_X8_size13 Q g x1) : CI l dC dI cy ad tz yX8_size13 wsX8_size13 (rmD 2) [.ref (ad 86), .int x1] g Q := by
  refine CI.of (by decide) rfl rfl (Nat.le_of_ble_eq_true rfl) ?_
  intro p e s m args below meth c ls C hl S
  have hl : lv_has ls 2 [(0, .ref (ad 86)), (1, .int x1)] := hl
  have hx := C.1.1
  have hb := C.1.2.1
  unfold o_X8_size13 at h
  refine lv_aload_n hx hb dX8_size13_0 rfl (lv_at hl 0 rfl) ?_
  refine lv_bipush (v := 13) hx hb dX8_size13_1 (by decide) ?_
  refine kV_v (As := [.int 13]) (rest := []) C S hl.1 (o_X8_leave_c h) (wd_o8 rfl) rfl (cw_X8_size13_X8_leave C.1.2.2.2.2) rfl rfl (Nat.le_of_ble_eq_true rfl) dX8_size13_3 (fun g_1 H locs h S => ?_)
  refine lv_aload_n hx hb dX8_size13_6 rfl (lv_at hl 0 rfl) ?_
  refine lv_iload_n hx hb dX8_size13_7 rfl (lv_at hl 1 rfl) ?_
  refine kV_i (As := [.int x1]) (rest := []) C S hl.1 (o_X8_size10_c h) (wd_o8 rfl) rfl (cw_X8_size13_X8_size10 C.1.2.2.2.2) rfl rfl (Nat.le_of_ble_eq_true rfl) dX8_size13_8 (fun r_4 g_3 H locs h S => ?_)
  refine lv_bipush (v := 100) hx hb dX8_size13_11 (by decide) ?_
  refine lv_isub hx hb dX8_size13_13 ?_
  exact kRi C S h dX8_size13_14
/-! ClawCaseModel.sizeOfRound(I)I, height 3 -/
theorem m_X8_sizeOfRound_1 : Cond.fieldLink RX8 7 "ClawCaseModel" "now" "[I" ∈ wsX8_sizeOfRound := List.mem_of_getElem? (i := 1) (by decide +kernel)
theorem n_X8_sizeOfRound_X8 : ∀ w ∈ wsX80, w ∈ wsX8_sizeOfRound := mem_by [17, 18, 19, 20, 21, 22, 23, 24, 25, 26, 27, 28, 29, 30, 31, 32, 33, 34, 35, 36, 37, 38, 39, 40] (by decide +kernel)
theorem cw_X8_sizeOfRound_X8_size13 {s : State} {args : Array Value} (ht : ∀ w ∈ wsX8_sizeOfRound, w.before args s = true) : CallW (rmD 3) s args RX8 RX8 265 yX8_size13 cX8_size13 2 (some .int) wsX8_size13 (rmD (2)) 0 0 1 := cwV 1 ht gX8_sizeOfRound_X8_size13 rfl rfl rfl (by decide +kernel) ⟨Nat.le_of_ble_eq_true rfl, Nat.le_of_ble_eq_true rfl⟩
theorem cw_X8_sizeOfRound_X8_leave {s : State} {args : Array Value} (ht : ∀ w ∈ wsX8_sizeOfRound, w.before args s = true) : CallW (rmD 3) s args RX8 RX8 256 yX8_leave cX8_leave 2 none wsX8_leave (rmD (0)) 0 0 1 := cwV 1 ht gX8_sizeOfRound_X8_leave rfl rfl rfl (by decide +kernel) ⟨Nat.le_of_ble_eq_true rfl, Nat.le_of_ble_eq_true rfl⟩
def o_X8_sizeOfRound (Q : Int32 → Mm → Prop) (g : Mm) (x1 : Int32) : Prop := vp_in (1 + x1) 33 ∧ (((¬ (g.1 87 (1 + x1 : Int32).toNatClampNeg) = 4) → o_X8_leave (fun (g_1 : Mm) => o_X8_size13 (fun (r_4 : Int32) (g_3 : Mm) => Q (2 * r_4) g_3) g_1 x1) g 14) ∧ (((g.1 87 (1 + x1 : Int32).toNatClampNeg) = 4) → o_X8_size13 (fun (r_6 : Int32) (g_5 : Mm) => Q r_6 g_5) g x1))
set_option maxHeartbeats 4000000 in
set_option maxRecDepth 100000 in
theorem o_X8_sizeOfRound_c {l : Launch} {dC : Nat → ClassId} {dI : Nat → Nat → Nat} {cy : Nat → ClassId} {ad tz : Nat → Nat} {Q : Int32 → Mm → Prop} {g : Mm} {x1 : Int32} (h : o_X8_sizeOfRound Q g x1) : CI l dC dI cy ad tz yX8_sizeOfRound wsX8_sizeOfRound (rmD 3) [.ref (ad 86), .int x1] g Q := by
  refine CI.of (by decide) rfl rfl (Nat.le_of_ble_eq_true rfl) ?_
  intro p e s m args below meth c ls C hl S
  have hl : lv_has ls 2 [(0, .ref (ad 86)), (1, .int x1)] := hl
  have hx := C.1.1
  have hb := C.1.2.1
  unfold o_X8_sizeOfRound at h
  refine lv_aload_n hx hb dX8_sizeOfRound_0 rfl (lv_at hl 0 rfl) ?_
  refine kg8 (k := 0) (v := .ref (ad 87)) C S rfl (by decide) n_X8_sizeOfRound_X8 m_X8_sizeOfRound_1 rfl dX8_sizeOfRound_1 ?_
  refine lv_iconst (v := 1) hx hb dX8_sizeOfRound_4 (by decide) ?_
  refine lv_iload_n hx hb dX8_sizeOfRound_5 rfl (lv_at hl 1 rfl) ?_
  refine lv_iadd hx hb dX8_sizeOfRound_6 ?_
  obtain ⟨hi, h⟩ := h
  refine kLi C S rfl rfl hi dX8_sizeOfRound_7 ?_
  refine lv_iconst (v := 4) hx hb dX8_sizeOfRound_8 (by decide) ?_
  refine lv_icmp_ne (tgt := 18) hx hb dX8_sizeOfRound_9 (by decide) (fun c1 => ?_) (fun c1 => ?_)
  · have h := h.1 c1
    refine lv_aload_n hx hb dX8_sizeOfRound_18 rfl (lv_at hl 0 rfl) ?_
    refine lv_bipush (v := 14) hx hb dX8_sizeOfRound_19 (by decide) ?_
    refine kV_v (As := [.int 14]) (rest := []) C S hl.1 (o_X8_leave_c h) (wd_o8 rfl) rfl (cw_X8_sizeOfRound_X8_leave C.1.2.2.2.2) rfl rfl (Nat.le_of_ble_eq_true rfl) dX8_sizeOfRound_21 (fun g_1 H locs h S => ?_)
    refine lv_iconst (v := 2) hx hb dX8_sizeOfRound_24 (by decide) ?_
    refine lv_aload_n hx hb dX8_sizeOfRound_25 rfl (lv_at hl 0 rfl) ?_
    refine lv_iload_n hx hb dX8_sizeOfRound_26 rfl (lv_at hl 1 rfl) ?_
    refine kV_i (As := [.int x1]) (rest := [.int 2]) C S hl.1 (o_X8_size13_c h) (wd_o8 rfl) rfl (cw_X8_sizeOfRound_X8_size13 C.1.2.2.2.2) rfl rfl (Nat.le_of_ble_eq_true rfl) dX8_sizeOfRound_27 (fun r_4 g_3 H locs h S => ?_)
    refine lv_imul hx hb dX8_sizeOfRound_30 ?_
    exact kRi C S h dX8_sizeOfRound_31
  · have h := h.2 c1
    refine lv_aload_n hx hb dX8_sizeOfRound_12 rfl (lv_at hl 0 rfl) ?_
    refine lv_iload_n hx hb dX8_sizeOfRound_13 rfl (lv_at hl 1 rfl) ?_
    refine kV_i (As := [.int x1]) (rest := []) C S hl.1 (o_X8_size13_c h) (wd_o8 rfl) rfl (cw_X8_sizeOfRound_X8_size13 C.1.2.2.2.2) rfl rfl (Nat.le_of_ble_eq_true rfl) dX8_sizeOfRound_14 (fun r_6 g_5 H locs h S => ?_)
    exact kRi C S h dX8_sizeOfRound_17
