/-! ClawCaseModel.goOn()V, height 3 -/
theorem m_X8_goOn_1 : Cond.fieldLink RX8 89 "ClawCaseModel" "tokenAt" "I" ∈ wsX8_goOn := List.mem_of_getElem? (i := 1) (by decide +kernel)
theorem n_X8_goOn_X8 : ∀ w ∈ wsX80, w ∈ wsX8_goOn := mem_by [22, 23, 24, 25, 26, 27, 28, 29, 30, 31, 32, 33, 34, 35, 36, 37, 38, 39, 40, 41, 42, 43, 44, 45] (by decide +kernel)
theorem m_X8_goOn_2 : Cond.fieldLink RX8 92 "ClawCaseModel" "tokenLong" "I" ∈ wsX8_goOn := List.mem_of_getElem? (i := 2) (by decide +kernel)
theorem cw_X8_goOn_X8_look {s : State} {args : Array Value} (ht : ∀ w ∈ wsX8_goOn, w.before args s = true) : CallW (rmD 3) s args RX8 RX8 108 yX8_look cX8_look 4 none wsX8_look (rmD (2)) 0 0 1 := cwV 1 ht gX8_goOn_X8_look rfl rfl rfl (by decide +kernel) ⟨Nat.le_of_ble_eq_true rfl, Nat.le_of_ble_eq_true rfl⟩
def o_X8_goOn (Q : Mm → Prop) (g : Mm) : Prop := o_X8_look (fun (g_1 : Mm) => Q g_1) g ((g.1 86 14) + (g.1 86 15))
set_option maxHeartbeats 4000000 in
set_option maxRecDepth 100000 in
theorem o_X8_goOn_c {l : Launch} {dC : Nat → ClassId} {dI : Nat → Nat → Nat} {cy : Nat → ClassId} {ad tz : Nat → Nat} {Q : Mm → Prop} {g : Mm} (h : o_X8_goOn Q g) : CV l dC dI cy ad tz yX8_goOn wsX8_goOn (rmD 3) [.ref (ad 86)] g Q := by
  refine CV.of (by decide) rfl rfl (Nat.le_of_ble_eq_true rfl) ?_
  intro p e s m args below meth c ls C hl S
  have hl : lv_has ls 1 [(0, .ref (ad 86))] := hl
  have hx := C.1.1
  have hb := C.1.2.1
  unfold o_X8_goOn at h
  refine lv_aload_n hx hb dX8_goOn_0 rfl (lv_at hl 0 rfl) ?_
  refine lv_aload_n hx hb dX8_goOn_1 rfl (lv_at hl 0 rfl) ?_
  refine kg8 (k := 14) (v := .int (g.1 86 14)) C S rfl (by decide) n_X8_goOn_X8 m_X8_goOn_1 rfl dX8_goOn_2 ?_
  refine lv_aload_n hx hb dX8_goOn_5 rfl (lv_at hl 0 rfl) ?_
  refine kg8 (k := 15) (v := .int (g.1 86 15)) C S rfl (by decide) n_X8_goOn_X8 m_X8_goOn_2 rfl dX8_goOn_6 ?_
  refine lv_iadd hx hb dX8_goOn_9 ?_
  refine kV_v (As := [.int ((g.1 86 14) + (g.1 86 15))]) (rest := []) C S hl.1 (o_X8_look_c h) (wd_o8 rfl) rfl (cw_X8_goOn_X8_look C.1.2.2.2.2) rfl rfl (Nat.le_of_ble_eq_true rfl) dX8_goOn_10 (fun g_1 H locs h S => ?_)
  exact kRv C S h dX8_goOn_13
/-! ClawCaseModel.isByte(II)Z, height 0 -/
theorem m_X8_isByte_1 : Cond.fieldLink RX8 98 "ClawCaseModel" "token" "I" ∈ wsX8_isByte := List.mem_of_getElem? (i := 1) (by decide +kernel)
theorem n_X8_isByte_X8 : ∀ w ∈ wsX80, w ∈ wsX8_isByte := mem_by [4, 5, 6, 7, 8, 9, 10, 11, 12, 13, 14, 15, 16, 17, 18, 19, 20, 21, 22, 23, 24, 25, 26, 27] (by decide +kernel)
theorem m_X8_isByte_2 : Cond.fieldLink RX8 38 "ClawCaseModel" "tape" "[I" ∈ wsX8_isByte := List.mem_of_getElem? (i := 2) (by decide +kernel)
theorem m_X8_isByte_3 : Cond.fieldLink RX8 89 "ClawCaseModel" "tokenAt" "I" ∈ wsX8_isByte := List.mem_of_getElem? (i := 3) (by decide +kernel)
def o_X8_isByte (Q : Int32 → Mm → Prop) (g : Mm) (x1 : Int32) (x2 : Int32) : Prop := ((¬ (g.1 86 16) = x1) → Q 0 g) ∧ (((g.1 86 16) = x1) → vp_in (g.1 86 14) 70 ∧ (((¬ (g.1 96 (g.1 86 14 : Int32).toNatClampNeg) = x2) → Q 0 g) ∧ (((g.1 96 (g.1 86 14 : Int32).toNatClampNeg) = x2) → Q 1 g)))
set_option maxHeartbeats 4000000 in
set_option maxRecDepth 100000 in
theorem o_X8_isByte_c {l : Launch} {dC : Nat → ClassId} {dI : Nat → Nat → Nat} {cy : Nat → ClassId} {ad tz : Nat → Nat} {Q : Int32 → Mm → Prop} {g : Mm} {x1 : Int32} {x2 : Int32} (h : o_X8_isByte Q g x1 x2) : CI l dC dI cy ad tz yX8_isByte wsX8_isByte (rmD 0) [.ref (ad 86), .int x1, .int x2] g Q := by
  refine CI.of (by decide) rfl rfl (Nat.le_of_ble_eq_true rfl) ?_
  intro p e s m args below meth c ls C hl S
  have hl : lv_has ls 3 [(0, .ref (ad 86)), (1, .int x1), (2, .int x2)] := hl
  have hx := C.1.1
  have hb := C.1.2.1
  unfold o_X8_isByte at h
  refine lv_aload_n hx hb dX8_isByte_0 rfl (lv_at hl 0 rfl) ?_
  refine kg8 (k := 16) (v := .int (g.1 86 16)) C S rfl (by decide) n_X8_isByte_X8 m_X8_isByte_1 rfl dX8_isByte_1 ?_
  refine lv_iload_n hx hb dX8_isByte_4 rfl (lv_at hl 1 rfl) ?_
  refine lv_icmp_ne (tgt := 25) hx hb dX8_isByte_5 (by decide) (fun c1 => ?_) (fun c1 => ?_)
  · have h := h.1 c1
    refine lv_iconst (v := 0) hx hb dX8_isByte_25 (by decide) ?_
    exact kRz C S rfl h dX8_isByte_26
  · have h := h.2 c1
    refine lv_aload_n hx hb dX8_isByte_8 rfl (lv_at hl 0 rfl) ?_
    refine kg8 (k := 11) (v := .ref (ad 96)) C S rfl (by decide) n_X8_isByte_X8 m_X8_isByte_2 rfl dX8_isByte_9 ?_
    refine lv_aload_n hx hb dX8_isByte_12 rfl (lv_at hl 0 rfl) ?_
    refine kg8 (k := 14) (v := .int (g.1 86 14)) C S rfl (by decide) n_X8_isByte_X8 m_X8_isByte_3 rfl dX8_isByte_13 ?_
    obtain ⟨hi, h⟩ := h
    refine kLi C S rfl rfl hi dX8_isByte_16 ?_
    refine lv_iload_n hx hb dX8_isByte_17 rfl (lv_at hl 2 rfl) ?_
    refine lv_icmp_ne (tgt := 25) hx hb dX8_isByte_18 (by decide) (fun c1 => ?_) (fun c1 => ?_)
    · have h := h.1 c1
      refine lv_iconst (v := 0) hx hb dX8_isByte_25 (by decide) ?_
      exact kRz C S rfl h dX8_isByte_26
    · have h := h.2 c1
      refine lv_iconst (v := 1) hx hb dX8_isByte_21 (by decide) ?_
      refine lv_goto (tgt := 26) hx hb dX8_isByte_22 (by decide) ?_
      exact kRz C S rfl h dX8_isByte_26
/-! ClawCaseModel.readNumber(IIII)I, height 4 -/
theorem m_X8_readNumber_1 : Cond.fieldLink RX8 98 "ClawCaseModel" "token" "I" ∈ wsX8_readNumber := List.mem_of_getElem? (i := 1) (by decide +kernel)
theorem n_X8_readNumber_X8 : ∀ w ∈ wsX80, w ∈ wsX8_readNumber := mem_by [31, 32, 33, 34, 35, 36, 37, 38, 39, 40, 41, 42, 43, 44, 45, 46, 47, 48, 49, 50, 51, 52, 53, 54] (by decide +kernel)
theorem m_X8_readNumber_2 : Cond.fieldLink RX8 95 "ClawCaseModel" "value" "I" ∈ wsX8_readNumber := List.mem_of_getElem? (i := 2) (by decide +kernel)
theorem m_X8_readNumber_3 : Cond.fieldLink RX8 41 "ClawCaseModel" "read" "[I" ∈ wsX8_readNumber := List.mem_of_getElem? (i := 3) (by decide +kernel)
theorem cw_X8_readNumber_X8_goOn {s : State} {args : Array Value} (ht : ∀ w ∈ wsX8_readNumber, w.before args s = true) : CallW (rmD 4) s args RX8 RX8 112 yX8_goOn cX8_goOn 1 none wsX8_goOn (rmD (3)) 0 0 0 := cwV 0 ht gX8_readNumber_X8_goOn rfl rfl rfl (by decide +kernel) ⟨Nat.le_of_ble_eq_true rfl, Nat.le_of_ble_eq_true rfl⟩
theorem cw_X8_readNumber_X8_isByte {s : State} {args : Array Value} (ht : ∀ w ∈ wsX8_readNumber, w.before args s = true) : CallW (rmD 4) s args RX8 RX8 115 yX8_isByte cX8_isByte 3 (some .boolean) wsX8_isByte (rmD (0)) 0 0 2 := cwV 2 ht gX8_readNumber_X8_isByte rfl rfl rfl (by decide +kernel) ⟨Nat.le_of_ble_eq_true rfl, Nat.le_of_ble_eq_true rfl⟩
theorem cw_X8_readNumber_X8_in {s : State} {args : Array Value} (ht : ∀ w ∈ wsX8_readNumber, w.before args s = true) : CallB (rmD 4) s args RX8 61 yX8_in cX8_in 6 (some .boolean) wsX8_in (rmD (0)) 0 0 3 ∧ (Cond.static yX8_in).before args s = true := va_cwS 3 ht gX8_readNumber_X8_in rfl rfl rfl (by decide +kernel) ⟨Nat.le_of_ble_eq_true rfl, Nat.le_of_ble_eq_true rfl⟩
def o_X8_readNumber (Q : Int32 → Mm → Prop) (g : Mm) (x1 : Int32) (x2 : Int32) (x3 : Int32) (x4 : Int32) : Prop := (((g.1 86 16) = 2) → o_X8_in (fun (r_2 : Int32) (g_1 : Mm) => ((¬ r_2 = 0) → vp_in x1 33 ∧ (∀ g_3 : Mm, g_3 = mset g_1 97 x1.toNatClampNeg (g_1.1 86 17) → (o_X8_goOn (fun (g_4 : Mm) => o_X8_isByte (fun (r_7 : Int32) (g_6 : Mm) => ((¬ r_7 = 0) → o_X8_goOn (fun (g_8 : Mm) => Q 0 g_8) g_6) ∧ ((r_7 = 0) → Q 1 g_6)) g_4 3 x4) g_3))) ∧ ((r_2 = 0) → Q 2 g_1)) g ((g.1 86 17 : Int32).toInt64) ((x2 : Int32).toInt64) ((x3 : Int32).toInt64)) ∧ ((¬ (g.1 86 16) = 2) → Q 1 g)
set_option maxHeartbeats 4000000 in
set_option maxRecDepth 100000 in
theorem o_X8_readNumber_c {l : Launch} {dC : Nat → ClassId} {dI : Nat → Nat → Nat} {cy : Nat → ClassId} {ad tz : Nat → Nat} {Q : Int32 → Mm → Prop} {g : Mm} {x1 : Int32} {x2 : Int32} {x3 : Int32} {x4 : Int32} (h : o_X8_readNumber Q g x1 x2 x3 x4) : CI l dC dI cy ad tz yX8_readNumber wsX8_readNumber (rmD 4) [.ref (ad 86), .int x1, .int x2, .int x3, .int x4] g Q := by
  refine CI.of (by decide) rfl rfl (Nat.le_of_ble_eq_true rfl) ?_
  intro p e s m args below meth c ls C hl S
  have hl : lv_has ls 5 [(0, .ref (ad 86)), (1, .int x1), (2, .int x2), (3, .int x3), (4, .int x4)] := hl
  have hx := C.1.1
  have hb := C.1.2.1
  unfold o_X8_readNumber at h
  refine lv_aload_n hx hb dX8_readNumber_0 rfl (lv_at hl 0 rfl) ?_
  refine kg8 (k := 16) (v := .int (g.1 86 16)) C S rfl (by decide) n_X8_readNumber_X8 m_X8_readNumber_1 rfl dX8_readNumber_1 ?_
  refine lv_iconst (v := 2) hx hb dX8_readNumber_4 (by decide) ?_
  refine lv_icmp_eq (tgt := 10) hx hb dX8_readNumber_5 (by decide) (fun c1 => ?_) (fun c1 => ?_)
  · have h := h.1 c1
    refine lv_aload_n hx hb dX8_readNumber_10 rfl (lv_at hl 0 rfl) ?_
    refine kg8 (k := 17) (v := .int (g.1 86 17)) C S rfl (by decide) n_X8_readNumber_X8 m_X8_readNumber_2 rfl dX8_readNumber_11 ?_
    refine lv_i2l hx hb dX8_readNumber_14 rfl ?_
    refine lv_iload_n hx hb dX8_readNumber_15 rfl (lv_at hl 2 rfl) ?_
    refine lv_i2l hx hb dX8_readNumber_16 rfl ?_
    refine lv_iload_n hx hb dX8_readNumber_17 rfl (lv_at hl 3 rfl) ?_
    refine lv_i2l hx hb dX8_readNumber_18 rfl ?_
    refine kS_i (As := [.long ((g.1 86 17 : Int32).toInt64), .long ((x2 : Int32).toInt64), .long ((x3 : Int32).toInt64)]) (rest := []) C S hl.1 (o_X8_in_c h) (cw_X8_readNumber_X8_in C.1.2.2.2.2) rfl rfl (Nat.le_of_ble_eq_true rfl) dX8_readNumber_19 (fun r_2 g_1 H locs h S => ?_)
    refine lv_if_ne (tgt := 27) hx hb dX8_readNumber_22 (by decide) (fun c1 => ?_) (fun c1 => ?_)
    · have h := h.1 c1
      refine lv_aload_n hx hb dX8_readNumber_27 rfl (lv_at hl 0 rfl) ?_
      refine kg8 (k := 18) (v := .ref (ad 97)) C S rfl (by decide) n_X8_readNumber_X8 m_X8_readNumber_3 rfl dX8_readNumber_28 ?_
      refine lv_iload_n hx hb dX8_readNumber_31 rfl (lv_at hl 1 rfl) ?_
      refine lv_aload_n hx hb dX8_readNumber_32 rfl (lv_at hl 0 rfl) ?_
      refine kg8 (k := 17) (v := .int (g_1.1 86 17)) C S rfl (by decide) n_X8_readNumber_X8 m_X8_readNumber_2 rfl dX8_readNumber_33 ?_
      obtain ⟨hi, h⟩ := h
      refine kSi C S rfl rfl hi dX8_readNumber_36 (fun g_3 H locs eg_3 S => ?_)
      have h := h g_3 eg_3
      refine lv_aload_n hx hb dX8_readNumber_37 rfl (lv_at hl 0 rfl) ?_
      refine kV_v (As := []) (rest := []) C S hl.1 (o_X8_goOn_c h) (wd_o8 rfl) rfl (cw_X8_readNumber_X8_goOn C.1.2.2.2.2) rfl rfl (Nat.le_of_ble_eq_true rfl) dX8_readNumber_38 (fun g_4 H locs h S => ?_)
      refine lv_aload_n hx hb dX8_readNumber_41 rfl (lv_at hl 0 rfl) ?_
      refine lv_iconst (v := 3) hx hb dX8_readNumber_42 (by decide) ?_
      refine lv_iload hx hb dX8_readNumber_43 (lv_at hl 4 rfl) ?_
      refine kV_i (As := [.int 3, .int x4]) (rest := []) C S hl.1 (o_X8_isByte_c h) (wd_o8 rfl) rfl (cw_X8_readNumber_X8_isByte C.1.2.2.2.2) rfl rfl (Nat.le_of_ble_eq_true rfl) dX8_readNumber_45 (fun r_7 g_6 H locs h S => ?_)
      refine lv_if_ne (tgt := 53) hx hb dX8_readNumber_48 (by decide) (fun c1 => ?_) (fun c1 => ?_)
      · have h := h.1 c1
        refine lv_aload_n hx hb dX8_readNumber_53 rfl (lv_at hl 0 rfl) ?_
        refine kV_v (As := []) (rest := []) C S hl.1 (o_X8_goOn_c h) (wd_o8 rfl) rfl (cw_X8_readNumber_X8_goOn C.1.2.2.2.2) rfl rfl (Nat.le_of_ble_eq_true rfl) dX8_readNumber_54 (fun g_8 H locs h S => ?_)
        refine lv_iconst (v := 0) hx hb dX8_readNumber_57 (by decide) ?_
        exact kRi C S h dX8_readNumber_58
      · have h := h.2 c1
        refine lv_iconst (v := 1) hx hb dX8_readNumber_51 (by decide) ?_
        exact kRi C S h dX8_readNumber_52
    · have h := h.2 c1
      refine lv_iconst (v := 2) hx hb dX8_readNumber_25 (by decide) ?_
      exact kRi C S h dX8_readNumber_26
  · have h := h.2 c1
    refine lv_iconst (v := 1) hx hb dX8_readNumber_8 (by decide) ?_
    exact kRi C S h dX8_readNumber_9
/-! ClawCaseModel.readLaw()I, height 5 -/
theorem cw_X8_readLaw_X8_readNumber {s : State} {args : Array Value} (ht : ∀ w ∈ wsX8_readLaw, w.before args s = true) : CallW (rmD 5) s args RX8 RX8 119 yX8_readNumber cX8_readNumber 5 (some .int) wsX8_readNumber (rmD (4)) 0 0 4 := cwV 4 ht gX8_readLaw_X8_readNumber rfl rfl rfl (by decide +kernel) ⟨Nat.le_of_ble_eq_true rfl, Nat.le_of_ble_eq_true rfl⟩
theorem cw_X8_readLaw_X8_goOn {s : State} {args : Array Value} (ht : ∀ w ∈ wsX8_readLaw, w.before args s = true) : CallW (rmD 5) s args RX8 RX8 112 yX8_goOn cX8_goOn 1 none wsX8_goOn (rmD (3)) 0 0 0 := cwV 0 ht gX8_readLaw_X8_goOn rfl rfl rfl (by decide +kernel) ⟨Nat.le_of_ble_eq_true rfl, Nat.le_of_ble_eq_true rfl⟩
theorem cw_X8_readLaw_X8_isByte {s : State} {args : Array Value} (ht : ∀ w ∈ wsX8_readLaw, w.before args s = true) : CallW (rmD 5) s args RX8 RX8 115 yX8_isByte cX8_isByte 3 (some .boolean) wsX8_isByte (rmD (0)) 0 0 2 := cwV 2 ht gX8_readLaw_X8_isByte rfl rfl rfl (by decide +kernel) ⟨Nat.le_of_ble_eq_true rfl, Nat.le_of_ble_eq_true rfl⟩
def o_X8_readLaw_47 (Q : Int32 → Mm → Prop) (g : Mm) (s0 : Int32) : Prop := ((¬ s0 = 0) → Q s0 g) ∧ ((s0 = 0) → o_X8_readNumber (fun (r_8 : Int32) (g_7 : Mm) => Q r_8 g_7) g 18 1 9 59)
set_option maxHeartbeats 4000000 in
set_option maxRecDepth 100000 in
theorem o_X8_readLaw_47_w {p : Program} {l : Launch} {e : Env} {s : State} {m : MethodId} {args : Array Value} {below : List Frame} {meth : Method} {c : Code} {dC : Nat → ClassId} {dI : Nat → Nat → Nat} {cy : Nat → ClassId} {ad tz : Nat → Nat} {Q : Int32 → Mm → Prop} (C : CX p s m args meth c dC dI cy ad tz cX8_readLaw 2 (some .int) RX8 wsX8_readLaw) : ∀ (g : Mm) (s0 : Int32) (H : Heap) (locs : List Loc) (ls : Array Slot), St dC dI cy ad s g H locs → lv_has ls 2 [(0, .ref (ad 86))] → o_X8_readLaw_47 Q g s0 → W p l e (rmD 5) s m args below meth c H locs 0 0 (QI dC dI cy ad below args s Q) (F0 m 47 ls [.int s0]) := by
  have hx := C.1.1
  have hb := C.1.2.1
  intro g s0 H locs ls S hl h
  unfold o_X8_readLaw_47 at h
  refine lv_istore_n (lv' := [(1, .int s0), (0, .ref (ad 86))]) hx hb dX8_readLaw_47 rfl hl (by decide) rfl (fun ls hl => ?_)
  refine lv_iload_n hx hb dX8_readLaw_48 rfl (lv_at hl 0 rfl) ?_
  refine lv_if_ne (tgt := 66) hx hb dX8_readLaw_49 (by decide) (fun c1 => ?_) (fun c1 => ?_)
  · have h := h.1 c1
    refine lv_iload_n hx hb dX8_readLaw_66 rfl (lv_at hl 0 rfl) ?_
    exact kRi C S h dX8_readLaw_67
  · have h := h.2 c1
    refine lv_aload_n hx hb dX8_readLaw_52 rfl (lv_at hl 1 rfl) ?_
    refine lv_bipush (v := 18) hx hb dX8_readLaw_53 (by decide) ?_
    refine lv_iconst (v := 1) hx hb dX8_readLaw_55 (by decide) ?_
    refine lv_bipush (v := 9) hx hb dX8_readLaw_56 (by decide) ?_
    refine lv_bipush (v := 59) hx hb dX8_readLaw_58 (by decide) ?_
    refine kV_i (As := [.int 18, .int 1, .int 9, .int 59]) (rest := []) C S hl.1 (o_X8_readNumber_c h) (wd_o8 rfl) rfl (cw_X8_readLaw_X8_readNumber C.1.2.2.2.2) rfl rfl (Nat.le_of_ble_eq_true rfl) dX8_readLaw_60 (fun r_8 g_7 H locs h S => ?_)
    refine lv_goto (tgt := 67) hx hb dX8_readLaw_63 (by decide) ?_
    exact kRi C S h dX8_readLaw_67
def o_X8_readLaw (Q : Int32 → Mm → Prop) (g : Mm) : Prop := o_X8_isByte (fun (r_2 : Int32) (g_1 : Mm) => ((¬ r_2 = 0) → o_X8_goOn (fun (g_3 : Mm) => o_X8_readNumber (fun (r_6 : Int32) (g_5 : Mm) => ((¬ r_6 = 0) → o_X8_readLaw_47 Q g_5 r_6) ∧ ((r_6 = 0) → o_X8_readNumber (fun (r_10 : Int32) (g_9 : Mm) => o_X8_readLaw_47 Q g_9 r_10) g_5 17 0 9 44)) g_3 16 0 9 44) g_1) ∧ ((r_2 = 0) → Q 1 g_1)) g 1 103
set_option maxHeartbeats 4000000 in
set_option maxRecDepth 100000 in
theorem o_X8_readLaw_c {l : Launch} {dC : Nat → ClassId} {dI : Nat → Nat → Nat} {cy : Nat → ClassId} {ad tz : Nat → Nat} {Q : Int32 → Mm → Prop} {g : Mm} (h : o_X8_readLaw Q g) : CI l dC dI cy ad tz yX8_readLaw wsX8_readLaw (rmD 5) [.ref (ad 86)] g Q := by
  refine CI.of (by decide) rfl rfl (Nat.le_of_ble_eq_true rfl) ?_
  intro p e s m args below meth c ls C hl S
  have hl : lv_has ls 2 [(0, .ref (ad 86))] := hl
  have hx := C.1.1
  have hb := C.1.2.1
  unfold o_X8_readLaw at h
  refine lv_aload_n hx hb dX8_readLaw_0 rfl (lv_at hl 0 rfl) ?_
  refine lv_iconst (v := 1) hx hb dX8_readLaw_1 (by decide) ?_
  refine lv_bipush (v := 103) hx hb dX8_readLaw_2 (by decide) ?_
  refine kV_i (As := [.int 1, .int 103]) (rest := []) C S hl.1 (o_X8_isByte_c h) (wd_o8 rfl) rfl (cw_X8_readLaw_X8_isByte C.1.2.2.2.2) rfl rfl (Nat.le_of_ble_eq_true rfl) dX8_readLaw_4 (fun r_2 g_1 H locs h S => ?_)
  refine lv_if_ne (tgt := 12) hx hb dX8_readLaw_7 (by decide) (fun c1 => ?_) (fun c1 => ?_)
  · have h := h.1 c1
    refine lv_aload_n hx hb dX8_readLaw_12 rfl (lv_at hl 0 rfl) ?_
    refine kV_v (As := []) (rest := []) C S hl.1 (o_X8_goOn_c h) (wd_o8 rfl) rfl (cw_X8_readLaw_X8_goOn C.1.2.2.2.2) rfl rfl (Nat.le_of_ble_eq_true rfl) dX8_readLaw_13 (fun g_3 H locs h S => ?_)
    refine lv_aload_n hx hb dX8_readLaw_16 rfl (lv_at hl 0 rfl) ?_
    refine lv_bipush (v := 16) hx hb dX8_readLaw_17 (by decide) ?_
    refine lv_iconst (v := 0) hx hb dX8_readLaw_19 (by decide) ?_
    refine lv_bipush (v := 9) hx hb dX8_readLaw_20 (by decide) ?_
    refine lv_bipush (v := 44) hx hb dX8_readLaw_22 (by decide) ?_
    refine kV_i (As := [.int 16, .int 0, .int 9, .int 44]) (rest := []) C S hl.1 (o_X8_readNumber_c h) (wd_o8 rfl) rfl (cw_X8_readLaw_X8_readNumber C.1.2.2.2.2) rfl rfl (Nat.le_of_ble_eq_true rfl) dX8_readLaw_24 (fun r_6 g_5 H locs h S => ?_)
    refine lv_istore_n (lv' := [(1, .int r_6), (0, .ref (ad 86))]) hx hb dX8_readLaw_27 rfl hl (by decide) rfl (fun ls hl => ?_)
    refine lv_iload_n hx hb dX8_readLaw_28 rfl (lv_at hl 0 rfl) ?_
    refine lv_if_ne (tgt := 46) hx hb dX8_readLaw_29 (by decide) (fun c1 => ?_) (fun c1 => ?_)
    · have h := h.1 c1
      refine lv_iload_n hx hb dX8_readLaw_46 rfl (lv_at hl 0 rfl) ?_
      exact o_X8_readLaw_47_w C g_5 r_6 _ _ _ S (lv_sub hl [1] rfl) h
    · have h := h.2 c1
      refine lv_aload_n hx hb dX8_readLaw_32 rfl (lv_at hl 1 rfl) ?_
      refine lv_bipush (v := 17) hx hb dX8_readLaw_33 (by decide) ?_
      refine lv_iconst (v := 0) hx hb dX8_readLaw_35 (by decide) ?_
      refine lv_bipush (v := 9) hx hb dX8_readLaw_36 (by decide) ?_
      refine lv_bipush (v := 44) hx hb dX8_readLaw_38 (by decide) ?_
      refine kV_i (As := [.int 17, .int 0, .int 9, .int 44]) (rest := []) C S hl.1 (o_X8_readNumber_c h) (wd_o8 rfl) rfl (cw_X8_readLaw_X8_readNumber C.1.2.2.2.2) rfl rfl (Nat.le_of_ble_eq_true rfl) dX8_readLaw_40 (fun r_10 g_9 H locs h S => ?_)
      refine lv_goto (tgt := 47) hx hb dX8_readLaw_43 (by decide) ?_
      exact o_X8_readLaw_47_w C g_9 r_10 _ _ _ S (lv_sub hl [1] rfl) h
  · have h := h.2 c1
    refine lv_iconst (v := 1) hx hb dX8_readLaw_10 (by decide) ?_
    exact kRi C S h dX8_readLaw_11
/-! ClawCaseModel.sortBy(I)I, height 0 -/
def o_X8_sortBy (Q : Int32 → Mm → Prop) (g : Mm) (x1 : Int32) : Prop := ((¬ x1 = 98) → ((¬ x1 = 115) → ((¬ x1 = 108) → ((¬ x1 = 111) → ((¬ x1 = 101) → Q 0 g) ∧ ((x1 = 101) → Q 5 g)) ∧ ((x1 = 111) → Q 4 g)) ∧ ((x1 = 108) → Q 3 g)) ∧ ((x1 = 115) → Q 2 g)) ∧ ((x1 = 98) → Q 1 g)
set_option maxHeartbeats 4000000 in
set_option maxRecDepth 100000 in
theorem o_X8_sortBy_c {l : Launch} {dC : Nat → ClassId} {dI : Nat → Nat → Nat} {cy : Nat → ClassId} {ad tz : Nat → Nat} {Q : Int32 → Mm → Prop} {g : Mm} {x1 : Int32} (h : o_X8_sortBy Q g x1) : CI l dC dI cy ad tz yX8_sortBy wsX8_sortBy (rmD 0) [.ref (ad 86), .int x1] g Q := by
  refine CI.of (by decide) rfl rfl (Nat.le_of_ble_eq_true rfl) ?_
  intro p e s m args below meth c ls C hl S
  have hl : lv_has ls 2 [(0, .ref (ad 86)), (1, .int x1)] := hl
  have hx := C.1.1
  have hb := C.1.2.1
  unfold o_X8_sortBy at h
  refine lv_iload_n hx hb dX8_sortBy_0 rfl (lv_at hl 1 rfl) ?_
  refine lv_bipush (v := 98) hx hb dX8_sortBy_1 (by decide) ?_
  refine lv_icmp_ne (tgt := 10) hx hb dX8_sortBy_3 (by decide) (fun c1 => ?_) (fun c1 => ?_)
  · have h := h.1 c1
    refine lv_iload_n hx hb dX8_sortBy_10 rfl (lv_at hl 1 rfl) ?_
    refine lv_bipush (v := 115) hx hb dX8_sortBy_11 (by decide) ?_
    refine lv_icmp_ne (tgt := 20) hx hb dX8_sortBy_13 (by decide) (fun c1 => ?_) (fun c1 => ?_)
    · have h := h.1 c1
      refine lv_iload_n hx hb dX8_sortBy_20 rfl (lv_at hl 1 rfl) ?_
      refine lv_bipush (v := 108) hx hb dX8_sortBy_21 (by decide) ?_
      refine lv_icmp_ne (tgt := 30) hx hb dX8_sortBy_23 (by decide) (fun c1 => ?_) (fun c1 => ?_)
      · have h := h.1 c1
        refine lv_iload_n hx hb dX8_sortBy_30 rfl (lv_at hl 1 rfl) ?_
        refine lv_bipush (v := 111) hx hb dX8_sortBy_31 (by decide) ?_
        refine lv_icmp_ne (tgt := 40) hx hb dX8_sortBy_33 (by decide) (fun c1 => ?_) (fun c1 => ?_)
        · have h := h.1 c1
          refine lv_iload_n hx hb dX8_sortBy_40 rfl (lv_at hl 1 rfl) ?_
          refine lv_bipush (v := 101) hx hb dX8_sortBy_41 (by decide) ?_
          refine lv_icmp_ne (tgt := 50) hx hb dX8_sortBy_43 (by decide) (fun c1 => ?_) (fun c1 => ?_)
          · have h := h.1 c1
            refine lv_iconst (v := 0) hx hb dX8_sortBy_50 (by decide) ?_
            exact kRi C S h dX8_sortBy_51
          · have h := h.2 c1
            refine lv_iconst (v := 5) hx hb dX8_sortBy_46 (by decide) ?_
            refine lv_goto (tgt := 51) hx hb dX8_sortBy_47 (by decide) ?_
            exact kRi C S h dX8_sortBy_51
        · have h := h.2 c1
          refine lv_iconst (v := 4) hx hb dX8_sortBy_36 (by decide) ?_
          refine lv_goto (tgt := 51) hx hb dX8_sortBy_37 (by decide) ?_
          exact kRi C S h dX8_sortBy_51
      · have h := h.2 c1
        refine lv_iconst (v := 3) hx hb dX8_sortBy_26 (by decide) ?_
        refine lv_goto (tgt := 51) hx hb dX8_sortBy_27 (by decide) ?_
        exact kRi C S h dX8_sortBy_51
    · have h := h.2 c1
      refine lv_iconst (v := 2) hx hb dX8_sortBy_16 (by decide) ?_
      refine lv_goto (tgt := 51) hx hb dX8_sortBy_17 (by decide) ?_
      exact kRi C S h dX8_sortBy_51
  · have h := h.2 c1
    refine lv_iconst (v := 1) hx hb dX8_sortBy_6 (by decide) ?_
    refine lv_goto (tgt := 51) hx hb dX8_sortBy_7 (by decide) ?_
    exact kRi C S h dX8_sortBy_51
/-! ClawCaseModel.readToy()I, height 5 -/
theorem m_X8_readToy_1 : Cond.fieldLink RX8 41 "ClawCaseModel" "read" "[I" ∈ wsX8_readToy := List.mem_of_getElem? (i := 1) (by decide +kernel)
theorem n_X8_readToy_X8 : ∀ w ∈ wsX80, w ∈ wsX8_readToy := mem_by [39, 40, 41, 42, 43, 44, 45, 46, 47, 48, 49, 50, 51, 52, 53, 54, 55, 56, 57, 58, 59, 60, 61, 62] (by decide +kernel)
theorem m_X8_readToy_2 : Cond.fieldLink RX8 98 "ClawCaseModel" "token" "I" ∈ wsX8_readToy := List.mem_of_getElem? (i := 2) (by decide +kernel)
theorem cw_X8_readToy_X8_readNumber {s : State} {args : Array Value} (ht : ∀ w ∈ wsX8_readToy, w.before args s = true) : CallW (rmD 5) s args RX8 RX8 119 yX8_readNumber cX8_readNumber 5 (some .int) wsX8_readNumber (rmD (4)) 0 0 4 := cwV 4 ht gX8_readToy_X8_readNumber rfl rfl rfl (by decide +kernel) ⟨Nat.le_of_ble_eq_true rfl, Nat.le_of_ble_eq_true rfl⟩
theorem cw_X8_readToy_X8_goOn {s : State} {args : Array Value} (ht : ∀ w ∈ wsX8_readToy, w.before args s = true) : CallW (rmD 5) s args RX8 RX8 112 yX8_goOn cX8_goOn 1 none wsX8_goOn (rmD (3)) 0 0 0 := cwV 0 ht gX8_readToy_X8_goOn rfl rfl rfl (by decide +kernel) ⟨Nat.le_of_ble_eq_true rfl, Nat.le_of_ble_eq_true rfl⟩
theorem m_X8_readToy_3 : Cond.fieldLink RX8 38 "ClawCaseModel" "tape" "[I" ∈ wsX8_readToy := List.mem_of_getElem? (i := 3) (by decide +kernel)
theorem m_X8_readToy_4 : Cond.fieldLink RX8 89 "ClawCaseModel" "tokenAt" "I" ∈ wsX8_readToy := List.mem_of_getElem? (i := 4) (by decide +kernel)
theorem cw_X8_readToy_X8_sortBy {s : State} {args : Array Value} (ht : ∀ w ∈ wsX8_readToy, w.before args s = true) : CallW (rmD 5) s args RX8 RX8 123 yX8_sortBy cX8_sortBy 2 (some .int) wsX8_sortBy (rmD (0)) 0 0 1 := cwV 1 ht gX8_readToy_X8_sortBy rfl rfl rfl (by decide +kernel) ⟨Nat.le_of_ble_eq_true rfl, Nat.le_of_ble_eq_true rfl⟩
def o_X8_readToy_140 (Q : Int32 → Mm → Prop) (K105 : Mm → Int32 → Int32 → Int32 → Int32 → Prop) (K149 : Mm → Int32 → Int32 → Int32 → Prop) (g : Mm) (x1 : Int32) (x3 : Int32) (x5 : Int32) (s0 : Int32) (s1 : Int32) : Prop := ∀ x_7 : Int32, x_7 = (s0 + s1) → (∀ x_8 : Int32, x_8 = x5 + 1 → (K105 g x1 x3 x_7 x_8))
def o_X8_readToy_105 (Q : Int32 → Mm → Prop) (K149 : Mm → Int32 → Int32 → Int32 → Prop) : Nat → Mm → Int32 → Int32 → Int32 → Int32 → Prop
  | 0, _, _, _, _, _ => False
  | n105 + 1, g, x1, x3, x4, x5 => ((x1 ≤ x5) → K149 g x1 x3 x4) ∧ ((¬ x1 ≤ x5) → vp_in (19 + x5) 33 ∧ (vp_in (19 + x1) 33 ∧ (((¬ (g.1 97 (19 + x5 : Int32).toNatClampNeg) = (g.1 97 (19 + x1 : Int32).toNatClampNeg)) → o_X8_readToy_140 Q (o_X8_readToy_105 Q K149 n105) K149 g x1 x3 x5 x4 0) ∧ (((g.1 97 (19 + x5 : Int32).toNatClampNeg) = (g.1 97 (19 + x1 : Int32).toNatClampNeg)) → o_X8_readToy_140 Q (o_X8_readToy_105 Q K149 n105) K149 g x1 x3 x5 x4 1))))
def o_X8_readToy_94 (Q : Int32 → Mm → Prop) (g : Mm) (x1 : Int32) (s0 : Int32) : Prop := ((¬ s0 = 0) → Q s0 g) ∧ ((s0 = 0) → ∃ n105, o_X8_readToy_105 Q (fun (g : Mm) (x1 : Int32) (x3 : Int32) (x4 : Int32) => vp_in (26 + x1) 33 ∧ (∀ g_9 : Mm, g_9 = mset g 97 (26 + x1 : Int32).toNatClampNeg x4 → (vp_in 0 33 ∧ (vp_in 0 33 ∧ (∀ g_10 : Mm, g_10 = mset g_9 97 (0 : Int32).toNatClampNeg ((g_9.1 97 (0 : Int32).toNatClampNeg) + 1) → (Q x3 g_10)))))) n105 g x1 s0 0 0)
def o_X8_readToy_32 (Q : Int32 → Mm → Prop) (g : Mm) (x1 : Int32) (s0 : Int32) : Prop := ((¬ s0 = 0) → ((¬ x1 = 7) → vp_in (1 + x1) 33 ∧ (∀ g_2 : Mm, g_2 = mset g 97 (1 + x1 : Int32).toNatClampNeg s0 → (o_X8_goOn (fun (g_3 : Mm) => o_X8_readNumber (fun (r_6 : Int32) (g_5 : Mm) => ((¬ r_6 = 0) → o_X8_readToy_94 Q g_5 x1 r_6) ∧ ((r_6 = 0) → o_X8_readNumber (fun (r_12 : Int32) (g_11 : Mm) => o_X8_readToy_94 Q g_11 x1 r_12) g_5 (19 + x1) 1 5 59)) g_3 (8 + x1) 1 9 44) g_2))) ∧ ((x1 = 7) → Q 3 g)) ∧ ((s0 = 0) → Q 1 g)
set_option maxHeartbeats 4000000 in
set_option maxRecDepth 100000 in
theorem o_X8_readToy_140_w {p : Program} {l : Launch} {e : Env} {s : State} {m : MethodId} {args : Array Value} {below : List Frame} {meth : Method} {c : Code} {dC : Nat → ClassId} {dI : Nat → Nat → Nat} {cy : Nat → ClassId} {ad tz : Nat → Nat} {Q : Int32 → Mm → Prop} {K105 : Mm → Int32 → Int32 → Int32 → Int32 → Prop} {K149 : Mm → Int32 → Int32 → Int32 → Prop} (C : CX p s m args meth c dC dI cy ad tz cX8_readToy 6 (some .int) RX8 wsX8_readToy) (hK105 : ∀ (g : Mm) (x1 : Int32) (x3 : Int32) (x4 : Int32) (x5 : Int32) (H : Heap) (locs : List Loc) (ls : Array Slot), St dC dI cy ad s g H locs → lv_has ls 6 [(0, .ref (ad 86)), (1, .int x1), (3, .int x3), (4, .int x4), (5, .int x5)] → K105 g x1 x3 x4 x5 → W p l e (rmD 5) s m args below meth c H locs 0 0 (QI dC dI cy ad below args s Q) (F0 m 105 ls [])) (hK149 : ∀ (g : Mm) (x1 : Int32) (x3 : Int32) (x4 : Int32) (H : Heap) (locs : List Loc) (ls : Array Slot), St dC dI cy ad s g H locs → lv_has ls 6 [(0, .ref (ad 86)), (1, .int x1), (3, .int x3), (4, .int x4)] → K149 g x1 x3 x4 → W p l e (rmD 5) s m args below meth c H locs 0 0 (QI dC dI cy ad below args s Q) (F0 m 149 ls [])) : ∀ (g : Mm) (x1 : Int32) (x3 : Int32) (x5 : Int32) (s0 : Int32) (s1 : Int32) (H : Heap) (locs : List Loc) (ls : Array Slot), St dC dI cy ad s g H locs → lv_has ls 6 [(0, .ref (ad 86)), (1, .int x1), (3, .int x3), (5, .int x5)] → o_X8_readToy_140 Q K105 K149 g x1 x3 x5 s0 s1 → W p l e (rmD 5) s m args below meth c H locs 0 0 (QI dC dI cy ad below args s Q) (F0 m 140 ls [.int s1, .int s0]) := by
  have hx := C.1.1
  have hb := C.1.2.1
  intro g x1 x3 x5 s0 s1 H locs ls S hl h
  unfold o_X8_readToy_140 at h
  refine lv_iadd hx hb dX8_readToy_140 ?_
  refine lv_topi (fun x_7 ex_7 => ?_)
  have h := h x_7 ex_7
  refine lv_istore (lv' := [(4, .int x_7), (0, .ref (ad 86)), (1, .int x1), (3, .int x3), (5, .int x5)]) hx hb dX8_readToy_141 hl (by decide) rfl (fun ls hl => ?_)
  obtain ⟨x_8, ex_8⟩ : ∃ y : Int32, y = x5 + 1 := ⟨_, rfl⟩
  have h := h x_8 ex_8
  refine lv_iinc (v := x_8) (lv' := [(5, .int x_8), (4, .int x_7), (0, .ref (ad 86)), (1, .int x1), (3, .int x3)]) hx hb dX8_readToy_143 hl (k := 4) rfl (by rw [ex_8]; rfl) (by decide) rfl (fun ls hl => ?_)
  refine lv_goto (tgt := 105) hx hb dX8_readToy_146 (by decide) ?_
  exact hK105 g x1 x3 x_7 x_8 _ _ _ S (lv_sub hl [2, 3, 4, 1, 0] rfl) h
set_option maxHeartbeats 4000000 in
set_option maxRecDepth 100000 in
theorem o_X8_readToy_105_w {p : Program} {l : Launch} {e : Env} {s : State} {m : MethodId} {args : Array Value} {below : List Frame} {meth : Method} {c : Code} {dC : Nat → ClassId} {dI : Nat → Nat → Nat} {cy : Nat → ClassId} {ad tz : Nat → Nat} {Q : Int32 → Mm → Prop} {K149 : Mm → Int32 → Int32 → Int32 → Prop} (C : CX p s m args meth c dC dI cy ad tz cX8_readToy 6 (some .int) RX8 wsX8_readToy) (hK149 : ∀ (g : Mm) (x1 : Int32) (x3 : Int32) (x4 : Int32) (H : Heap) (locs : List Loc) (ls : Array Slot), St dC dI cy ad s g H locs → lv_has ls 6 [(0, .ref (ad 86)), (1, .int x1), (3, .int x3), (4, .int x4)] → K149 g x1 x3 x4 → W p l e (rmD 5) s m args below meth c H locs 0 0 (QI dC dI cy ad below args s Q) (F0 m 149 ls [])) : ∀ (n : Nat) (g : Mm) (x1 : Int32) (x3 : Int32) (x4 : Int32) (x5 : Int32) (H : Heap) (locs : List Loc) (ls : Array Slot), St dC dI cy ad s g H locs → lv_has ls 6 [(0, .ref (ad 86)), (1, .int x1), (3, .int x3), (4, .int x4), (5, .int x5)] → o_X8_readToy_105 Q K149 n g x1 x3 x4 x5 → W p l e (rmD 5) s m args below meth c H locs 0 0 (QI dC dI cy ad below args s Q) (F0 m 105 ls []) := by
  have hx := C.1.1
  have hb := C.1.2.1
  intro n105
  induction n105 with
  | zero => intro g x1 x3 x4 x5 H locs ls S hl h; exact h.elim
  | succ n105 ih =>
    intro g x1 x3 x4 x5 H locs ls S hl h
    have h : ((x1 ≤ x5) → K149 g x1 x3 x4) ∧ ((¬ x1 ≤ x5) → vp_in (19 + x5) 33 ∧ (vp_in (19 + x1) 33 ∧ (((¬ (g.1 97 (19 + x5 : Int32).toNatClampNeg) = (g.1 97 (19 + x1 : Int32).toNatClampNeg)) → o_X8_readToy_140 Q (o_X8_readToy_105 Q K149 n105) K149 g x1 x3 x5 x4 0) ∧ (((g.1 97 (19 + x5 : Int32).toNatClampNeg) = (g.1 97 (19 + x1 : Int32).toNatClampNeg)) → o_X8_readToy_140 Q (o_X8_readToy_105 Q K149 n105) K149 g x1 x3 x5 x4 1)))) := h
    refine lv_iload hx hb dX8_readToy_105 (lv_at hl 4 rfl) ?_
    refine lv_iload_n hx hb dX8_readToy_107 rfl (lv_at hl 1 rfl) ?_
    refine lv_icmp_ge (tgt := 149) hx hb dX8_readToy_108 (by decide) (fun c1 => ?_) (fun c1 => ?_)
    · have h := h.1 c1
      exact hK149 g x1 x3 x4 _ _ _ S (lv_sub hl [0, 1, 2, 3] rfl) h
    · have h := h.2 c1
      refine lv_iload hx hb dX8_readToy_111 (lv_at hl 3 rfl) ?_
      refine lv_aload_n hx hb dX8_readToy_113 rfl (lv_at hl 0 rfl) ?_
      refine kg8 (k := 18) (v := .ref (ad 97)) C S rfl (by decide) n_X8_readToy_X8 m_X8_readToy_1 rfl dX8_readToy_114 ?_
      refine lv_bipush (v := 19) hx hb dX8_readToy_117 (by decide) ?_
      refine lv_iload hx hb dX8_readToy_119 (lv_at hl 4 rfl) ?_
      refine lv_iadd hx hb dX8_readToy_121 ?_
      obtain ⟨hi, h⟩ := h
      refine kLi C S rfl rfl hi dX8_readToy_122 ?_
      refine lv_aload_n hx hb dX8_readToy_123 rfl (lv_at hl 0 rfl) ?_
      refine kg8 (k := 18) (v := .ref (ad 97)) C S rfl (by decide) n_X8_readToy_X8 m_X8_readToy_1 rfl dX8_readToy_124 ?_
      refine lv_bipush (v := 19) hx hb dX8_readToy_127 (by decide) ?_
      refine lv_iload_n hx hb dX8_readToy_129 rfl (lv_at hl 1 rfl) ?_
      refine lv_iadd hx hb dX8_readToy_130 ?_
      obtain ⟨hi, h⟩ := h
      refine kLi C S rfl rfl hi dX8_readToy_131 ?_
      refine lv_icmp_ne (tgt := 139) hx hb dX8_readToy_132 (by decide) (fun c1 => ?_) (fun c1 => ?_)
      · have h := h.1 c1
        refine lv_iconst (v := 0) hx hb dX8_readToy_139 (by decide) ?_
        exact o_X8_readToy_140_w C ih hK149 g x1 x3 x5 x4 0 _ _ _ S (lv_sub hl [0, 1, 2, 4] rfl) h
      · have h := h.2 c1
        refine lv_iconst (v := 1) hx hb dX8_readToy_135 (by decide) ?_
        refine lv_goto (tgt := 140) hx hb dX8_readToy_136 (by decide) ?_
        exact o_X8_readToy_140_w C ih hK149 g x1 x3 x5 x4 1 _ _ _ S (lv_sub hl [0, 1, 2, 4] rfl) h
set_option maxHeartbeats 4000000 in
set_option maxRecDepth 100000 in
theorem o_X8_readToy_94_w {p : Program} {l : Launch} {e : Env} {s : State} {m : MethodId} {args : Array Value} {below : List Frame} {meth : Method} {c : Code} {dC : Nat → ClassId} {dI : Nat → Nat → Nat} {cy : Nat → ClassId} {ad tz : Nat → Nat} {Q : Int32 → Mm → Prop} (C : CX p s m args meth c dC dI cy ad tz cX8_readToy 6 (some .int) RX8 wsX8_readToy) : ∀ (g : Mm) (x1 : Int32) (s0 : Int32) (H : Heap) (locs : List Loc) (ls : Array Slot), St dC dI cy ad s g H locs → lv_has ls 6 [(0, .ref (ad 86)), (1, .int x1)] → o_X8_readToy_94 Q g x1 s0 → W p l e (rmD 5) s m args below meth c H locs 0 0 (QI dC dI cy ad below args s Q) (F0 m 94 ls [.int s0]) := by
  have hx := C.1.1
  have hb := C.1.2.1
  intro g x1 s0 H locs ls S hl h
  unfold o_X8_readToy_94 at h
  refine lv_istore_n (lv' := [(3, .int s0), (0, .ref (ad 86)), (1, .int x1)]) hx hb dX8_readToy_94 rfl hl (by decide) rfl (fun ls hl => ?_)
  refine lv_iload_n hx hb dX8_readToy_95 rfl (lv_at hl 0 rfl) ?_
  refine lv_if_ne (tgt := 170) hx hb dX8_readToy_96 (by decide) (fun c1 => ?_) (fun c1 => ?_)
  · have h := h.1 c1
    refine lv_iload_n hx hb dX8_readToy_170 rfl (lv_at hl 0 rfl) ?_
    exact kRi C S h dX8_readToy_171
  · have h := h.2 c1
    refine lv_iconst (v := 0) hx hb dX8_readToy_99 (by decide) ?_
    refine lv_istore (lv' := [(4, .int 0), (3, .int s0), (0, .ref (ad 86)), (1, .int x1)]) hx hb dX8_readToy_100 hl (by decide) rfl (fun ls hl => ?_)
    refine lv_iconst (v := 0) hx hb dX8_readToy_102 (by decide) ?_
    refine lv_istore (lv' := [(5, .int 0), (4, .int 0), (3, .int s0), (0, .ref (ad 86)), (1, .int x1)]) hx hb dX8_readToy_103 hl (by decide) rfl (fun ls hl => ?_)
    obtain ⟨n105, h⟩ := h
    refine o_X8_readToy_105_w C ?_ n105 g x1 s0 0 0 _ _ _ S (lv_sub hl [3, 4, 2, 1, 0] rfl) h
    · intro g x1 x3 x4 H locs ls S hl h
      refine lv_aload_n hx hb dX8_readToy_149 rfl (lv_at hl 0 rfl) ?_
      refine kg8 (k := 18) (v := .ref (ad 97)) C S rfl (by decide) n_X8_readToy_X8 m_X8_readToy_1 rfl dX8_readToy_150 ?_
      refine lv_bipush (v := 26) hx hb dX8_readToy_153 (by decide) ?_
      refine lv_iload_n hx hb dX8_readToy_155 rfl (lv_at hl 1 rfl) ?_
      refine lv_iadd hx hb dX8_readToy_156 ?_
      refine lv_iload hx hb dX8_readToy_157 (lv_at hl 3 rfl) ?_
      obtain ⟨hi, h⟩ := h
      refine kSi C S rfl rfl hi dX8_readToy_159 (fun g_9 H locs eg_9 S => ?_)
      have h := h g_9 eg_9
      refine lv_aload_n hx hb dX8_readToy_160 rfl (lv_at hl 0 rfl) ?_
      refine kg8 (k := 18) (v := .ref (ad 97)) C S rfl (by decide) n_X8_readToy_X8 m_X8_readToy_1 rfl dX8_readToy_161 ?_
      refine lv_iconst (v := 0) hx hb dX8_readToy_164 (by decide) ?_
      refine lv_dup2_11 hx hb dX8_readToy_165 rfl rfl ?_
      obtain ⟨hi, h⟩ := h
      refine kLi C S rfl rfl hi dX8_readToy_166 ?_
      refine lv_iconst (v := 1) hx hb dX8_readToy_167 (by decide) ?_
      refine lv_iadd hx hb dX8_readToy_168 ?_
      obtain ⟨hi, h⟩ := h
      refine kSi C S rfl rfl hi dX8_readToy_169 (fun g_10 H locs eg_10 S => ?_)
      have h := h g_10 eg_10
      refine lv_iload_n hx hb dX8_readToy_170 rfl (lv_at hl 2 rfl) ?_
      exact kRi C S h dX8_readToy_171
set_option maxHeartbeats 4000000 in
set_option maxRecDepth 100000 in
theorem o_X8_readToy_32_w {p : Program} {l : Launch} {e : Env} {s : State} {m : MethodId} {args : Array Value} {below : List Frame} {meth : Method} {c : Code} {dC : Nat → ClassId} {dI : Nat → Nat → Nat} {cy : Nat → ClassId} {ad tz : Nat → Nat} {Q : Int32 → Mm → Prop} (C : CX p s m args meth c dC dI cy ad tz cX8_readToy 6 (some .int) RX8 wsX8_readToy) : ∀ (g : Mm) (x1 : Int32) (s0 : Int32) (H : Heap) (locs : List Loc) (ls : Array Slot), St dC dI cy ad s g H locs → lv_has ls 6 [(0, .ref (ad 86)), (1, .int x1)] → o_X8_readToy_32 Q g x1 s0 → W p l e (rmD 5) s m args below meth c H locs 0 0 (QI dC dI cy ad below args s Q) (F0 m 32 ls [.int s0]) := by
  have hx := C.1.1
  have hb := C.1.2.1
  intro g x1 s0 H locs ls S hl h
  unfold o_X8_readToy_32 at h
  refine lv_istore_n (lv' := [(2, .int s0), (0, .ref (ad 86)), (1, .int x1)]) hx hb dX8_readToy_32 rfl hl (by decide) rfl (fun ls hl => ?_)
  refine lv_iload_n hx hb dX8_readToy_33 rfl (lv_at hl 0 rfl) ?_
  refine lv_if_ne (tgt := 39) hx hb dX8_readToy_34 (by decide) (fun c1 => ?_) (fun c1 => ?_)
  · have h := h.1 c1
    refine lv_iload_n hx hb dX8_readToy_39 rfl (lv_at hl 2 rfl) ?_
    refine lv_bipush (v := 7) hx hb dX8_readToy_40 (by decide) ?_
    refine lv_icmp_ne (tgt := 47) hx hb dX8_readToy_42 (by decide) (fun c1 => ?_) (fun c1 => ?_)
    · have h := h.1 c1
      refine lv_aload_n hx hb dX8_readToy_47 rfl (lv_at hl 1 rfl) ?_
      refine kg8 (k := 18) (v := .ref (ad 97)) C S rfl (by decide) n_X8_readToy_X8 m_X8_readToy_1 rfl dX8_readToy_48 ?_
      refine lv_iconst (v := 1) hx hb dX8_readToy_51 (by decide) ?_
      refine lv_iload_n hx hb dX8_readToy_52 rfl (lv_at hl 2 rfl) ?_
      refine lv_iadd hx hb dX8_readToy_53 ?_
      refine lv_iload_n hx hb dX8_readToy_54 rfl (lv_at hl 0 rfl) ?_
      obtain ⟨hi, h⟩ := h
      refine kSi C S rfl rfl hi dX8_readToy_55 (fun g_2 H locs eg_2 S => ?_)
      have h := h g_2 eg_2
      refine lv_aload_n hx hb dX8_readToy_56 rfl (lv_at hl 1 rfl) ?_
      refine kV_v (As := []) (rest := []) C S hl.1 (o_X8_goOn_c h) (wd_o8 rfl) rfl (cw_X8_readToy_X8_goOn C.1.2.2.2.2) rfl rfl (Nat.le_of_ble_eq_true rfl) dX8_readToy_57 (fun g_3 H locs h S => ?_)
      refine lv_aload_n hx hb dX8_readToy_60 rfl (lv_at hl 1 rfl) ?_
      refine lv_bipush (v := 8) hx hb dX8_readToy_61 (by decide) ?_
      refine lv_iload_n hx hb dX8_readToy_63 rfl (lv_at hl 2 rfl) ?_
      refine lv_iadd hx hb dX8_readToy_64 ?_
      refine lv_iconst (v := 1) hx hb dX8_readToy_65 (by decide) ?_
      refine lv_bipush (v := 9) hx hb dX8_readToy_66 (by decide) ?_
      refine lv_bipush (v := 44) hx hb dX8_readToy_68 (by decide) ?_
      refine kV_i (As := [.int (8 + x1), .int 1, .int 9, .int 44]) (rest := []) C S hl.1 (o_X8_readNumber_c h) (wd_o8 rfl) rfl (cw_X8_readToy_X8_readNumber C.1.2.2.2.2) rfl rfl (Nat.le_of_ble_eq_true rfl) dX8_readToy_70 (fun r_6 g_5 H locs h S => ?_)
      refine lv_istore_n (lv' := [(3, .int r_6), (2, .int s0), (0, .ref (ad 86)), (1, .int x1)]) hx hb dX8_readToy_73 rfl hl (by decide) rfl (fun ls hl => ?_)
      refine lv_iload_n hx hb dX8_readToy_74 rfl (lv_at hl 0 rfl) ?_
      refine lv_if_ne (tgt := 93) hx hb dX8_readToy_75 (by decide) (fun c1 => ?_) (fun c1 => ?_)
      · have h := h.1 c1
        refine lv_iload_n hx hb dX8_readToy_93 rfl (lv_at hl 0 rfl) ?_
        exact o_X8_readToy_94_w C g_5 x1 r_6 _ _ _ S (lv_sub hl [2, 3] rfl) h
      · have h := h.2 c1
        refine lv_aload_n hx hb dX8_readToy_78 rfl (lv_at hl 2 rfl) ?_
        refine lv_bipush (v := 19) hx hb dX8_readToy_79 (by decide) ?_
        refine lv_iload_n hx hb dX8_readToy_81 rfl (lv_at hl 3 rfl) ?_
        refine lv_iadd hx hb dX8_readToy_82 ?_
        refine lv_iconst (v := 1) hx hb dX8_readToy_83 (by decide) ?_
        refine lv_iconst (v := 5) hx hb dX8_readToy_84 (by decide) ?_
        refine lv_bipush (v := 59) hx hb dX8_readToy_85 (by decide) ?_
        refine kV_i (As := [.int (19 + x1), .int 1, .int 5, .int 59]) (rest := []) C S hl.1 (o_X8_readNumber_c h) (wd_o8 rfl) rfl (cw_X8_readToy_X8_readNumber C.1.2.2.2.2) rfl rfl (Nat.le_of_ble_eq_true rfl) dX8_readToy_87 (fun r_12 g_11 H locs h S => ?_)
        refine lv_goto (tgt := 94) hx hb dX8_readToy_90 (by decide) ?_
        exact o_X8_readToy_94_w C g_11 x1 r_12 _ _ _ S (lv_sub hl [2, 3] rfl) h
    · have h := h.2 c1
      refine lv_iconst (v := 3) hx hb dX8_readToy_45 (by decide) ?_
      exact kRi C S h dX8_readToy_46
  · have h := h.2 c1
    refine lv_iconst (v := 1) hx hb dX8_readToy_37 (by decide) ?_
    exact kRi C S h dX8_readToy_38
def o_X8_readToy (Q : Int32 → Mm → Prop) (g : Mm) : Prop := vp_in 0 33 ∧ (∀ x_1 : Int32, x_1 = (g.1 97 (0 : Int32).toNatClampNeg) → (((¬ (g.1 86 16) = 1) → o_X8_readToy_32 Q g x_1 0) ∧ (((g.1 86 16) = 1) → vp_in (g.1 86 14) 70 ∧ (o_X8_sortBy (fun (r_14 : Int32) (g_13 : Mm) => o_X8_readToy_32 Q g_13 x_1 r_14) g (g.1 96 (g.1 86 14 : Int32).toNatClampNeg)))))
set_option maxHeartbeats 4000000 in
set_option maxRecDepth 100000 in
theorem o_X8_readToy_c {l : Launch} {dC : Nat → ClassId} {dI : Nat → Nat → Nat} {cy : Nat → ClassId} {ad tz : Nat → Nat} {Q : Int32 → Mm → Prop} {g : Mm} (h : o_X8_readToy Q g) : CI l dC dI cy ad tz yX8_readToy wsX8_readToy (rmD 5) [.ref (ad 86)] g Q := by
  refine CI.of (by decide) rfl rfl (Nat.le_of_ble_eq_true rfl) ?_
  intro p e s m args below meth c ls C hl S
  have hl : lv_has ls 6 [(0, .ref (ad 86))] := hl
  have hx := C.1.1
  have hb := C.1.2.1
  unfold o_X8_readToy at h
  refine lv_aload_n hx hb dX8_readToy_0 rfl (lv_at hl 0 rfl) ?_
  refine kg8 (k := 18) (v := .ref (ad 97)) C S rfl (by decide) n_X8_readToy_X8 m_X8_readToy_1 rfl dX8_readToy_1 ?_
  refine lv_iconst (v := 0) hx hb dX8_readToy_4 (by decide) ?_
  obtain ⟨hi, h⟩ := h
  refine kLi C S rfl rfl hi dX8_readToy_5 ?_
  refine lv_topi (fun x_1 ex_1 => ?_)
  have h := h x_1 ex_1
  refine lv_istore_n (lv' := [(1, .int x_1), (0, .ref (ad 86))]) hx hb dX8_readToy_6 rfl hl (by decide) rfl (fun ls hl => ?_)
  refine lv_aload_n hx hb dX8_readToy_7 rfl (lv_at hl 1 rfl) ?_
  refine kg8 (k := 16) (v := .int (g.1 86 16)) C S rfl (by decide) n_X8_readToy_X8 m_X8_readToy_2 rfl dX8_readToy_8 ?_
  refine lv_iconst (v := 1) hx hb dX8_readToy_11 (by decide) ?_
  refine lv_icmp_ne (tgt := 31) hx hb dX8_readToy_12 (by decide) (fun c1 => ?_) (fun c1 => ?_)
  · have h := h.1 c1
    refine lv_iconst (v := 0) hx hb dX8_readToy_31 (by decide) ?_
    exact o_X8_readToy_32_w C g x_1 0 _ _ _ S (lv_sub hl [1, 0] rfl) h
  · have h := h.2 c1
    refine lv_aload_n hx hb dX8_readToy_15 rfl (lv_at hl 1 rfl) ?_
    refine lv_aload_n hx hb dX8_readToy_16 rfl (lv_at hl 1 rfl) ?_
    refine kg8 (k := 11) (v := .ref (ad 96)) C S rfl (by decide) n_X8_readToy_X8 m_X8_readToy_3 rfl dX8_readToy_17 ?_
    refine lv_aload_n hx hb dX8_readToy_20 rfl (lv_at hl 1 rfl) ?_
    refine kg8 (k := 14) (v := .int (g.1 86 14)) C S rfl (by decide) n_X8_readToy_X8 m_X8_readToy_4 rfl dX8_readToy_21 ?_
    obtain ⟨hi, h⟩ := h
    refine kLi C S rfl rfl hi dX8_readToy_24 ?_
    refine kV_i (As := [.int (g.1 96 (g.1 86 14 : Int32).toNatClampNeg)]) (rest := []) C S hl.1 (o_X8_sortBy_c h) (wd_o8 rfl) rfl (cw_X8_readToy_X8_sortBy C.1.2.2.2.2) rfl rfl (Nat.le_of_ble_eq_true rfl) dX8_readToy_25 (fun r_14 g_13 H locs h S => ?_)
    refine lv_goto (tgt := 32) hx hb dX8_readToy_28 (by decide) ?_
    exact o_X8_readToy_32_w C g_13 x_1 r_14 _ _ _ S (lv_sub hl [1, 0] rfl) h
/-! ClawCaseModel.glass()I, height 6 -/
theorem m_X8_glass_1 : Cond.fieldLink RX8 41 "ClawCaseModel" "read" "[I" ∈ wsX8_glass := List.mem_of_getElem? (i := 1) (by decide +kernel)
theorem n_X8_glass_X8 : ∀ w ∈ wsX80, w ∈ wsX8_glass := mem_by [51, 52, 53, 54, 55, 56, 57, 58, 59, 60, 61, 62, 63, 64, 65, 66, 67, 68, 69, 70, 71, 72, 73, 74] (by decide +kernel)
theorem m_X8_glass_2 : Cond.fieldLink RX8 98 "ClawCaseModel" "token" "I" ∈ wsX8_glass := List.mem_of_getElem? (i := 2) (by decide +kernel)
theorem cw_X8_glass_X8_readToy {s : State} {args : Array Value} (ht : ∀ w ∈ wsX8_glass, w.before args s = true) : CallW (rmD 6) s args RX8 RX8 130 yX8_readToy cX8_readToy 6 (some .int) wsX8_readToy (rmD (5)) 0 0 0 := cwV 0 ht gX8_glass_X8_readToy rfl rfl rfl (by decide +kernel) ⟨Nat.le_of_ble_eq_true rfl, Nat.le_of_ble_eq_true rfl⟩
theorem m_X8_glass_3 : Cond.fieldLink RX8 81 "ClawCaseModel" "tapeLong" "I" ∈ wsX8_glass := List.mem_of_getElem? (i := 3) (by decide +kernel)
theorem m_X8_glass_7 : Cond.fieldLink RX8 7 "ClawCaseModel" "now" "[I" ∈ wsX8_glass := List.mem_of_getElem? (i := 7) (by decide +kernel)
theorem m_X8_glass_8 : Cond.fieldLink RX8 137 "ClawCaseModel" "manyActs" "I" ∈ wsX8_glass := List.mem_of_getElem? (i := 8) (by decide +kernel)
theorem m_X8_glass_4 : Cond.fieldLink RX8 133 "ClawCaseModel" "latestFault" "I" ∈ wsX8_glass := List.mem_of_getElem? (i := 4) (by decide +kernel)
theorem m_X8_glass_5 : Cond.constant RX8 136 (-1000100) ∈ wsX8_glass := List.mem_of_getElem? (i := 5) (by decide +kernel)
theorem m_X8_glass_6 : Cond.fieldLink RX8 89 "ClawCaseModel" "tokenAt" "I" ∈ wsX8_glass := List.mem_of_getElem? (i := 6) (by decide +kernel)
theorem cw_X8_glass_X8_readLaw {s : State} {args : Array Value} (ht : ∀ w ∈ wsX8_glass, w.before args s = true) : CallW (rmD 6) s args RX8 RX8 126 yX8_readLaw cX8_readLaw 2 (some .int) wsX8_readLaw (rmD (5)) 0 0 0 := cwV 0 ht gX8_glass_X8_readLaw rfl rfl rfl (by decide +kernel) ⟨Nat.le_of_ble_eq_true rfl, Nat.le_of_ble_eq_true rfl⟩
theorem cw_X8_glass_X8_look {s : State} {args : Array Value} (ht : ∀ w ∈ wsX8_glass, w.before args s = true) : CallW (rmD 6) s args RX8 RX8 108 yX8_look cX8_look 4 none wsX8_look (rmD (2)) 0 0 1 := cwV 1 ht gX8_glass_X8_look rfl rfl rfl (by decide +kernel) ⟨Nat.le_of_ble_eq_true rfl, Nat.le_of_ble_eq_true rfl⟩
def o_X8_glass_2 (Q : Int32 → Mm → Prop) (K21 : Mm → Prop) : Nat → Mm → Int32 → Prop
  | 0, _, _ => False
  | n2 + 1, g, x1 => ((33 ≤ x1) → K21 g) ∧ ((¬ 33 ≤ x1) → vp_in x1 33 ∧ (∀ g_1 : Mm, g_1 = mset g 97 x1.toNatClampNeg 0 → (∀ x_2 : Int32, x_2 = x1 + 1 → (o_X8_glass_2 Q K21 n2 g_1 x_2))))
def o_X8_glass_51 (Q : Int32 → Mm → Prop) (K31 : Mm → Int32 → Prop) (K59 : Mm → Int32 → Prop) (g : Mm) : Prop := o_X8_readToy (fun (r_8 : Int32) (g_7 : Mm) => K31 g_7 r_8) g
def o_X8_glass_31 (Q : Int32 → Mm → Prop) (K59 : Mm → Int32 → Prop) : Nat → Mm → Int32 → Prop
  | 0, _, _ => False
  | n31 + 1, g, x1 => ((¬ x1 = 0) → K59 g x1) ∧ ((x1 = 0) → ((¬ (g.1 86 16) = 0) → o_X8_glass_51 Q (o_X8_glass_31 Q K59 n31) K59 g) ∧ (((g.1 86 16) = 0) → vp_in 0 33 ∧ (((¬ (g.1 97 (0 : Int32).toNatClampNeg) = 0) → K59 g x1) ∧ (((g.1 97 (0 : Int32).toNatClampNeg) = 0) → o_X8_glass_51 Q (o_X8_glass_31 Q K59 n31) K59 g))))
def o_X8_glass_83 (Q : Int32 → Mm → Prop) (K107 : Mm → Prop) : Nat → Mm → Int32 → Prop
  | 0, _, _ => False
  | n83 + 1, g, x2 => ((33 ≤ x2) → K107 g) ∧ ((¬ 33 ≤ x2) → vp_in x2 33 ∧ (vp_in x2 33 ∧ (∀ g_10 : Mm, g_10 = mset g 87 x2.toNatClampNeg (g.1 97 x2.toNatClampNeg) → (∀ x_11 : Int32, x_11 = x2 + 1 → (o_X8_glass_83 Q K107 n83 g_10 x_11)))))
def o_X8_glass_59 (Q : Int32 → Mm → Prop) (g : Mm) (x1 : Int32) : Prop := ∀ g_9 : Mm, g_9 = mset g 86 12 0 → (((x1 = 0) → ∃ n83, o_X8_glass_83 Q (fun (g : Mm) => ∀ g_12 : Mm, g_12 = mset g 86 4 0 → (vp_in 0 33 ∧ (Q (g_12.1 87 (0 : Int32).toNatClampNeg) g_12))) n83 g_9 0) ∧ ((¬ x1 = 0) → ∀ g_13 : Mm, g_13 = mset g_9 86 13 x1 → (Q ((-1000100) - (g_13.1 86 14)) g_13)))
set_option maxHeartbeats 4000000 in
set_option maxRecDepth 100000 in
theorem o_X8_glass_2_w {p : Program} {l : Launch} {e : Env} {s : State} {m : MethodId} {args : Array Value} {below : List Frame} {meth : Method} {c : Code} {dC : Nat → ClassId} {dI : Nat → Nat → Nat} {cy : Nat → ClassId} {ad tz : Nat → Nat} {Q : Int32 → Mm → Prop} {K21 : Mm → Prop} (C : CX p s m args meth c dC dI cy ad tz cX8_glass 3 (some .int) RX8 wsX8_glass) (hK21 : ∀ (g : Mm) (H : Heap) (locs : List Loc) (ls : Array Slot), St dC dI cy ad s g H locs → lv_has ls 3 [(0, .ref (ad 86))] → K21 g → W p l e (rmD 6) s m args below meth c H locs 0 0 (QI dC dI cy ad below args s Q) (F0 m 21 ls [])) : ∀ (n : Nat) (g : Mm) (x1 : Int32) (H : Heap) (locs : List Loc) (ls : Array Slot), St dC dI cy ad s g H locs → lv_has ls 3 [(0, .ref (ad 86)), (1, .int x1)] → o_X8_glass_2 Q K21 n g x1 → W p l e (rmD 6) s m args below meth c H locs 0 0 (QI dC dI cy ad below args s Q) (F0 m 2 ls []) := by
  have hx := C.1.1
  have hb := C.1.2.1
  intro n2
  induction n2 with
  | zero => intro g x1 H locs ls S hl h; exact h.elim
  | succ n2 ih =>
    intro g x1 H locs ls S hl h
    have h : ((33 ≤ x1) → K21 g) ∧ ((¬ 33 ≤ x1) → vp_in x1 33 ∧ (∀ g_1 : Mm, g_1 = mset g 97 x1.toNatClampNeg 0 → (∀ x_2 : Int32, x_2 = x1 + 1 → (o_X8_glass_2 Q K21 n2 g_1 x_2)))) := h
    refine lv_iload_n hx hb dX8_glass_2 rfl (lv_at hl 1 rfl) ?_
    refine lv_bipush (v := 33) hx hb dX8_glass_3 (by decide) ?_
    refine lv_icmp_ge (tgt := 21) hx hb dX8_glass_5 (by decide) (fun c1 => ?_) (fun c1 => ?_)
    · have h := h.1 c1
      exact hK21 g _ _ _ S (lv_sub hl [0] rfl) h
    · have h := h.2 c1
      refine lv_aload_n hx hb dX8_glass_8 rfl (lv_at hl 0 rfl) ?_
      refine kg8 (k := 18) (v := .ref (ad 97)) C S rfl (by decide) n_X8_glass_X8 m_X8_glass_1 rfl dX8_glass_9 ?_
      refine lv_iload_n hx hb dX8_glass_12 rfl (lv_at hl 1 rfl) ?_
      refine lv_iconst (v := 0) hx hb dX8_glass_13 (by decide) ?_
      obtain ⟨hi, h⟩ := h
      refine kSi C S rfl rfl hi dX8_glass_14 (fun g_1 H locs eg_1 S => ?_)
      have h := h g_1 eg_1
      obtain ⟨x_2, ex_2⟩ : ∃ y : Int32, y = x1 + 1 := ⟨_, rfl⟩
      have h := h x_2 ex_2
      refine lv_iinc (v := x_2) (lv' := [(1, .int x_2), (0, .ref (ad 86))]) hx hb dX8_glass_15 hl (k := 1) rfl (by rw [ex_2]; rfl) (by decide) rfl (fun ls hl => ?_)
      refine lv_goto (tgt := 2) hx hb dX8_glass_18 (by decide) ?_
      exact ih g_1 x_2 _ _ _ S (lv_sub hl [1, 0] rfl) h
set_option maxHeartbeats 4000000 in
set_option maxRecDepth 100000 in
theorem o_X8_glass_51_w {p : Program} {l : Launch} {e : Env} {s : State} {m : MethodId} {args : Array Value} {below : List Frame} {meth : Method} {c : Code} {dC : Nat → ClassId} {dI : Nat → Nat → Nat} {cy : Nat → ClassId} {ad tz : Nat → Nat} {Q : Int32 → Mm → Prop} {K31 : Mm → Int32 → Prop} {K59 : Mm → Int32 → Prop} (C : CX p s m args meth c dC dI cy ad tz cX8_glass 3 (some .int) RX8 wsX8_glass) (hK31 : ∀ (g : Mm) (x1 : Int32) (H : Heap) (locs : List Loc) (ls : Array Slot), St dC dI cy ad s g H locs → lv_has ls 3 [(0, .ref (ad 86)), (1, .int x1)] → K31 g x1 → W p l e (rmD 6) s m args below meth c H locs 0 0 (QI dC dI cy ad below args s Q) (F0 m 31 ls [])) (hK59 : ∀ (g : Mm) (x1 : Int32) (H : Heap) (locs : List Loc) (ls : Array Slot), St dC dI cy ad s g H locs → lv_has ls 3 [(0, .ref (ad 86)), (1, .int x1)] → K59 g x1 → W p l e (rmD 6) s m args below meth c H locs 0 0 (QI dC dI cy ad below args s Q) (F0 m 59 ls [])) : ∀ (g : Mm) (H : Heap) (locs : List Loc) (ls : Array Slot), St dC dI cy ad s g H locs → lv_has ls 3 [(0, .ref (ad 86))] → o_X8_glass_51 Q K31 K59 g → W p l e (rmD 6) s m args below meth c H locs 0 0 (QI dC dI cy ad below args s Q) (F0 m 51 ls []) := by
  have hx := C.1.1
  have hb := C.1.2.1
  intro g H locs ls S hl h
  unfold o_X8_glass_51 at h
  refine lv_aload_n hx hb dX8_glass_51 rfl (lv_at hl 0 rfl) ?_
  refine kV_i (As := []) (rest := []) C S hl.1 (o_X8_readToy_c h) (wd_o8 rfl) rfl (cw_X8_glass_X8_readToy C.1.2.2.2.2) rfl rfl (Nat.le_of_ble_eq_true rfl) dX8_glass_52 (fun r_8 g_7 H locs h S => ?_)
  refine lv_istore_n (lv' := [(1, .int r_8), (0, .ref (ad 86))]) hx hb dX8_glass_55 rfl hl (by decide) rfl (fun ls hl => ?_)
  refine lv_goto (tgt := 31) hx hb dX8_glass_56 (by decide) ?_
  exact hK31 g_7 r_8 _ _ _ S (lv_sub hl [1, 0] rfl) h
set_option maxHeartbeats 4000000 in
set_option maxRecDepth 100000 in
theorem o_X8_glass_31_w {p : Program} {l : Launch} {e : Env} {s : State} {m : MethodId} {args : Array Value} {below : List Frame} {meth : Method} {c : Code} {dC : Nat → ClassId} {dI : Nat → Nat → Nat} {cy : Nat → ClassId} {ad tz : Nat → Nat} {Q : Int32 → Mm → Prop} {K59 : Mm → Int32 → Prop} (C : CX p s m args meth c dC dI cy ad tz cX8_glass 3 (some .int) RX8 wsX8_glass) (hK59 : ∀ (g : Mm) (x1 : Int32) (H : Heap) (locs : List Loc) (ls : Array Slot), St dC dI cy ad s g H locs → lv_has ls 3 [(0, .ref (ad 86)), (1, .int x1)] → K59 g x1 → W p l e (rmD 6) s m args below meth c H locs 0 0 (QI dC dI cy ad below args s Q) (F0 m 59 ls [])) : ∀ (n : Nat) (g : Mm) (x1 : Int32) (H : Heap) (locs : List Loc) (ls : Array Slot), St dC dI cy ad s g H locs → lv_has ls 3 [(0, .ref (ad 86)), (1, .int x1)] → o_X8_glass_31 Q K59 n g x1 → W p l e (rmD 6) s m args below meth c H locs 0 0 (QI dC dI cy ad below args s Q) (F0 m 31 ls []) := by
  have hx := C.1.1
  have hb := C.1.2.1
  intro n31
  induction n31 with
  | zero => intro g x1 H locs ls S hl h; exact h.elim
  | succ n31 ih =>
    intro g x1 H locs ls S hl h
    have h : ((¬ x1 = 0) → K59 g x1) ∧ ((x1 = 0) → ((¬ (g.1 86 16) = 0) → o_X8_glass_51 Q (o_X8_glass_31 Q K59 n31) K59 g) ∧ (((g.1 86 16) = 0) → vp_in 0 33 ∧ (((¬ (g.1 97 (0 : Int32).toNatClampNeg) = 0) → K59 g x1) ∧ (((g.1 97 (0 : Int32).toNatClampNeg) = 0) → o_X8_glass_51 Q (o_X8_glass_31 Q K59 n31) K59 g)))) := h
    refine lv_iload_n hx hb dX8_glass_31 rfl (lv_at hl 1 rfl) ?_
    refine lv_if_ne (tgt := 59) hx hb dX8_glass_32 (by decide) (fun c1 => ?_) (fun c1 => ?_)
    · have h := h.1 c1
      exact hK59 g x1 _ _ _ S (lv_sub hl [0, 1] rfl) h
    · have h := h.2 c1
      refine lv_aload_n hx hb dX8_glass_35 rfl (lv_at hl 0 rfl) ?_
      refine kg8 (k := 16) (v := .int (g.1 86 16)) C S rfl (by decide) n_X8_glass_X8 m_X8_glass_2 rfl dX8_glass_36 ?_
      refine lv_if_ne (tgt := 51) hx hb dX8_glass_39 (by decide) (fun c1 => ?_) (fun c1 => ?_)
      · have h := h.1 c1
        exact o_X8_glass_51_w C ih hK59 g _ _ _ S (lv_sub hl [0] rfl) h
      · have h := h.2 c1
        refine lv_aload_n hx hb dX8_glass_42 rfl (lv_at hl 0 rfl) ?_
        refine kg8 (k := 18) (v := .ref (ad 97)) C S rfl (by decide) n_X8_glass_X8 m_X8_glass_1 rfl dX8_glass_43 ?_
        refine lv_iconst (v := 0) hx hb dX8_glass_46 (by decide) ?_
        obtain ⟨hi, h⟩ := h
        refine kLi C S rfl rfl hi dX8_glass_47 ?_
        refine lv_if_ne (tgt := 59) hx hb dX8_glass_48 (by decide) (fun c1 => ?_) (fun c1 => ?_)
        · have h := h.1 c1
          exact hK59 g x1 _ _ _ S (lv_sub hl [0, 1] rfl) h
        · have h := h.2 c1
          exact o_X8_glass_51_w C ih hK59 g _ _ _ S (lv_sub hl [0] rfl) h
set_option maxHeartbeats 4000000 in
set_option maxRecDepth 100000 in
theorem o_X8_glass_83_w {p : Program} {l : Launch} {e : Env} {s : State} {m : MethodId} {args : Array Value} {below : List Frame} {meth : Method} {c : Code} {dC : Nat → ClassId} {dI : Nat → Nat → Nat} {cy : Nat → ClassId} {ad tz : Nat → Nat} {Q : Int32 → Mm → Prop} {K107 : Mm → Prop} (C : CX p s m args meth c dC dI cy ad tz cX8_glass 3 (some .int) RX8 wsX8_glass) (hK107 : ∀ (g : Mm) (H : Heap) (locs : List Loc) (ls : Array Slot), St dC dI cy ad s g H locs → lv_has ls 3 [(0, .ref (ad 86))] → K107 g → W p l e (rmD 6) s m args below meth c H locs 0 0 (QI dC dI cy ad below args s Q) (F0 m 107 ls [])) : ∀ (n : Nat) (g : Mm) (x2 : Int32) (H : Heap) (locs : List Loc) (ls : Array Slot), St dC dI cy ad s g H locs → lv_has ls 3 [(0, .ref (ad 86)), (2, .int x2)] → o_X8_glass_83 Q K107 n g x2 → W p l e (rmD 6) s m args below meth c H locs 0 0 (QI dC dI cy ad below args s Q) (F0 m 83 ls []) := by
  have hx := C.1.1
  have hb := C.1.2.1
  intro n83
  induction n83 with
  | zero => intro g x2 H locs ls S hl h; exact h.elim
  | succ n83 ih =>
    intro g x2 H locs ls S hl h
    have h : ((33 ≤ x2) → K107 g) ∧ ((¬ 33 ≤ x2) → vp_in x2 33 ∧ (vp_in x2 33 ∧ (∀ g_10 : Mm, g_10 = mset g 87 x2.toNatClampNeg (g.1 97 x2.toNatClampNeg) → (∀ x_11 : Int32, x_11 = x2 + 1 → (o_X8_glass_83 Q K107 n83 g_10 x_11))))) := h
    refine lv_iload_n hx hb dX8_glass_83 rfl (lv_at hl 1 rfl) ?_
    refine lv_bipush (v := 33) hx hb dX8_glass_84 (by decide) ?_
    refine lv_icmp_ge (tgt := 107) hx hb dX8_glass_86 (by decide) (fun c1 => ?_) (fun c1 => ?_)
    · have h := h.1 c1
      exact hK107 g _ _ _ S (lv_sub hl [0] rfl) h
    · have h := h.2 c1
      refine lv_aload_n hx hb dX8_glass_89 rfl (lv_at hl 0 rfl) ?_
      refine kg8 (k := 0) (v := .ref (ad 87)) C S rfl (by decide) n_X8_glass_X8 m_X8_glass_7 rfl dX8_glass_90 ?_
      refine lv_iload_n hx hb dX8_glass_93 rfl (lv_at hl 1 rfl) ?_
      refine lv_aload_n hx hb dX8_glass_94 rfl (lv_at hl 0 rfl) ?_
      refine kg8 (k := 18) (v := .ref (ad 97)) C S rfl (by decide) n_X8_glass_X8 m_X8_glass_1 rfl dX8_glass_95 ?_
      refine lv_iload_n hx hb dX8_glass_98 rfl (lv_at hl 1 rfl) ?_
      obtain ⟨hi, h⟩ := h
      refine kLi C S rfl rfl hi dX8_glass_99 ?_
      obtain ⟨hi, h⟩ := h
      refine kSi C S rfl rfl hi dX8_glass_100 (fun g_10 H locs eg_10 S => ?_)
      have h := h g_10 eg_10
      obtain ⟨x_11, ex_11⟩ : ∃ y : Int32, y = x2 + 1 := ⟨_, rfl⟩
      have h := h x_11 ex_11
      refine lv_iinc (v := x_11) (lv' := [(2, .int x_11), (0, .ref (ad 86))]) hx hb dX8_glass_101 hl (k := 1) rfl (by rw [ex_11]; rfl) (by decide) rfl (fun ls hl => ?_)
      refine lv_goto (tgt := 83) hx hb dX8_glass_104 (by decide) ?_
      exact ih g_10 x_11 _ _ _ S (lv_sub hl [1, 0] rfl) h
set_option maxHeartbeats 4000000 in
set_option maxRecDepth 100000 in
theorem o_X8_glass_59_w {p : Program} {l : Launch} {e : Env} {s : State} {m : MethodId} {args : Array Value} {below : List Frame} {meth : Method} {c : Code} {dC : Nat → ClassId} {dI : Nat → Nat → Nat} {cy : Nat → ClassId} {ad tz : Nat → Nat} {Q : Int32 → Mm → Prop} (C : CX p s m args meth c dC dI cy ad tz cX8_glass 3 (some .int) RX8 wsX8_glass) : ∀ (g : Mm) (x1 : Int32) (H : Heap) (locs : List Loc) (ls : Array Slot), St dC dI cy ad s g H locs → lv_has ls 3 [(0, .ref (ad 86)), (1, .int x1)] → o_X8_glass_59 Q g x1 → W p l e (rmD 6) s m args below meth c H locs 0 0 (QI dC dI cy ad below args s Q) (F0 m 59 ls []) := by
  have hx := C.1.1
  have hb := C.1.2.1
  intro g x1 H locs ls S hl h
  unfold o_X8_glass_59 at h
  refine lv_aload_n hx hb dX8_glass_59 rfl (lv_at hl 0 rfl) ?_
  refine lv_iconst (v := 0) hx hb dX8_glass_60 (by decide) ?_
  refine kp8_12 C S rfl n_X8_glass_X8 m_X8_glass_3 dX8_glass_61 (fun g_9 H locs eg_9 S => ?_)
  have h := h g_9 eg_9
  refine lv_iload_n hx hb dX8_glass_64 rfl (lv_at hl 1 rfl) ?_
  refine lv_if_eq (tgt := 81) hx hb dX8_glass_65 (by decide) (fun c1 => ?_) (fun c1 => ?_)
  · have h := h.1 c1
    refine lv_iconst (v := 0) hx hb dX8_glass_81 (by decide) ?_
    refine lv_istore_n (lv' := [(2, .int 0), (0, .ref (ad 86)), (1, .int x1)]) hx hb dX8_glass_82 rfl hl (by decide) rfl (fun ls hl => ?_)
    obtain ⟨n83, h⟩ := h
    refine o_X8_glass_83_w C ?_ n83 g_9 0 _ _ _ S (lv_sub hl [1, 0] rfl) h
    · intro g H locs ls S hl h
      refine lv_aload_n hx hb dX8_glass_107 rfl (lv_at hl 0 rfl) ?_
      refine lv_iconst (v := 0) hx hb dX8_glass_108 (by decide) ?_
      refine kp8_4 C S rfl n_X8_glass_X8 m_X8_glass_8 dX8_glass_109 (fun g_12 H locs eg_12 S => ?_)
      have h := h g_12 eg_12
      refine lv_aload_n hx hb dX8_glass_112 rfl (lv_at hl 0 rfl) ?_
      refine kg8 (k := 0) (v := .ref (ad 87)) C S rfl (by decide) n_X8_glass_X8 m_X8_glass_7 rfl dX8_glass_113 ?_
      refine lv_iconst (v := 0) hx hb dX8_glass_116 (by decide) ?_
      obtain ⟨hi, h⟩ := h
      refine kLi C S rfl rfl hi dX8_glass_117 ?_
      exact kRi C S h dX8_glass_118
  · have h := h.2 c1
    refine lv_aload_n hx hb dX8_glass_68 rfl (lv_at hl 0 rfl) ?_
    refine lv_iload_n hx hb dX8_glass_69 rfl (lv_at hl 1 rfl) ?_
    refine kp8_13 C S rfl n_X8_glass_X8 m_X8_glass_4 dX8_glass_70 (fun g_13 H locs eg_13 S => ?_)
    have h := h g_13 eg_13
    refine kLdc C m_X8_glass_5 dX8_glass_73 ?_
    refine lv_aload_n hx hb dX8_glass_75 rfl (lv_at hl 0 rfl) ?_
    refine kg8 (k := 14) (v := .int (g_13.1 86 14)) C S rfl (by decide) n_X8_glass_X8 m_X8_glass_6 rfl dX8_glass_76 ?_
    refine lv_isub hx hb dX8_glass_79 ?_
    exact kRi C S h dX8_glass_80
def o_X8_glass (Q : Int32 → Mm → Prop) (g : Mm) : Prop := ∃ n2, o_X8_glass_2 Q (fun (g : Mm) => o_X8_look (fun (g_3 : Mm) => o_X8_readLaw (fun (r_6 : Int32) (g_5 : Mm) => ∃ n31, o_X8_glass_31 Q (fun (g : Mm) (x1 : Int32) => o_X8_glass_59 Q g x1) n31 g_5 r_6) g_3) g 0) n2 g 0
set_option maxHeartbeats 4000000 in
set_option maxRecDepth 100000 in
theorem o_X8_glass_c {l : Launch} {dC : Nat → ClassId} {dI : Nat → Nat → Nat} {cy : Nat → ClassId} {ad tz : Nat → Nat} {Q : Int32 → Mm → Prop} {g : Mm} (h : o_X8_glass Q g) : CI l dC dI cy ad tz yX8_glass wsX8_glass (rmD 6) [.ref (ad 86)] g Q := by
  refine CI.of (by decide) rfl rfl (Nat.le_of_ble_eq_true rfl) ?_
  intro p e s m args below meth c ls C hl S
  have hl : lv_has ls 3 [(0, .ref (ad 86))] := hl
  have hx := C.1.1
  have hb := C.1.2.1
  unfold o_X8_glass at h
  refine lv_iconst (v := 0) hx hb dX8_glass_0 (by decide) ?_
  refine lv_istore_n (lv' := [(1, .int 0), (0, .ref (ad 86))]) hx hb dX8_glass_1 rfl hl (by decide) rfl (fun ls hl => ?_)
  obtain ⟨n2, h⟩ := h
  refine o_X8_glass_2_w C ?_ n2 g 0 _ _ _ S (lv_sub hl [1, 0] rfl) h
  · intro g H locs ls S hl h
    refine lv_aload_n hx hb dX8_glass_21 rfl (lv_at hl 0 rfl) ?_
    refine lv_iconst (v := 0) hx hb dX8_glass_22 (by decide) ?_
    refine kV_v (As := [.int 0]) (rest := []) C S hl.1 (o_X8_look_c h) (wd_o8 rfl) rfl (cw_X8_glass_X8_look C.1.2.2.2.2) rfl rfl (Nat.le_of_ble_eq_true rfl) dX8_glass_23 (fun g_3 H locs h S => ?_)
    refine lv_aload_n hx hb dX8_glass_26 rfl (lv_at hl 0 rfl) ?_
    refine kV_i (As := []) (rest := []) C S hl.1 (o_X8_readLaw_c h) (wd_o8 rfl) rfl (cw_X8_glass_X8_readLaw C.1.2.2.2.2) rfl rfl (Nat.le_of_ble_eq_true rfl) dX8_glass_27 (fun r_6 g_5 H locs h S => ?_)
    refine lv_istore_n (lv' := [(1, .int r_6), (0, .ref (ad 86))]) hx hb dX8_glass_30 rfl hl (by decide) rfl (fun ls hl => ?_)
    obtain ⟨n31, h⟩ := h
    refine o_X8_glass_31_w C ?_ n31 g_5 r_6 _ _ _ S (lv_sub hl [1, 0] rfl) h
    · intro g x1 H locs ls S hl h
      exact o_X8_glass_59_w C g x1 _ _ _ S (lv_sub hl [0, 1] rfl) h
/-! ClawCaseModel.goBy(II)V, height 4 -/
theorem m_X8_goBy_1 : Cond.fieldLink RX8 44 "ClawCaseModel" "hand" "[I" ∈ wsX8_goBy := List.mem_of_getElem? (i := 1) (by decide +kernel)
theorem n_X8_goBy_X8 : ∀ w ∈ wsX80, w ∈ wsX8_goBy := mem_by [41, 42, 43, 44, 45, 46, 47, 48, 49, 50, 51, 52, 53, 54, 55, 56, 57, 58, 59, 60, 61, 62, 63, 64] (by decide +kernel)
theorem cw_X8_goBy_X8_goNext {s : State} {args : Array Value} (ht : ∀ w ∈ wsX8_goBy, w.before args s = true) : CallB (rmD 4) s args RX8 183 yX8_goNext cX8_goNext 2 (some .int) wsX8_goNext (rmD (3)) 0 0 2 ∧ (Cond.static yX8_goNext).before args s = true := va_cwS 2 ht gX8_goBy_X8_goNext rfl rfl rfl (by decide +kernel) ⟨Nat.le_of_ble_eq_true rfl, Nat.le_of_ble_eq_true rfl⟩
theorem cw_X8_goBy_X8_layHand {s : State} {args : Array Value} (ht : ∀ w ∈ wsX8_goBy, w.before args s = true) : CallW (rmD 4) s args RX8 RX8 197 yX8_layHand cX8_layHand 2 none wsX8_layHand (rmD (0)) 0 0 0 := cwV 0 ht gX8_goBy_X8_layHand rfl rfl rfl (by decide +kernel) ⟨Nat.le_of_ble_eq_true rfl, Nat.le_of_ble_eq_true rfl⟩
theorem cw_X8_goBy_X8_power {s : State} {args : Array Value} (ht : ∀ w ∈ wsX8_goBy, w.before args s = true) : CallB (rmD 4) s args RX8 202 yX8_power cX8_power 3 (some .int) wsX8_power (rmD (0)) 0 0 1 ∧ (Cond.static yX8_power).before args s = true := va_cwS 1 ht gX8_goBy_X8_power rfl rfl rfl (by decide +kernel) ⟨Nat.le_of_ble_eq_true rfl, Nat.le_of_ble_eq_true rfl⟩
def o_X8_goBy_15 (Q : Mm → Prop) : Nat → Mm → Int32 → Int32 → Int32 → Int32 → Prop
  | 0, _, _, _, _, _ => False
  | n15 + 1, g, x1, x3, x4, x5 => ((x1 ≤ x5) → Q g) ∧ ((¬ x1 ≤ x5) → ¬ (5 : Int32) = 0 ∧ (∀ x_5 : Int32, x_5 = (x3 / 5) → (¬ (x_5 : Int32) = 0 ∧ (o_X8_goNext (fun (r_7 : Int32) (g_6 : Mm) => ¬ (x_5 : Int32) = 0 ∧ (∀ x_8 : Int32, x_8 = (x4 - x4 / x_5 * x_5) → (∀ x_9 : Int32, x_9 = x5 + 1 → (o_X8_goBy_15 Q n15 g_6 x1 x_5 x_8 x_9)))) 98 g ((x4 / x_5) + 1)))))
set_option maxHeartbeats 4000000 in
set_option maxRecDepth 100000 in
theorem o_X8_goBy_15_w {p : Program} {l : Launch} {e : Env} {s : State} {m : MethodId} {args : Array Value} {below : List Frame} {meth : Method} {c : Code} {dC : Nat → ClassId} {dI : Nat → Nat → Nat} {cy : Nat → ClassId} {ad tz : Nat → Nat} {Q : Mm → Prop} (C : CX p s m args meth c dC dI cy ad tz cX8_goBy 7 none RX8 wsX8_goBy) : ∀ (n : Nat) (g : Mm) (x1 : Int32) (x3 : Int32) (x4 : Int32) (x5 : Int32) (H : Heap) (locs : List Loc) (ls : Array Slot), St dC dI cy ad s g H locs → lv_has ls 7 [(0, .ref (ad 86)), (1, .int x1), (3, .int x3), (4, .int x4), (5, .int x5)] → o_X8_goBy_15 Q n g x1 x3 x4 x5 → W p l e (rmD 4) s m args below meth c H locs 0 0 (QV dC dI cy ad below args s Q) (F0 m 15 ls []) := by
  have hx := C.1.1
  have hb := C.1.2.1
  intro n15
  induction n15 with
  | zero => intro g x1 x3 x4 x5 H locs ls S hl h; exact h.elim
  | succ n15 ih =>
    intro g x1 x3 x4 x5 H locs ls S hl h
    have h : ((x1 ≤ x5) → Q g) ∧ ((¬ x1 ≤ x5) → ¬ (5 : Int32) = 0 ∧ (∀ x_5 : Int32, x_5 = (x3 / 5) → (¬ (x_5 : Int32) = 0 ∧ (o_X8_goNext (fun (r_7 : Int32) (g_6 : Mm) => ¬ (x_5 : Int32) = 0 ∧ (∀ x_8 : Int32, x_8 = (x4 - x4 / x_5 * x_5) → (∀ x_9 : Int32, x_9 = x5 + 1 → (o_X8_goBy_15 Q n15 g_6 x1 x_5 x_8 x_9)))) 98 g ((x4 / x_5) + 1))))) := h
    refine lv_iload hx hb dX8_goBy_15 (lv_at hl 4 rfl) ?_
    refine lv_iload_n hx hb dX8_goBy_17 rfl (lv_at hl 1 rfl) ?_
    refine lv_icmp_ge (tgt := 52) hx hb dX8_goBy_18 (by decide) (fun c1 => ?_) (fun c1 => ?_)
    · have h := h.1 c1
      exact kRv C S h dX8_goBy_52
    · have h := h.2 c1
      refine lv_iload_n hx hb dX8_goBy_21 rfl (lv_at hl 2 rfl) ?_
      refine lv_iconst (v := 5) hx hb dX8_goBy_22 (by decide) ?_
      obtain ⟨h0, h⟩ := h
      refine lv_idiv hx hb dX8_goBy_23 h0 ?_
      refine lv_topi (fun x_5 ex_5 => ?_)
      have h := h x_5 ex_5
      refine lv_istore_n (lv' := [(3, .int x_5), (0, .ref (ad 86)), (1, .int x1), (4, .int x4), (5, .int x5)]) hx hb dX8_goBy_24 rfl hl (by decide) rfl (fun ls hl => ?_)
      refine lv_aload_n hx hb dX8_goBy_25 rfl (lv_at hl 1 rfl) ?_
      refine kg8 (k := 19) (v := .ref (ad 98)) C S rfl (by decide) n_X8_goBy_X8 m_X8_goBy_1 rfl dX8_goBy_26 ?_
      refine lv_iload hx hb dX8_goBy_29 (lv_at hl 3 rfl) ?_
      refine lv_iload_n hx hb dX8_goBy_31 rfl (lv_at hl 0 rfl) ?_
      obtain ⟨h0, h⟩ := h
      refine lv_idiv hx hb dX8_goBy_32 h0 ?_
      refine lv_iconst (v := 1) hx hb dX8_goBy_33 (by decide) ?_
      refine lv_iadd hx hb dX8_goBy_34 ?_
      refine kS_i (As := [.ref (ad 98), .int ((x4 / x_5) + 1)]) (rest := []) C S hl.1 (o_X8_goNext_c rfl rfl h) (cw_X8_goBy_X8_goNext C.1.2.2.2.2) rfl rfl (Nat.le_of_ble_eq_true rfl) dX8_goBy_35 (fun r_7 g_6 H locs h S => ?_)
      refine lv_istore (lv' := [(6, .int r_7), (3, .int x_5), (0, .ref (ad 86)), (1, .int x1), (4, .int x4), (5, .int x5)]) hx hb dX8_goBy_38 hl (by decide) rfl (fun ls hl => ?_)
      refine lv_iload hx hb dX8_goBy_40 (lv_at hl 4 rfl) ?_
      refine lv_iload_n hx hb dX8_goBy_42 rfl (lv_at hl 1 rfl) ?_
      obtain ⟨h0, h⟩ := h
      refine lv_irem hx hb dX8_goBy_43 h0 ?_
      refine lv_topi (fun x_8 ex_8 => ?_)
      have h := h x_8 ex_8
      refine lv_istore (lv' := [(4, .int x_8), (6, .int r_7), (3, .int x_5), (0, .ref (ad 86)), (1, .int x1), (5, .int x5)]) hx hb dX8_goBy_44 hl (by decide) rfl (fun ls hl => ?_)
      obtain ⟨x_9, ex_9⟩ : ∃ y : Int32, y = x5 + 1 := ⟨_, rfl⟩
      have h := h x_9 ex_9
      refine lv_iinc (v := x_9) (lv' := [(5, .int x_9), (4, .int x_8), (6, .int r_7), (3, .int x_5), (0, .ref (ad 86)), (1, .int x1)]) hx hb dX8_goBy_46 hl (k := 5) rfl (by rw [ex_9]; rfl) (by decide) rfl (fun ls hl => ?_)
      refine lv_goto (tgt := 15) hx hb dX8_goBy_49 (by decide) ?_
      exact ih g_6 x1 x_5 x_8 x_9 _ _ _ S (lv_sub hl [4, 5, 3, 1, 0] rfl) h
def o_X8_goBy (Q : Mm → Prop) (g : Mm) (x1 : Int32) (x2 : Int32) : Prop := o_X8_power (fun (r_2 : Int32) (g_1 : Mm) => o_X8_layHand (fun (g_3 : Mm) => ∃ n15, o_X8_goBy_15 Q n15 g_3 x1 r_2 x2 0) g_1) g x1
set_option maxHeartbeats 4000000 in
set_option maxRecDepth 100000 in
theorem o_X8_goBy_c {l : Launch} {dC : Nat → ClassId} {dI : Nat → Nat → Nat} {cy : Nat → ClassId} {ad tz : Nat → Nat} {Q : Mm → Prop} {g : Mm} {x1 : Int32} {x2 : Int32} (h : o_X8_goBy Q g x1 x2) : CV l dC dI cy ad tz yX8_goBy wsX8_goBy (rmD 4) [.ref (ad 86), .int x1, .int x2] g Q := by
  refine CV.of (by decide) rfl rfl (Nat.le_of_ble_eq_true rfl) ?_
  intro p e s m args below meth c ls C hl S
  have hl : lv_has ls 7 [(0, .ref (ad 86)), (1, .int x1), (2, .int x2)] := hl
  have hx := C.1.1
  have hb := C.1.2.1
  unfold o_X8_goBy at h
  refine lv_iload_n hx hb dX8_goBy_0 rfl (lv_at hl 1 rfl) ?_
  refine kS_i (As := [.int x1]) (rest := []) C S hl.1 (o_X8_power_c h) (cw_X8_goBy_X8_power C.1.2.2.2.2) rfl rfl (Nat.le_of_ble_eq_true rfl) dX8_goBy_1 (fun r_2 g_1 H locs h S => ?_)
  refine lv_istore_n (lv' := [(3, .int r_2), (0, .ref (ad 86)), (1, .int x1), (2, .int x2)]) hx hb dX8_goBy_4 rfl hl (by decide) rfl (fun ls hl => ?_)
  refine lv_iload_n hx hb dX8_goBy_5 rfl (lv_at hl 3 rfl) ?_
  refine lv_istore (lv' := [(4, .int x2), (3, .int r_2), (0, .ref (ad 86)), (1, .int x1), (2, .int x2)]) hx hb dX8_goBy_6 hl (by decide) rfl (fun ls hl => ?_)
  refine lv_aload_n hx hb dX8_goBy_8 rfl (lv_at hl 2 rfl) ?_
  refine kV_v (As := []) (rest := []) C S hl.1 (o_X8_layHand_c h) (wd_o8 rfl) rfl (cw_X8_goBy_X8_layHand C.1.2.2.2.2) rfl rfl (Nat.le_of_ble_eq_true rfl) dX8_goBy_9 (fun g_3 H locs h S => ?_)
  refine lv_iconst (v := 0) hx hb dX8_goBy_12 (by decide) ?_
  refine lv_istore (lv' := [(5, .int 0), (4, .int x2), (3, .int r_2), (0, .ref (ad 86)), (1, .int x1), (2, .int x2)]) hx hb dX8_goBy_13 hl (by decide) rfl (fun ls hl => ?_)
  obtain ⟨n15, h⟩ := h
  refine o_X8_goBy_15_w C n15 g_3 x1 r_2 x2 0 _ _ _ S (lv_sub hl [3, 4, 2, 1, 0] rfl) h
/-! ClawCaseModel.save()V, height 0 -/
theorem m_X8_save_1 : Cond.fieldLink RX8 137 "ClawCaseModel" "manyActs" "I" ∈ wsX8_save := List.mem_of_getElem? (i := 1) (by decide +kernel)
theorem n_X8_save_X8 : ∀ w ∈ wsX80, w ∈ wsX8_save := mem_by [4, 5, 6, 7, 8, 9, 10, 11, 12, 13, 14, 15, 16, 17, 18, 19, 20, 21, 22, 23, 24, 25, 26, 27] (by decide +kernel)
theorem m_X8_save_2 : Cond.fieldLink RX8 20 "ClawCaseModel" "acts" "[I" ∈ wsX8_save := List.mem_of_getElem? (i := 2) (by decide +kernel)
theorem m_X8_save_3 : Cond.fieldLink RX8 7 "ClawCaseModel" "now" "[I" ∈ wsX8_save := List.mem_of_getElem? (i := 3) (by decide +kernel)
def o_X8_save_51 (Q : Mm → Prop) (K83 : Mm → Prop) : Nat → Mm → Int32 → Prop
  | 0, _, _ => False
  | n51 + 1, g, x1 => ((33 ≤ x1) → K83 g) ∧ ((¬ 33 ≤ x1) → vp_in x1 33 ∧ (vp_in ((33 * (g.1 86 4)) + x1) 792 ∧ (∀ g_1 : Mm, g_1 = mset g 90 ((33 * (g.1 86 4)) + x1 : Int32).toNatClampNeg (g.1 87 x1.toNatClampNeg) → (∀ x_2 : Int32, x_2 = x1 + 1 → (o_X8_save_51 Q K83 n51 g_1 x_2)))))
def o_X8_save_49 (Q : Mm → Prop) (g : Mm) : Prop := ∃ n51, o_X8_save_51 Q (fun (g : Mm) => ∀ g_3 : Mm, g_3 = mset g 86 4 ((g.1 86 4) + 1) → (Q g_3)) n51 g 0
def o_X8_save_11 (Q : Mm → Prop) (K39 : Mm → Prop) : Nat → Mm → Int32 → Prop
  | 0, _, _ => False
  | n11 + 1, g, x1 => ((759 ≤ x1) → K39 g) ∧ ((¬ 759 ≤ x1) → vp_in (33 + x1) 792 ∧ (vp_in x1 792 ∧ (∀ g_4 : Mm, g_4 = mset g 90 x1.toNatClampNeg (g.1 90 (33 + x1 : Int32).toNatClampNeg) → (∀ x_5 : Int32, x_5 = x1 + 1 → (o_X8_save_11 Q K39 n11 g_4 x_5)))))
set_option maxHeartbeats 4000000 in
set_option maxRecDepth 100000 in
theorem o_X8_save_51_w {p : Program} {l : Launch} {e : Env} {s : State} {m : MethodId} {args : Array Value} {below : List Frame} {meth : Method} {c : Code} {dC : Nat → ClassId} {dI : Nat → Nat → Nat} {cy : Nat → ClassId} {ad tz : Nat → Nat} {Q : Mm → Prop} {K83 : Mm → Prop} (C : CX p s m args meth c dC dI cy ad tz cX8_save 2 none RX8 wsX8_save) (hK83 : ∀ (g : Mm) (H : Heap) (locs : List Loc) (ls : Array Slot), St dC dI cy ad s g H locs → lv_has ls 2 [(0, .ref (ad 86))] → K83 g → W p l e (rmD 0) s m args below meth c H locs 0 0 (QV dC dI cy ad below args s Q) (F0 m 83 ls [])) : ∀ (n : Nat) (g : Mm) (x1 : Int32) (H : Heap) (locs : List Loc) (ls : Array Slot), St dC dI cy ad s g H locs → lv_has ls 2 [(0, .ref (ad 86)), (1, .int x1)] → o_X8_save_51 Q K83 n g x1 → W p l e (rmD 0) s m args below meth c H locs 0 0 (QV dC dI cy ad below args s Q) (F0 m 51 ls []) := by
  have hx := C.1.1
  have hb := C.1.2.1
  intro n51
  induction n51 with
  | zero => intro g x1 H locs ls S hl h; exact h.elim
  | succ n51 ih =>
    intro g x1 H locs ls S hl h
    have h : ((33 ≤ x1) → K83 g) ∧ ((¬ 33 ≤ x1) → vp_in x1 33 ∧ (vp_in ((33 * (g.1 86 4)) + x1) 792 ∧ (∀ g_1 : Mm, g_1 = mset g 90 ((33 * (g.1 86 4)) + x1 : Int32).toNatClampNeg (g.1 87 x1.toNatClampNeg) → (∀ x_2 : Int32, x_2 = x1 + 1 → (o_X8_save_51 Q K83 n51 g_1 x_2))))) := h
    refine lv_iload_n hx hb dX8_save_51 rfl (lv_at hl 1 rfl) ?_
    refine lv_bipush (v := 33) hx hb dX8_save_52 (by decide) ?_
    refine lv_icmp_ge (tgt := 83) hx hb dX8_save_54 (by decide) (fun c1 => ?_) (fun c1 => ?_)
    · have h := h.1 c1
      exact hK83 g _ _ _ S (lv_sub hl [0] rfl) h
    · have h := h.2 c1
      refine lv_aload_n hx hb dX8_save_57 rfl (lv_at hl 0 rfl) ?_
      refine kg8 (k := 3) (v := .ref (ad 90)) C S rfl (by decide) n_X8_save_X8 m_X8_save_2 rfl dX8_save_58 ?_
      refine lv_bipush (v := 33) hx hb dX8_save_61 (by decide) ?_
      refine lv_aload_n hx hb dX8_save_63 rfl (lv_at hl 0 rfl) ?_
      refine kg8 (k := 4) (v := .int (g.1 86 4)) C S rfl (by decide) n_X8_save_X8 m_X8_save_1 rfl dX8_save_64 ?_
      refine lv_imul hx hb dX8_save_67 ?_
      refine lv_iload_n hx hb dX8_save_68 rfl (lv_at hl 1 rfl) ?_
      refine lv_iadd hx hb dX8_save_69 ?_
      refine lv_aload_n hx hb dX8_save_70 rfl (lv_at hl 0 rfl) ?_
      refine kg8 (k := 0) (v := .ref (ad 87)) C S rfl (by decide) n_X8_save_X8 m_X8_save_3 rfl dX8_save_71 ?_
      refine lv_iload_n hx hb dX8_save_74 rfl (lv_at hl 1 rfl) ?_
      obtain ⟨hi, h⟩ := h
      refine kLi C S rfl rfl hi dX8_save_75 ?_
      obtain ⟨hi, h⟩ := h
      refine kSi C S rfl rfl hi dX8_save_76 (fun g_1 H locs eg_1 S => ?_)
      have h := h g_1 eg_1
      obtain ⟨x_2, ex_2⟩ : ∃ y : Int32, y = x1 + 1 := ⟨_, rfl⟩
      have h := h x_2 ex_2
      refine lv_iinc (v := x_2) (lv' := [(1, .int x_2), (0, .ref (ad 86))]) hx hb dX8_save_77 hl (k := 1) rfl (by rw [ex_2]; rfl) (by decide) rfl (fun ls hl => ?_)
      refine lv_goto (tgt := 51) hx hb dX8_save_80 (by decide) ?_
      exact ih g_1 x_2 _ _ _ S (lv_sub hl [1, 0] rfl) h
set_option maxHeartbeats 4000000 in
set_option maxRecDepth 100000 in
theorem o_X8_save_49_w {p : Program} {l : Launch} {e : Env} {s : State} {m : MethodId} {args : Array Value} {below : List Frame} {meth : Method} {c : Code} {dC : Nat → ClassId} {dI : Nat → Nat → Nat} {cy : Nat → ClassId} {ad tz : Nat → Nat} {Q : Mm → Prop} (C : CX p s m args meth c dC dI cy ad tz cX8_save 2 none RX8 wsX8_save) : ∀ (g : Mm) (H : Heap) (locs : List Loc) (ls : Array Slot), St dC dI cy ad s g H locs → lv_has ls 2 [(0, .ref (ad 86))] → o_X8_save_49 Q g → W p l e (rmD 0) s m args below meth c H locs 0 0 (QV dC dI cy ad below args s Q) (F0 m 49 ls []) := by
  have hx := C.1.1
  have hb := C.1.2.1
  intro g H locs ls S hl h
  unfold o_X8_save_49 at h
  refine lv_iconst (v := 0) hx hb dX8_save_49 (by decide) ?_
  refine lv_istore_n (lv' := [(1, .int 0), (0, .ref (ad 86))]) hx hb dX8_save_50 rfl hl (by decide) rfl (fun ls hl => ?_)
  obtain ⟨n51, h⟩ := h
  refine o_X8_save_51_w C ?_ n51 g 0 _ _ _ S (lv_sub hl [1, 0] rfl) h
  · intro g H locs ls S hl h
    refine lv_aload_n hx hb dX8_save_83 rfl (lv_at hl 0 rfl) ?_
    refine lv_dup hx hb dX8_save_84 rfl ?_
    refine kg8 (k := 4) (v := .int (g.1 86 4)) C S rfl (by decide) n_X8_save_X8 m_X8_save_1 rfl dX8_save_85 ?_
    refine lv_iconst (v := 1) hx hb dX8_save_88 (by decide) ?_
    refine lv_iadd hx hb dX8_save_89 ?_
    refine kp8_4 C S rfl n_X8_save_X8 m_X8_save_1 dX8_save_90 (fun g_3 H locs eg_3 S => ?_)
    have h := h g_3 eg_3
    exact kRv C S h dX8_save_93
set_option maxHeartbeats 4000000 in
set_option maxRecDepth 100000 in
theorem o_X8_save_11_w {p : Program} {l : Launch} {e : Env} {s : State} {m : MethodId} {args : Array Value} {below : List Frame} {meth : Method} {c : Code} {dC : Nat → ClassId} {dI : Nat → Nat → Nat} {cy : Nat → ClassId} {ad tz : Nat → Nat} {Q : Mm → Prop} {K39 : Mm → Prop} (C : CX p s m args meth c dC dI cy ad tz cX8_save 2 none RX8 wsX8_save) (hK39 : ∀ (g : Mm) (H : Heap) (locs : List Loc) (ls : Array Slot), St dC dI cy ad s g H locs → lv_has ls 2 [(0, .ref (ad 86))] → K39 g → W p l e (rmD 0) s m args below meth c H locs 0 0 (QV dC dI cy ad below args s Q) (F0 m 39 ls [])) : ∀ (n : Nat) (g : Mm) (x1 : Int32) (H : Heap) (locs : List Loc) (ls : Array Slot), St dC dI cy ad s g H locs → lv_has ls 2 [(0, .ref (ad 86)), (1, .int x1)] → o_X8_save_11 Q K39 n g x1 → W p l e (rmD 0) s m args below meth c H locs 0 0 (QV dC dI cy ad below args s Q) (F0 m 11 ls []) := by
  have hx := C.1.1
  have hb := C.1.2.1
  intro n11
  induction n11 with
  | zero => intro g x1 H locs ls S hl h; exact h.elim
  | succ n11 ih =>
    intro g x1 H locs ls S hl h
    have h : ((759 ≤ x1) → K39 g) ∧ ((¬ 759 ≤ x1) → vp_in (33 + x1) 792 ∧ (vp_in x1 792 ∧ (∀ g_4 : Mm, g_4 = mset g 90 x1.toNatClampNeg (g.1 90 (33 + x1 : Int32).toNatClampNeg) → (∀ x_5 : Int32, x_5 = x1 + 1 → (o_X8_save_11 Q K39 n11 g_4 x_5))))) := h
    refine lv_iload_n hx hb dX8_save_11 rfl (lv_at hl 1 rfl) ?_
    refine lv_sipush (v := 759) hx hb dX8_save_12 (by decide) ?_
    refine lv_icmp_ge (tgt := 39) hx hb dX8_save_15 (by decide) (fun c1 => ?_) (fun c1 => ?_)
    · have h := h.1 c1
      exact hK39 g _ _ _ S (lv_sub hl [0] rfl) h
    · have h := h.2 c1
      refine lv_aload_n hx hb dX8_save_18 rfl (lv_at hl 0 rfl) ?_
      refine kg8 (k := 3) (v := .ref (ad 90)) C S rfl (by decide) n_X8_save_X8 m_X8_save_2 rfl dX8_save_19 ?_
      refine lv_iload_n hx hb dX8_save_22 rfl (lv_at hl 1 rfl) ?_
      refine lv_aload_n hx hb dX8_save_23 rfl (lv_at hl 0 rfl) ?_
      refine kg8 (k := 3) (v := .ref (ad 90)) C S rfl (by decide) n_X8_save_X8 m_X8_save_2 rfl dX8_save_24 ?_
      refine lv_bipush (v := 33) hx hb dX8_save_27 (by decide) ?_
      refine lv_iload_n hx hb dX8_save_29 rfl (lv_at hl 1 rfl) ?_
      refine lv_iadd hx hb dX8_save_30 ?_
      obtain ⟨hi, h⟩ := h
      refine kLi C S rfl rfl hi dX8_save_31 ?_
      obtain ⟨hi, h⟩ := h
      refine kSi C S rfl rfl hi dX8_save_32 (fun g_4 H locs eg_4 S => ?_)
      have h := h g_4 eg_4
      obtain ⟨x_5, ex_5⟩ : ∃ y : Int32, y = x1 + 1 := ⟨_, rfl⟩
      have h := h x_5 ex_5
      refine lv_iinc (v := x_5) (lv' := [(1, .int x_5), (0, .ref (ad 86))]) hx hb dX8_save_33 hl (k := 1) rfl (by rw [ex_5]; rfl) (by decide) rfl (fun ls hl => ?_)
      refine lv_goto (tgt := 11) hx hb dX8_save_36 (by decide) ?_
      exact ih g_4 x_5 _ _ _ S (lv_sub hl [1, 0] rfl) h
def o_X8_save (Q : Mm → Prop) (g : Mm) : Prop := ((¬ (g.1 86 4) = 24) → o_X8_save_49 Q g) ∧ (((g.1 86 4) = 24) → ∃ n11, o_X8_save_11 Q (fun (g : Mm) => ∀ g_6 : Mm, g_6 = mset g 86 4 ((g.1 86 4) - 1) → (o_X8_save_49 Q g_6)) n11 g 0)
set_option maxHeartbeats 4000000 in
set_option maxRecDepth 100000 in
theorem o_X8_save_c {l : Launch} {dC : Nat → ClassId} {dI : Nat → Nat → Nat} {cy : Nat → ClassId} {ad tz : Nat → Nat} {Q : Mm → Prop} {g : Mm} (h : o_X8_save Q g) : CV l dC dI cy ad tz yX8_save wsX8_save (rmD 0) [.ref (ad 86)] g Q := by
  refine CV.of (by decide) rfl rfl (Nat.le_of_ble_eq_true rfl) ?_
  intro p e s m args below meth c ls C hl S
  have hl : lv_has ls 2 [(0, .ref (ad 86))] := hl
  have hx := C.1.1
  have hb := C.1.2.1
  unfold o_X8_save at h
  refine lv_aload_n hx hb dX8_save_0 rfl (lv_at hl 0 rfl) ?_
  refine kg8 (k := 4) (v := .int (g.1 86 4)) C S rfl (by decide) n_X8_save_X8 m_X8_save_1 rfl dX8_save_1 ?_
  refine lv_bipush (v := 24) hx hb dX8_save_4 (by decide) ?_
  refine lv_icmp_ne (tgt := 49) hx hb dX8_save_6 (by decide) (fun c1 => ?_) (fun c1 => ?_)
  · have h := h.1 c1
    exact o_X8_save_49_w C g _ _ _ S (lv_sub hl [0] rfl) h
  · have h := h.2 c1
    refine lv_iconst (v := 0) hx hb dX8_save_9 (by decide) ?_
    refine lv_istore_n (lv' := [(1, .int 0), (0, .ref (ad 86))]) hx hb dX8_save_10 rfl hl (by decide) rfl (fun ls hl => ?_)
    obtain ⟨n11, h⟩ := h
    refine o_X8_save_11_w C ?_ n11 g 0 _ _ _ S (lv_sub hl [1, 0] rfl) h
    · intro g H locs ls S hl h
      refine lv_aload_n hx hb dX8_save_39 rfl (lv_at hl 0 rfl) ?_
      refine lv_dup hx hb dX8_save_40 rfl ?_
      refine kg8 (k := 4) (v := .int (g.1 86 4)) C S rfl (by decide) n_X8_save_X8 m_X8_save_1 rfl dX8_save_41 ?_
      refine lv_iconst (v := 1) hx hb dX8_save_44 (by decide) ?_
      refine lv_isub hx hb dX8_save_45 ?_
      refine kp8_4 C S rfl n_X8_save_X8 m_X8_save_1 dX8_save_46 (fun g_6 H locs eg_6 S => ?_)
      have h := h g_6 eg_6
      exact o_X8_save_49_w C g_6 _ _ _ S (lv_sub hl [0] rfl) h
/-! ClawCaseModel.grip(II)I, height 1 -/
theorem m_X8_grip_3 : Cond.constant RX8 71 (-1000001) ∈ wsX8_grip := List.mem_of_getElem? (i := 3) (by decide +kernel)
theorem m_X8_grip_2 : Cond.constantLong RX8 190 (9) ∈ wsX8_grip := List.mem_of_getElem? (i := 2) (by decide +kernel)
theorem m_X8_grip_4 : Cond.fieldLink RX8 7 "ClawCaseModel" "now" "[I" ∈ wsX8_grip := List.mem_of_getElem? (i := 4) (by decide +kernel)
theorem n_X8_grip_X8 : ∀ w ∈ wsX80, w ∈ wsX8_grip := mem_by [19, 20, 21, 22, 23, 24, 25, 26, 27, 28, 29, 30, 31, 32, 33, 34, 35, 36, 37, 38, 39, 40, 41, 42] (by decide +kernel)
theorem cw_X8_grip_X8_save {s : State} {args : Array Value} (ht : ∀ w ∈ wsX8_grip, w.before args s = true) : CallW (rmD 1) s args RX8 RX8 180 yX8_save cX8_save 2 none wsX8_save (rmD (0)) 0 0 0 := cwV 0 ht gX8_grip_X8_save rfl rfl rfl (by decide +kernel) ⟨Nat.le_of_ble_eq_true rfl, Nat.le_of_ble_eq_true rfl⟩
theorem cw_X8_grip_X8_in {s : State} {args : Array Value} (ht : ∀ w ∈ wsX8_grip, w.before args s = true) : CallB (rmD 1) s args RX8 61 yX8_in cX8_in 6 (some .boolean) wsX8_in (rmD (0)) 0 0 3 ∧ (Cond.static yX8_in).before args s = true := va_cwS 3 ht gX8_grip_X8_in rfl rfl rfl (by decide +kernel) ⟨Nat.le_of_ble_eq_true rfl, Nat.le_of_ble_eq_true rfl⟩
theorem m_X8_grip_1 : Cond.constant RX8 176 (-1000002) ∈ wsX8_grip := List.mem_of_getElem? (i := 1) (by decide +kernel)
theorem cw_X8_grip_X8_toys {s : State} {args : Array Value} (ht : ∀ w ∈ wsX8_grip, w.before args s = true) : CallW (rmD 1) s args RX8 RX8 140 yX8_toys cX8_toys 1 (some .int) wsX8_toys (rmD (0)) 0 0 0 := cwV 0 ht gX8_grip_X8_toys rfl rfl rfl (by decide +kernel) ⟨Nat.le_of_ble_eq_true rfl, Nat.le_of_ble_eq_true rfl⟩
def o_X8_grip (Q : Int32 → Mm → Prop) (g : Mm) (x1 : Int32) (x2 : Int32) : Prop := o_X8_toys (fun (r_2 : Int32) (g_1 : Mm) => ((¬ r_2 = 0) → o_X8_in (fun (r_4 : Int32) (g_3 : Mm) => ((r_4 = 0) → Q (-1000001) g_3) ∧ ((¬ r_4 = 0) → o_X8_in (fun (r_6 : Int32) (g_5 : Mm) => ((¬ r_6 = 0) → vp_in (16 + x1) 33 ∧ (∀ x_7 : Int32, x_7 = (g_5.1 87 (16 + x1 : Int32).toNatClampNeg) → (o_X8_save (fun (g_8 : Mm) => vp_in (16 + x1) 33 ∧ (∀ g_10 : Mm, g_10 = mset g_8 87 (16 + x1 : Int32).toNatClampNeg x2 → (Q x_7 g_10))) g_5))) ∧ ((r_6 = 0) → Q (-1000001) g_5)) g_3 ((x2 : Int32).toInt64) 0 9)) g_1 ((x1 : Int32).toInt64) 0 1) ∧ ((r_2 = 0) → Q (-1000002) g_1)) g
set_option maxHeartbeats 4000000 in
set_option maxRecDepth 100000 in
theorem o_X8_grip_c {l : Launch} {dC : Nat → ClassId} {dI : Nat → Nat → Nat} {cy : Nat → ClassId} {ad tz : Nat → Nat} {Q : Int32 → Mm → Prop} {g : Mm} {x1 : Int32} {x2 : Int32} (h : o_X8_grip Q g x1 x2) : CI l dC dI cy ad tz yX8_grip wsX8_grip (rmD 1) [.ref (ad 86), .int x1, .int x2] g Q := by
  refine CI.of (by decide) rfl rfl (Nat.le_of_ble_eq_true rfl) ?_
  intro p e s m args below meth c ls C hl S
  have hl : lv_has ls 4 [(0, .ref (ad 86)), (1, .int x1), (2, .int x2)] := hl
  have hx := C.1.1
  have hb := C.1.2.1
  unfold o_X8_grip at h
  refine lv_aload_n hx hb dX8_grip_0 rfl (lv_at hl 0 rfl) ?_
  refine kV_i (As := []) (rest := []) C S hl.1 (o_X8_toys_c h) (wd_o8 rfl) rfl (cw_X8_grip_X8_toys C.1.2.2.2.2) rfl rfl (Nat.le_of_ble_eq_true rfl) dX8_grip_1 (fun r_2 g_1 H locs h S => ?_)
  refine lv_if_ne (tgt := 10) hx hb dX8_grip_4 (by decide) (fun c1 => ?_) (fun c1 => ?_)
  · have h := h.1 c1
    refine lv_iload_n hx hb dX8_grip_10 rfl (lv_at hl 1 rfl) ?_
    refine lv_i2l hx hb dX8_grip_11 rfl ?_
    refine lv_lconst (v := 0) hx hb dX8_grip_12 (by decide) ?_
    refine lv_lconst (v := 1) hx hb dX8_grip_13 (by decide) ?_
    refine kS_i (As := [.long ((x1 : Int32).toInt64), .long 0, .long 1]) (rest := []) C S hl.1 (o_X8_in_c h) (cw_X8_grip_X8_in C.1.2.2.2.2) rfl rfl (Nat.le_of_ble_eq_true rfl) dX8_grip_14 (fun r_4 g_3 H locs h S => ?_)
    refine lv_if_eq (tgt := 32) hx hb dX8_grip_17 (by decide) (fun c1 => ?_) (fun c1 => ?_)
    · have h := h.1 c1
      refine kLdc C m_X8_grip_3 dX8_grip_32 ?_
      exact kRi C S h dX8_grip_34
    · have h := h.2 c1
      refine lv_iload_n hx hb dX8_grip_20 rfl (lv_at hl 2 rfl) ?_
      refine lv_i2l hx hb dX8_grip_21 rfl ?_
      refine lv_lconst (v := 0) hx hb dX8_grip_22 (by decide) ?_
      refine kLdc2 C m_X8_grip_2 dX8_grip_23 ?_
      refine kS_i (As := [.long ((x2 : Int32).toInt64), .long 0, .long 9]) (rest := []) C S hl.1 (o_X8_in_c h) (cw_X8_grip_X8_in C.1.2.2.2.2) rfl rfl (Nat.le_of_ble_eq_true rfl) dX8_grip_26 (fun r_6 g_5 H locs h S => ?_)
      refine lv_if_ne (tgt := 35) hx hb dX8_grip_29 (by decide) (fun c1 => ?_) (fun c1 => ?_)
      · have h := h.1 c1
        refine lv_aload_n hx hb dX8_grip_35 rfl (lv_at hl 0 rfl) ?_
        refine kg8 (k := 0) (v := .ref (ad 87)) C S rfl (by decide) n_X8_grip_X8 m_X8_grip_4 rfl dX8_grip_36 ?_
        refine lv_bipush (v := 16) hx hb dX8_grip_39 (by decide) ?_
        refine lv_iload_n hx hb dX8_grip_41 rfl (lv_at hl 1 rfl) ?_
        refine lv_iadd hx hb dX8_grip_42 ?_
        obtain ⟨hi, h⟩ := h
        refine kLi C S rfl rfl hi dX8_grip_43 ?_
        refine lv_topi (fun x_7 ex_7 => ?_)
        have h := h x_7 ex_7
        refine lv_istore_n (lv' := [(3, .int x_7), (0, .ref (ad 86)), (1, .int x1), (2, .int x2)]) hx hb dX8_grip_44 rfl hl (by decide) rfl (fun ls hl => ?_)
        refine lv_aload_n hx hb dX8_grip_45 rfl (lv_at hl 1 rfl) ?_
        refine kV_v (As := []) (rest := []) C S hl.1 (o_X8_save_c h) (wd_o8 rfl) rfl (cw_X8_grip_X8_save C.1.2.2.2.2) rfl rfl (Nat.le_of_ble_eq_true rfl) dX8_grip_46 (fun g_8 H locs h S => ?_)
        refine lv_aload_n hx hb dX8_grip_49 rfl (lv_at hl 1 rfl) ?_
        refine kg8 (k := 0) (v := .ref (ad 87)) C S rfl (by decide) n_X8_grip_X8 m_X8_grip_4 rfl dX8_grip_50 ?_
        refine lv_bipush (v := 16) hx hb dX8_grip_53 (by decide) ?_
        refine lv_iload_n hx hb dX8_grip_55 rfl (lv_at hl 2 rfl) ?_
        refine lv_iadd hx hb dX8_grip_56 ?_
        refine lv_iload_n hx hb dX8_grip_57 rfl (lv_at hl 3 rfl) ?_
        obtain ⟨hi, h⟩ := h
        refine kSi C S rfl rfl hi dX8_grip_58 (fun g_10 H locs eg_10 S => ?_)
        have h := h g_10 eg_10
        refine lv_iload_n hx hb dX8_grip_59 rfl (lv_at hl 0 rfl) ?_
        exact kRi C S h dX8_grip_60
      · have h := h.2 c1
        refine kLdc C m_X8_grip_3 dX8_grip_32 ?_
        exact kRi C S h dX8_grip_34
  · have h := h.2 c1
    refine kLdc C m_X8_grip_1 dX8_grip_7 ?_
    exact kRi C S h dX8_grip_9
/-! ClawCaseModel.grips(I)I, height 1 -/
theorem m_X8_grips_2 : Cond.constantLong RX8 200 (60) ∈ wsX8_grips := List.mem_of_getElem? (i := 2) (by decide +kernel)
theorem m_X8_grips_4 : Cond.constant RX8 71 (-1000001) ∈ wsX8_grips := List.mem_of_getElem? (i := 4) (by decide +kernel)
theorem m_X8_grips_3 : Cond.fieldLink RX8 7 "ClawCaseModel" "now" "[I" ∈ wsX8_grips := List.mem_of_getElem? (i := 3) (by decide +kernel)
theorem n_X8_grips_X8 : ∀ w ∈ wsX80, w ∈ wsX8_grips := mem_by [16, 17, 18, 19, 20, 21, 22, 23, 24, 25, 26, 27, 28, 29, 30, 31, 32, 33, 34, 35, 36, 37, 38, 39] (by decide +kernel)
theorem cw_X8_grips_X8_gripOf {s : State} {args : Array Value} (ht : ∀ w ∈ wsX8_grips, w.before args s = true) : CallB (rmD 1) s args RX8 169 yX8_gripOf cX8_gripOf 2 (some .int) wsX8_gripOf (rmD (0)) 0 0 2 ∧ (Cond.static yX8_gripOf).before args s = true := va_cwS 2 ht gX8_grips_X8_gripOf rfl rfl rfl (by decide +kernel) ⟨Nat.le_of_ble_eq_true rfl, Nat.le_of_ble_eq_true rfl⟩
theorem cw_X8_grips_X8_in {s : State} {args : Array Value} (ht : ∀ w ∈ wsX8_grips, w.before args s = true) : CallB (rmD 1) s args RX8 61 yX8_in cX8_in 6 (some .boolean) wsX8_in (rmD (0)) 0 0 3 ∧ (Cond.static yX8_in).before args s = true := va_cwS 3 ht gX8_grips_X8_in rfl rfl rfl (by decide +kernel) ⟨Nat.le_of_ble_eq_true rfl, Nat.le_of_ble_eq_true rfl⟩
theorem m_X8_grips_1 : Cond.constant RX8 176 (-1000002) ∈ wsX8_grips := List.mem_of_getElem? (i := 1) (by decide +kernel)
theorem cw_X8_grips_X8_toys {s : State} {args : Array Value} (ht : ∀ w ∈ wsX8_grips, w.before args s = true) : CallW (rmD 1) s args RX8 RX8 140 yX8_toys cX8_toys 1 (some .int) wsX8_toys (rmD (0)) 0 0 0 := cwV 0 ht gX8_grips_X8_toys rfl rfl rfl (by decide +kernel) ⟨Nat.le_of_ble_eq_true rfl, Nat.le_of_ble_eq_true rfl⟩
def o_X8_grips (Q : Int32 → Mm → Prop) (g : Mm) (x1 : Int32) : Prop := o_X8_toys (fun (r_2 : Int32) (g_1 : Mm) => ((¬ r_2 = 0) → o_X8_in (fun (r_4 : Int32) (g_3 : Mm) => ((r_4 = 0) → Q (-1000001) g_3) ∧ ((¬ r_4 = 0) → vp_in 15 33 ∧ (o_X8_gripOf (fun (r_6 : Int32) (g_5 : Mm) => Q r_6 g_5) 87 g_3 (((g_3.1 87 (15 : Int32).toNatClampNeg) + 1) + x1)))) g_1 ((x1 : Int32).toInt64) 0 60) ∧ ((r_2 = 0) → Q (-1000002) g_1)) g
set_option maxHeartbeats 4000000 in
set_option maxRecDepth 100000 in
theorem o_X8_grips_c {l : Launch} {dC : Nat → ClassId} {dI : Nat → Nat → Nat} {cy : Nat → ClassId} {ad tz : Nat → Nat} {Q : Int32 → Mm → Prop} {g : Mm} {x1 : Int32} (h : o_X8_grips Q g x1) : CI l dC dI cy ad tz yX8_grips wsX8_grips (rmD 1) [.ref (ad 86), .int x1] g Q := by
  refine CI.of (by decide) rfl rfl (Nat.le_of_ble_eq_true rfl) ?_
  intro p e s m args below meth c ls C hl S
  have hl : lv_has ls 2 [(0, .ref (ad 86)), (1, .int x1)] := hl
  have hx := C.1.1
  have hb := C.1.2.1
  unfold o_X8_grips at h
  refine lv_aload_n hx hb dX8_grips_0 rfl (lv_at hl 0 rfl) ?_
  refine kV_i (As := []) (rest := []) C S hl.1 (o_X8_toys_c h) (wd_o8 rfl) rfl (cw_X8_grips_X8_toys C.1.2.2.2.2) rfl rfl (Nat.le_of_ble_eq_true rfl) dX8_grips_1 (fun r_2 g_1 H locs h S => ?_)
  refine lv_if_ne (tgt := 10) hx hb dX8_grips_4 (by decide) (fun c1 => ?_) (fun c1 => ?_)
  · have h := h.1 c1
    refine lv_iload_n hx hb dX8_grips_10 rfl (lv_at hl 1 rfl) ?_
    refine lv_i2l hx hb dX8_grips_11 rfl ?_
    refine lv_lconst (v := 0) hx hb dX8_grips_12 (by decide) ?_
    refine kLdc2 C m_X8_grips_2 dX8_grips_13 ?_
    refine kS_i (As := [.long ((x1 : Int32).toInt64), .long 0, .long 60]) (rest := []) C S hl.1 (o_X8_in_c h) (cw_X8_grips_X8_in C.1.2.2.2.2) rfl rfl (Nat.le_of_ble_eq_true rfl) dX8_grips_16 (fun r_4 g_3 H locs h S => ?_)
    refine lv_if_eq (tgt := 43) hx hb dX8_grips_19 (by decide) (fun c1 => ?_) (fun c1 => ?_)
    · have h := h.1 c1
      refine kLdc C m_X8_grips_4 dX8_grips_43 ?_
      exact kRi C S h dX8_grips_45
    · have h := h.2 c1
      refine lv_aload_n hx hb dX8_grips_22 rfl (lv_at hl 0 rfl) ?_
      refine kg8 (k := 0) (v := .ref (ad 87)) C S rfl (by decide) n_X8_grips_X8 m_X8_grips_3 rfl dX8_grips_23 ?_
      refine lv_aload_n hx hb dX8_grips_26 rfl (lv_at hl 0 rfl) ?_
      refine kg8 (k := 0) (v := .ref (ad 87)) C S rfl (by decide) n_X8_grips_X8 m_X8_grips_3 rfl dX8_grips_27 ?_
      refine lv_bipush (v := 15) hx hb dX8_grips_30 (by decide) ?_
      obtain ⟨hi, h⟩ := h
      refine kLi C S rfl rfl hi dX8_grips_32 ?_
      refine lv_iconst (v := 1) hx hb dX8_grips_33 (by decide) ?_
      refine lv_iadd hx hb dX8_grips_34 ?_
      refine lv_iload_n hx hb dX8_grips_35 rfl (lv_at hl 1 rfl) ?_
      refine lv_iadd hx hb dX8_grips_36 ?_
      refine kS_i (As := [.ref (ad 87), .int (((g_3.1 87 (15 : Int32).toNatClampNeg) + 1) + x1)]) (rest := []) C S hl.1 (o_X8_gripOf_c rfl rfl h) (cw_X8_grips_X8_gripOf C.1.2.2.2.2) rfl rfl (Nat.le_of_ble_eq_true rfl) dX8_grips_37 (fun r_6 g_5 H locs h S => ?_)
      refine lv_goto (tgt := 45) hx hb dX8_grips_40 (by decide) ?_
      exact kRi C S h dX8_grips_45
  · have h := h.2 c1
    refine kLdc C m_X8_grips_1 dX8_grips_7 ?_
    exact kRi C S h dX8_grips_9
/-! ClawCaseModel.wonWeight([IZ)I, height 0 -/
def o_X8_wonWeight_43 (Q : Int32 → Mm → Prop) (K5 : Mm → Int32 → Int32 → Int32 → Prop) (a1 : Nat) (g : Mm) (x2 : Int32) (x4 : Int32) (s0 : Int32) (s1 : Int32) : Prop := ∀ x_1 : Int32, x_1 = (s0 + s1) → (∀ x_2 : Int32, x_2 = x4 + 1 → (K5 g x2 x_1 x_2))
def o_X8_wonWeight_5 (Q : Int32 → Mm → Prop) (a1 : Nat) : Nat → Mm → Int32 → Int32 → Int32 → Prop
  | 0, _, _, _, _ => False
  | n5 + 1, g, x2, x3, x4 => vp_in 0 33 ∧ ((((g.1 a1 (0 : Int32).toNatClampNeg) ≤ x4) → Q x3 g) ∧ ((¬ (g.1 a1 (0 : Int32).toNatClampNeg) ≤ x4) → vp_in (19 + x4) 33 ∧ ((((g.1 a1 (19 + x4 : Int32).toNatClampNeg) = 0) → ((x2 = 0) → o_X8_wonWeight_43 Q (o_X8_wonWeight_5 Q a1 n5) a1 g x2 x4 x3 1) ∧ ((¬ x2 = 0) → vp_in (8 + x4) 33 ∧ (o_X8_wonWeight_43 Q (o_X8_wonWeight_5 Q a1 n5) a1 g x2 x4 x3 (g.1 a1 (8 + x4 : Int32).toNatClampNeg)))) ∧ ((¬ (g.1 a1 (19 + x4 : Int32).toNatClampNeg) = 0) → o_X8_wonWeight_43 Q (o_X8_wonWeight_5 Q a1 n5) a1 g x2 x4 x3 0))))
set_option maxHeartbeats 4000000 in
set_option maxRecDepth 100000 in
theorem o_X8_wonWeight_43_w {p : Program} {l : Launch} {e : Env} {s : State} {m : MethodId} {args : Array Value} {below : List Frame} {meth : Method} {c : Code} {dC : Nat → ClassId} {dI : Nat → Nat → Nat} {cy : Nat → ClassId} {ad tz : Nat → Nat} {Q : Int32 → Mm → Prop} {K5 : Mm → Int32 → Int32 → Int32 → Prop} {a1 : Nat} (C : CX p s m args meth c dC dI cy ad tz cX8_wonWeight 5 (some .int) RX8 wsX8_wonWeight) (ha1 : ly a1 = 9) (hn1 : ln a1 = 33) (hK5 : ∀ (g : Mm) (x2 : Int32) (x3 : Int32) (x4 : Int32) (H : Heap) (locs : List Loc) (ls : Array Slot), St dC dI cy ad s g H locs → lv_has ls 5 [(1, .ref (ad a1)), (2, .int x2), (3, .int x3), (4, .int x4)] → K5 g x2 x3 x4 → W p l e (rmD 0) s m args below meth c H locs 0 0 (QI dC dI cy ad below args s Q) (F0 m 5 ls [])) : ∀ (g : Mm) (x2 : Int32) (x4 : Int32) (s0 : Int32) (s1 : Int32) (H : Heap) (locs : List Loc) (ls : Array Slot), St dC dI cy ad s g H locs → lv_has ls 5 [(1, .ref (ad a1)), (2, .int x2), (4, .int x4)] → o_X8_wonWeight_43 Q K5 a1 g x2 x4 s0 s1 → W p l e (rmD 0) s m args below meth c H locs 0 0 (QI dC dI cy ad below args s Q) (F0 m 43 ls [.int s1, .int s0]) := by
  have hx := C.1.1
  have hb := C.1.2.1
  intro g x2 x4 s0 s1 H locs ls S hl h
  unfold o_X8_wonWeight_43 at h
  refine lv_iadd hx hb dX8_wonWeight_43 ?_
  refine lv_topi (fun x_1 ex_1 => ?_)
  have h := h x_1 ex_1
  refine lv_istore_n (lv' := [(3, .int x_1), (1, .ref (ad a1)), (2, .int x2), (4, .int x4)]) hx hb dX8_wonWeight_44 rfl hl (by decide) rfl (fun ls hl => ?_)
  obtain ⟨x_2, ex_2⟩ : ∃ y : Int32, y = x4 + 1 := ⟨_, rfl⟩
  have h := h x_2 ex_2
  refine lv_iinc (v := x_2) (lv' := [(4, .int x_2), (3, .int x_1), (1, .ref (ad a1)), (2, .int x2)]) hx hb dX8_wonWeight_45 hl (k := 3) rfl (by rw [ex_2]; rfl) (by decide) rfl (fun ls hl => ?_)
  refine lv_goto (tgt := 5) hx hb dX8_wonWeight_48 (by decide) ?_
  exact hK5 g x2 x_1 x_2 _ _ _ S (lv_sub hl [2, 3, 1, 0] rfl) h
set_option maxHeartbeats 4000000 in
set_option maxRecDepth 100000 in
theorem o_X8_wonWeight_5_w {p : Program} {l : Launch} {e : Env} {s : State} {m : MethodId} {args : Array Value} {below : List Frame} {meth : Method} {c : Code} {dC : Nat → ClassId} {dI : Nat → Nat → Nat} {cy : Nat → ClassId} {ad tz : Nat → Nat} {Q : Int32 → Mm → Prop} {a1 : Nat} (C : CX p s m args meth c dC dI cy ad tz cX8_wonWeight 5 (some .int) RX8 wsX8_wonWeight) (ha1 : ly a1 = 9) (hn1 : ln a1 = 33) : ∀ (n : Nat) (g : Mm) (x2 : Int32) (x3 : Int32) (x4 : Int32) (H : Heap) (locs : List Loc) (ls : Array Slot), St dC dI cy ad s g H locs → lv_has ls 5 [(1, .ref (ad a1)), (2, .int x2), (3, .int x3), (4, .int x4)] → o_X8_wonWeight_5 Q a1 n g x2 x3 x4 → W p l e (rmD 0) s m args below meth c H locs 0 0 (QI dC dI cy ad below args s Q) (F0 m 5 ls []) := by
  have hx := C.1.1
  have hb := C.1.2.1
  intro n5
  induction n5 with
  | zero => intro g x2 x3 x4 H locs ls S hl h; exact h.elim
  | succ n5 ih =>
    intro g x2 x3 x4 H locs ls S hl h
    have h : vp_in 0 33 ∧ ((((g.1 a1 (0 : Int32).toNatClampNeg) ≤ x4) → Q x3 g) ∧ ((¬ (g.1 a1 (0 : Int32).toNatClampNeg) ≤ x4) → vp_in (19 + x4) 33 ∧ ((((g.1 a1 (19 + x4 : Int32).toNatClampNeg) = 0) → ((x2 = 0) → o_X8_wonWeight_43 Q (o_X8_wonWeight_5 Q a1 n5) a1 g x2 x4 x3 1) ∧ ((¬ x2 = 0) → vp_in (8 + x4) 33 ∧ (o_X8_wonWeight_43 Q (o_X8_wonWeight_5 Q a1 n5) a1 g x2 x4 x3 (g.1 a1 (8 + x4 : Int32).toNatClampNeg)))) ∧ ((¬ (g.1 a1 (19 + x4 : Int32).toNatClampNeg) = 0) → o_X8_wonWeight_43 Q (o_X8_wonWeight_5 Q a1 n5) a1 g x2 x4 x3 0)))) := h
    refine lv_iload hx hb dX8_wonWeight_5 (lv_at hl 3 rfl) ?_
    refine lv_aload_n hx hb dX8_wonWeight_7 rfl (lv_at hl 0 rfl) ?_
    refine lv_iconst (v := 0) hx hb dX8_wonWeight_8 (by decide) ?_
    obtain ⟨hi, h⟩ := h
    refine kLi C S ha1 hn1 hi dX8_wonWeight_9 ?_
    refine lv_icmp_ge (tgt := 51) hx hb dX8_wonWeight_10 (by decide) (fun c1 => ?_) (fun c1 => ?_)
    · have h := h.1 c1
      refine lv_iload_n hx hb dX8_wonWeight_51 rfl (lv_at hl 2 rfl) ?_
      exact kRi C S h dX8_wonWeight_52
    · have h := h.2 c1
      refine lv_iload_n hx hb dX8_wonWeight_13 rfl (lv_at hl 2 rfl) ?_
      refine lv_aload_n hx hb dX8_wonWeight_14 rfl (lv_at hl 0 rfl) ?_
      refine lv_bipush (v := 19) hx hb dX8_wonWeight_15 (by decide) ?_
      refine lv_iload hx hb dX8_wonWeight_17 (lv_at hl 3 rfl) ?_
      refine lv_iadd hx hb dX8_wonWeight_19 ?_
      obtain ⟨hi, h⟩ := h
      refine kLi C S ha1 hn1 hi dX8_wonWeight_20 ?_
      refine lv_if_eq (tgt := 28) hx hb dX8_wonWeight_21 (by decide) (fun c1 => ?_) (fun c1 => ?_)
      · have h := h.1 c1
        refine lv_iload_n hx hb dX8_wonWeight_28 rfl (lv_at hl 1 rfl) ?_
        refine lv_if_eq (tgt := 42) hx hb dX8_wonWeight_29 (by decide) (fun c1 => ?_) (fun c1 => ?_)
        · have h := h.1 c1
          refine lv_iconst (v := 1) hx hb dX8_wonWeight_42 (by decide) ?_
          exact o_X8_wonWeight_43_w C ha1 hn1 ih g x2 x4 x3 1 _ _ _ S (lv_sub hl [0, 1, 3] rfl) h
        · have h := h.2 c1
          refine lv_aload_n hx hb dX8_wonWeight_32 rfl (lv_at hl 0 rfl) ?_
          refine lv_bipush (v := 8) hx hb dX8_wonWeight_33 (by decide) ?_
          refine lv_iload hx hb dX8_wonWeight_35 (lv_at hl 3 rfl) ?_
          refine lv_iadd hx hb dX8_wonWeight_37 ?_
          obtain ⟨hi, h⟩ := h
          refine kLi C S ha1 hn1 hi dX8_wonWeight_38 ?_
          refine lv_goto (tgt := 43) hx hb dX8_wonWeight_39 (by decide) ?_
          exact o_X8_wonWeight_43_w C ha1 hn1 ih g x2 x4 x3 (g.1 a1 (8 + x4 : Int32).toNatClampNeg) _ _ _ S (lv_sub hl [0, 1, 3] rfl) h
      · have h := h.2 c1
        refine lv_iconst (v := 0) hx hb dX8_wonWeight_24 (by decide) ?_
        refine lv_goto (tgt := 43) hx hb dX8_wonWeight_25 (by decide) ?_
        exact o_X8_wonWeight_43_w C ha1 hn1 ih g x2 x4 x3 0 _ _ _ S (lv_sub hl [0, 1, 3] rfl) h
def o_X8_wonWeight (Q : Int32 → Mm → Prop) (a1 : Nat) (g : Mm) (x2 : Int32) : Prop := ∃ n5, o_X8_wonWeight_5 Q a1 n5 g x2 0 0
set_option maxHeartbeats 4000000 in
set_option maxRecDepth 100000 in
theorem o_X8_wonWeight_c {l : Launch} {dC : Nat → ClassId} {dI : Nat → Nat → Nat} {cy : Nat → ClassId} {ad tz : Nat → Nat} {Q : Int32 → Mm → Prop} {a1 : Nat} {g : Mm} {x2 : Int32} (ha1 : ly a1 = 9) (hn1 : ln a1 = 33) (h : o_X8_wonWeight Q a1 g x2) : CI l dC dI cy ad tz yX8_wonWeight wsX8_wonWeight (rmD 0) [.ref (ad 86), .ref (ad a1), .int x2] g Q := by
  refine CI.of (by decide) rfl rfl (Nat.le_of_ble_eq_true rfl) ?_
  intro p e s m args below meth c ls C hl S
  have hl : lv_has ls 5 [(0, .ref (ad 86)), (1, .ref (ad a1)), (2, .int x2)] := hl
  have hx := C.1.1
  have hb := C.1.2.1
  unfold o_X8_wonWeight at h
  refine lv_iconst (v := 0) hx hb dX8_wonWeight_0 (by decide) ?_
  refine lv_istore_n (lv' := [(3, .int 0), (0, .ref (ad 86)), (1, .ref (ad a1)), (2, .int x2)]) hx hb dX8_wonWeight_1 rfl hl (by decide) rfl (fun ls hl => ?_)
  refine lv_iconst (v := 0) hx hb dX8_wonWeight_2 (by decide) ?_
  refine lv_istore (lv' := [(4, .int 0), (3, .int 0), (0, .ref (ad 86)), (1, .ref (ad a1)), (2, .int x2)]) hx hb dX8_wonWeight_3 hl (by decide) rfl (fun ls hl => ?_)
  obtain ⟨n5, h⟩ := h
  refine o_X8_wonWeight_5_w C ha1 hn1 n5 g x2 0 0 _ _ _ S (lv_sub hl [3, 4, 1, 0] rfl) h
/-! ClawCaseModel.haul(II)I, height 5 -/
theorem m_X8_haul_2 : Cond.constantLong RX8 192 (4) ∈ wsX8_haul := List.mem_of_getElem? (i := 2) (by decide +kernel)
theorem m_X8_haul_3 : Cond.constant RX8 71 (-1000001) ∈ wsX8_haul := List.mem_of_getElem? (i := 3) (by decide +kernel)
theorem m_X8_haul_4 : Cond.fieldLink RX8 44 "ClawCaseModel" "hand" "[I" ∈ wsX8_haul := List.mem_of_getElem? (i := 4) (by decide +kernel)
theorem n_X8_haul_X8 : ∀ w ∈ wsX80, w ∈ wsX8_haul := mem_by [63, 64, 65, 66, 67, 68, 69, 70, 71, 72, 73, 74, 75, 76, 77, 78, 79, 80, 81, 82, 83, 84, 85, 86] (by decide +kernel)
theorem cw_X8_haul_X8_wonWeight {s : State} {args : Array Value} (ht : ∀ w ∈ wsX8_haul, w.before args s = true) : CallW (rmD 5) s args RX8 RX8 213 yX8_wonWeight cX8_wonWeight 5 (some .int) wsX8_wonWeight (rmD (0)) 0 0 2 := cwV 2 ht gX8_haul_X8_wonWeight rfl rfl rfl (by decide +kernel) ⟨Nat.le_of_ble_eq_true rfl, Nat.le_of_ble_eq_true rfl⟩
theorem cw_X8_haul_X8_goBy {s : State} {args : Array Value} (ht : ∀ w ∈ wsX8_haul, w.before args s = true) : CallW (rmD 5) s args RX8 RX8 205 yX8_goBy cX8_goBy 7 none wsX8_goBy (rmD (4)) 0 0 2 := cwV 2 ht gX8_haul_X8_goBy rfl rfl rfl (by decide +kernel) ⟨Nat.le_of_ble_eq_true rfl, Nat.le_of_ble_eq_true rfl⟩
theorem cw_X8_haul_X8_power {s : State} {args : Array Value} (ht : ∀ w ∈ wsX8_haul, w.before args s = true) : CallB (rmD 5) s args RX8 202 yX8_power cX8_power 3 (some .int) wsX8_power (rmD (0)) 0 0 1 ∧ (Cond.static yX8_power).before args s = true := va_cwS 1 ht gX8_haul_X8_power rfl rfl rfl (by decide +kernel) ⟨Nat.le_of_ble_eq_true rfl, Nat.le_of_ble_eq_true rfl⟩
theorem cw_X8_haul_X8_columnBy {s : State} {args : Array Value} (ht : ∀ w ∈ wsX8_haul, w.before args s = true) : CallB (rmD 5) s args RX8 209 yX8_columnBy cX8_columnBy 3 (some .int) wsX8_columnBy (rmD (1)) 0 0 3 ∧ (Cond.static yX8_columnBy).before args s = true := va_cwS 3 ht gX8_haul_X8_columnBy rfl rfl rfl (by decide +kernel) ⟨Nat.le_of_ble_eq_true rfl, Nat.le_of_ble_eq_true rfl⟩
theorem m_X8_haul_5 : Cond.constant RX8 186 (-1000000) ∈ wsX8_haul := List.mem_of_getElem? (i := 5) (by decide +kernel)
theorem cw_X8_haul_X8_in {s : State} {args : Array Value} (ht : ∀ w ∈ wsX8_haul, w.before args s = true) : CallB (rmD 5) s args RX8 61 yX8_in cX8_in 6 (some .boolean) wsX8_in (rmD (0)) 0 0 3 ∧ (Cond.static yX8_in).before args s = true := va_cwS 3 ht gX8_haul_X8_in rfl rfl rfl (by decide +kernel) ⟨Nat.le_of_ble_eq_true rfl, Nat.le_of_ble_eq_true rfl⟩
theorem m_X8_haul_1 : Cond.constant RX8 176 (-1000002) ∈ wsX8_haul := List.mem_of_getElem? (i := 1) (by decide +kernel)
theorem cw_X8_haul_X8_toys {s : State} {args : Array Value} (ht : ∀ w ∈ wsX8_haul, w.before args s = true) : CallW (rmD 5) s args RX8 RX8 140 yX8_toys cX8_toys 1 (some .int) wsX8_toys (rmD (0)) 0 0 0 := cwV 0 ht gX8_haul_X8_toys rfl rfl rfl (by decide +kernel) ⟨Nat.le_of_ble_eq_true rfl, Nat.le_of_ble_eq_true rfl⟩
def o_X8_haul_107 (Q : Int32 → Mm → Prop) (K38 : Mm → Int32 → Int32 → Int32 → Int32 → Int32 → Prop) (K115 : Mm → Int32 → Int32 → Int32 → Int32 → Prop) (g : Mm) (x1 : Int32) (x2 : Int32) (x3 : Int32) (x5 : Int32) (s0 : Int32) : Prop := ∀ x_14 : Int32, x_14 = x5 + 1 → (K38 g x1 x2 x3 s0 x_14)
def o_X8_haul_92 (Q : Int32 → Mm → Prop) (K38 : Mm → Int32 → Int32 → Int32 → Int32 → Int32 → Prop) (K115 : Mm → Int32 → Int32 → Int32 → Int32 → Prop) (g : Mm) (x1 : Int32) (x2 : Int32) (x4 : Int32) (x5 : Int32) (x6 : Int32) (s0 : Int32) : Prop := ((x6 ≤ x4) → o_X8_haul_107 Q K38 K115 g x1 x2 s0 x5 x4) ∧ ((¬ x6 ≤ x4) → o_X8_haul_107 Q K38 K115 g x1 x2 s0 x5 x6)
def o_X8_haul_38 (Q : Int32 → Mm → Prop) (K115 : Mm → Int32 → Int32 → Int32 → Int32 → Prop) : Nat → Mm → Int32 → Int32 → Int32 → Int32 → Int32 → Prop
  | 0, _, _, _, _, _, _ => False
  | n38 + 1, g, x1, x2, x3, x4, x5 => o_X8_power (fun (r_6 : Int32) (g_5 : Mm) => ((r_6 ≤ x5) → K115 g_5 x1 x2 x3 x4) ∧ ((¬ r_6 ≤ x5) → o_X8_goBy (fun (g_7 : Mm) => o_X8_wonWeight (fun (r_10 : Int32) (g_9 : Mm) => o_X8_wonWeight (fun (r_12 : Int32) (g_11 : Mm) => ∀ x_13 : Int32, x_13 = ((1000 * r_10) + r_12) → (((x_13 ≤ x4) → o_X8_haul_92 Q (o_X8_haul_38 Q K115 n38) K115 g_11 x1 x2 x4 x5 x_13 x3) ∧ ((¬ x_13 ≤ x4) → o_X8_haul_92 Q (o_X8_haul_38 Q K115 n38) K115 g_11 x1 x2 x4 x5 x_13 x5))) 98 g_9 1) 98 g_7 0) g_5 x1 x5)) g x1
set_option maxHeartbeats 4000000 in
set_option maxRecDepth 100000 in
theorem o_X8_haul_107_w {p : Program} {l : Launch} {e : Env} {s : State} {m : MethodId} {args : Array Value} {below : List Frame} {meth : Method} {c : Code} {dC : Nat → ClassId} {dI : Nat → Nat → Nat} {cy : Nat → ClassId} {ad tz : Nat → Nat} {Q : Int32 → Mm → Prop} {K38 : Mm → Int32 → Int32 → Int32 → Int32 → Int32 → Prop} {K115 : Mm → Int32 → Int32 → Int32 → Int32 → Prop} (C : CX p s m args meth c dC dI cy ad tz cX8_haul 7 (some .int) RX8 wsX8_haul) (hK38 : ∀ (g : Mm) (x1 : Int32) (x2 : Int32) (x3 : Int32) (x4 : Int32) (x5 : Int32) (H : Heap) (locs : List Loc) (ls : Array Slot), St dC dI cy ad s g H locs → lv_has ls 7 [(0, .ref (ad 86)), (1, .int x1), (2, .int x2), (3, .int x3), (4, .int x4), (5, .int x5)] → K38 g x1 x2 x3 x4 x5 → W p l e (rmD 5) s m args below meth c H locs 0 0 (QI dC dI cy ad below args s Q) (F0 m 38 ls [])) (hK115 : ∀ (g : Mm) (x1 : Int32) (x2 : Int32) (x3 : Int32) (x4 : Int32) (H : Heap) (locs : List Loc) (ls : Array Slot), St dC dI cy ad s g H locs → lv_has ls 7 [(1, .int x1), (2, .int x2), (3, .int x3), (4, .int x4)] → K115 g x1 x2 x3 x4 → W p l e (rmD 5) s m args below meth c H locs 0 0 (QI dC dI cy ad below args s Q) (F0 m 115 ls [])) : ∀ (g : Mm) (x1 : Int32) (x2 : Int32) (x3 : Int32) (x5 : Int32) (s0 : Int32) (H : Heap) (locs : List Loc) (ls : Array Slot), St dC dI cy ad s g H locs → lv_has ls 7 [(0, .ref (ad 86)), (1, .int x1), (2, .int x2), (3, .int x3), (5, .int x5)] → o_X8_haul_107 Q K38 K115 g x1 x2 x3 x5 s0 → W p l e (rmD 5) s m args below meth c H locs 0 0 (QI dC dI cy ad below args s Q) (F0 m 107 ls [.int s0]) := by
  have hx := C.1.1
  have hb := C.1.2.1
  intro g x1 x2 x3 x5 s0 H locs ls S hl h
  unfold o_X8_haul_107 at h
  refine lv_istore (lv' := [(4, .int s0), (0, .ref (ad 86)), (1, .int x1), (2, .int x2), (3, .int x3), (5, .int x5)]) hx hb dX8_haul_107 hl (by decide) rfl (fun ls hl => ?_)
  obtain ⟨x_14, ex_14⟩ : ∃ y : Int32, y = x5 + 1 := ⟨_, rfl⟩
  have h := h x_14 ex_14
  refine lv_iinc (v := x_14) (lv' := [(5, .int x_14), (4, .int s0), (0, .ref (ad 86)), (1, .int x1), (2, .int x2), (3, .int x3)]) hx hb dX8_haul_109 hl (k := 5) rfl (by rw [ex_14]; rfl) (by decide) rfl (fun ls hl => ?_)
  refine lv_goto (tgt := 38) hx hb dX8_haul_112 (by decide) ?_
  exact hK38 g x1 x2 x3 s0 x_14 _ _ _ S (lv_sub hl [2, 3, 4, 5, 1, 0] rfl) h
set_option maxHeartbeats 4000000 in
set_option maxRecDepth 100000 in
theorem o_X8_haul_92_w {p : Program} {l : Launch} {e : Env} {s : State} {m : MethodId} {args : Array Value} {below : List Frame} {meth : Method} {c : Code} {dC : Nat → ClassId} {dI : Nat → Nat → Nat} {cy : Nat → ClassId} {ad tz : Nat → Nat} {Q : Int32 → Mm → Prop} {K38 : Mm → Int32 → Int32 → Int32 → Int32 → Int32 → Prop} {K115 : Mm → Int32 → Int32 → Int32 → Int32 → Prop} (C : CX p s m args meth c dC dI cy ad tz cX8_haul 7 (some .int) RX8 wsX8_haul) (hK38 : ∀ (g : Mm) (x1 : Int32) (x2 : Int32) (x3 : Int32) (x4 : Int32) (x5 : Int32) (H : Heap) (locs : List Loc) (ls : Array Slot), St dC dI cy ad s g H locs → lv_has ls 7 [(0, .ref (ad 86)), (1, .int x1), (2, .int x2), (3, .int x3), (4, .int x4), (5, .int x5)] → K38 g x1 x2 x3 x4 x5 → W p l e (rmD 5) s m args below meth c H locs 0 0 (QI dC dI cy ad below args s Q) (F0 m 38 ls [])) (hK115 : ∀ (g : Mm) (x1 : Int32) (x2 : Int32) (x3 : Int32) (x4 : Int32) (H : Heap) (locs : List Loc) (ls : Array Slot), St dC dI cy ad s g H locs → lv_has ls 7 [(1, .int x1), (2, .int x2), (3, .int x3), (4, .int x4)] → K115 g x1 x2 x3 x4 → W p l e (rmD 5) s m args below meth c H locs 0 0 (QI dC dI cy ad below args s Q) (F0 m 115 ls [])) : ∀ (g : Mm) (x1 : Int32) (x2 : Int32) (x4 : Int32) (x5 : Int32) (x6 : Int32) (s0 : Int32) (H : Heap) (locs : List Loc) (ls : Array Slot), St dC dI cy ad s g H locs → lv_has ls 7 [(0, .ref (ad 86)), (1, .int x1), (2, .int x2), (4, .int x4), (5, .int x5), (6, .int x6)] → o_X8_haul_92 Q K38 K115 g x1 x2 x4 x5 x6 s0 → W p l e (rmD 5) s m args below meth c H locs 0 0 (QI dC dI cy ad below args s Q) (F0 m 92 ls [.int s0]) := by
  have hx := C.1.1
  have hb := C.1.2.1
  intro g x1 x2 x4 x5 x6 s0 H locs ls S hl h
  unfold o_X8_haul_92 at h
  refine lv_istore_n (lv' := [(3, .int s0), (0, .ref (ad 86)), (1, .int x1), (2, .int x2), (4, .int x4), (5, .int x5), (6, .int x6)]) hx hb dX8_haul_92 rfl hl (by decide) rfl (fun ls hl => ?_)
  refine lv_iload hx hb dX8_haul_93 (lv_at hl 6 rfl) ?_
  refine lv_iload hx hb dX8_haul_95 (lv_at hl 4 rfl) ?_
  refine lv_icmp_le (tgt := 105) hx hb dX8_haul_97 (by decide) (fun c1 => ?_) (fun c1 => ?_)
  · have h := h.1 c1
    refine lv_iload hx hb dX8_haul_105 (lv_at hl 4 rfl) ?_
    exact o_X8_haul_107_w C hK38 hK115 g x1 x2 s0 x5 x4 _ _ _ S (lv_sub hl [1, 2, 3, 0, 5] rfl) h
  · have h := h.2 c1
    refine lv_iload hx hb dX8_haul_100 (lv_at hl 6 rfl) ?_
    refine lv_goto (tgt := 107) hx hb dX8_haul_102 (by decide) ?_
    exact o_X8_haul_107_w C hK38 hK115 g x1 x2 s0 x5 x6 _ _ _ S (lv_sub hl [1, 2, 3, 0, 5] rfl) h
set_option maxHeartbeats 4000000 in
set_option maxRecDepth 100000 in
theorem o_X8_haul_38_w {p : Program} {l : Launch} {e : Env} {s : State} {m : MethodId} {args : Array Value} {below : List Frame} {meth : Method} {c : Code} {dC : Nat → ClassId} {dI : Nat → Nat → Nat} {cy : Nat → ClassId} {ad tz : Nat → Nat} {Q : Int32 → Mm → Prop} {K115 : Mm → Int32 → Int32 → Int32 → Int32 → Prop} (C : CX p s m args meth c dC dI cy ad tz cX8_haul 7 (some .int) RX8 wsX8_haul) (hK115 : ∀ (g : Mm) (x1 : Int32) (x2 : Int32) (x3 : Int32) (x4 : Int32) (H : Heap) (locs : List Loc) (ls : Array Slot), St dC dI cy ad s g H locs → lv_has ls 7 [(1, .int x1), (2, .int x2), (3, .int x3), (4, .int x4)] → K115 g x1 x2 x3 x4 → W p l e (rmD 5) s m args below meth c H locs 0 0 (QI dC dI cy ad below args s Q) (F0 m 115 ls [])) : ∀ (n : Nat) (g : Mm) (x1 : Int32) (x2 : Int32) (x3 : Int32) (x4 : Int32) (x5 : Int32) (H : Heap) (locs : List Loc) (ls : Array Slot), St dC dI cy ad s g H locs → lv_has ls 7 [(0, .ref (ad 86)), (1, .int x1), (2, .int x2), (3, .int x3), (4, .int x4), (5, .int x5)] → o_X8_haul_38 Q K115 n g x1 x2 x3 x4 x5 → W p l e (rmD 5) s m args below meth c H locs 0 0 (QI dC dI cy ad below args s Q) (F0 m 38 ls []) := by
  have hx := C.1.1
  have hb := C.1.2.1
  intro n38
  induction n38 with
  | zero => intro g x1 x2 x3 x4 x5 H locs ls S hl h; exact h.elim
  | succ n38 ih =>
    intro g x1 x2 x3 x4 x5 H locs ls S hl h
    have h : o_X8_power (fun (r_6 : Int32) (g_5 : Mm) => ((r_6 ≤ x5) → K115 g_5 x1 x2 x3 x4) ∧ ((¬ r_6 ≤ x5) → o_X8_goBy (fun (g_7 : Mm) => o_X8_wonWeight (fun (r_10 : Int32) (g_9 : Mm) => o_X8_wonWeight (fun (r_12 : Int32) (g_11 : Mm) => ∀ x_13 : Int32, x_13 = ((1000 * r_10) + r_12) → (((x_13 ≤ x4) → o_X8_haul_92 Q (o_X8_haul_38 Q K115 n38) K115 g_11 x1 x2 x4 x5 x_13 x3) ∧ ((¬ x_13 ≤ x4) → o_X8_haul_92 Q (o_X8_haul_38 Q K115 n38) K115 g_11 x1 x2 x4 x5 x_13 x5))) 98 g_9 1) 98 g_7 0) g_5 x1 x5)) g x1 := h
    refine lv_iload hx hb dX8_haul_38 (lv_at hl 5 rfl) ?_
    refine lv_iload_n hx hb dX8_haul_40 rfl (lv_at hl 1 rfl) ?_
    refine kS_i (As := [.int x1]) (rest := [.int x5]) C S hl.1 (o_X8_power_c h) (cw_X8_haul_X8_power C.1.2.2.2.2) rfl rfl (Nat.le_of_ble_eq_true rfl) dX8_haul_41 (fun r_6 g_5 H locs h S => ?_)
    refine lv_icmp_ge (tgt := 115) hx hb dX8_haul_44 (by decide) (fun c1 => ?_) (fun c1 => ?_)
    · have h := h.1 c1
      exact hK115 g_5 x1 x2 x3 x4 _ _ _ S (lv_sub hl [1, 2, 3, 4] rfl) h
    · have h := h.2 c1
      refine lv_aload_n hx hb dX8_haul_47 rfl (lv_at hl 0 rfl) ?_
      refine lv_iload_n hx hb dX8_haul_48 rfl (lv_at hl 1 rfl) ?_
      refine lv_iload hx hb dX8_haul_49 (lv_at hl 5 rfl) ?_
      refine kV_v (As := [.int x1, .int x5]) (rest := []) C S hl.1 (o_X8_goBy_c h) (wd_o8 rfl) rfl (cw_X8_haul_X8_goBy C.1.2.2.2.2) rfl rfl (Nat.le_of_ble_eq_true rfl) dX8_haul_51 (fun g_7 H locs h S => ?_)
      refine lv_sipush (v := 1000) hx hb dX8_haul_54 (by decide) ?_
      refine lv_aload_n hx hb dX8_haul_57 rfl (lv_at hl 0 rfl) ?_
      refine lv_aload_n hx hb dX8_haul_58 rfl (lv_at hl 0 rfl) ?_
      refine kg8 (k := 19) (v := .ref (ad 98)) C S rfl (by decide) n_X8_haul_X8 m_X8_haul_4 rfl dX8_haul_59 ?_
      refine lv_iconst (v := 0) hx hb dX8_haul_62 (by decide) ?_
      refine kV_i (As := [.ref (ad 98), .int 0]) (rest := [.int 1000]) C S hl.1 (o_X8_wonWeight_c rfl rfl h) (wd_o8 rfl) rfl (cw_X8_haul_X8_wonWeight C.1.2.2.2.2) rfl rfl (Nat.le_of_ble_eq_true rfl) dX8_haul_63 (fun r_10 g_9 H locs h S => ?_)
      refine lv_imul hx hb dX8_haul_66 ?_
      refine lv_aload_n hx hb dX8_haul_67 rfl (lv_at hl 0 rfl) ?_
      refine lv_aload_n hx hb dX8_haul_68 rfl (lv_at hl 0 rfl) ?_
      refine kg8 (k := 19) (v := .ref (ad 98)) C S rfl (by decide) n_X8_haul_X8 m_X8_haul_4 rfl dX8_haul_69 ?_
      refine lv_iconst (v := 1) hx hb dX8_haul_72 (by decide) ?_
      refine kV_i (As := [.ref (ad 98), .int 1]) (rest := [.int (1000 * r_10)]) C S hl.1 (o_X8_wonWeight_c rfl rfl h) (wd_o8 rfl) rfl (cw_X8_haul_X8_wonWeight C.1.2.2.2.2) rfl rfl (Nat.le_of_ble_eq_true rfl) dX8_haul_73 (fun r_12 g_11 H locs h S => ?_)
      refine lv_iadd hx hb dX8_haul_76 ?_
      refine lv_topi (fun x_13 ex_13 => ?_)
      have h := h x_13 ex_13
      refine lv_istore (lv' := [(6, .int x_13), (0, .ref (ad 86)), (1, .int x1), (2, .int x2), (3, .int x3), (4, .int x4), (5, .int x5)]) hx hb dX8_haul_77 hl (by decide) rfl (fun ls hl => ?_)
      refine lv_iload hx hb dX8_haul_79 (lv_at hl 0 rfl) ?_
      refine lv_iload hx hb dX8_haul_81 (lv_at hl 5 rfl) ?_
      refine lv_icmp_le (tgt := 91) hx hb dX8_haul_83 (by decide) (fun c1 => ?_) (fun c1 => ?_)
      · have h := h.1 c1
        refine lv_iload_n hx hb dX8_haul_91 rfl (lv_at hl 4 rfl) ?_
        exact o_X8_haul_92_w C ih hK115 g_11 x1 x2 x4 x5 x_13 x3 _ _ _ S (lv_sub hl [1, 2, 3, 5, 6, 0] rfl) h
      · have h := h.2 c1
        refine lv_iload hx hb dX8_haul_86 (lv_at hl 6 rfl) ?_
        refine lv_goto (tgt := 92) hx hb dX8_haul_88 (by decide) ?_
        exact o_X8_haul_92_w C ih hK115 g_11 x1 x2 x4 x5 x_13 x5 _ _ _ S (lv_sub hl [1, 2, 3, 5, 6, 0] rfl) h
def o_X8_haul (Q : Int32 → Mm → Prop) (g : Mm) (x1 : Int32) (x2 : Int32) : Prop := o_X8_toys (fun (r_2 : Int32) (g_1 : Mm) => ((¬ r_2 = 0) → o_X8_in (fun (r_4 : Int32) (g_3 : Mm) => ((r_4 = 0) → Q (-1000001) g_3) ∧ ((¬ r_4 = 0) → (((-1) ≤ x2) → ∃ n38, o_X8_haul_38 Q (fun (g : Mm) (x1 : Int32) (x2 : Int32) (x3 : Int32) (x4 : Int32) => ((¬ x2 = (-1)) → ((x2 < x1) → o_X8_columnBy (fun (r_16 : Int32) (g_15 : Mm) => Q r_16 g_15) g x1 x3 x2) ∧ ((¬ x2 < x1) → Q (-1000000) g)) ∧ ((x2 = (-1)) → ¬ (1000 : Int32) = 0 ∧ (Q (x4 / 1000) g))) n38 g_3 x1 x2 0 (-1) 0) ∧ ((¬ (-1) ≤ x2) → Q (-1000001) g_3))) g_1 ((x1 : Int32).toInt64) 1 4) ∧ ((r_2 = 0) → Q (-1000002) g_1)) g
set_option maxHeartbeats 4000000 in
set_option maxRecDepth 100000 in
theorem o_X8_haul_c {l : Launch} {dC : Nat → ClassId} {dI : Nat → Nat → Nat} {cy : Nat → ClassId} {ad tz : Nat → Nat} {Q : Int32 → Mm → Prop} {g : Mm} {x1 : Int32} {x2 : Int32} (h : o_X8_haul Q g x1 x2) : CI l dC dI cy ad tz yX8_haul wsX8_haul (rmD 5) [.ref (ad 86), .int x1, .int x2] g Q := by
  refine CI.of (by decide) rfl rfl (Nat.le_of_ble_eq_true rfl) ?_
  intro p e s m args below meth c ls C hl S
  have hl : lv_has ls 7 [(0, .ref (ad 86)), (1, .int x1), (2, .int x2)] := hl
  have hx := C.1.1
  have hb := C.1.2.1
  unfold o_X8_haul at h
  refine lv_aload_n hx hb dX8_haul_0 rfl (lv_at hl 0 rfl) ?_
  refine kV_i (As := []) (rest := []) C S hl.1 (o_X8_toys_c h) (wd_o8 rfl) rfl (cw_X8_haul_X8_toys C.1.2.2.2.2) rfl rfl (Nat.le_of_ble_eq_true rfl) dX8_haul_1 (fun r_2 g_1 H locs h S => ?_)
  refine lv_if_ne (tgt := 10) hx hb dX8_haul_4 (by decide) (fun c1 => ?_) (fun c1 => ?_)
  · have h := h.1 c1
    refine lv_iload_n hx hb dX8_haul_10 rfl (lv_at hl 1 rfl) ?_
    refine lv_i2l hx hb dX8_haul_11 rfl ?_
    refine lv_lconst (v := 1) hx hb dX8_haul_12 (by decide) ?_
    refine kLdc2 C m_X8_haul_2 dX8_haul_13 ?_
    refine kS_i (As := [.long ((x1 : Int32).toInt64), .long 1, .long 4]) (rest := []) C S hl.1 (o_X8_in_c h) (cw_X8_haul_X8_in C.1.2.2.2.2) rfl rfl (Nat.le_of_ble_eq_true rfl) dX8_haul_16 (fun r_4 g_3 H locs h S => ?_)
    refine lv_if_eq (tgt := 27) hx hb dX8_haul_19 (by decide) (fun c1 => ?_) (fun c1 => ?_)
    · have h := h.1 c1
      refine kLdc C m_X8_haul_3 dX8_haul_27 ?_
      exact kRi C S h dX8_haul_29
    · have h := h.2 c1
      refine lv_iload_n hx hb dX8_haul_22 rfl (lv_at hl 2 rfl) ?_
      refine lv_iconst (v := (-1)) hx hb dX8_haul_23 (by decide) ?_
      refine lv_icmp_ge (tgt := 30) hx hb dX8_haul_24 (by decide) (fun c1 => ?_) (fun c1 => ?_)
      · have h := h.1 c1
        refine lv_iconst (v := 0) hx hb dX8_haul_30 (by decide) ?_
        refine lv_istore_n (lv' := [(3, .int 0), (0, .ref (ad 86)), (1, .int x1), (2, .int x2)]) hx hb dX8_haul_31 rfl hl (by decide) rfl (fun ls hl => ?_)
        refine lv_iconst (v := (-1)) hx hb dX8_haul_32 (by decide) ?_
        refine lv_istore (lv' := [(4, .int (-1)), (3, .int 0), (0, .ref (ad 86)), (1, .int x1), (2, .int x2)]) hx hb dX8_haul_33 hl (by decide) rfl (fun ls hl => ?_)
        refine lv_iconst (v := 0) hx hb dX8_haul_35 (by decide) ?_
        refine lv_istore (lv' := [(5, .int 0), (4, .int (-1)), (3, .int 0), (0, .ref (ad 86)), (1, .int x1), (2, .int x2)]) hx hb dX8_haul_36 hl (by decide) rfl (fun ls hl => ?_)
        obtain ⟨n38, h⟩ := h
        refine o_X8_haul_38_w C ?_ n38 g_3 x1 x2 0 (-1) 0 _ _ _ S (lv_sub hl [3, 4, 5, 2, 1, 0] rfl) h
        · intro g x1 x2 x3 x4 H locs ls S hl h
          refine lv_iload_n hx hb dX8_haul_115 rfl (lv_at hl 1 rfl) ?_
          refine lv_iconst (v := (-1)) hx hb dX8_haul_116 (by decide) ?_
          refine lv_icmp_ne (tgt := 129) hx hb dX8_haul_117 (by decide) (fun c1 => ?_) (fun c1 => ?_)
          · have h := h.1 c1
            refine lv_iload_n hx hb dX8_haul_129 rfl (lv_at hl 1 rfl) ?_
            refine lv_iload_n hx hb dX8_haul_130 rfl (lv_at hl 0 rfl) ?_
            refine lv_icmp_lt (tgt := 139) hx hb dX8_haul_131 (by decide) (fun c1 => ?_) (fun c1 => ?_)
            · have h := h.1 c1
              refine lv_iload_n hx hb dX8_haul_139 rfl (lv_at hl 0 rfl) ?_
              refine lv_iload_n hx hb dX8_haul_140 rfl (lv_at hl 2 rfl) ?_
              refine lv_iload_n hx hb dX8_haul_141 rfl (lv_at hl 1 rfl) ?_
              refine kS_i (As := [.int x1, .int x3, .int x2]) (rest := []) C S hl.1 (o_X8_columnBy_c h) (cw_X8_haul_X8_columnBy C.1.2.2.2.2) rfl rfl (Nat.le_of_ble_eq_true rfl) dX8_haul_142 (fun r_16 g_15 H locs h S => ?_)
              exact kRi C S h dX8_haul_145
            · have h := h.2 c1
              refine kLdc C m_X8_haul_5 dX8_haul_134 ?_
              refine lv_goto (tgt := 145) hx hb dX8_haul_136 (by decide) ?_
              exact kRi C S h dX8_haul_145
          · have h := h.2 c1
            refine lv_iload hx hb dX8_haul_120 (lv_at hl 3 rfl) ?_
            refine lv_sipush (v := 1000) hx hb dX8_haul_122 (by decide) ?_
            obtain ⟨h0, h⟩ := h
            refine lv_idiv hx hb dX8_haul_125 h0 ?_
            refine lv_goto (tgt := 145) hx hb dX8_haul_126 (by decide) ?_
            exact kRi C S h dX8_haul_145
      · have h := h.2 c1
        refine kLdc C m_X8_haul_3 dX8_haul_27 ?_
        exact kRi C S h dX8_haul_29
  · have h := h.2 c1
    refine kLdc C m_X8_haul_1 dX8_haul_7 ?_
    exact kRi C S h dX8_haul_9
/-! ClawCaseModel.image(I)I, height 1 -/
theorem m_X8_image_3 : Cond.fieldLink RX8 13 "ClawCaseModel" "kept" "[I" ∈ wsX8_image := List.mem_of_getElem? (i := 3) (by decide +kernel)
theorem n_X8_image_X8 : ∀ w ∈ wsX80, w ∈ wsX8_image := mem_by [14, 15, 16, 17, 18, 19, 20, 21, 22, 23, 24, 25, 26, 27, 28, 29, 30, 31, 32, 33, 34, 35, 36, 37] (by decide +kernel)
theorem m_X8_image_4 : Cond.fieldLink RX8 7 "ClawCaseModel" "now" "[I" ∈ wsX8_image := List.mem_of_getElem? (i := 4) (by decide +kernel)
theorem m_X8_image_5 : Cond.fieldLink RX8 16 "ClawCaseModel" "isKept" "[Z" ∈ wsX8_image := List.mem_of_getElem? (i := 5) (by decide +kernel)
theorem m_X8_image_2 : Cond.constant RX8 176 (-1000002) ∈ wsX8_image := List.mem_of_getElem? (i := 2) (by decide +kernel)
theorem cw_X8_image_X8_toys {s : State} {args : Array Value} (ht : ∀ w ∈ wsX8_image, w.before args s = true) : CallW (rmD 1) s args RX8 RX8 140 yX8_toys cX8_toys 1 (some .int) wsX8_toys (rmD (0)) 0 0 0 := cwV 0 ht gX8_image_X8_toys rfl rfl rfl (by decide +kernel) ⟨Nat.le_of_ble_eq_true rfl, Nat.le_of_ble_eq_true rfl⟩
theorem m_X8_image_1 : Cond.constant RX8 71 (-1000001) ∈ wsX8_image := List.mem_of_getElem? (i := 1) (by decide +kernel)
theorem cw_X8_image_X8_in {s : State} {args : Array Value} (ht : ∀ w ∈ wsX8_image, w.before args s = true) : CallB (rmD 1) s args RX8 61 yX8_in cX8_in 6 (some .boolean) wsX8_in (rmD (0)) 0 0 3 ∧ (Cond.static yX8_in).before args s = true := va_cwS 3 ht gX8_image_X8_in rfl rfl rfl (by decide +kernel) ⟨Nat.le_of_ble_eq_true rfl, Nat.le_of_ble_eq_true rfl⟩
def o_X8_image_25 (Q : Int32 → Mm → Prop) (K54 : Mm → Int32 → Prop) : Nat → Mm → Int32 → Int32 → Prop
  | 0, _, _, _ => False
  | n25 + 1, g, x1, x2 => ((33 ≤ x2) → K54 g x1) ∧ ((¬ 33 ≤ x2) → vp_in x2 33 ∧ (vp_in ((33 * x1) + x2) 66 ∧ (∀ g_5 : Mm, g_5 = mset g 88 ((33 * x1) + x2 : Int32).toNatClampNeg (g.1 87 x2.toNatClampNeg) → (∀ x_6 : Int32, x_6 = x2 + 1 → (o_X8_image_25 Q K54 n25 g_5 x1 x_6)))))
set_option maxHeartbeats 4000000 in
set_option maxRecDepth 100000 in
theorem o_X8_image_25_w {p : Program} {l : Launch} {e : Env} {s : State} {m : MethodId} {args : Array Value} {below : List Frame} {meth : Method} {c : Code} {dC : Nat → ClassId} {dI : Nat → Nat → Nat} {cy : Nat → ClassId} {ad tz : Nat → Nat} {Q : Int32 → Mm → Prop} {K54 : Mm → Int32 → Prop} (C : CX p s m args meth c dC dI cy ad tz cX8_image 3 (some .int) RX8 wsX8_image) (hK54 : ∀ (g : Mm) (x1 : Int32) (H : Heap) (locs : List Loc) (ls : Array Slot), St dC dI cy ad s g H locs → lv_has ls 3 [(0, .ref (ad 86)), (1, .int x1)] → K54 g x1 → W p l e (rmD 1) s m args below meth c H locs 0 0 (QI dC dI cy ad below args s Q) (F0 m 54 ls [])) : ∀ (n : Nat) (g : Mm) (x1 : Int32) (x2 : Int32) (H : Heap) (locs : List Loc) (ls : Array Slot), St dC dI cy ad s g H locs → lv_has ls 3 [(0, .ref (ad 86)), (1, .int x1), (2, .int x2)] → o_X8_image_25 Q K54 n g x1 x2 → W p l e (rmD 1) s m args below meth c H locs 0 0 (QI dC dI cy ad below args s Q) (F0 m 25 ls []) := by
  have hx := C.1.1
  have hb := C.1.2.1
  intro n25
  induction n25 with
  | zero => intro g x1 x2 H locs ls S hl h; exact h.elim
  | succ n25 ih =>
    intro g x1 x2 H locs ls S hl h
    have h : ((33 ≤ x2) → K54 g x1) ∧ ((¬ 33 ≤ x2) → vp_in x2 33 ∧ (vp_in ((33 * x1) + x2) 66 ∧ (∀ g_5 : Mm, g_5 = mset g 88 ((33 * x1) + x2 : Int32).toNatClampNeg (g.1 87 x2.toNatClampNeg) → (∀ x_6 : Int32, x_6 = x2 + 1 → (o_X8_image_25 Q K54 n25 g_5 x1 x_6))))) := h
    refine lv_iload_n hx hb dX8_image_25 rfl (lv_at hl 2 rfl) ?_
    refine lv_bipush (v := 33) hx hb dX8_image_26 (by decide) ?_
    refine lv_icmp_ge (tgt := 54) hx hb dX8_image_28 (by decide) (fun c1 => ?_) (fun c1 => ?_)
    · have h := h.1 c1
      exact hK54 g x1 _ _ _ S (lv_sub hl [0, 1] rfl) h
    · have h := h.2 c1
      refine lv_aload_n hx hb dX8_image_31 rfl (lv_at hl 0 rfl) ?_
      refine kg8 (k := 1) (v := .ref (ad 88)) C S rfl (by decide) n_X8_image_X8 m_X8_image_3 rfl dX8_image_32 ?_
      refine lv_bipush (v := 33) hx hb dX8_image_35 (by decide) ?_
      refine lv_iload_n hx hb dX8_image_37 rfl (lv_at hl 1 rfl) ?_
      refine lv_imul hx hb dX8_image_38 ?_
      refine lv_iload_n hx hb dX8_image_39 rfl (lv_at hl 2 rfl) ?_
      refine lv_iadd hx hb dX8_image_40 ?_
      refine lv_aload_n hx hb dX8_image_41 rfl (lv_at hl 0 rfl) ?_
      refine kg8 (k := 0) (v := .ref (ad 87)) C S rfl (by decide) n_X8_image_X8 m_X8_image_4 rfl dX8_image_42 ?_
      refine lv_iload_n hx hb dX8_image_45 rfl (lv_at hl 2 rfl) ?_
      obtain ⟨hi, h⟩ := h
      refine kLi C S rfl rfl hi dX8_image_46 ?_
      obtain ⟨hi, h⟩ := h
      refine kSi C S rfl rfl hi dX8_image_47 (fun g_5 H locs eg_5 S => ?_)
      have h := h g_5 eg_5
      obtain ⟨x_6, ex_6⟩ : ∃ y : Int32, y = x2 + 1 := ⟨_, rfl⟩
      have h := h x_6 ex_6
      refine lv_iinc (v := x_6) (lv' := [(2, .int x_6), (0, .ref (ad 86)), (1, .int x1)]) hx hb dX8_image_48 hl (k := 2) rfl (by rw [ex_6]; rfl) (by decide) rfl (fun ls hl => ?_)
      refine lv_goto (tgt := 25) hx hb dX8_image_51 (by decide) ?_
      exact ih g_5 x1 x_6 _ _ _ S (lv_sub hl [1, 2, 0] rfl) h
def o_X8_image (Q : Int32 → Mm → Prop) (g : Mm) (x1 : Int32) : Prop := o_X8_in (fun (r_2 : Int32) (g_1 : Mm) => ((¬ r_2 = 0) → o_X8_toys (fun (r_4 : Int32) (g_3 : Mm) => ((¬ r_4 = 0) → ∃ n25, o_X8_image_25 Q (fun (g : Mm) (x1 : Int32) => vp_in x1 2 ∧ (∀ g_7 : Mm, g_7 = mset g 89 x1.toNatClampNeg (vp_nar .boolean 1) → (Q 1 g_7))) n25 g_3 x1 0) ∧ ((r_4 = 0) → Q (-1000002) g_3)) g_1) ∧ ((r_2 = 0) → Q (-1000001) g_1)) g ((x1 : Int32).toInt64) 0 1
set_option maxHeartbeats 4000000 in
set_option maxRecDepth 100000 in
theorem o_X8_image_c {l : Launch} {dC : Nat → ClassId} {dI : Nat → Nat → Nat} {cy : Nat → ClassId} {ad tz : Nat → Nat} {Q : Int32 → Mm → Prop} {g : Mm} {x1 : Int32} (h : o_X8_image Q g x1) : CI l dC dI cy ad tz yX8_image wsX8_image (rmD 1) [.ref (ad 86), .int x1] g Q := by
  refine CI.of (by decide) rfl rfl (Nat.le_of_ble_eq_true rfl) ?_
  intro p e s m args below meth c ls C hl S
  have hl : lv_has ls 3 [(0, .ref (ad 86)), (1, .int x1)] := hl
  have hx := C.1.1
  have hb := C.1.2.1
  unfold o_X8_image at h
  refine lv_iload_n hx hb dX8_image_0 rfl (lv_at hl 1 rfl) ?_
  refine lv_i2l hx hb dX8_image_1 rfl ?_
  refine lv_lconst (v := 0) hx hb dX8_image_2 (by decide) ?_
  refine lv_lconst (v := 1) hx hb dX8_image_3 (by decide) ?_
  refine kS_i (As := [.long ((x1 : Int32).toInt64), .long 0, .long 1]) (rest := []) C S hl.1 (o_X8_in_c h) (cw_X8_image_X8_in C.1.2.2.2.2) rfl rfl (Nat.le_of_ble_eq_true rfl) dX8_image_4 (fun r_2 g_1 H locs h S => ?_)
  refine lv_if_ne (tgt := 13) hx hb dX8_image_7 (by decide) (fun c1 => ?_) (fun c1 => ?_)
  · have h := h.1 c1
    refine lv_aload_n hx hb dX8_image_13 rfl (lv_at hl 0 rfl) ?_
    refine kV_i (As := []) (rest := []) C S hl.1 (o_X8_toys_c h) (wd_o8 rfl) rfl (cw_X8_image_X8_toys C.1.2.2.2.2) rfl rfl (Nat.le_of_ble_eq_true rfl) dX8_image_14 (fun r_4 g_3 H locs h S => ?_)
    refine lv_if_ne (tgt := 23) hx hb dX8_image_17 (by decide) (fun c1 => ?_) (fun c1 => ?_)
    · have h := h.1 c1
      refine lv_iconst (v := 0) hx hb dX8_image_23 (by decide) ?_
      refine lv_istore_n (lv' := [(2, .int 0), (0, .ref (ad 86)), (1, .int x1)]) hx hb dX8_image_24 rfl hl (by decide) rfl (fun ls hl => ?_)
      obtain ⟨n25, h⟩ := h
      refine o_X8_image_25_w C ?_ n25 g_3 x1 0 _ _ _ S (lv_sub hl [1, 2, 0] rfl) h
      · intro g x1 H locs ls S hl h
        refine lv_aload_n hx hb dX8_image_54 rfl (lv_at hl 0 rfl) ?_
        refine kg8 (k := 2) (v := .ref (ad 89)) C S rfl (by decide) n_X8_image_X8 m_X8_image_5 rfl dX8_image_55 ?_
        refine lv_iload_n hx hb dX8_image_58 rfl (lv_at hl 1 rfl) ?_
        refine lv_iconst (v := 1) hx hb dX8_image_59 (by decide) ?_
        obtain ⟨hi, h⟩ := h
        refine kSz C S rfl rfl hi dX8_image_60 (fun g_7 H locs eg_7 S => ?_)
        have h := h g_7 eg_7
        refine lv_iconst (v := 1) hx hb dX8_image_61 (by decide) ?_
        exact kRi C S h dX8_image_62
    · have h := h.2 c1
      refine kLdc C m_X8_image_2 dX8_image_20 ?_
      exact kRi C S h dX8_image_22
  · have h := h.2 c1
    refine kLdc C m_X8_image_1 dX8_image_10 ?_
    exact kRi C S h dX8_image_12
/-! ClawCaseModel.kind(I)I, height 2 -/
theorem m_X8_kind_2 : Cond.constant RX8 71 (-1000001) ∈ wsX8_kind := List.mem_of_getElem? (i := 2) (by decide +kernel)
theorem m_X8_kind_1 : Cond.fieldLink RX8 7 "ClawCaseModel" "now" "[I" ∈ wsX8_kind := List.mem_of_getElem? (i := 1) (by decide +kernel)
theorem n_X8_kind_X8 : ∀ w ∈ wsX80, w ∈ wsX8_kind := mem_by [15, 16, 17, 18, 19, 20, 21, 22, 23, 24, 25, 26, 27, 28, 29, 30, 31, 32, 33, 34, 35, 36, 37, 38] (by decide +kernel)
theorem cw_X8_kind_X8_isToy {s : State} {args : Array Value} (ht : ∀ w ∈ wsX8_kind, w.before args s = true) : CallW (rmD 2) s args RX8 RX8 187 yX8_isToy cX8_isToy 2 (some .boolean) wsX8_isToy (rmD (1)) 0 0 1 := cwV 1 ht gX8_kind_X8_isToy rfl rfl rfl (by decide +kernel) ⟨Nat.le_of_ble_eq_true rfl, Nat.le_of_ble_eq_true rfl⟩
def o_X8_kind (Q : Int32 → Mm → Prop) (g : Mm) (x1 : Int32) : Prop := o_X8_isToy (fun (r_2 : Int32) (g_1 : Mm) => ((r_2 = 0) → Q (-1000001) g_1) ∧ ((¬ r_2 = 0) → vp_in (1 + x1) 33 ∧ (Q (g_1.1 87 (1 + x1 : Int32).toNatClampNeg) g_1))) g x1
set_option maxHeartbeats 4000000 in
set_option maxRecDepth 100000 in
theorem o_X8_kind_c {l : Launch} {dC : Nat → ClassId} {dI : Nat → Nat → Nat} {cy : Nat → ClassId} {ad tz : Nat → Nat} {Q : Int32 → Mm → Prop} {g : Mm} {x1 : Int32} (h : o_X8_kind Q g x1) : CI l dC dI cy ad tz yX8_kind wsX8_kind (rmD 2) [.ref (ad 86), .int x1] g Q := by
  refine CI.of (by decide) rfl rfl (Nat.le_of_ble_eq_true rfl) ?_
  intro p e s m args below meth c ls C hl S
  have hl : lv_has ls 2 [(0, .ref (ad 86)), (1, .int x1)] := hl
  have hx := C.1.1
  have hb := C.1.2.1
  unfold o_X8_kind at h
  refine lv_aload_n hx hb dX8_kind_0 rfl (lv_at hl 0 rfl) ?_
  refine lv_iload_n hx hb dX8_kind_1 rfl (lv_at hl 1 rfl) ?_
  refine kV_i (As := [.int x1]) (rest := []) C S hl.1 (o_X8_isToy_c h) (wd_o8 rfl) rfl (cw_X8_kind_X8_isToy C.1.2.2.2.2) rfl rfl (Nat.le_of_ble_eq_true rfl) dX8_kind_2 (fun r_2 g_1 H locs h S => ?_)
  refine lv_if_eq (tgt := 19) hx hb dX8_kind_5 (by decide) (fun c1 => ?_) (fun c1 => ?_)
  · have h := h.1 c1
    refine kLdc C m_X8_kind_2 dX8_kind_19 ?_
    exact kRi C S h dX8_kind_21
  · have h := h.2 c1
    refine lv_aload_n hx hb dX8_kind_8 rfl (lv_at hl 0 rfl) ?_
    refine kg8 (k := 0) (v := .ref (ad 87)) C S rfl (by decide) n_X8_kind_X8 m_X8_kind_1 rfl dX8_kind_9 ?_
    refine lv_iconst (v := 1) hx hb dX8_kind_12 (by decide) ?_
    refine lv_iload_n hx hb dX8_kind_13 rfl (lv_at hl 1 rfl) ?_
    refine lv_iadd hx hb dX8_kind_14 ?_
    obtain ⟨hi, h⟩ := h
    refine kLi C S rfl rfl hi dX8_kind_15 ?_
    refine lv_goto (tgt := 21) hx hb dX8_kind_16 (by decide) ?_
    exact kRi C S h dX8_kind_21
/-! ClawCaseModel.play(I)I, height 4 -/
theorem m_X8_play_3 : Cond.fieldLink RX8 7 "ClawCaseModel" "now" "[I" ∈ wsX8_play := List.mem_of_getElem? (i := 3) (by decide +kernel)
theorem n_X8_play_X8 : ∀ w ∈ wsX80, w ∈ wsX8_play := mem_by [54, 55, 56, 57, 58, 59, 60, 61, 62, 63, 64, 65, 66, 67, 68, 69, 70, 71, 72, 73, 74, 75, 76, 77] (by decide +kernel)
theorem m_X8_play_5 : Cond.constant RX8 186 (-1000000) ∈ wsX8_play := List.mem_of_getElem? (i := 5) (by decide +kernel)
theorem cw_X8_play_X8_goNext {s : State} {args : Array Value} (ht : ∀ w ∈ wsX8_play, w.before args s = true) : CallB (rmD 4) s args RX8 183 yX8_goNext cX8_goNext 2 (some .int) wsX8_goNext (rmD (3)) 0 0 2 ∧ (Cond.static yX8_goNext).before args s = true := va_cwS 2 ht gX8_play_X8_goNext rfl rfl rfl (by decide +kernel) ⟨Nat.le_of_ble_eq_true rfl, Nat.le_of_ble_eq_true rfl⟩
theorem cw_X8_play_X8_save {s : State} {args : Array Value} (ht : ∀ w ∈ wsX8_play, w.before args s = true) : CallW (rmD 4) s args RX8 RX8 180 yX8_save cX8_save 2 none wsX8_save (rmD (0)) 0 0 0 := cwV 0 ht gX8_play_X8_save rfl rfl rfl (by decide +kernel) ⟨Nat.le_of_ble_eq_true rfl, Nat.le_of_ble_eq_true rfl⟩
theorem m_X8_play_4 : Cond.constant RX8 84 (-1000003) ∈ wsX8_play := List.mem_of_getElem? (i := 4) (by decide +kernel)
theorem m_X8_play_2 : Cond.constant RX8 71 (-1000001) ∈ wsX8_play := List.mem_of_getElem? (i := 2) (by decide +kernel)
theorem cw_X8_play_X8_isColumn {s : State} {args : Array Value} (ht : ∀ w ∈ wsX8_play, w.before args s = true) : CallB (rmD 4) s args RX8 177 yX8_isColumn cX8_isColumn 1 (some .boolean) wsX8_isColumn (rmD (1)) 0 0 1 ∧ (Cond.static yX8_isColumn).before args s = true := va_cwS 1 ht gX8_play_X8_isColumn rfl rfl rfl (by decide +kernel) ⟨Nat.le_of_ble_eq_true rfl, Nat.le_of_ble_eq_true rfl⟩
theorem m_X8_play_1 : Cond.constant RX8 176 (-1000002) ∈ wsX8_play := List.mem_of_getElem? (i := 1) (by decide +kernel)
theorem cw_X8_play_X8_toys {s : State} {args : Array Value} (ht : ∀ w ∈ wsX8_play, w.before args s = true) : CallW (rmD 4) s args RX8 RX8 140 yX8_toys cX8_toys 1 (some .int) wsX8_toys (rmD (0)) 0 0 0 := cwV 0 ht gX8_play_X8_toys rfl rfl rfl (by decide +kernel) ⟨Nat.le_of_ble_eq_true rfl, Nat.le_of_ble_eq_true rfl⟩
def o_X8_play (Q : Int32 → Mm → Prop) (g : Mm) (x1 : Int32) : Prop := o_X8_toys (fun (r_2 : Int32) (g_1 : Mm) => ((¬ r_2 = 0) → o_X8_isColumn (fun (r_4 : Int32) (g_3 : Mm) => ((¬ r_4 = 0) → vp_in 15 33 ∧ (((¬ (g_3.1 87 (15 : Int32).toNatClampNeg) = 9999) → o_X8_save (fun (g_5 : Mm) => o_X8_goNext (fun (r_8 : Int32) (g_7 : Mm) => ((0 ≤ r_8) → vp_in (19 + r_8) 33 ∧ (Q (g_7.1 87 (19 + r_8 : Int32).toNatClampNeg) g_7)) ∧ ((¬ 0 ≤ r_8) → Q (-1000000) g_7)) 87 g_5 x1) g_3) ∧ (((g_3.1 87 (15 : Int32).toNatClampNeg) = 9999) → Q (-1000003) g_3))) ∧ ((r_4 = 0) → Q (-1000001) g_3)) g_1 x1) ∧ ((r_2 = 0) → Q (-1000002) g_1)) g
set_option maxHeartbeats 4000000 in
set_option maxRecDepth 100000 in
theorem o_X8_play_c {l : Launch} {dC : Nat → ClassId} {dI : Nat → Nat → Nat} {cy : Nat → ClassId} {ad tz : Nat → Nat} {Q : Int32 → Mm → Prop} {g : Mm} {x1 : Int32} (h : o_X8_play Q g x1) : CI l dC dI cy ad tz yX8_play wsX8_play (rmD 4) [.ref (ad 86), .int x1] g Q := by
  refine CI.of (by decide) rfl rfl (Nat.le_of_ble_eq_true rfl) ?_
  intro p e s m args below meth c ls C hl S
  have hl : lv_has ls 3 [(0, .ref (ad 86)), (1, .int x1)] := hl
  have hx := C.1.1
  have hb := C.1.2.1
  unfold o_X8_play at h
  refine lv_aload_n hx hb dX8_play_0 rfl (lv_at hl 0 rfl) ?_
  refine kV_i (As := []) (rest := []) C S hl.1 (o_X8_toys_c h) (wd_o8 rfl) rfl (cw_X8_play_X8_toys C.1.2.2.2.2) rfl rfl (Nat.le_of_ble_eq_true rfl) dX8_play_1 (fun r_2 g_1 H locs h S => ?_)
  refine lv_if_ne (tgt := 10) hx hb dX8_play_4 (by decide) (fun c1 => ?_) (fun c1 => ?_)
  · have h := h.1 c1
    refine lv_iload_n hx hb dX8_play_10 rfl (lv_at hl 1 rfl) ?_
    refine kS_i (As := [.int x1]) (rest := []) C S hl.1 (o_X8_isColumn_c h) (cw_X8_play_X8_isColumn C.1.2.2.2.2) rfl rfl (Nat.le_of_ble_eq_true rfl) dX8_play_11 (fun r_4 g_3 H locs h S => ?_)
    refine lv_if_ne (tgt := 20) hx hb dX8_play_14 (by decide) (fun c1 => ?_) (fun c1 => ?_)
    · have h := h.1 c1
      refine lv_aload_n hx hb dX8_play_20 rfl (lv_at hl 0 rfl) ?_
      refine kg8 (k := 0) (v := .ref (ad 87)) C S rfl (by decide) n_X8_play_X8 m_X8_play_3 rfl dX8_play_21 ?_
      refine lv_bipush (v := 15) hx hb dX8_play_24 (by decide) ?_
      obtain ⟨hi, h⟩ := h
      refine kLi C S rfl rfl hi dX8_play_26 ?_
      refine lv_sipush (v := 9999) hx hb dX8_play_27 (by decide) ?_
      refine lv_icmp_ne (tgt := 36) hx hb dX8_play_30 (by decide) (fun c1 => ?_) (fun c1 => ?_)
      · have h := h.1 c1
        refine lv_aload_n hx hb dX8_play_36 rfl (lv_at hl 0 rfl) ?_
        refine kV_v (As := []) (rest := []) C S hl.1 (o_X8_save_c h) (wd_o8 rfl) rfl (cw_X8_play_X8_save C.1.2.2.2.2) rfl rfl (Nat.le_of_ble_eq_true rfl) dX8_play_37 (fun g_5 H locs h S => ?_)
        refine lv_aload_n hx hb dX8_play_40 rfl (lv_at hl 0 rfl) ?_
        refine kg8 (k := 0) (v := .ref (ad 87)) C S rfl (by decide) n_X8_play_X8 m_X8_play_3 rfl dX8_play_41 ?_
        refine lv_iload_n hx hb dX8_play_44 rfl (lv_at hl 1 rfl) ?_
        refine kS_i (As := [.ref (ad 87), .int x1]) (rest := []) C S hl.1 (o_X8_goNext_c rfl rfl h) (cw_X8_play_X8_goNext C.1.2.2.2.2) rfl rfl (Nat.le_of_ble_eq_true rfl) dX8_play_45 (fun r_8 g_7 H locs h S => ?_)
        refine lv_istore_n (lv' := [(2, .int r_8), (0, .ref (ad 86)), (1, .int x1)]) hx hb dX8_play_48 rfl hl (by decide) rfl (fun ls hl => ?_)
        refine lv_iload_n hx hb dX8_play_49 rfl (lv_at hl 0 rfl) ?_
        refine lv_if_ge (tgt := 58) hx hb dX8_play_50 (by decide) (fun c1 => ?_) (fun c1 => ?_)
        · have h := h.1 c1
          refine lv_aload_n hx hb dX8_play_58 rfl (lv_at hl 1 rfl) ?_
          refine kg8 (k := 0) (v := .ref (ad 87)) C S rfl (by decide) n_X8_play_X8 m_X8_play_3 rfl dX8_play_59 ?_
          refine lv_bipush (v := 19) hx hb dX8_play_62 (by decide) ?_
          refine lv_iload_n hx hb dX8_play_64 rfl (lv_at hl 0 rfl) ?_
          refine lv_iadd hx hb dX8_play_65 ?_
          obtain ⟨hi, h⟩ := h
          refine kLi C S rfl rfl hi dX8_play_66 ?_
          exact kRi C S h dX8_play_67
        · have h := h.2 c1
          refine kLdc C m_X8_play_5 dX8_play_53 ?_
          refine lv_goto (tgt := 67) hx hb dX8_play_55 (by decide) ?_
          exact kRi C S h dX8_play_67
      · have h := h.2 c1
        refine kLdc C m_X8_play_4 dX8_play_33 ?_
        exact kRi C S h dX8_play_35
    · have h := h.2 c1
      refine kLdc C m_X8_play_2 dX8_play_17 ?_
      exact kRi C S h dX8_play_19
  · have h := h.2 c1
    refine kLdc C m_X8_play_1 dX8_play_7 ?_
    exact kRi C S h dX8_play_9
/-! ClawCaseModel.put(II)I, height 2 -/
theorem m_X8_put_1 : Cond.constant RX8 71 (-1000001) ∈ wsX8_put := List.mem_of_getElem? (i := 1) (by decide +kernel)
theorem m_X8_put_2 : Cond.fieldLink RX8 7 "ClawCaseModel" "now" "[I" ∈ wsX8_put := List.mem_of_getElem? (i := 2) (by decide +kernel)
theorem n_X8_put_X8 : ∀ w ∈ wsX80, w ∈ wsX8_put := mem_by [32, 33, 34, 35, 36, 37, 38, 39, 40, 41, 42, 43, 44, 45, 46, 47, 48, 49, 50, 51, 52, 53, 54, 55] (by decide +kernel)
theorem cw_X8_put_X8_lyingIn {s : State} {args : Array Value} (ht : ∀ w ∈ wsX8_put, w.before args s = true) : CallB (rmD 2) s args RX8 149 yX8_lyingIn cX8_lyingIn 4 (some .int) wsX8_lyingIn (rmD (0)) 0 0 2 ∧ (Cond.static yX8_lyingIn).before args s = true := va_cwS 2 ht gX8_put_X8_lyingIn rfl rfl rfl (by decide +kernel) ⟨Nat.le_of_ble_eq_true rfl, Nat.le_of_ble_eq_true rfl⟩
theorem cw_X8_put_X8_lay {s : State} {args : Array Value} (ht : ∀ w ∈ wsX8_put, w.before args s = true) : CallB (rmD 2) s args RX8 162 yX8_lay cX8_lay 3 none wsX8_lay (rmD (1)) 0 0 3 ∧ (Cond.static yX8_lay).before args s = true := va_cwS 3 ht gX8_put_X8_lay rfl rfl rfl (by decide +kernel) ⟨Nat.le_of_ble_eq_true rfl, Nat.le_of_ble_eq_true rfl⟩
theorem cw_X8_put_X8_save {s : State} {args : Array Value} (ht : ∀ w ∈ wsX8_put, w.before args s = true) : CallW (rmD 2) s args RX8 RX8 180 yX8_save cX8_save 2 none wsX8_save (rmD (0)) 0 0 0 := cwV 0 ht gX8_put_X8_save rfl rfl rfl (by decide +kernel) ⟨Nat.le_of_ble_eq_true rfl, Nat.le_of_ble_eq_true rfl⟩
theorem m_X8_put_3 : Cond.constant RX8 176 (-1000002) ∈ wsX8_put := List.mem_of_getElem? (i := 3) (by decide +kernel)
theorem cw_X8_put_X8_isColumn {s : State} {args : Array Value} (ht : ∀ w ∈ wsX8_put, w.before args s = true) : CallB (rmD 2) s args RX8 177 yX8_isColumn cX8_isColumn 1 (some .boolean) wsX8_isColumn (rmD (1)) 0 0 1 ∧ (Cond.static yX8_isColumn).before args s = true := va_cwS 1 ht gX8_put_X8_isColumn rfl rfl rfl (by decide +kernel) ⟨Nat.le_of_ble_eq_true rfl, Nat.le_of_ble_eq_true rfl⟩
theorem cw_X8_put_X8_isToy {s : State} {args : Array Value} (ht : ∀ w ∈ wsX8_put, w.before args s = true) : CallW (rmD 2) s args RX8 RX8 187 yX8_isToy cX8_isToy 2 (some .boolean) wsX8_isToy (rmD (1)) 0 0 1 := cwV 1 ht gX8_put_X8_isToy rfl rfl rfl (by decide +kernel) ⟨Nat.le_of_ble_eq_true rfl, Nat.le_of_ble_eq_true rfl⟩
def o_X8_put (Q : Int32 → Mm → Prop) (g : Mm) (x1 : Int32) (x2 : Int32) : Prop := o_X8_isToy (fun (r_2 : Int32) (g_1 : Mm) => ((r_2 = 0) → Q (-1000001) g_1) ∧ ((¬ r_2 = 0) → o_X8_isColumn (fun (r_4 : Int32) (g_3 : Mm) => ((¬ r_4 = 0) → vp_in (19 + x1) 33 ∧ (o_X8_isColumn (fun (r_6 : Int32) (g_5 : Mm) => ((r_6 = 0) → o_X8_save (fun (g_7 : Mm) => o_X8_lay (fun (g_9 : Mm) => o_X8_lyingIn (fun (r_12 : Int32) (g_11 : Mm) => Q r_12 g_11) 87 g_9 x2) 87 g_7 x1 x2) g_5) ∧ ((¬ r_6 = 0) → Q (-1000002) g_5)) g_3 (g_3.1 87 (19 + x1 : Int32).toNatClampNeg))) ∧ ((r_4 = 0) → Q (-1000001) g_3)) g_1 x2)) g x1
set_option maxHeartbeats 4000000 in
set_option maxRecDepth 100000 in
theorem o_X8_put_c {l : Launch} {dC : Nat → ClassId} {dI : Nat → Nat → Nat} {cy : Nat → ClassId} {ad tz : Nat → Nat} {Q : Int32 → Mm → Prop} {g : Mm} {x1 : Int32} {x2 : Int32} (h : o_X8_put Q g x1 x2) : CI l dC dI cy ad tz yX8_put wsX8_put (rmD 2) [.ref (ad 86), .int x1, .int x2] g Q := by
  refine CI.of (by decide) rfl rfl (Nat.le_of_ble_eq_true rfl) ?_
  intro p e s m args below meth c ls C hl S
  have hl : lv_has ls 3 [(0, .ref (ad 86)), (1, .int x1), (2, .int x2)] := hl
  have hx := C.1.1
  have hb := C.1.2.1
  unfold o_X8_put at h
  refine lv_aload_n hx hb dX8_put_0 rfl (lv_at hl 0 rfl) ?_
  refine lv_iload_n hx hb dX8_put_1 rfl (lv_at hl 1 rfl) ?_
  refine kV_i (As := [.int x1]) (rest := []) C S hl.1 (o_X8_isToy_c h) (wd_o8 rfl) rfl (cw_X8_put_X8_isToy C.1.2.2.2.2) rfl rfl (Nat.le_of_ble_eq_true rfl) dX8_put_2 (fun r_2 g_1 H locs h S => ?_)
  refine lv_if_eq (tgt := 15) hx hb dX8_put_5 (by decide) (fun c1 => ?_) (fun c1 => ?_)
  · have h := h.1 c1
    refine kLdc C m_X8_put_1 dX8_put_15 ?_
    exact kRi C S h dX8_put_17
  · have h := h.2 c1
    refine lv_iload_n hx hb dX8_put_8 rfl (lv_at hl 2 rfl) ?_
    refine kS_i (As := [.int x2]) (rest := []) C S hl.1 (o_X8_isColumn_c h) (cw_X8_put_X8_isColumn C.1.2.2.2.2) rfl rfl (Nat.le_of_ble_eq_true rfl) dX8_put_9 (fun r_4 g_3 H locs h S => ?_)
    refine lv_if_ne (tgt := 18) hx hb dX8_put_12 (by decide) (fun c1 => ?_) (fun c1 => ?_)
    · have h := h.1 c1
      refine lv_aload_n hx hb dX8_put_18 rfl (lv_at hl 0 rfl) ?_
      refine kg8 (k := 0) (v := .ref (ad 87)) C S rfl (by decide) n_X8_put_X8 m_X8_put_2 rfl dX8_put_19 ?_
      refine lv_bipush (v := 19) hx hb dX8_put_22 (by decide) ?_
      refine lv_iload_n hx hb dX8_put_24 rfl (lv_at hl 1 rfl) ?_
      refine lv_iadd hx hb dX8_put_25 ?_
      obtain ⟨hi, h⟩ := h
      refine kLi C S rfl rfl hi dX8_put_26 ?_
      refine kS_i (As := [.int (g_3.1 87 (19 + x1 : Int32).toNatClampNeg)]) (rest := []) C S hl.1 (o_X8_isColumn_c h) (cw_X8_put_X8_isColumn C.1.2.2.2.2) rfl rfl (Nat.le_of_ble_eq_true rfl) dX8_put_27 (fun r_6 g_5 H locs h S => ?_)
      refine lv_if_eq (tgt := 36) hx hb dX8_put_30 (by decide) (fun c1 => ?_) (fun c1 => ?_)
      · have h := h.1 c1
        refine lv_aload_n hx hb dX8_put_36 rfl (lv_at hl 0 rfl) ?_
        refine kV_v (As := []) (rest := []) C S hl.1 (o_X8_save_c h) (wd_o8 rfl) rfl (cw_X8_put_X8_save C.1.2.2.2.2) rfl rfl (Nat.le_of_ble_eq_true rfl) dX8_put_37 (fun g_7 H locs h S => ?_)
        refine lv_aload_n hx hb dX8_put_40 rfl (lv_at hl 0 rfl) ?_
        refine kg8 (k := 0) (v := .ref (ad 87)) C S rfl (by decide) n_X8_put_X8 m_X8_put_2 rfl dX8_put_41 ?_
        refine lv_iload_n hx hb dX8_put_44 rfl (lv_at hl 1 rfl) ?_
        refine lv_iload_n hx hb dX8_put_45 rfl (lv_at hl 2 rfl) ?_
        refine kS_v (As := [.ref (ad 87), .int x1, .int x2]) (rest := []) C S hl.1 (o_X8_lay_c rfl rfl h) (cw_X8_put_X8_lay C.1.2.2.2.2) rfl rfl (Nat.le_of_ble_eq_true rfl) dX8_put_46 (fun g_9 H locs h S => ?_)
        refine lv_aload_n hx hb dX8_put_49 rfl (lv_at hl 0 rfl) ?_
        refine kg8 (k := 0) (v := .ref (ad 87)) C S rfl (by decide) n_X8_put_X8 m_X8_put_2 rfl dX8_put_50 ?_
        refine lv_iload_n hx hb dX8_put_53 rfl (lv_at hl 2 rfl) ?_
        refine kS_i (As := [.ref (ad 87), .int x2]) (rest := []) C S hl.1 (o_X8_lyingIn_c rfl rfl h) (cw_X8_put_X8_lyingIn C.1.2.2.2.2) rfl rfl (Nat.le_of_ble_eq_true rfl) dX8_put_54 (fun r_12 g_11 H locs h S => ?_)
        exact kRi C S h dX8_put_57
      · have h := h.2 c1
        refine kLdc C m_X8_put_3 dX8_put_33 ?_
        exact kRi C S h dX8_put_35
    · have h := h.2 c1
      refine kLdc C m_X8_put_1 dX8_put_15 ?_
      exact kRi C S h dX8_put_17
/-! ClawCaseModel.restore(I)I, height 1 -/
theorem m_X8_restore_2 : Cond.fieldLink RX8 16 "ClawCaseModel" "isKept" "[Z" ∈ wsX8_restore := List.mem_of_getElem? (i := 2) (by decide +kernel)
theorem n_X8_restore_X8 : ∀ w ∈ wsX80, w ∈ wsX8_restore := mem_by [11, 12, 13, 14, 15, 16, 17, 18, 19, 20, 21, 22, 23, 24, 25, 26, 27, 28, 29, 30, 31, 32, 33, 34] (by decide +kernel)
theorem m_X8_restore_4 : Cond.fieldLink RX8 7 "ClawCaseModel" "now" "[I" ∈ wsX8_restore := List.mem_of_getElem? (i := 4) (by decide +kernel)
theorem m_X8_restore_5 : Cond.fieldLink RX8 13 "ClawCaseModel" "kept" "[I" ∈ wsX8_restore := List.mem_of_getElem? (i := 5) (by decide +kernel)
theorem m_X8_restore_6 : Cond.fieldLink RX8 137 "ClawCaseModel" "manyActs" "I" ∈ wsX8_restore := List.mem_of_getElem? (i := 6) (by decide +kernel)
theorem m_X8_restore_3 : Cond.constant RX8 176 (-1000002) ∈ wsX8_restore := List.mem_of_getElem? (i := 3) (by decide +kernel)
theorem m_X8_restore_1 : Cond.constant RX8 71 (-1000001) ∈ wsX8_restore := List.mem_of_getElem? (i := 1) (by decide +kernel)
theorem cw_X8_restore_X8_in {s : State} {args : Array Value} (ht : ∀ w ∈ wsX8_restore, w.before args s = true) : CallB (rmD 1) s args RX8 61 yX8_in cX8_in 6 (some .boolean) wsX8_in (rmD (0)) 0 0 3 ∧ (Cond.static yX8_in).before args s = true := va_cwS 3 ht gX8_restore_X8_in rfl rfl rfl (by decide +kernel) ⟨Nat.le_of_ble_eq_true rfl, Nat.le_of_ble_eq_true rfl⟩
def o_X8_restore_27 (Q : Int32 → Mm → Prop) (K56 : Mm → Prop) : Nat → Mm → Int32 → Int32 → Prop
  | 0, _, _, _ => False
  | n27 + 1, g, x1, x2 => ((33 ≤ x2) → K56 g) ∧ ((¬ 33 ≤ x2) → vp_in ((33 * x1) + x2) 66 ∧ (vp_in x2 33 ∧ (∀ g_3 : Mm, g_3 = mset g 87 x2.toNatClampNeg (g.1 88 ((33 * x1) + x2 : Int32).toNatClampNeg) → (∀ x_4 : Int32, x_4 = x2 + 1 → (o_X8_restore_27 Q K56 n27 g_3 x1 x_4)))))
set_option maxHeartbeats 4000000 in
set_option maxRecDepth 100000 in
theorem o_X8_restore_27_w {p : Program} {l : Launch} {e : Env} {s : State} {m : MethodId} {args : Array Value} {below : List Frame} {meth : Method} {c : Code} {dC : Nat → ClassId} {dI : Nat → Nat → Nat} {cy : Nat → ClassId} {ad tz : Nat → Nat} {Q : Int32 → Mm → Prop} {K56 : Mm → Prop} (C : CX p s m args meth c dC dI cy ad tz cX8_restore 3 (some .int) RX8 wsX8_restore) (hK56 : ∀ (g : Mm) (H : Heap) (locs : List Loc) (ls : Array Slot), St dC dI cy ad s g H locs → lv_has ls 3 [(0, .ref (ad 86))] → K56 g → W p l e (rmD 1) s m args below meth c H locs 0 0 (QI dC dI cy ad below args s Q) (F0 m 56 ls [])) : ∀ (n : Nat) (g : Mm) (x1 : Int32) (x2 : Int32) (H : Heap) (locs : List Loc) (ls : Array Slot), St dC dI cy ad s g H locs → lv_has ls 3 [(0, .ref (ad 86)), (1, .int x1), (2, .int x2)] → o_X8_restore_27 Q K56 n g x1 x2 → W p l e (rmD 1) s m args below meth c H locs 0 0 (QI dC dI cy ad below args s Q) (F0 m 27 ls []) := by
  have hx := C.1.1
  have hb := C.1.2.1
  intro n27
  induction n27 with
  | zero => intro g x1 x2 H locs ls S hl h; exact h.elim
  | succ n27 ih =>
    intro g x1 x2 H locs ls S hl h
    have h : ((33 ≤ x2) → K56 g) ∧ ((¬ 33 ≤ x2) → vp_in ((33 * x1) + x2) 66 ∧ (vp_in x2 33 ∧ (∀ g_3 : Mm, g_3 = mset g 87 x2.toNatClampNeg (g.1 88 ((33 * x1) + x2 : Int32).toNatClampNeg) → (∀ x_4 : Int32, x_4 = x2 + 1 → (o_X8_restore_27 Q K56 n27 g_3 x1 x_4))))) := h
    refine lv_iload_n hx hb dX8_restore_27 rfl (lv_at hl 2 rfl) ?_
    refine lv_bipush (v := 33) hx hb dX8_restore_28 (by decide) ?_
    refine lv_icmp_ge (tgt := 56) hx hb dX8_restore_30 (by decide) (fun c1 => ?_) (fun c1 => ?_)
    · have h := h.1 c1
      exact hK56 g _ _ _ S (lv_sub hl [0] rfl) h
    · have h := h.2 c1
      refine lv_aload_n hx hb dX8_restore_33 rfl (lv_at hl 0 rfl) ?_
      refine kg8 (k := 0) (v := .ref (ad 87)) C S rfl (by decide) n_X8_restore_X8 m_X8_restore_4 rfl dX8_restore_34 ?_
      refine lv_iload_n hx hb dX8_restore_37 rfl (lv_at hl 2 rfl) ?_
      refine lv_aload_n hx hb dX8_restore_38 rfl (lv_at hl 0 rfl) ?_
      refine kg8 (k := 1) (v := .ref (ad 88)) C S rfl (by decide) n_X8_restore_X8 m_X8_restore_5 rfl dX8_restore_39 ?_
      refine lv_bipush (v := 33) hx hb dX8_restore_42 (by decide) ?_
      refine lv_iload_n hx hb dX8_restore_44 rfl (lv_at hl 1 rfl) ?_
      refine lv_imul hx hb dX8_restore_45 ?_
      refine lv_iload_n hx hb dX8_restore_46 rfl (lv_at hl 2 rfl) ?_
      refine lv_iadd hx hb dX8_restore_47 ?_
      obtain ⟨hi, h⟩ := h
      refine kLi C S rfl rfl hi dX8_restore_48 ?_
      obtain ⟨hi, h⟩ := h
      refine kSi C S rfl rfl hi dX8_restore_49 (fun g_3 H locs eg_3 S => ?_)
      have h := h g_3 eg_3
      obtain ⟨x_4, ex_4⟩ : ∃ y : Int32, y = x2 + 1 := ⟨_, rfl⟩
      have h := h x_4 ex_4
      refine lv_iinc (v := x_4) (lv' := [(2, .int x_4), (0, .ref (ad 86)), (1, .int x1)]) hx hb dX8_restore_50 hl (k := 2) rfl (by rw [ex_4]; rfl) (by decide) rfl (fun ls hl => ?_)
      refine lv_goto (tgt := 27) hx hb dX8_restore_53 (by decide) ?_
      exact ih g_3 x1 x_4 _ _ _ S (lv_sub hl [1, 2, 0] rfl) h
def o_X8_restore (Q : Int32 → Mm → Prop) (g : Mm) (x1 : Int32) : Prop := o_X8_in (fun (r_2 : Int32) (g_1 : Mm) => ((¬ r_2 = 0) → vp_in x1 2 ∧ (((¬ (g_1.1 89 x1.toNatClampNeg) = 0) → ∃ n27, o_X8_restore_27 Q (fun (g : Mm) => ∀ g_5 : Mm, g_5 = mset g 86 4 0 → (Q 1 g_5)) n27 g_1 x1 0) ∧ (((g_1.1 89 x1.toNatClampNeg) = 0) → Q (-1000002) g_1))) ∧ ((r_2 = 0) → Q (-1000001) g_1)) g ((x1 : Int32).toInt64) 0 1
set_option maxHeartbeats 4000000 in
set_option maxRecDepth 100000 in
theorem o_X8_restore_c {l : Launch} {dC : Nat → ClassId} {dI : Nat → Nat → Nat} {cy : Nat → ClassId} {ad tz : Nat → Nat} {Q : Int32 → Mm → Prop} {g : Mm} {x1 : Int32} (h : o_X8_restore Q g x1) : CI l dC dI cy ad tz yX8_restore wsX8_restore (rmD 1) [.ref (ad 86), .int x1] g Q := by
  refine CI.of (by decide) rfl rfl (Nat.le_of_ble_eq_true rfl) ?_
  intro p e s m args below meth c ls C hl S
  have hl : lv_has ls 3 [(0, .ref (ad 86)), (1, .int x1)] := hl
  have hx := C.1.1
  have hb := C.1.2.1
  unfold o_X8_restore at h
  refine lv_iload_n hx hb dX8_restore_0 rfl (lv_at hl 1 rfl) ?_
  refine lv_i2l hx hb dX8_restore_1 rfl ?_
  refine lv_lconst (v := 0) hx hb dX8_restore_2 (by decide) ?_
  refine lv_lconst (v := 1) hx hb dX8_restore_3 (by decide) ?_
  refine kS_i (As := [.long ((x1 : Int32).toInt64), .long 0, .long 1]) (rest := []) C S hl.1 (o_X8_in_c h) (cw_X8_restore_X8_in C.1.2.2.2.2) rfl rfl (Nat.le_of_ble_eq_true rfl) dX8_restore_4 (fun r_2 g_1 H locs h S => ?_)
  refine lv_if_ne (tgt := 13) hx hb dX8_restore_7 (by decide) (fun c1 => ?_) (fun c1 => ?_)
  · have h := h.1 c1
    refine lv_aload_n hx hb dX8_restore_13 rfl (lv_at hl 0 rfl) ?_
    refine kg8 (k := 2) (v := .ref (ad 89)) C S rfl (by decide) n_X8_restore_X8 m_X8_restore_2 rfl dX8_restore_14 ?_
    refine lv_iload_n hx hb dX8_restore_17 rfl (lv_at hl 1 rfl) ?_
    obtain ⟨hi, h⟩ := h
    refine kLz C S rfl rfl hi dX8_restore_18 ?_
    refine lv_if_ne (tgt := 25) hx hb dX8_restore_19 (by decide) (fun c1 => ?_) (fun c1 => ?_)
    · have h := h.1 c1
      refine lv_iconst (v := 0) hx hb dX8_restore_25 (by decide) ?_
      refine lv_istore_n (lv' := [(2, .int 0), (0, .ref (ad 86)), (1, .int x1)]) hx hb dX8_restore_26 rfl hl (by decide) rfl (fun ls hl => ?_)
      obtain ⟨n27, h⟩ := h
      refine o_X8_restore_27_w C ?_ n27 g_1 x1 0 _ _ _ S (lv_sub hl [1, 2, 0] rfl) h
      · intro g H locs ls S hl h
        refine lv_aload_n hx hb dX8_restore_56 rfl (lv_at hl 0 rfl) ?_
        refine lv_iconst (v := 0) hx hb dX8_restore_57 (by decide) ?_
        refine kp8_4 C S rfl n_X8_restore_X8 m_X8_restore_6 dX8_restore_58 (fun g_5 H locs eg_5 S => ?_)
        have h := h g_5 eg_5
        refine lv_iconst (v := 1) hx hb dX8_restore_61 (by decide) ?_
        exact kRi C S h dX8_restore_62
    · have h := h.2 c1
      refine kLdc C m_X8_restore_3 dX8_restore_22 ?_
      exact kRi C S h dX8_restore_24
  · have h := h.2 c1
    refine kLdc C m_X8_restore_1 dX8_restore_10 ?_
    exact kRi C S h dX8_restore_12
