/-! the constructors without a loop -/
theorem up9 {k : Nat} (h : ly k = 9 ∨ ly k = 10) : upK k = 0 := by
  unfold upK
  rcases h with h | h <;> rw [h] <;> rfl
theorem df_X0 : ∀ j, j < 3 → defaultValue (tyX0 j) = vp_V [.null, .int 0, .int 0] j := by
  intro j hj
  rcases (by omega : j = 0 ∨ j = 1 ∨ j = 2) with rfl | rfl | rfl <;> rfl
theorem df_X1 : ∀ j, j < 2 → defaultValue (tyX1 j) = vp_V [.null, .int 0] j := by
  intro j hj
  rcases (by omega : j = 0 ∨ j = 1) with rfl | rfl <;> rfl
theorem df_X2 : ∀ j, j < 6 → defaultValue (tyX2 j) = vp_V [.int 0, .int 0, .int 0, .int 0, .int 0, .int 0] j := by
  intro j hj
  rcases (by omega : j = 0 ∨ j = 1 ∨ j = 2 ∨ j = 3 ∨ j = 4 ∨ j = 5) with rfl | rfl | rfl | rfl | rfl | rfl <;> rfl
theorem df_X3 : ∀ j, j < 9 → defaultValue (tyX3 j) = vp_V [.null, .null, .null, .null, .int 0, .int 0, .int 0, .int 0, .int 0] j := by
  intro j hj
  rcases (by omega : j = 0 ∨ j = 1 ∨ j = 2 ∨ j = 3 ∨ j = 4 ∨ j = 5 ∨ j = 6 ∨ j = 7 ∨ j = 8) with rfl | rfl | rfl | rfl | rfl | rfl | rfl | rfl | rfl <;> rfl
theorem df_X4 : ∀ j, j < 6 → defaultValue (tyX4 j) = vp_V [.null, .null, .null, .int 0, .int 0, .null] j := by
  intro j hj
  rcases (by omega : j = 0 ∨ j = 1 ∨ j = 2 ∨ j = 3 ∨ j = 4 ∨ j = 5) with rfl | rfl | rfl | rfl | rfl | rfl <;> rfl
theorem df_X5 : ∀ j, j < 8 → defaultValue (tyX5 j) = vp_V [.null, .null, .int 0, .int 0, .int 0, .int 0, .int 0, .int 0] j := by
  intro j hj
  rcases (by omega : j = 0 ∨ j = 1 ∨ j = 2 ∨ j = 3 ∨ j = 4 ∨ j = 5 ∨ j = 6 ∨ j = 7) with rfl | rfl | rfl | rfl | rfl | rfl | rfl | rfl <;> rfl
theorem df_X6 : ∀ j, j < 4 → defaultValue (tyX6 j) = vp_V [.null, .int 0, .int 0, .int 0] j := by
  intro j hj
  rcases (by omega : j = 0 ∨ j = 1 ∨ j = 2 ∨ j = 3) with rfl | rfl | rfl | rfl <;> rfl
theorem df_X7 : ∀ j, j < 9 → defaultValue (tyX7 j) = vp_V [.null, .null, .null, .null, .null, .null, .null, .int 0, .int 0] j := by
  intro j hj
  rcases (by omega : j = 0 ∨ j = 1 ∨ j = 2 ∨ j = 3 ∨ j = 4 ∨ j = 5 ∨ j = 6 ∨ j = 7 ∨ j = 8) with rfl | rfl | rfl | rfl | rfl | rfl | rfl | rfl | rfl <;> rfl
theorem df_X8 : ∀ j, j < 24 → defaultValue (tyX8 j) = vp_V [.null, .null, .null, .null, .int 0, .int 0, .null, .null, .null, .null, .null, .null, .int 0, .int 0, .int 0, .int 0, .int 0, .int 0, .null, .null, .long 0, .long 0, .null, .int 0] j := by
  intro j hj
  rcases (by omega : j = 0 ∨ j = 1 ∨ j = 2 ∨ j = 3 ∨ j = 4 ∨ j = 5 ∨ j = 6 ∨ j = 7 ∨ j = 8 ∨ j = 9 ∨ j = 10 ∨ j = 11 ∨ j = 12 ∨ j = 13 ∨ j = 14 ∨ j = 15 ∨ j = 16 ∨ j = 17 ∨ j = 18 ∨ j = 19 ∨ j = 20 ∨ j = 21 ∨ j = 22 ∨ j = 23) with rfl | rfl | rfl | rfl | rfl | rfl | rfl | rfl | rfl | rfl | rfl | rfl | rfl | rfl | rfl | rfl | rfl | rfl | rfl | rfl | rfl | rfl | rfl | rfl <;> rfl
theorem mi_X2_init_1 : Cond.methodLink RX2 3 objectInit ∈ wsX2_init := List.mem_of_getElem? (i := 1) (by decide +kernel)
theorem mi_X2_init_2 : Cond.instanceMethod objectInit ∈ wsX2_init := List.mem_of_getElem? (i := 2) (by decide +kernel)
theorem mi_X2_init_3 : Cond.code objectInit ⟨#[0xb1]⟩ 1 none ∈ wsX2_init := List.mem_of_getElem? (i := 3) (by decide +kernel)
theorem mi_X2_init_4 : Cond.fieldLink RX2 9 "ClawCase$Before" "plays" "I" ∈ wsX2_init := List.mem_of_getElem? (i := 4) (by decide +kernel)
theorem ni_X2_init_X2 : ∀ w ∈ wsX20, w ∈ wsX2_init := mem_by [11, 12, 13, 14, 15, 16] (by decide +kernel)
theorem mi_X2_init_5 : Cond.fieldLink RX2 15 "ClawCase$Before" "low" "I" ∈ wsX2_init := List.mem_of_getElem? (i := 5) (by decide +kernel)
theorem mi_X2_init_6 : Cond.fieldLink RX2 18 "ClawCase$Before" "high" "I" ∈ wsX2_init := List.mem_of_getElem? (i := 6) (by decide +kernel)
theorem mi_X2_init_7 : Cond.constant RX2 21 (-1000000) ∈ wsX2_init := List.mem_of_getElem? (i := 7) (by decide +kernel)
theorem mi_X2_init_8 : Cond.fieldLink RX2 22 "ClawCase$Before" "toy" "I" ∈ wsX2_init := List.mem_of_getElem? (i := 8) (by decide +kernel)
theorem mi_X2_init_9 : Cond.fieldLink RX2 25 "ClawCase$Before" "place" "I" ∈ wsX2_init := List.mem_of_getElem? (i := 9) (by decide +kernel)
theorem mi_X2_init_10 : Cond.fieldLink RX2 28 "ClawCase$Before" "under" "I" ∈ wsX2_init := List.mem_of_getElem? (i := 10) (by decide +kernel)
theorem mi_X3_init_1 : Cond.methodLink RX3 3 objectInit ∈ wsX3_init := List.mem_of_getElem? (i := 1) (by decide +kernel)
theorem mi_X3_init_2 : Cond.instanceMethod objectInit ∈ wsX3_init := List.mem_of_getElem? (i := 2) (by decide +kernel)
theorem mi_X3_init_3 : Cond.code objectInit ⟨#[0xb1]⟩ 1 none ∈ wsX3_init := List.mem_of_getElem? (i := 3) (by decide +kernel)
theorem mi_X3_init_4 : Cond.arrayClass .int ∈ wsX3_init := List.mem_of_getElem? (i := 4) (by decide +kernel)
theorem mi_X3_init_5 : Cond.fieldLink RX3 9 "ClawCase$Box" "kinds" "[I" ∈ wsX3_init := List.mem_of_getElem? (i := 5) (by decide +kernel)
theorem ni_X3_init_X3 : ∀ w ∈ wsX30, w ∈ wsX3_init := mem_by [14, 15, 16, 17, 18, 19, 20, 21, 22] (by decide +kernel)
theorem mi_X3_init_6 : Cond.fieldLink RX3 15 "ClawCase$Box" "weights" "[I" ∈ wsX3_init := List.mem_of_getElem? (i := 6) (by decide +kernel)
theorem mi_X3_init_7 : Cond.fieldLink RX3 18 "ClawCase$Box" "places" "[I" ∈ wsX3_init := List.mem_of_getElem? (i := 7) (by decide +kernel)
theorem mi_X3_init_8 : Cond.fieldLink RX3 21 "ClawCase$Box" "under" "[I" ∈ wsX3_init := List.mem_of_getElem? (i := 8) (by decide +kernel)
theorem mi_X3_init_9 : Cond.fieldLink RX3 24 "ClawCase$Box" "toys" "I" ∈ wsX3_init := List.mem_of_getElem? (i := 9) (by decide +kernel)
theorem mi_X3_init_10 : Cond.fieldLink RX3 28 "ClawCase$Box" "low" "I" ∈ wsX3_init := List.mem_of_getElem? (i := 10) (by decide +kernel)
theorem mi_X3_init_11 : Cond.fieldLink RX3 31 "ClawCase$Box" "high" "I" ∈ wsX3_init := List.mem_of_getElem? (i := 11) (by decide +kernel)
theorem mi_X3_init_12 : Cond.fieldLink RX3 34 "ClawCase$Box" "every" "I" ∈ wsX3_init := List.mem_of_getElem? (i := 12) (by decide +kernel)
theorem mi_X3_init_13 : Cond.fieldLink RX3 37 "ClawCase$Box" "plays" "I" ∈ wsX3_init := List.mem_of_getElem? (i := 13) (by decide +kernel)
theorem mi_X6_init_1 : Cond.methodLink RX6 3 objectInit ∈ wsX6_init := List.mem_of_getElem? (i := 1) (by decide +kernel)
theorem mi_X6_init_2 : Cond.instanceMethod objectInit ∈ wsX6_init := List.mem_of_getElem? (i := 2) (by decide +kernel)
theorem mi_X6_init_3 : Cond.code objectInit ⟨#[0xb1]⟩ 1 none ∈ wsX6_init := List.mem_of_getElem? (i := 3) (by decide +kernel)
theorem mi_X6_init_4 : Cond.arrayClass .int ∈ wsX6_init := List.mem_of_getElem? (i := 4) (by decide +kernel)
theorem mi_X6_init_5 : Cond.fieldLink RX6 9 "ClawCase$Row" "items" "[I" ∈ wsX6_init := List.mem_of_getElem? (i := 5) (by decide +kernel)
theorem ni_X6_init_X6 : ∀ w ∈ wsX60, w ∈ wsX6_init := mem_by [9, 10, 11, 12] (by decide +kernel)
theorem mi_X6_init_6 : Cond.fieldLink RX6 15 "ClawCase$Row" "missing" "Z" ∈ wsX6_init := List.mem_of_getElem? (i := 6) (by decide +kernel)
theorem mi_X6_init_7 : Cond.fieldLink RX6 19 "ClawCase$Row" "lane" "I" ∈ wsX6_init := List.mem_of_getElem? (i := 7) (by decide +kernel)
theorem mi_X6_init_8 : Cond.fieldLink RX6 23 "ClawCase$Row" "size" "I" ∈ wsX6_init := List.mem_of_getElem? (i := 8) (by decide +kernel)
theorem mi_X1_init_1 : Cond.methodLink RX1 3 objectInit ∈ wsX1_init := List.mem_of_getElem? (i := 1) (by decide +kernel)
theorem mi_X1_init_2 : Cond.instanceMethod objectInit ∈ wsX1_init := List.mem_of_getElem? (i := 2) (by decide +kernel)
theorem mi_X1_init_3 : Cond.code objectInit ⟨#[0xb1]⟩ 1 none ∈ wsX1_init := List.mem_of_getElem? (i := 3) (by decide +kernel)
theorem mi_X1_init_4 : Cond.arrayClass .int ∈ wsX1_init := List.mem_of_getElem? (i := 4) (by decide +kernel)
theorem mi_X1_init_5 : Cond.fieldLink RX1 9 "ClawCase$Asked" "bodies" "[I" ∈ wsX1_init := List.mem_of_getElem? (i := 5) (by decide +kernel)
theorem ni_X1_init_X1 : ∀ w ∈ wsX10, w ∈ wsX1_init := mem_by [7, 8] (by decide +kernel)
theorem mi_X1_init_6 : Cond.fieldLink RX1 15 "ClawCase$Asked" "begun" "I" ∈ wsX1_init := List.mem_of_getElem? (i := 6) (by decide +kernel)
theorem mi_X5_init_1 : Cond.methodLink RX5 3 objectInit ∈ wsX5_init := List.mem_of_getElem? (i := 1) (by decide +kernel)
theorem mi_X5_init_2 : Cond.instanceMethod objectInit ∈ wsX5_init := List.mem_of_getElem? (i := 2) (by decide +kernel)
theorem mi_X5_init_3 : Cond.code objectInit ⟨#[0xb1]⟩ 1 none ∈ wsX5_init := List.mem_of_getElem? (i := 3) (by decide +kernel)
theorem mi_X5_init_4 : Cond.arrayClass .int ∈ wsX5_init := List.mem_of_getElem? (i := 4) (by decide +kernel)
theorem mi_X5_init_5 : Cond.fieldLink RX5 9 "ClawCase$Reader" "tape" "[I" ∈ wsX5_init := List.mem_of_getElem? (i := 5) (by decide +kernel)
theorem ni_X5_init_X5 : ∀ w ∈ wsX50, w ∈ wsX5_init := mem_by [28, 29, 30, 31, 32, 33, 34, 35] (by decide +kernel)
theorem ni_X5_init_X3 : ∀ w ∈ wsX30, w ∈ wsX5_init := mem_by [36, 37, 38, 39, 40, 41, 42, 43, 44] (by decide +kernel)
theorem mi_X5_init_6 : Cond.classLink RX5 15 RX3 ∈ wsX5_init := List.mem_of_getElem? (i := 6) (by decide +kernel)
theorem mi_X5_init_7 : Cond.instantiable RX3 9 ∈ wsX5_init := List.mem_of_getElem? (i := 7) (by decide +kernel)
theorem mi_X5_init_8 : Cond.initialized RX3 ∈ wsX5_init := List.mem_of_getElem? (i := 8) (by decide +kernel)
theorem mi_X5_init_16 : Cond.instanceMethod yX3_init ∈ wsX5_init := List.mem_of_getElem? (i := 16) (by decide +kernel)
theorem mi_X5_init_9 : Cond.fieldLink RX5 18 "ClawCase$Reader" "draft" "LClawCase$Box;" ∈ wsX5_init := List.mem_of_getElem? (i := 9) (by decide +kernel)
theorem mi_X5_init_10 : Cond.fieldLink RX5 22 "ClawCase$Reader" "bytes" "I" ∈ wsX5_init := List.mem_of_getElem? (i := 10) (by decide +kernel)
theorem mi_X5_init_11 : Cond.fieldLink RX5 26 "ClawCase$Reader" "wrong" "I" ∈ wsX5_init := List.mem_of_getElem? (i := 11) (by decide +kernel)
theorem mi_X5_init_12 : Cond.fieldLink RX5 29 "ClawCase$Reader" "at" "I" ∈ wsX5_init := List.mem_of_getElem? (i := 12) (by decide +kernel)
theorem mi_X5_init_13 : Cond.fieldLink RX5 32 "ClawCase$Reader" "token" "I" ∈ wsX5_init := List.mem_of_getElem? (i := 13) (by decide +kernel)
theorem mi_X5_init_14 : Cond.fieldLink RX5 35 "ClawCase$Reader" "next" "I" ∈ wsX5_init := List.mem_of_getElem? (i := 14) (by decide +kernel)
theorem mi_X5_init_15 : Cond.fieldLink RX5 38 "ClawCase$Reader" "number" "I" ∈ wsX5_init := List.mem_of_getElem? (i := 15) (by decide +kernel)
theorem mi_X8_init_1 : Cond.methodLink RX8 1 objectInit ∈ wsX8_init := List.mem_of_getElem? (i := 1) (by decide +kernel)
theorem mi_X8_init_2 : Cond.instanceMethod objectInit ∈ wsX8_init := List.mem_of_getElem? (i := 2) (by decide +kernel)
theorem mi_X8_init_3 : Cond.code objectInit ⟨#[0xb1]⟩ 1 none ∈ wsX8_init := List.mem_of_getElem? (i := 3) (by decide +kernel)
theorem mi_X8_init_4 : Cond.arrayClass .int ∈ wsX8_init := List.mem_of_getElem? (i := 4) (by decide +kernel)
theorem mi_X8_init_5 : Cond.fieldLink RX8 7 "ClawCaseModel" "now" "[I" ∈ wsX8_init := List.mem_of_getElem? (i := 5) (by decide +kernel)
theorem ni_X8_init_X8 : ∀ w ∈ wsX80, w ∈ wsX8_init := mem_by [20, 21, 22, 23, 24, 25, 26, 27, 28, 29, 30, 31, 32, 33, 34, 35, 36, 37, 38, 39, 40, 41, 42, 43] (by decide +kernel)
theorem mi_X8_init_6 : Cond.fieldLink RX8 13 "ClawCaseModel" "kept" "[I" ∈ wsX8_init := List.mem_of_getElem? (i := 6) (by decide +kernel)
theorem mi_X8_init_7 : Cond.arrayClass .boolean ∈ wsX8_init := List.mem_of_getElem? (i := 7) (by decide +kernel)
theorem mi_X8_init_8 : Cond.fieldLink RX8 16 "ClawCaseModel" "isKept" "[Z" ∈ wsX8_init := List.mem_of_getElem? (i := 8) (by decide +kernel)
theorem mi_X8_init_9 : Cond.fieldLink RX8 20 "ClawCaseModel" "acts" "[I" ∈ wsX8_init := List.mem_of_getElem? (i := 9) (by decide +kernel)
theorem mi_X8_init_10 : Cond.fieldLink RX8 23 "ClawCaseModel" "lanes" "[I" ∈ wsX8_init := List.mem_of_getElem? (i := 10) (by decide +kernel)
theorem mi_X8_init_11 : Cond.fieldLink RX8 26 "ClawCaseModel" "longs" "[I" ∈ wsX8_init := List.mem_of_getElem? (i := 11) (by decide +kernel)
theorem mi_X8_init_12 : Cond.fieldLink RX8 29 "ClawCaseModel" "isThere" "[Z" ∈ wsX8_init := List.mem_of_getElem? (i := 12) (by decide +kernel)
theorem mi_X8_init_13 : Cond.fieldLink RX8 32 "ClawCaseModel" "items" "[I" ∈ wsX8_init := List.mem_of_getElem? (i := 13) (by decide +kernel)
theorem mi_X8_init_14 : Cond.fieldLink RX8 35 "ClawCaseModel" "copied" "[I" ∈ wsX8_init := List.mem_of_getElem? (i := 14) (by decide +kernel)
theorem mi_X8_init_15 : Cond.fieldLink RX8 38 "ClawCaseModel" "tape" "[I" ∈ wsX8_init := List.mem_of_getElem? (i := 15) (by decide +kernel)
theorem mi_X8_init_16 : Cond.fieldLink RX8 41 "ClawCaseModel" "read" "[I" ∈ wsX8_init := List.mem_of_getElem? (i := 16) (by decide +kernel)
theorem mi_X8_init_17 : Cond.fieldLink RX8 44 "ClawCaseModel" "hand" "[I" ∈ wsX8_init := List.mem_of_getElem? (i := 17) (by decide +kernel)
theorem mi_X8_init_18 : Cond.fieldLink RX8 47 "ClawCaseModel" "below" "J" ∈ wsX8_init := List.mem_of_getElem? (i := 18) (by decide +kernel)
theorem mi_X8_init_19 : Cond.fieldLink RX8 51 "ClawCaseModel" "traced" "[I" ∈ wsX8_init := List.mem_of_getElem? (i := 19) (by decide +kernel)
set_option maxHeartbeats 4000000 in
set_option maxRecDepth 100000 in
theorem mk_X2 {l : Launch} {dC : Nat → ClassId} {dI : Nat → Nat → Nat} {cy : Nat → ClassId} {B0 : Nat} {ad : Nat → Nat} {ce : Nat → va_E} {j : Nat} (hj : ly j = 2) (hb0 : ce j = .inr (2, [.int 0, .int 0, .int 0, .int 0, .int 0, .int 0])) : KN l dC dI cy B0 yX2_init wsX2_init (rmK 1 0 0) j 1 0 0 ad ce := by
  refine KN.of (by decide) rfl rfl rfl (Nat.le_of_ble_eq_true rfl) ?_
  intro p e s m args below meth c ls C hname hret hlk hl S
  have hx := C.1.1
  have hb := C.1.2.1
  have hts := C.1.2.2.2.2
  have fA : ∀ k, k ≤ j → ad k = ad k := fun k _ => rfl
  have fC : ∀ k, k < j → ce k = ce k := fun k _ => rfl
  have fO : ce j = .inr (2, [.int 0, .int 0, .int 0, .int 0, .int 0, .int 0]) := hb0
  refine lv_aload_n hx hb dX2_init_0 rfl (lv_at hl 0 rfl) ?_
  refine W.objInit hx hb C.1.2.2.2.1 (hts _ mi_X2_init_1) (hts _ mi_X2_init_2) (hts _ mi_X2_init_3) rfl (by rw [C.1.2.2.1]; exact hl.1) rfl dX2_init_1 (Nat.le_of_ble_eq_true rfl) (Nat.le_of_ble_eq_true rfl) ?_
  refine W.eq (g2 := F0 m 4 ls []) rfl ?_
  generalize hlc : ([] : List Loc) = locs at S ⊢
  have S : SK dC dI s B0 (j + 1) ad ce s.heap locs := S
  refine lv_aload_n hx hb dX2_init_4 rfl (lv_at hl 0 rfl) ?_
  refine lv_iconst (v := 0) hx hb dX2_init_5 (by decide) ?_
  refine pI_ (k := 0) (T := TX2) (ty0 := tyX2) (ty := .int) C S (by omega) fO rfl ni_X2_init_X2 tyX2_ok nmX2 (by decide) mi_X2_init_4 rfl (by decide +kernel) rfl rfl (Nat.le_of_ble_eq_true rfl) dX2_init_6 (fun ce1 H locs fO eo S => ?_)
  have fO : ce1 j = .inr (2, [.int 0, .int 0, .int 0, .int 0, .int 0, .int 0]) := fO
  have fC : ∀ k, k < j → ce1 k = ce k := fun k hk => (eo k (by omega)).trans (fC k hk)
  refine lv_aload_n hx hb dX2_init_9 rfl (lv_at hl 0 rfl) ?_
  refine lv_iconst (v := 0) hx hb dX2_init_10 (by decide) ?_
  refine pI_ (k := 1) (T := TX2) (ty0 := tyX2) (ty := .int) C S (by omega) fO rfl ni_X2_init_X2 tyX2_ok nmX2 (by decide) mi_X2_init_5 rfl (by decide +kernel) rfl rfl (Nat.le_of_ble_eq_true rfl) dX2_init_11 (fun ce2 H locs fO eo S => ?_)
  have fO : ce2 j = .inr (2, [.int 0, .int 0, .int 0, .int 0, .int 0, .int 0]) := fO
  have fC : ∀ k, k < j → ce2 k = ce k := fun k hk => (eo k (by omega)).trans (fC k hk)
  refine lv_aload_n hx hb dX2_init_14 rfl (lv_at hl 0 rfl) ?_
  refine lv_iconst (v := 0) hx hb dX2_init_15 (by decide) ?_
  refine pI_ (k := 2) (T := TX2) (ty0 := tyX2) (ty := .int) C S (by omega) fO rfl ni_X2_init_X2 tyX2_ok nmX2 (by decide) mi_X2_init_6 rfl (by decide +kernel) rfl rfl (Nat.le_of_ble_eq_true rfl) dX2_init_16 (fun ce3 H locs fO eo S => ?_)
  have fO : ce3 j = .inr (2, [.int 0, .int 0, .int 0, .int 0, .int 0, .int 0]) := fO
  have fC : ∀ k, k < j → ce3 k = ce k := fun k hk => (eo k (by omega)).trans (fC k hk)
  refine lv_aload_n hx hb dX2_init_19 rfl (lv_at hl 0 rfl) ?_
  refine lv_ldc hx hb C.1.2.2.2.1 (hts _ mi_X2_init_7) dX2_init_20 ?_
  refine pI_ (k := 3) (T := TX2) (ty0 := tyX2) (ty := .int) C S (by omega) fO rfl ni_X2_init_X2 tyX2_ok nmX2 (by decide) mi_X2_init_8 rfl (by decide +kernel) rfl rfl (Nat.le_of_ble_eq_true rfl) dX2_init_22 (fun ce4 H locs fO eo S => ?_)
  have fO : ce4 j = .inr (2, [.int 0, .int 0, .int 0, .int (-1000000), .int 0, .int 0]) := fO
  have fC : ∀ k, k < j → ce4 k = ce k := fun k hk => (eo k (by omega)).trans (fC k hk)
  refine lv_aload_n hx hb dX2_init_25 rfl (lv_at hl 0 rfl) ?_
  refine lv_iconst (v := 0) hx hb dX2_init_26 (by decide) ?_
  refine pI_ (k := 4) (T := TX2) (ty0 := tyX2) (ty := .int) C S (by omega) fO rfl ni_X2_init_X2 tyX2_ok nmX2 (by decide) mi_X2_init_9 rfl (by decide +kernel) rfl rfl (Nat.le_of_ble_eq_true rfl) dX2_init_27 (fun ce5 H locs fO eo S => ?_)
  have fO : ce5 j = .inr (2, [.int 0, .int 0, .int 0, .int (-1000000), .int 0, .int 0]) := fO
  have fC : ∀ k, k < j → ce5 k = ce k := fun k hk => (eo k (by omega)).trans (fC k hk)
  refine lv_aload_n hx hb dX2_init_30 rfl (lv_at hl 0 rfl) ?_
  refine lv_iconst (v := 0) hx hb dX2_init_31 (by decide) ?_
  refine pI_ (k := 5) (T := TX2) (ty0 := tyX2) (ty := .int) C S (by omega) fO rfl ni_X2_init_X2 tyX2_ok nmX2 (by decide) mi_X2_init_10 rfl (by decide +kernel) rfl rfl (Nat.le_of_ble_eq_true rfl) dX2_init_32 (fun ce6 H locs fO eo S => ?_)
  have fO : ce6 j = .inr (2, [.int 0, .int 0, .int 0, .int (-1000000), .int 0, .int 0]) := fO
  have fC : ∀ k, k < j → ce6 k = ce k := fun k hk => (eo k (by omega)).trans (fC k hk)
  refine W.widen (k := 0) (n := 0) (Nat.le_of_ble_eq_true rfl) (Nat.le_of_ble_eq_true rfl) ?_
  refine rK_ C S hret hlk ⟨fA, fC, fun k h1 h2 => ?_⟩ dX2_init_35
  by_cases z : k = j
  · rw [z]; exact fO.trans (by unfold celK; rw [hj]; rfl)
  · exact absurd h2 (by omega)
set_option maxHeartbeats 4000000 in
set_option maxRecDepth 100000 in
theorem mk_X3 {l : Launch} {dC : Nat → ClassId} {dI : Nat → Nat → Nat} {cy : Nat → ClassId} {B0 : Nat} {ad : Nat → Nat} {ce : Nat → va_E} {j : Nat} (hj : ly j = 3) (hb0 : ce j = .inr (3, [.null, .null, .null, .null, .int 0, .int 0, .int 0, .int 0, .int 0])) : KN l dC dI cy B0 yX3_init wsX3_init (rmK 1 4 28) j 5 4 28 ad ce := by
  refine KN.of (by decide) rfl rfl rfl (Nat.le_of_ble_eq_true rfl) ?_
  intro p e s m args below meth c ls C hname hret hlk hl S
  have hx := C.1.1
  have hb := C.1.2.1
  have hts := C.1.2.2.2.2
  have fA : ∀ k, k ≤ j → ad k = ad k := fun k _ => rfl
  have fC : ∀ k, k < j → ce k = ce k := fun k _ => rfl
  have fO : ce j = .inr (3, [.null, .null, .null, .null, .int 0, .int 0, .int 0, .int 0, .int 0]) := hb0
  have l9 := lyB hj
  have l8 : ∀ k, j + 1 ≤ k → k < j + 5 → ly k = 9 := fun k h1 h2 => by
    rcases (by omega : k = j + 1 ∨ k = j + 2 ∨ k = j + 3 ∨ k = j + 4) with z | z | z | z
    · rw [z]; exact l9.1.1
    · rw [z]; exact l9.2.1.1
    · rw [z]; exact l9.2.2.1.1
    · rw [z]; exact l9.2.2.2.1
  refine lv_aload_n hx hb dX3_init_0 rfl (lv_at hl 0 rfl) ?_
  refine W.objInit hx hb C.1.2.2.2.1 (hts _ mi_X3_init_1) (hts _ mi_X3_init_2) (hts _ mi_X3_init_3) rfl (by rw [C.1.2.2.1]; exact hl.1) rfl dX3_init_1 (Nat.le_of_ble_eq_true rfl) (Nat.le_of_ble_eq_true rfl) ?_
  refine W.eq (g2 := F0 m 4 ls []) rfl ?_
  generalize hlc : ([] : List Loc) = locs at S ⊢
  have S : SK dC dI s B0 (j + 1) ad ce s.heap locs := S
  refine lv_aload_n hx hb dX3_init_4 rfl (lv_at hl 0 rfl) ?_
  refine lv_bipush (v := 7) hx hb dX3_init_5 (by decide) ?_
  refine nI_ (n := 7) C S mi_X3_init_4 (by decide) (by decide) (Nat.le_of_ble_eq_true rfl) (Nat.le_of_ble_eq_true rfl) (Nat.le_of_ble_eq_true rfl) dX3_init_7 (fun ad1 ce1 H ea ec en S => ?_)
  have S : SK dC dI s B0 (j + 2) ad1 ce1 H locs := S
  have fA : ∀ k, k ≤ j → ad1 k = ad k := fun k hk => (ea k (by omega)).trans (fA k hk)
  have fC : ∀ k, k < j → ce1 k = ce k := fun k hk => (ec k (by omega)).trans (fC k hk)
  have fO : ce1 j = .inr (3, [.null, .null, .null, .null, .int 0, .int 0, .int 0, .int 0, .int 0]) := by rw [ec j (by omega), fO]
  rw [← ea j (by omega)] at hl
  have fn : ce1 (j + 1) = celK cy ad1 (j + 1) := by rw [en]; unfold celK; rw [l9.1.1]; show _ = Sum.inl (cy 0, ln (j + 1), _); rw [l9.1.2]
  have fF : ∀ k, (j + 1 ≤ k ∧ k < j + 2) → ce1 k = celK cy ad1 k := by
    intro k hk
    by_cases z : j + 1 ≤ k ∧ k < j + 2
    · rw [show k = j + 1 by omega]; exact fn
    · exact absurd hk (by omega)
  rw [← ea j (by omega)]
  refine pF_ (k := 0) (T := TX3) (ty0 := tyX3) (ty := tyX3 0) C S hname (by omega) fO rfl ni_X3_init_X3 tyX3_ok nmX3 (by decide) mi_X3_init_5 rfl rfl (by decide +kernel) rfl rfl (Nat.le_of_ble_eq_true rfl) dX3_init_9 (fun ce2 H locs fO eo S => ?_)
  have fO : ce2 j = .inr (3, [.ref (ad1 (j + 1)), .null, .null, .null, .int 0, .int 0, .int 0, .int 0, .int 0]) := fO
  have fC : ∀ k, k < j → ce2 k = ce k := fun k hk => (eo k (by omega)).trans (fC k hk)
  have fF : ∀ k, (j + 1 ≤ k ∧ k < j + 2) → ce2 k = celK cy ad1 k := fun k hk => (eo k (by omega)).trans (fF k hk)
  refine lv_aload_n hx hb dX3_init_12 rfl (lv_at hl 0 rfl) ?_
  refine lv_bipush (v := 7) hx hb dX3_init_13 (by decide) ?_
  refine nI_ (n := 7) C S mi_X3_init_4 (by decide) (by decide) (Nat.le_of_ble_eq_true rfl) (Nat.le_of_ble_eq_true rfl) (Nat.le_of_ble_eq_true rfl) dX3_init_15 (fun ad3 ce3 H ea ec en S => ?_)
  have S : SK dC dI s B0 (j + 3) ad3 ce3 H locs := S
  have fA : ∀ k, k ≤ j → ad3 k = ad k := fun k hk => (ea k (by omega)).trans (fA k hk)
  have fC : ∀ k, k < j → ce3 k = ce k := fun k hk => (ec k (by omega)).trans (fC k hk)
  have fO : ce3 j = .inr (3, [.ref (ad3 (j + 1)), .null, .null, .null, .int 0, .int 0, .int 0, .int 0, .int 0]) := by rw [ec j (by omega), fO, ea (j + 1) (by omega)]
  have fF : ∀ k, (j + 1 ≤ k ∧ k < j + 2) → ce3 k = celK cy ad3 k := fun k hk => (ec k (by omega)).trans ((fF k hk).trans (celK_cg (N := j + 2) (by rw [up9 (Or.inl (l8 k (by omega) (by omega)))]; exact Nat.zero_le _) (fun k hk => ea k (by omega))).symm)
  rw [← ea j (by omega)] at hl
  have fn : ce3 (j + 2) = celK cy ad3 (j + 2) := by rw [en]; unfold celK; rw [l9.2.1.1]; show _ = Sum.inl (cy 0, ln (j + 2), _); rw [l9.2.1.2]
  have fF : ∀ k, (j + 1 ≤ k ∧ k < j + 3) → ce3 k = celK cy ad3 k := by
    intro k hk
    by_cases z : j + 2 ≤ k ∧ k < j + 3
    · rw [show k = j + 2 by omega]; exact fn
    · exact fF k (by omega)
  rw [← ea j (by omega)]
  refine pF_ (k := 1) (T := TX3) (ty0 := tyX3) (ty := tyX3 1) C S hname (by omega) fO rfl ni_X3_init_X3 tyX3_ok nmX3 (by decide) mi_X3_init_6 rfl rfl (by decide +kernel) rfl rfl (Nat.le_of_ble_eq_true rfl) dX3_init_17 (fun ce4 H locs fO eo S => ?_)
  have fO : ce4 j = .inr (3, [.ref (ad3 (j + 1)), .ref (ad3 (j + 2)), .null, .null, .int 0, .int 0, .int 0, .int 0, .int 0]) := fO
  have fC : ∀ k, k < j → ce4 k = ce k := fun k hk => (eo k (by omega)).trans (fC k hk)
  have fF : ∀ k, (j + 1 ≤ k ∧ k < j + 3) → ce4 k = celK cy ad3 k := fun k hk => (eo k (by omega)).trans (fF k hk)
  refine lv_aload_n hx hb dX3_init_20 rfl (lv_at hl 0 rfl) ?_
  refine lv_bipush (v := 7) hx hb dX3_init_21 (by decide) ?_
  refine nI_ (n := 7) C S mi_X3_init_4 (by decide) (by decide) (Nat.le_of_ble_eq_true rfl) (Nat.le_of_ble_eq_true rfl) (Nat.le_of_ble_eq_true rfl) dX3_init_23 (fun ad5 ce5 H ea ec en S => ?_)
  have S : SK dC dI s B0 (j + 4) ad5 ce5 H locs := S
  have fA : ∀ k, k ≤ j → ad5 k = ad k := fun k hk => (ea k (by omega)).trans (fA k hk)
  have fC : ∀ k, k < j → ce5 k = ce k := fun k hk => (ec k (by omega)).trans (fC k hk)
  have fO : ce5 j = .inr (3, [.ref (ad5 (j + 1)), .ref (ad5 (j + 2)), .null, .null, .int 0, .int 0, .int 0, .int 0, .int 0]) := by rw [ec j (by omega), fO, ea (j + 1) (by omega), ea (j + 2) (by omega)]
  have fF : ∀ k, (j + 1 ≤ k ∧ k < j + 3) → ce5 k = celK cy ad5 k := fun k hk => (ec k (by omega)).trans ((fF k hk).trans (celK_cg (N := j + 3) (by rw [up9 (Or.inl (l8 k (by omega) (by omega)))]; exact Nat.zero_le _) (fun k hk => ea k (by omega))).symm)
  rw [← ea j (by omega)] at hl
  have fn : ce5 (j + 3) = celK cy ad5 (j + 3) := by rw [en]; unfold celK; rw [l9.2.2.1.1]; show _ = Sum.inl (cy 0, ln (j + 3), _); rw [l9.2.2.1.2]
  have fF : ∀ k, (j + 1 ≤ k ∧ k < j + 4) → ce5 k = celK cy ad5 k := by
    intro k hk
    by_cases z : j + 3 ≤ k ∧ k < j + 4
    · rw [show k = j + 3 by omega]; exact fn
    · exact fF k (by omega)
  rw [← ea j (by omega)]
  refine pF_ (k := 2) (T := TX3) (ty0 := tyX3) (ty := tyX3 2) C S hname (by omega) fO rfl ni_X3_init_X3 tyX3_ok nmX3 (by decide) mi_X3_init_7 rfl rfl (by decide +kernel) rfl rfl (Nat.le_of_ble_eq_true rfl) dX3_init_25 (fun ce6 H locs fO eo S => ?_)
  have fO : ce6 j = .inr (3, [.ref (ad5 (j + 1)), .ref (ad5 (j + 2)), .ref (ad5 (j + 3)), .null, .int 0, .int 0, .int 0, .int 0, .int 0]) := fO
  have fC : ∀ k, k < j → ce6 k = ce k := fun k hk => (eo k (by omega)).trans (fC k hk)
  have fF : ∀ k, (j + 1 ≤ k ∧ k < j + 4) → ce6 k = celK cy ad5 k := fun k hk => (eo k (by omega)).trans (fF k hk)
  refine lv_aload_n hx hb dX3_init_28 rfl (lv_at hl 0 rfl) ?_
  refine lv_bipush (v := 7) hx hb dX3_init_29 (by decide) ?_
  refine nI_ (n := 7) C S mi_X3_init_4 (by decide) (by decide) (Nat.le_of_ble_eq_true rfl) (Nat.le_of_ble_eq_true rfl) (Nat.le_of_ble_eq_true rfl) dX3_init_31 (fun ad7 ce7 H ea ec en S => ?_)
  have S : SK dC dI s B0 (j + 5) ad7 ce7 H locs := S
  have fA : ∀ k, k ≤ j → ad7 k = ad k := fun k hk => (ea k (by omega)).trans (fA k hk)
  have fC : ∀ k, k < j → ce7 k = ce k := fun k hk => (ec k (by omega)).trans (fC k hk)
  have fO : ce7 j = .inr (3, [.ref (ad7 (j + 1)), .ref (ad7 (j + 2)), .ref (ad7 (j + 3)), .null, .int 0, .int 0, .int 0, .int 0, .int 0]) := by rw [ec j (by omega), fO, ea (j + 1) (by omega), ea (j + 2) (by omega), ea (j + 3) (by omega)]
  have fF : ∀ k, (j + 1 ≤ k ∧ k < j + 4) → ce7 k = celK cy ad7 k := fun k hk => (ec k (by omega)).trans ((fF k hk).trans (celK_cg (N := j + 4) (by rw [up9 (Or.inl (l8 k (by omega) (by omega)))]; exact Nat.zero_le _) (fun k hk => ea k (by omega))).symm)
  rw [← ea j (by omega)] at hl
  have fn : ce7 (j + 4) = celK cy ad7 (j + 4) := by rw [en]; unfold celK; rw [l9.2.2.2.1]; show _ = Sum.inl (cy 0, ln (j + 4), _); rw [l9.2.2.2.2]
  have fF : ∀ k, (j + 1 ≤ k ∧ k < j + 5) → ce7 k = celK cy ad7 k := by
    intro k hk
    by_cases z : j + 4 ≤ k ∧ k < j + 5
    · rw [show k = j + 4 by omega]; exact fn
    · exact fF k (by omega)
  rw [← ea j (by omega)]
  refine pF_ (k := 3) (T := TX3) (ty0 := tyX3) (ty := tyX3 3) C S hname (by omega) fO rfl ni_X3_init_X3 tyX3_ok nmX3 (by decide) mi_X3_init_8 rfl rfl (by decide +kernel) rfl rfl (Nat.le_of_ble_eq_true rfl) dX3_init_33 (fun ce8 H locs fO eo S => ?_)
  have fO : ce8 j = .inr (3, [.ref (ad7 (j + 1)), .ref (ad7 (j + 2)), .ref (ad7 (j + 3)), .ref (ad7 (j + 4)), .int 0, .int 0, .int 0, .int 0, .int 0]) := fO
  have fC : ∀ k, k < j → ce8 k = ce k := fun k hk => (eo k (by omega)).trans (fC k hk)
  have fF : ∀ k, (j + 1 ≤ k ∧ k < j + 5) → ce8 k = celK cy ad7 k := fun k hk => (eo k (by omega)).trans (fF k hk)
  refine lv_aload_n hx hb dX3_init_36 rfl (lv_at hl 0 rfl) ?_
  refine lv_iconst (v := 0) hx hb dX3_init_37 (by decide) ?_
  refine pI_ (k := 4) (T := TX3) (ty0 := tyX3) (ty := .int) C S (by omega) fO rfl ni_X3_init_X3 tyX3_ok nmX3 (by decide) mi_X3_init_9 rfl (by decide +kernel) rfl rfl (Nat.le_of_ble_eq_true rfl) dX3_init_38 (fun ce9 H locs fO eo S => ?_)
  have fO : ce9 j = .inr (3, [.ref (ad7 (j + 1)), .ref (ad7 (j + 2)), .ref (ad7 (j + 3)), .ref (ad7 (j + 4)), .int 0, .int 0, .int 0, .int 0, .int 0]) := fO
  have fC : ∀ k, k < j → ce9 k = ce k := fun k hk => (eo k (by omega)).trans (fC k hk)
  have fF : ∀ k, (j + 1 ≤ k ∧ k < j + 5) → ce9 k = celK cy ad7 k := fun k hk => (eo k (by omega)).trans (fF k hk)
  refine lv_aload_n hx hb dX3_init_41 rfl (lv_at hl 0 rfl) ?_
  refine lv_iconst (v := 0) hx hb dX3_init_42 (by decide) ?_
  refine pI_ (k := 5) (T := TX3) (ty0 := tyX3) (ty := .int) C S (by omega) fO rfl ni_X3_init_X3 tyX3_ok nmX3 (by decide) mi_X3_init_10 rfl (by decide +kernel) rfl rfl (Nat.le_of_ble_eq_true rfl) dX3_init_43 (fun ce10 H locs fO eo S => ?_)
  have fO : ce10 j = .inr (3, [.ref (ad7 (j + 1)), .ref (ad7 (j + 2)), .ref (ad7 (j + 3)), .ref (ad7 (j + 4)), .int 0, .int 0, .int 0, .int 0, .int 0]) := fO
  have fC : ∀ k, k < j → ce10 k = ce k := fun k hk => (eo k (by omega)).trans (fC k hk)
  have fF : ∀ k, (j + 1 ≤ k ∧ k < j + 5) → ce10 k = celK cy ad7 k := fun k hk => (eo k (by omega)).trans (fF k hk)
  refine lv_aload_n hx hb dX3_init_46 rfl (lv_at hl 0 rfl) ?_
  refine lv_iconst (v := 0) hx hb dX3_init_47 (by decide) ?_
  refine pI_ (k := 6) (T := TX3) (ty0 := tyX3) (ty := .int) C S (by omega) fO rfl ni_X3_init_X3 tyX3_ok nmX3 (by decide) mi_X3_init_11 rfl (by decide +kernel) rfl rfl (Nat.le_of_ble_eq_true rfl) dX3_init_48 (fun ce11 H locs fO eo S => ?_)
  have fO : ce11 j = .inr (3, [.ref (ad7 (j + 1)), .ref (ad7 (j + 2)), .ref (ad7 (j + 3)), .ref (ad7 (j + 4)), .int 0, .int 0, .int 0, .int 0, .int 0]) := fO
  have fC : ∀ k, k < j → ce11 k = ce k := fun k hk => (eo k (by omega)).trans (fC k hk)
  have fF : ∀ k, (j + 1 ≤ k ∧ k < j + 5) → ce11 k = celK cy ad7 k := fun k hk => (eo k (by omega)).trans (fF k hk)
  refine lv_aload_n hx hb dX3_init_51 rfl (lv_at hl 0 rfl) ?_
  refine lv_iconst (v := 0) hx hb dX3_init_52 (by decide) ?_
  refine pI_ (k := 7) (T := TX3) (ty0 := tyX3) (ty := .int) C S (by omega) fO rfl ni_X3_init_X3 tyX3_ok nmX3 (by decide) mi_X3_init_12 rfl (by decide +kernel) rfl rfl (Nat.le_of_ble_eq_true rfl) dX3_init_53 (fun ce12 H locs fO eo S => ?_)
  have fO : ce12 j = .inr (3, [.ref (ad7 (j + 1)), .ref (ad7 (j + 2)), .ref (ad7 (j + 3)), .ref (ad7 (j + 4)), .int 0, .int 0, .int 0, .int 0, .int 0]) := fO
  have fC : ∀ k, k < j → ce12 k = ce k := fun k hk => (eo k (by omega)).trans (fC k hk)
  have fF : ∀ k, (j + 1 ≤ k ∧ k < j + 5) → ce12 k = celK cy ad7 k := fun k hk => (eo k (by omega)).trans (fF k hk)
  refine lv_aload_n hx hb dX3_init_56 rfl (lv_at hl 0 rfl) ?_
  refine lv_iconst (v := 0) hx hb dX3_init_57 (by decide) ?_
  refine pI_ (k := 8) (T := TX3) (ty0 := tyX3) (ty := .int) C S (by omega) fO rfl ni_X3_init_X3 tyX3_ok nmX3 (by decide) mi_X3_init_13 rfl (by decide +kernel) rfl rfl (Nat.le_of_ble_eq_true rfl) dX3_init_58 (fun ce13 H locs fO eo S => ?_)
  have fO : ce13 j = .inr (3, [.ref (ad7 (j + 1)), .ref (ad7 (j + 2)), .ref (ad7 (j + 3)), .ref (ad7 (j + 4)), .int 0, .int 0, .int 0, .int 0, .int 0]) := fO
  have fC : ∀ k, k < j → ce13 k = ce k := fun k hk => (eo k (by omega)).trans (fC k hk)
  have fF : ∀ k, (j + 1 ≤ k ∧ k < j + 5) → ce13 k = celK cy ad7 k := fun k hk => (eo k (by omega)).trans (fF k hk)
  refine W.widen (k := 4) (n := 28) (Nat.le_of_ble_eq_true rfl) (Nat.le_of_ble_eq_true rfl) ?_
  refine rK_ C S hret hlk ⟨fA, fC, fun k h1 h2 => ?_⟩ dX3_init_61
  by_cases z : k = j
  · rw [z]; exact fO.trans (by unfold celK; rw [hj]; rfl)
  · exact fF k (by omega)
set_option maxHeartbeats 4000000 in
set_option maxRecDepth 100000 in
theorem mk_X6 {l : Launch} {dC : Nat → ClassId} {dI : Nat → Nat → Nat} {cy : Nat → ClassId} {B0 : Nat} {ad : Nat → Nat} {ce : Nat → va_E} {j : Nat} (hj : ly j = 6) (hb0 : ce j = .inr (6, [.null, .int 0, .int 0, .int 0])) : KN l dC dI cy B0 yX6_init wsX6_init (rmK 1 1 40) j 2 1 40 ad ce := by
  refine KN.of (by decide) rfl rfl rfl (Nat.le_of_ble_eq_true rfl) ?_
  intro p e s m args below meth c ls C hname hret hlk hl S
  have hx := C.1.1
  have hb := C.1.2.1
  have hts := C.1.2.2.2.2
  have fA : ∀ k, k ≤ j → ad k = ad k := fun k _ => rfl
  have fC : ∀ k, k < j → ce k = ce k := fun k _ => rfl
  have fO : ce j = .inr (6, [.null, .int 0, .int 0, .int 0]) := hb0
  have l9 := lyR hj
  refine lv_aload_n hx hb dX6_init_0 rfl (lv_at hl 0 rfl) ?_
  refine W.objInit hx hb C.1.2.2.2.1 (hts _ mi_X6_init_1) (hts _ mi_X6_init_2) (hts _ mi_X6_init_3) rfl (by rw [C.1.2.2.1]; exact hl.1) rfl dX6_init_1 (Nat.le_of_ble_eq_true rfl) (Nat.le_of_ble_eq_true rfl) ?_
  refine W.eq (g2 := F0 m 4 ls []) rfl ?_
  generalize hlc : ([] : List Loc) = locs at S ⊢
  have S : SK dC dI s B0 (j + 1) ad ce s.heap locs := S
  refine lv_aload_n hx hb dX6_init_4 rfl (lv_at hl 0 rfl) ?_
  refine lv_bipush (v := 40) hx hb dX6_init_5 (by decide) ?_
  refine nI_ (n := 40) C S mi_X6_init_4 (by decide) (by decide) (Nat.le_of_ble_eq_true rfl) (Nat.le_of_ble_eq_true rfl) (Nat.le_of_ble_eq_true rfl) dX6_init_7 (fun ad1 ce1 H ea ec en S => ?_)
  have S : SK dC dI s B0 (j + 2) ad1 ce1 H locs := S
  have fA : ∀ k, k ≤ j → ad1 k = ad k := fun k hk => (ea k (by omega)).trans (fA k hk)
  have fC : ∀ k, k < j → ce1 k = ce k := fun k hk => (ec k (by omega)).trans (fC k hk)
  have fO : ce1 j = .inr (6, [.null, .int 0, .int 0, .int 0]) := by rw [ec j (by omega), fO]
  rw [← ea j (by omega)] at hl
  have fn : ce1 (j + 1) = celK cy ad1 (j + 1) := by rw [en]; unfold celK; rw [l9.1]; show _ = Sum.inl (cy 0, ln (j + 1), _); rw [l9.2]
  have fF : ∀ k, (j + 1 ≤ k ∧ k < j + 2) → ce1 k = celK cy ad1 k := by
    intro k hk
    by_cases z : j + 1 ≤ k ∧ k < j + 2
    · rw [show k = j + 1 by omega]; exact fn
    · exact absurd hk (by omega)
  rw [← ea j (by omega)]
  refine pF_ (k := 0) (T := TX6) (ty0 := tyX6) (ty := tyX6 0) C S hname (by omega) fO rfl ni_X6_init_X6 tyX6_ok nmX6 (by decide) mi_X6_init_5 rfl rfl (by decide +kernel) rfl rfl (Nat.le_of_ble_eq_true rfl) dX6_init_9 (fun ce2 H locs fO eo S => ?_)
  have fO : ce2 j = .inr (6, [.ref (ad1 (j + 1)), .int 0, .int 0, .int 0]) := fO
  have fC : ∀ k, k < j → ce2 k = ce k := fun k hk => (eo k (by omega)).trans (fC k hk)
  have fF : ∀ k, (j + 1 ≤ k ∧ k < j + 2) → ce2 k = celK cy ad1 k := fun k hk => (eo k (by omega)).trans (fF k hk)
  refine lv_aload_n hx hb dX6_init_12 rfl (lv_at hl 0 rfl) ?_
  refine lv_iconst (v := 1) hx hb dX6_init_13 (by decide) ?_
  refine pI_ (k := 1) (T := TX6) (ty0 := tyX6) (ty := .boolean) C S (by omega) fO rfl ni_X6_init_X6 tyX6_ok nmX6 (by decide) mi_X6_init_6 rfl (by decide +kernel) rfl rfl (Nat.le_of_ble_eq_true rfl) dX6_init_14 (fun ce3 H locs fO eo S => ?_)
  have fO : ce3 j = .inr (6, [.ref (ad1 (j + 1)), .int 1, .int 0, .int 0]) := fO
  have fC : ∀ k, k < j → ce3 k = ce k := fun k hk => (eo k (by omega)).trans (fC k hk)
  have fF : ∀ k, (j + 1 ≤ k ∧ k < j + 2) → ce3 k = celK cy ad1 k := fun k hk => (eo k (by omega)).trans (fF k hk)
  refine lv_aload_n hx hb dX6_init_17 rfl (lv_at hl 0 rfl) ?_
  refine lv_iconst (v := 0) hx hb dX6_init_18 (by decide) ?_
  refine pI_ (k := 2) (T := TX6) (ty0 := tyX6) (ty := .int) C S (by omega) fO rfl ni_X6_init_X6 tyX6_ok nmX6 (by decide) mi_X6_init_7 rfl (by decide +kernel) rfl rfl (Nat.le_of_ble_eq_true rfl) dX6_init_19 (fun ce4 H locs fO eo S => ?_)
  have fO : ce4 j = .inr (6, [.ref (ad1 (j + 1)), .int 1, .int 0, .int 0]) := fO
  have fC : ∀ k, k < j → ce4 k = ce k := fun k hk => (eo k (by omega)).trans (fC k hk)
  have fF : ∀ k, (j + 1 ≤ k ∧ k < j + 2) → ce4 k = celK cy ad1 k := fun k hk => (eo k (by omega)).trans (fF k hk)
  refine lv_aload_n hx hb dX6_init_22 rfl (lv_at hl 0 rfl) ?_
  refine lv_iconst (v := 0) hx hb dX6_init_23 (by decide) ?_
  refine pI_ (k := 3) (T := TX6) (ty0 := tyX6) (ty := .int) C S (by omega) fO rfl ni_X6_init_X6 tyX6_ok nmX6 (by decide) mi_X6_init_8 rfl (by decide +kernel) rfl rfl (Nat.le_of_ble_eq_true rfl) dX6_init_24 (fun ce5 H locs fO eo S => ?_)
  have fO : ce5 j = .inr (6, [.ref (ad1 (j + 1)), .int 1, .int 0, .int 0]) := fO
  have fC : ∀ k, k < j → ce5 k = ce k := fun k hk => (eo k (by omega)).trans (fC k hk)
  have fF : ∀ k, (j + 1 ≤ k ∧ k < j + 2) → ce5 k = celK cy ad1 k := fun k hk => (eo k (by omega)).trans (fF k hk)
  refine W.widen (k := 1) (n := 40) (Nat.le_of_ble_eq_true rfl) (Nat.le_of_ble_eq_true rfl) ?_
  refine rK_ C S hret hlk ⟨fA, fC, fun k h1 h2 => ?_⟩ dX6_init_27
  by_cases z : k = j
  · rw [z]; exact fO.trans (by unfold celK; rw [hj]; rfl)
  · exact fF k (by omega)
set_option maxHeartbeats 4000000 in
set_option maxRecDepth 100000 in
theorem mk_X1 {l : Launch} {dC : Nat → ClassId} {dI : Nat → Nat → Nat} {cy : Nat → ClassId} {B0 : Nat} {ad : Nat → Nat} {ce : Nat → va_E} (hb0 : ce 58 = .inr (1, [.null, .int 0])) : KN l dC dI cy B0 yX1_init wsX1_init (rmK 1 1 16) 58 2 1 16 ad ce := by
  refine KN.of (by decide) rfl rfl rfl (Nat.le_of_ble_eq_true rfl) ?_
  intro p e s m args below meth c ls C hname hret hlk hl S
  have hx := C.1.1
  have hb := C.1.2.1
  have hts := C.1.2.2.2.2
  have fA : ∀ k, k ≤ 58 → ad k = ad k := fun k _ => rfl
  have fC : ∀ k, k < 58 → ce k = ce k := fun k _ => rfl
  have fO : ce 58 = .inr (1, [.null, .int 0]) := hb0
  refine lv_aload_n hx hb dX1_init_0 rfl (lv_at hl 0 rfl) ?_
  refine W.objInit hx hb C.1.2.2.2.1 (hts _ mi_X1_init_1) (hts _ mi_X1_init_2) (hts _ mi_X1_init_3) rfl (by rw [C.1.2.2.1]; exact hl.1) rfl dX1_init_1 (Nat.le_of_ble_eq_true rfl) (Nat.le_of_ble_eq_true rfl) ?_
  refine W.eq (g2 := F0 m 4 ls []) rfl ?_
  generalize hlc : ([] : List Loc) = locs at S ⊢
  have S : SK dC dI s B0 (59) ad ce s.heap locs := S
  refine lv_aload_n hx hb dX1_init_4 rfl (lv_at hl 0 rfl) ?_
  refine lv_bipush (v := 16) hx hb dX1_init_5 (by decide) ?_
  refine nI_ (n := 16) C S mi_X1_init_4 (by decide) (by decide) (Nat.le_of_ble_eq_true rfl) (Nat.le_of_ble_eq_true rfl) (Nat.le_of_ble_eq_true rfl) dX1_init_7 (fun ad1 ce1 H ea ec en S => ?_)
  have S : SK dC dI s B0 (60) ad1 ce1 H locs := S
  have fA : ∀ k, k ≤ 58 → ad1 k = ad k := fun k hk => (ea k (by omega)).trans (fA k hk)
  have fC : ∀ k, k < 58 → ce1 k = ce k := fun k hk => (ec k (by omega)).trans (fC k hk)
  have fO : ce1 58 = .inr (1, [.null, .int 0]) := by rw [ec 58 (by omega), fO]
  rw [← ea 58 (by omega)] at hl
  have fn : ce1 59 = celK cy ad1 59 := en.trans rfl
  have fF : ∀ k, (59 ≤ k ∧ k < 60) → ce1 k = celK cy ad1 k := by
    intro k hk
    by_cases z : 59 ≤ k ∧ k < 60
    · rw [show k = 59 by omega]; exact fn
    · exact absurd hk (by omega)
  rw [← ea 58 (by omega)]
  refine pF_ (k := 0) (T := TX1) (ty0 := tyX1) (ty := tyX1 0) C S hname (by omega) fO rfl ni_X1_init_X1 tyX1_ok nmX1 (by decide) mi_X1_init_5 rfl rfl (by decide +kernel) rfl rfl (Nat.le_of_ble_eq_true rfl) dX1_init_9 (fun ce2 H locs fO eo S => ?_)
  have fO : ce2 58 = .inr (1, [.ref (ad1 (59)), .int 0]) := fO
  have fC : ∀ k, k < 58 → ce2 k = ce k := fun k hk => (eo k (by omega)).trans (fC k hk)
  have fF : ∀ k, (59 ≤ k ∧ k < 60) → ce2 k = celK cy ad1 k := fun k hk => (eo k (by omega)).trans (fF k hk)
  refine lv_aload_n hx hb dX1_init_12 rfl (lv_at hl 0 rfl) ?_
  refine lv_iconst (v := 0) hx hb dX1_init_13 (by decide) ?_
  refine pI_ (k := 1) (T := TX1) (ty0 := tyX1) (ty := .int) C S (by omega) fO rfl ni_X1_init_X1 tyX1_ok nmX1 (by decide) mi_X1_init_6 rfl (by decide +kernel) rfl rfl (Nat.le_of_ble_eq_true rfl) dX1_init_14 (fun ce3 H locs fO eo S => ?_)
  have fO : ce3 58 = .inr (1, [.ref (ad1 (59)), .int 0]) := fO
  have fC : ∀ k, k < 58 → ce3 k = ce k := fun k hk => (eo k (by omega)).trans (fC k hk)
  have fF : ∀ k, (59 ≤ k ∧ k < 60) → ce3 k = celK cy ad1 k := fun k hk => (eo k (by omega)).trans (fF k hk)
  refine W.widen (k := 1) (n := 16) (Nat.le_of_ble_eq_true rfl) (Nat.le_of_ble_eq_true rfl) ?_
  refine rK_ C S hret hlk ⟨fA, fC, fun k h1 h2 => ?_⟩ dX1_init_17
  by_cases z : k = 58
  · rw [z]; exact fO.trans rfl
  · exact fF k (by omega)
set_option maxHeartbeats 4000000 in
set_option maxRecDepth 100000 in
theorem mk_X5 {l : Launch} {dC : Nat → ClassId} {dI : Nat → Nat → Nat} {cy : Nat → ClassId} {B0 : Nat} {ad : Nat → Nat} {ce : Nat → va_E} (hb0 : ce 2 = .inr (5, [.null, .null, .int 0, .int 0, .int 0, .int 0, .int 0, .int 0])) : KN l dC dI cy B0 yX5_init wsX5_init (rmK 2 6 107) 2 7 6 107 ad ce := by
  refine KN.of (by decide) rfl rfl rfl (Nat.le_of_ble_eq_true rfl) ?_
  intro p e s m args below meth c ls C hname hret hlk hl S
  have hx := C.1.1
  have hb := C.1.2.1
  have hts := C.1.2.2.2.2
  have fA : ∀ k, k ≤ 2 → ad k = ad k := fun k _ => rfl
  have fC : ∀ k, k < 2 → ce k = ce k := fun k _ => rfl
  have fO : ce 2 = .inr (5, [.null, .null, .int 0, .int 0, .int 0, .int 0, .int 0, .int 0]) := hb0
  refine lv_aload_n hx hb dX5_init_0 rfl (lv_at hl 0 rfl) ?_
  refine W.objInit hx hb C.1.2.2.2.1 (hts _ mi_X5_init_1) (hts _ mi_X5_init_2) (hts _ mi_X5_init_3) rfl (by rw [C.1.2.2.1]; exact hl.1) rfl dX5_init_1 (Nat.le_of_ble_eq_true rfl) (Nat.le_of_ble_eq_true rfl) ?_
  refine W.eq (g2 := F0 m 4 ls []) rfl ?_
  generalize hlc : ([] : List Loc) = locs at S ⊢
  have S : SK dC dI s B0 (3) ad ce s.heap locs := S
  refine lv_aload_n hx hb dX5_init_4 rfl (lv_at hl 0 rfl) ?_
  refine lv_bipush (v := 70) hx hb dX5_init_5 (by decide) ?_
  refine nI_ (n := 70) C S mi_X5_init_4 (by decide) (by decide) (Nat.le_of_ble_eq_true rfl) (Nat.le_of_ble_eq_true rfl) (Nat.le_of_ble_eq_true rfl) dX5_init_7 (fun ad1 ce1 H ea ec en S => ?_)
  have S : SK dC dI s B0 (4) ad1 ce1 H locs := S
  have fA : ∀ k, k ≤ 2 → ad1 k = ad k := fun k hk => (ea k (by omega)).trans (fA k hk)
  have fC : ∀ k, k < 2 → ce1 k = ce k := fun k hk => (ec k (by omega)).trans (fC k hk)
  have fO : ce1 2 = .inr (5, [.null, .null, .int 0, .int 0, .int 0, .int 0, .int 0, .int 0]) := by rw [ec 2 (by omega), fO]
  rw [← ea 2 (by omega)] at hl
  have fn : ce1 3 = celK cy ad1 3 := en.trans rfl
  have fF : ∀ k, (3 ≤ k ∧ k < 4) → ce1 k = celK cy ad1 k := by
    intro k hk
    by_cases z : 3 ≤ k ∧ k < 4
    · rw [show k = 3 by omega]; exact fn
    · exact absurd hk (by omega)
  rw [← ea 2 (by omega)]
  refine pF_ (k := 0) (T := TX5) (ty0 := tyX5) (ty := tyX5 0) C S hname (by omega) fO rfl ni_X5_init_X5 tyX5_ok nmX5 (by decide) mi_X5_init_5 rfl rfl (by decide +kernel) rfl rfl (Nat.le_of_ble_eq_true rfl) dX5_init_9 (fun ce2 H locs fO eo S => ?_)
  have fO : ce2 2 = .inr (5, [.ref (ad1 (3)), .null, .int 0, .int 0, .int 0, .int 0, .int 0, .int 0]) := fO
  have fC : ∀ k, k < 2 → ce2 k = ce k := fun k hk => (eo k (by omega)).trans (fC k hk)
  have fF : ∀ k, (3 ≤ k ∧ k < 4) → ce2 k = celK cy ad1 k := fun k hk => (eo k (by omega)).trans (fF k hk)
  refine lv_aload_n hx hb dX5_init_12 rfl (lv_at hl 0 rfl) ?_
  refine nO_ (T := TX3) (ty := tyX3) (fs := [.null, .null, .null, .null, .int 0, .int 0, .int 0, .int 0, .int 0]) C S (ci := 3) rfl ni_X5_init_X3 tyX3_ok mi_X5_init_6 mi_X5_init_7 mi_X5_init_8 df_X3 (Nat.le_of_ble_eq_true rfl) (Nat.le_of_ble_eq_true rfl) dX5_init_13 (fun ad3 ce3 H ea ec en S => ?_)
  have fA : ∀ k, k ≤ 2 → ad3 k = ad k := fun k hk => (ea k (by omega)).trans (fA k hk)
  have fC : ∀ k, k < 2 → ce3 k = ce k := fun k hk => (ec k (by omega)).trans (fC k hk)
  have fO : ce3 2 = .inr (5, [.ref (ad3 (3)), .null, .int 0, .int 0, .int 0, .int 0, .int 0, .int 0]) := by rw [ec 2 (by omega), fO, ea 3 (by omega)]
  have fF : ∀ k, (3 ≤ k ∧ k < 4) → ce3 k = celK cy ad3 k := fun k hk => (ec k (by omega)).trans ((fF k hk).trans (celK_cg (N := 4) ((by decide +kernel : ∀ k, k < 100 → ((3 ≤ k ∧ k < 4)) → upK k ≤ 4) k (by omega) hk) (fun k hk => ea k (by omega))).symm)
  rw [← ea 2 (by omega)] at hl
  rw [← ea 2 (by omega)]
  refine lv_dup hx hb dX5_init_16 rfl ?_
  refine cN_ C S hl.1 (mk_X3 rfl en) ⟨va_cnB 0 hts gX5_init_X3_init_n17 rfl rfl rfl (C.2.2.1 (RX5, 17, yX3_init, "ClawCase") (by decide +kernel)) (hts _ mi_X5_init_8) (by decide +kernel) ⟨Nat.le_of_ble_eq_true rfl, Nat.le_of_ble_eq_true rfl⟩, rfl, hts _ mi_X5_init_16⟩ (Nat.le_of_ble_eq_true rfl) (Nat.le_of_ble_eq_true rfl) (Nat.le_of_ble_eq_true rfl) dX5_init_17 (fun ad4 ce4 H locs ea ec en2 S => ?_)
  have S : SK dC dI s B0 (9) ad4 ce4 H locs := S
  have ea : ∀ k, k < 5 → ad4 k = ad3 k := fun k hk => ea k (by omega)
  have fA : ∀ k, k ≤ 2 → ad4 k = ad k := fun k hk => (ea k (by omega)).trans (fA k hk)
  have fC : ∀ k, k < 2 → ce4 k = ce k := fun k hk => (ec k (by omega)).trans (fC k hk)
  have fO : ce4 2 = .inr (5, [.ref (ad4 (3)), .null, .int 0, .int 0, .int 0, .int 0, .int 0, .int 0]) := by rw [ec 2 (by omega), fO, ea 3 (by omega)]
  have fF : ∀ k, (3 ≤ k ∧ k < 4) → ce4 k = celK cy ad4 k := fun k hk => (ec k (by omega)).trans ((fF k hk).trans (celK_cg (N := 4) ((by decide +kernel : ∀ k, k < 100 → ((3 ≤ k ∧ k < 4)) → upK k ≤ 4) k (by omega) hk) (fun k hk => ea k (by omega))).symm)
  rw [← ea 2 (by omega)] at hl
  have fF : ∀ k, (3 ≤ k ∧ k < 9) → ce4 k = celK cy ad4 k := by
    intro k hk
    by_cases z : 4 ≤ k ∧ k < 9
    · exact en2 k z.1 (by omega)
    · exact fF k (by omega)
  rw [← ea 2 (by omega), ← ea 4 (by omega)]
  refine pF_ (k := 1) (T := TX5) (ty0 := tyX5) (ty := tyX5 1) C S hname (by omega) fO rfl ni_X5_init_X5 tyX5_ok nmX5 (by decide) mi_X5_init_9 rfl rfl (by decide +kernel) rfl rfl (Nat.le_of_ble_eq_true rfl) dX5_init_20 (fun ce5 H locs fO eo S => ?_)
  have fO : ce5 2 = .inr (5, [.ref (ad4 (3)), .ref (ad4 (4)), .int 0, .int 0, .int 0, .int 0, .int 0, .int 0]) := fO
  have fC : ∀ k, k < 2 → ce5 k = ce k := fun k hk => (eo k (by omega)).trans (fC k hk)
  have fF : ∀ k, (3 ≤ k ∧ k < 9) → ce5 k = celK cy ad4 k := fun k hk => (eo k (by omega)).trans (fF k hk)
  refine lv_aload_n hx hb dX5_init_23 rfl (lv_at hl 0 rfl) ?_
  refine lv_iconst (v := 0) hx hb dX5_init_24 (by decide) ?_
  refine pI_ (k := 2) (T := TX5) (ty0 := tyX5) (ty := .int) C S (by omega) fO rfl ni_X5_init_X5 tyX5_ok nmX5 (by decide) mi_X5_init_10 rfl (by decide +kernel) rfl rfl (Nat.le_of_ble_eq_true rfl) dX5_init_25 (fun ce6 H locs fO eo S => ?_)
  have fO : ce6 2 = .inr (5, [.ref (ad4 (3)), .ref (ad4 (4)), .int 0, .int 0, .int 0, .int 0, .int 0, .int 0]) := fO
  have fC : ∀ k, k < 2 → ce6 k = ce k := fun k hk => (eo k (by omega)).trans (fC k hk)
  have fF : ∀ k, (3 ≤ k ∧ k < 9) → ce6 k = celK cy ad4 k := fun k hk => (eo k (by omega)).trans (fF k hk)
  refine lv_aload_n hx hb dX5_init_28 rfl (lv_at hl 0 rfl) ?_
  refine lv_iconst (v := 0) hx hb dX5_init_29 (by decide) ?_
  refine pI_ (k := 3) (T := TX5) (ty0 := tyX5) (ty := .int) C S (by omega) fO rfl ni_X5_init_X5 tyX5_ok nmX5 (by decide) mi_X5_init_11 rfl (by decide +kernel) rfl rfl (Nat.le_of_ble_eq_true rfl) dX5_init_30 (fun ce7 H locs fO eo S => ?_)
  have fO : ce7 2 = .inr (5, [.ref (ad4 (3)), .ref (ad4 (4)), .int 0, .int 0, .int 0, .int 0, .int 0, .int 0]) := fO
  have fC : ∀ k, k < 2 → ce7 k = ce k := fun k hk => (eo k (by omega)).trans (fC k hk)
  have fF : ∀ k, (3 ≤ k ∧ k < 9) → ce7 k = celK cy ad4 k := fun k hk => (eo k (by omega)).trans (fF k hk)
  refine lv_aload_n hx hb dX5_init_33 rfl (lv_at hl 0 rfl) ?_
  refine lv_iconst (v := 0) hx hb dX5_init_34 (by decide) ?_
  refine pI_ (k := 4) (T := TX5) (ty0 := tyX5) (ty := .int) C S (by omega) fO rfl ni_X5_init_X5 tyX5_ok nmX5 (by decide) mi_X5_init_12 rfl (by decide +kernel) rfl rfl (Nat.le_of_ble_eq_true rfl) dX5_init_35 (fun ce8 H locs fO eo S => ?_)
  have fO : ce8 2 = .inr (5, [.ref (ad4 (3)), .ref (ad4 (4)), .int 0, .int 0, .int 0, .int 0, .int 0, .int 0]) := fO
  have fC : ∀ k, k < 2 → ce8 k = ce k := fun k hk => (eo k (by omega)).trans (fC k hk)
  have fF : ∀ k, (3 ≤ k ∧ k < 9) → ce8 k = celK cy ad4 k := fun k hk => (eo k (by omega)).trans (fF k hk)
  refine lv_aload_n hx hb dX5_init_38 rfl (lv_at hl 0 rfl) ?_
  refine lv_sipush (v := 257) hx hb dX5_init_39 (by decide) ?_
  refine pI_ (k := 5) (T := TX5) (ty0 := tyX5) (ty := .int) C S (by omega) fO rfl ni_X5_init_X5 tyX5_ok nmX5 (by decide) mi_X5_init_13 rfl (by decide +kernel) rfl rfl (Nat.le_of_ble_eq_true rfl) dX5_init_42 (fun ce9 H locs fO eo S => ?_)
  have fO : ce9 2 = .inr (5, [.ref (ad4 (3)), .ref (ad4 (4)), .int 0, .int 0, .int 0, .int 257, .int 0, .int 0]) := fO
  have fC : ∀ k, k < 2 → ce9 k = ce k := fun k hk => (eo k (by omega)).trans (fC k hk)
  have fF : ∀ k, (3 ≤ k ∧ k < 9) → ce9 k = celK cy ad4 k := fun k hk => (eo k (by omega)).trans (fF k hk)
  refine lv_aload_n hx hb dX5_init_45 rfl (lv_at hl 0 rfl) ?_
  refine lv_iconst (v := 0) hx hb dX5_init_46 (by decide) ?_
  refine pI_ (k := 6) (T := TX5) (ty0 := tyX5) (ty := .int) C S (by omega) fO rfl ni_X5_init_X5 tyX5_ok nmX5 (by decide) mi_X5_init_14 rfl (by decide +kernel) rfl rfl (Nat.le_of_ble_eq_true rfl) dX5_init_47 (fun ce10 H locs fO eo S => ?_)
  have fO : ce10 2 = .inr (5, [.ref (ad4 (3)), .ref (ad4 (4)), .int 0, .int 0, .int 0, .int 257, .int 0, .int 0]) := fO
  have fC : ∀ k, k < 2 → ce10 k = ce k := fun k hk => (eo k (by omega)).trans (fC k hk)
  have fF : ∀ k, (3 ≤ k ∧ k < 9) → ce10 k = celK cy ad4 k := fun k hk => (eo k (by omega)).trans (fF k hk)
  refine lv_aload_n hx hb dX5_init_50 rfl (lv_at hl 0 rfl) ?_
  refine lv_iconst (v := 0) hx hb dX5_init_51 (by decide) ?_
  refine pI_ (k := 7) (T := TX5) (ty0 := tyX5) (ty := .int) C S (by omega) fO rfl ni_X5_init_X5 tyX5_ok nmX5 (by decide) mi_X5_init_15 rfl (by decide +kernel) rfl rfl (Nat.le_of_ble_eq_true rfl) dX5_init_52 (fun ce11 H locs fO eo S => ?_)
  have fO : ce11 2 = .inr (5, [.ref (ad4 (3)), .ref (ad4 (4)), .int 0, .int 0, .int 0, .int 257, .int 0, .int 0]) := fO
  have fC : ∀ k, k < 2 → ce11 k = ce k := fun k hk => (eo k (by omega)).trans (fC k hk)
  have fF : ∀ k, (3 ≤ k ∧ k < 9) → ce11 k = celK cy ad4 k := fun k hk => (eo k (by omega)).trans (fF k hk)
  refine W.widen (k := 6) (n := 107) (Nat.le_of_ble_eq_true rfl) (Nat.le_of_ble_eq_true rfl) ?_
  refine rK_ C S hret hlk ⟨fA, fC, fun k h1 h2 => ?_⟩ dX5_init_55
  by_cases z : k = 2
  · rw [z]; exact fO.trans rfl
  · exact fF k (by omega)
set_option maxHeartbeats 4000000 in
set_option maxRecDepth 100000 in
theorem mk_X8 {l : Launch} {dC : Nat → ClassId} {dI : Nat → Nat → Nat} {cy : Nat → ClassId} {B0 : Nat} {ad : Nat → Nat} {ce : Nat → va_E} (hb0 : ce 86 = .inr (8, [.null, .null, .null, .null, .int 0, .int 0, .null, .null, .null, .null, .null, .null, .int 0, .int 0, .int 0, .int 0, .int 0, .int 0, .null, .null, .long 0, .long 0, .null, .int 0])) : KN l dC dI cy B0 yX8_init wsX8_init (rmK 1 13 1429) 86 14 13 1429 ad ce := by
  refine KN.of (by decide) rfl rfl rfl (Nat.le_of_ble_eq_true rfl) ?_
  intro p e s m args below meth c ls C hname hret hlk hl S
  have hx := C.1.1
  have hb := C.1.2.1
  have hts := C.1.2.2.2.2
  have fA : ∀ k, k ≤ 86 → ad k = ad k := fun k _ => rfl
  have fC : ∀ k, k < 86 → ce k = ce k := fun k _ => rfl
  have fO : ce 86 = .inr (8, [.null, .null, .null, .null, .int 0, .int 0, .null, .null, .null, .null, .null, .null, .int 0, .int 0, .int 0, .int 0, .int 0, .int 0, .null, .null, .long 0, .long 0, .null, .int 0]) := hb0
  refine lv_aload_n hx hb dX8_init_0 rfl (lv_at hl 0 rfl) ?_
  refine W.objInit hx hb C.1.2.2.2.1 (hts _ mi_X8_init_1) (hts _ mi_X8_init_2) (hts _ mi_X8_init_3) rfl (by rw [C.1.2.2.1]; exact hl.1) rfl dX8_init_1 (Nat.le_of_ble_eq_true rfl) (Nat.le_of_ble_eq_true rfl) ?_
  refine W.eq (g2 := F0 m 4 ls []) rfl ?_
  generalize hlc : ([] : List Loc) = locs at S ⊢
  have S : SK dC dI s B0 (87) ad ce s.heap locs := S
  refine lv_aload_n hx hb dX8_init_4 rfl (lv_at hl 0 rfl) ?_
  refine lv_bipush (v := 33) hx hb dX8_init_5 (by decide) ?_
  refine nI_ (n := 33) C S mi_X8_init_4 (by decide) (by decide) (Nat.le_of_ble_eq_true rfl) (Nat.le_of_ble_eq_true rfl) (Nat.le_of_ble_eq_true rfl) dX8_init_7 (fun ad1 ce1 H ea ec en S => ?_)
  have S : SK dC dI s B0 (88) ad1 ce1 H locs := S
  have fA : ∀ k, k ≤ 86 → ad1 k = ad k := fun k hk => (ea k (by omega)).trans (fA k hk)
  have fC : ∀ k, k < 86 → ce1 k = ce k := fun k hk => (ec k (by omega)).trans (fC k hk)
  have fO : ce1 86 = .inr (8, [.null, .null, .null, .null, .int 0, .int 0, .null, .null, .null, .null, .null, .null, .int 0, .int 0, .int 0, .int 0, .int 0, .int 0, .null, .null, .long 0, .long 0, .null, .int 0]) := by rw [ec 86 (by omega), fO]
  rw [← ea 86 (by omega)] at hl
  have fn : ce1 87 = celK cy ad1 87 := en.trans rfl
  have fF : ∀ k, (87 ≤ k ∧ k < 88) → ce1 k = celK cy ad1 k := by
    intro k hk
    by_cases z : 87 ≤ k ∧ k < 88
    · rw [show k = 87 by omega]; exact fn
    · exact absurd hk (by omega)
  rw [← ea 86 (by omega)]
  refine pF_ (k := 0) (T := TX8) (ty0 := tyX8) (ty := tyX8 0) C S hname (by omega) fO rfl ni_X8_init_X8 tyX8_ok nmX8 (by decide) mi_X8_init_5 rfl rfl (by decide +kernel) rfl rfl (Nat.le_of_ble_eq_true rfl) dX8_init_9 (fun ce2 H locs fO eo S => ?_)
  have fO : ce2 86 = .inr (8, [.ref (ad1 (87)), .null, .null, .null, .int 0, .int 0, .null, .null, .null, .null, .null, .null, .int 0, .int 0, .int 0, .int 0, .int 0, .int 0, .null, .null, .long 0, .long 0, .null, .int 0]) := fO
  have fC : ∀ k, k < 86 → ce2 k = ce k := fun k hk => (eo k (by omega)).trans (fC k hk)
  have fF : ∀ k, (87 ≤ k ∧ k < 88) → ce2 k = celK cy ad1 k := fun k hk => (eo k (by omega)).trans (fF k hk)
  refine lv_aload_n hx hb dX8_init_12 rfl (lv_at hl 0 rfl) ?_
  refine lv_bipush (v := 66) hx hb dX8_init_13 (by decide) ?_
  refine nI_ (n := 66) C S mi_X8_init_4 (by decide) (by decide) (Nat.le_of_ble_eq_true rfl) (Nat.le_of_ble_eq_true rfl) (Nat.le_of_ble_eq_true rfl) dX8_init_15 (fun ad3 ce3 H ea ec en S => ?_)
  have S : SK dC dI s B0 (89) ad3 ce3 H locs := S
  have fA : ∀ k, k ≤ 86 → ad3 k = ad k := fun k hk => (ea k (by omega)).trans (fA k hk)
  have fC : ∀ k, k < 86 → ce3 k = ce k := fun k hk => (ec k (by omega)).trans (fC k hk)
  have fO : ce3 86 = .inr (8, [.ref (ad3 (87)), .null, .null, .null, .int 0, .int 0, .null, .null, .null, .null, .null, .null, .int 0, .int 0, .int 0, .int 0, .int 0, .int 0, .null, .null, .long 0, .long 0, .null, .int 0]) := by rw [ec 86 (by omega), fO, ea 87 (by omega)]
  have fF : ∀ k, (87 ≤ k ∧ k < 88) → ce3 k = celK cy ad3 k := fun k hk => (ec k (by omega)).trans ((fF k hk).trans (celK_cg (N := 88) ((by decide +kernel : ∀ k, k < 100 → ((87 ≤ k ∧ k < 88)) → upK k ≤ 88) k (by omega) hk) (fun k hk => ea k (by omega))).symm)
  rw [← ea 86 (by omega)] at hl
  have fn : ce3 88 = celK cy ad3 88 := en.trans rfl
  have fF : ∀ k, (87 ≤ k ∧ k < 89) → ce3 k = celK cy ad3 k := by
    intro k hk
    by_cases z : 88 ≤ k ∧ k < 89
    · rw [show k = 88 by omega]; exact fn
    · exact fF k (by omega)
  rw [← ea 86 (by omega)]
  refine pF_ (k := 1) (T := TX8) (ty0 := tyX8) (ty := tyX8 1) C S hname (by omega) fO rfl ni_X8_init_X8 tyX8_ok nmX8 (by decide) mi_X8_init_6 rfl rfl (by decide +kernel) rfl rfl (Nat.le_of_ble_eq_true rfl) dX8_init_17 (fun ce4 H locs fO eo S => ?_)
  have fO : ce4 86 = .inr (8, [.ref (ad3 (87)), .ref (ad3 (88)), .null, .null, .int 0, .int 0, .null, .null, .null, .null, .null, .null, .int 0, .int 0, .int 0, .int 0, .int 0, .int 0, .null, .null, .long 0, .long 0, .null, .int 0]) := fO
  have fC : ∀ k, k < 86 → ce4 k = ce k := fun k hk => (eo k (by omega)).trans (fC k hk)
  have fF : ∀ k, (87 ≤ k ∧ k < 89) → ce4 k = celK cy ad3 k := fun k hk => (eo k (by omega)).trans (fF k hk)
  refine lv_aload_n hx hb dX8_init_20 rfl (lv_at hl 0 rfl) ?_
  refine lv_iconst (v := 2) hx hb dX8_init_21 (by decide) ?_
  refine nZ_ (n := 2) C S mi_X8_init_7 (by decide) (by decide) (Nat.le_of_ble_eq_true rfl) (Nat.le_of_ble_eq_true rfl) (Nat.le_of_ble_eq_true rfl) dX8_init_22 (fun ad5 ce5 H ea ec en S => ?_)
  have S : SK dC dI s B0 (90) ad5 ce5 H locs := S
  have fA : ∀ k, k ≤ 86 → ad5 k = ad k := fun k hk => (ea k (by omega)).trans (fA k hk)
  have fC : ∀ k, k < 86 → ce5 k = ce k := fun k hk => (ec k (by omega)).trans (fC k hk)
  have fO : ce5 86 = .inr (8, [.ref (ad5 (87)), .ref (ad5 (88)), .null, .null, .int 0, .int 0, .null, .null, .null, .null, .null, .null, .int 0, .int 0, .int 0, .int 0, .int 0, .int 0, .null, .null, .long 0, .long 0, .null, .int 0]) := by rw [ec 86 (by omega), fO, ea 87 (by omega), ea 88 (by omega)]
  have fF : ∀ k, (87 ≤ k ∧ k < 89) → ce5 k = celK cy ad5 k := fun k hk => (ec k (by omega)).trans ((fF k hk).trans (celK_cg (N := 89) ((by decide +kernel : ∀ k, k < 100 → ((87 ≤ k ∧ k < 89)) → upK k ≤ 89) k (by omega) hk) (fun k hk => ea k (by omega))).symm)
  rw [← ea 86 (by omega)] at hl
  have fn : ce5 89 = celK cy ad5 89 := en.trans rfl
  have fF : ∀ k, (87 ≤ k ∧ k < 90) → ce5 k = celK cy ad5 k := by
    intro k hk
    by_cases z : 89 ≤ k ∧ k < 90
    · rw [show k = 89 by omega]; exact fn
    · exact fF k (by omega)
  rw [← ea 86 (by omega)]
  refine pF_ (k := 2) (T := TX8) (ty0 := tyX8) (ty := tyX8 2) C S hname (by omega) fO rfl ni_X8_init_X8 tyX8_ok nmX8 (by decide) mi_X8_init_8 rfl rfl (by decide +kernel) rfl rfl (Nat.le_of_ble_eq_true rfl) dX8_init_24 (fun ce6 H locs fO eo S => ?_)
  have fO : ce6 86 = .inr (8, [.ref (ad5 (87)), .ref (ad5 (88)), .ref (ad5 (89)), .null, .int 0, .int 0, .null, .null, .null, .null, .null, .null, .int 0, .int 0, .int 0, .int 0, .int 0, .int 0, .null, .null, .long 0, .long 0, .null, .int 0]) := fO
  have fC : ∀ k, k < 86 → ce6 k = ce k := fun k hk => (eo k (by omega)).trans (fC k hk)
  have fF : ∀ k, (87 ≤ k ∧ k < 90) → ce6 k = celK cy ad5 k := fun k hk => (eo k (by omega)).trans (fF k hk)
  refine lv_aload_n hx hb dX8_init_27 rfl (lv_at hl 0 rfl) ?_
  refine lv_sipush (v := 792) hx hb dX8_init_28 (by decide) ?_
  refine nI_ (n := 792) C S mi_X8_init_4 (by decide) (by decide) (Nat.le_of_ble_eq_true rfl) (Nat.le_of_ble_eq_true rfl) (Nat.le_of_ble_eq_true rfl) dX8_init_31 (fun ad7 ce7 H ea ec en S => ?_)
  have S : SK dC dI s B0 (91) ad7 ce7 H locs := S
  have fA : ∀ k, k ≤ 86 → ad7 k = ad k := fun k hk => (ea k (by omega)).trans (fA k hk)
  have fC : ∀ k, k < 86 → ce7 k = ce k := fun k hk => (ec k (by omega)).trans (fC k hk)
  have fO : ce7 86 = .inr (8, [.ref (ad7 (87)), .ref (ad7 (88)), .ref (ad7 (89)), .null, .int 0, .int 0, .null, .null, .null, .null, .null, .null, .int 0, .int 0, .int 0, .int 0, .int 0, .int 0, .null, .null, .long 0, .long 0, .null, .int 0]) := by rw [ec 86 (by omega), fO, ea 87 (by omega), ea 88 (by omega), ea 89 (by omega)]
  have fF : ∀ k, (87 ≤ k ∧ k < 90) → ce7 k = celK cy ad7 k := fun k hk => (ec k (by omega)).trans ((fF k hk).trans (celK_cg (N := 90) ((by decide +kernel : ∀ k, k < 100 → ((87 ≤ k ∧ k < 90)) → upK k ≤ 90) k (by omega) hk) (fun k hk => ea k (by omega))).symm)
  rw [← ea 86 (by omega)] at hl
  have fn : ce7 90 = celK cy ad7 90 := en.trans rfl
  have fF : ∀ k, (87 ≤ k ∧ k < 91) → ce7 k = celK cy ad7 k := by
    intro k hk
    by_cases z : 90 ≤ k ∧ k < 91
    · rw [show k = 90 by omega]; exact fn
    · exact fF k (by omega)
  rw [← ea 86 (by omega)]
  refine pF_ (k := 3) (T := TX8) (ty0 := tyX8) (ty := tyX8 3) C S hname (by omega) fO rfl ni_X8_init_X8 tyX8_ok nmX8 (by decide) mi_X8_init_9 rfl rfl (by decide +kernel) rfl rfl (Nat.le_of_ble_eq_true rfl) dX8_init_33 (fun ce8 H locs fO eo S => ?_)
  have fO : ce8 86 = .inr (8, [.ref (ad7 (87)), .ref (ad7 (88)), .ref (ad7 (89)), .ref (ad7 (90)), .int 0, .int 0, .null, .null, .null, .null, .null, .null, .int 0, .int 0, .int 0, .int 0, .int 0, .int 0, .null, .null, .long 0, .long 0, .null, .int 0]) := fO
  have fC : ∀ k, k < 86 → ce8 k = ce k := fun k hk => (eo k (by omega)).trans (fC k hk)
  have fF : ∀ k, (87 ≤ k ∧ k < 91) → ce8 k = celK cy ad7 k := fun k hk => (eo k (by omega)).trans (fF k hk)
  refine lv_aload_n hx hb dX8_init_36 rfl (lv_at hl 0 rfl) ?_
  refine lv_bipush (v := 8) hx hb dX8_init_37 (by decide) ?_
  refine nI_ (n := 8) C S mi_X8_init_4 (by decide) (by decide) (Nat.le_of_ble_eq_true rfl) (Nat.le_of_ble_eq_true rfl) (Nat.le_of_ble_eq_true rfl) dX8_init_39 (fun ad9 ce9 H ea ec en S => ?_)
  have S : SK dC dI s B0 (92) ad9 ce9 H locs := S
  have fA : ∀ k, k ≤ 86 → ad9 k = ad k := fun k hk => (ea k (by omega)).trans (fA k hk)
  have fC : ∀ k, k < 86 → ce9 k = ce k := fun k hk => (ec k (by omega)).trans (fC k hk)
  have fO : ce9 86 = .inr (8, [.ref (ad9 (87)), .ref (ad9 (88)), .ref (ad9 (89)), .ref (ad9 (90)), .int 0, .int 0, .null, .null, .null, .null, .null, .null, .int 0, .int 0, .int 0, .int 0, .int 0, .int 0, .null, .null, .long 0, .long 0, .null, .int 0]) := by rw [ec 86 (by omega), fO, ea 87 (by omega), ea 88 (by omega), ea 89 (by omega), ea 90 (by omega)]
  have fF : ∀ k, (87 ≤ k ∧ k < 91) → ce9 k = celK cy ad9 k := fun k hk => (ec k (by omega)).trans ((fF k hk).trans (celK_cg (N := 91) ((by decide +kernel : ∀ k, k < 100 → ((87 ≤ k ∧ k < 91)) → upK k ≤ 91) k (by omega) hk) (fun k hk => ea k (by omega))).symm)
  rw [← ea 86 (by omega)] at hl
  have fn : ce9 91 = celK cy ad9 91 := en.trans rfl
  have fF : ∀ k, (87 ≤ k ∧ k < 92) → ce9 k = celK cy ad9 k := by
    intro k hk
    by_cases z : 91 ≤ k ∧ k < 92
    · rw [show k = 91 by omega]; exact fn
    · exact fF k (by omega)
  rw [← ea 86 (by omega)]
  refine pF_ (k := 6) (T := TX8) (ty0 := tyX8) (ty := tyX8 6) C S hname (by omega) fO rfl ni_X8_init_X8 tyX8_ok nmX8 (by decide) mi_X8_init_10 rfl rfl (by decide +kernel) rfl rfl (Nat.le_of_ble_eq_true rfl) dX8_init_41 (fun ce10 H locs fO eo S => ?_)
  have fO : ce10 86 = .inr (8, [.ref (ad9 (87)), .ref (ad9 (88)), .ref (ad9 (89)), .ref (ad9 (90)), .int 0, .int 0, .ref (ad9 (91)), .null, .null, .null, .null, .null, .int 0, .int 0, .int 0, .int 0, .int 0, .int 0, .null, .null, .long 0, .long 0, .null, .int 0]) := fO
  have fC : ∀ k, k < 86 → ce10 k = ce k := fun k hk => (eo k (by omega)).trans (fC k hk)
  have fF : ∀ k, (87 ≤ k ∧ k < 92) → ce10 k = celK cy ad9 k := fun k hk => (eo k (by omega)).trans (fF k hk)
  refine lv_aload_n hx hb dX8_init_44 rfl (lv_at hl 0 rfl) ?_
  refine lv_bipush (v := 8) hx hb dX8_init_45 (by decide) ?_
  refine nI_ (n := 8) C S mi_X8_init_4 (by decide) (by decide) (Nat.le_of_ble_eq_true rfl) (Nat.le_of_ble_eq_true rfl) (Nat.le_of_ble_eq_true rfl) dX8_init_47 (fun ad11 ce11 H ea ec en S => ?_)
  have S : SK dC dI s B0 (93) ad11 ce11 H locs := S
  have fA : ∀ k, k ≤ 86 → ad11 k = ad k := fun k hk => (ea k (by omega)).trans (fA k hk)
  have fC : ∀ k, k < 86 → ce11 k = ce k := fun k hk => (ec k (by omega)).trans (fC k hk)
  have fO : ce11 86 = .inr (8, [.ref (ad11 (87)), .ref (ad11 (88)), .ref (ad11 (89)), .ref (ad11 (90)), .int 0, .int 0, .ref (ad11 (91)), .null, .null, .null, .null, .null, .int 0, .int 0, .int 0, .int 0, .int 0, .int 0, .null, .null, .long 0, .long 0, .null, .int 0]) := by rw [ec 86 (by omega), fO, ea 87 (by omega), ea 88 (by omega), ea 89 (by omega), ea 90 (by omega), ea 91 (by omega)]
  have fF : ∀ k, (87 ≤ k ∧ k < 92) → ce11 k = celK cy ad11 k := fun k hk => (ec k (by omega)).trans ((fF k hk).trans (celK_cg (N := 92) ((by decide +kernel : ∀ k, k < 100 → ((87 ≤ k ∧ k < 92)) → upK k ≤ 92) k (by omega) hk) (fun k hk => ea k (by omega))).symm)
  rw [← ea 86 (by omega)] at hl
  have fn : ce11 92 = celK cy ad11 92 := en.trans rfl
  have fF : ∀ k, (87 ≤ k ∧ k < 93) → ce11 k = celK cy ad11 k := by
    intro k hk
    by_cases z : 92 ≤ k ∧ k < 93
    · rw [show k = 92 by omega]; exact fn
    · exact fF k (by omega)
  rw [← ea 86 (by omega)]
  refine pF_ (k := 7) (T := TX8) (ty0 := tyX8) (ty := tyX8 7) C S hname (by omega) fO rfl ni_X8_init_X8 tyX8_ok nmX8 (by decide) mi_X8_init_11 rfl rfl (by decide +kernel) rfl rfl (Nat.le_of_ble_eq_true rfl) dX8_init_49 (fun ce12 H locs fO eo S => ?_)
  have fO : ce12 86 = .inr (8, [.ref (ad11 (87)), .ref (ad11 (88)), .ref (ad11 (89)), .ref (ad11 (90)), .int 0, .int 0, .ref (ad11 (91)), .ref (ad11 (92)), .null, .null, .null, .null, .int 0, .int 0, .int 0, .int 0, .int 0, .int 0, .null, .null, .long 0, .long 0, .null, .int 0]) := fO
  have fC : ∀ k, k < 86 → ce12 k = ce k := fun k hk => (eo k (by omega)).trans (fC k hk)
  have fF : ∀ k, (87 ≤ k ∧ k < 93) → ce12 k = celK cy ad11 k := fun k hk => (eo k (by omega)).trans (fF k hk)
  refine lv_aload_n hx hb dX8_init_52 rfl (lv_at hl 0 rfl) ?_
  refine lv_bipush (v := 8) hx hb dX8_init_53 (by decide) ?_
  refine nZ_ (n := 8) C S mi_X8_init_7 (by decide) (by decide) (Nat.le_of_ble_eq_true rfl) (Nat.le_of_ble_eq_true rfl) (Nat.le_of_ble_eq_true rfl) dX8_init_55 (fun ad13 ce13 H ea ec en S => ?_)
  have S : SK dC dI s B0 (94) ad13 ce13 H locs := S
  have fA : ∀ k, k ≤ 86 → ad13 k = ad k := fun k hk => (ea k (by omega)).trans (fA k hk)
  have fC : ∀ k, k < 86 → ce13 k = ce k := fun k hk => (ec k (by omega)).trans (fC k hk)
  have fO : ce13 86 = .inr (8, [.ref (ad13 (87)), .ref (ad13 (88)), .ref (ad13 (89)), .ref (ad13 (90)), .int 0, .int 0, .ref (ad13 (91)), .ref (ad13 (92)), .null, .null, .null, .null, .int 0, .int 0, .int 0, .int 0, .int 0, .int 0, .null, .null, .long 0, .long 0, .null, .int 0]) := by rw [ec 86 (by omega), fO, ea 87 (by omega), ea 88 (by omega), ea 89 (by omega), ea 90 (by omega), ea 91 (by omega), ea 92 (by omega)]
  have fF : ∀ k, (87 ≤ k ∧ k < 93) → ce13 k = celK cy ad13 k := fun k hk => (ec k (by omega)).trans ((fF k hk).trans (celK_cg (N := 93) ((by decide +kernel : ∀ k, k < 100 → ((87 ≤ k ∧ k < 93)) → upK k ≤ 93) k (by omega) hk) (fun k hk => ea k (by omega))).symm)
  rw [← ea 86 (by omega)] at hl
  have fn : ce13 93 = celK cy ad13 93 := en.trans rfl
  have fF : ∀ k, (87 ≤ k ∧ k < 94) → ce13 k = celK cy ad13 k := by
    intro k hk
    by_cases z : 93 ≤ k ∧ k < 94
    · rw [show k = 93 by omega]; exact fn
    · exact fF k (by omega)
  rw [← ea 86 (by omega)]
  refine pF_ (k := 8) (T := TX8) (ty0 := tyX8) (ty := tyX8 8) C S hname (by omega) fO rfl ni_X8_init_X8 tyX8_ok nmX8 (by decide) mi_X8_init_12 rfl rfl (by decide +kernel) rfl rfl (Nat.le_of_ble_eq_true rfl) dX8_init_57 (fun ce14 H locs fO eo S => ?_)
  have fO : ce14 86 = .inr (8, [.ref (ad13 (87)), .ref (ad13 (88)), .ref (ad13 (89)), .ref (ad13 (90)), .int 0, .int 0, .ref (ad13 (91)), .ref (ad13 (92)), .ref (ad13 (93)), .null, .null, .null, .int 0, .int 0, .int 0, .int 0, .int 0, .int 0, .null, .null, .long 0, .long 0, .null, .int 0]) := fO
  have fC : ∀ k, k < 86 → ce14 k = ce k := fun k hk => (eo k (by omega)).trans (fC k hk)
  have fF : ∀ k, (87 ≤ k ∧ k < 94) → ce14 k = celK cy ad13 k := fun k hk => (eo k (by omega)).trans (fF k hk)
  refine lv_aload_n hx hb dX8_init_60 rfl (lv_at hl 0 rfl) ?_
  refine lv_sipush (v := 320) hx hb dX8_init_61 (by decide) ?_
  refine nI_ (n := 320) C S mi_X8_init_4 (by decide) (by decide) (Nat.le_of_ble_eq_true rfl) (Nat.le_of_ble_eq_true rfl) (Nat.le_of_ble_eq_true rfl) dX8_init_64 (fun ad15 ce15 H ea ec en S => ?_)
  have S : SK dC dI s B0 (95) ad15 ce15 H locs := S
  have fA : ∀ k, k ≤ 86 → ad15 k = ad k := fun k hk => (ea k (by omega)).trans (fA k hk)
  have fC : ∀ k, k < 86 → ce15 k = ce k := fun k hk => (ec k (by omega)).trans (fC k hk)
  have fO : ce15 86 = .inr (8, [.ref (ad15 (87)), .ref (ad15 (88)), .ref (ad15 (89)), .ref (ad15 (90)), .int 0, .int 0, .ref (ad15 (91)), .ref (ad15 (92)), .ref (ad15 (93)), .null, .null, .null, .int 0, .int 0, .int 0, .int 0, .int 0, .int 0, .null, .null, .long 0, .long 0, .null, .int 0]) := by rw [ec 86 (by omega), fO, ea 87 (by omega), ea 88 (by omega), ea 89 (by omega), ea 90 (by omega), ea 91 (by omega), ea 92 (by omega), ea 93 (by omega)]
  have fF : ∀ k, (87 ≤ k ∧ k < 94) → ce15 k = celK cy ad15 k := fun k hk => (ec k (by omega)).trans ((fF k hk).trans (celK_cg (N := 94) ((by decide +kernel : ∀ k, k < 100 → ((87 ≤ k ∧ k < 94)) → upK k ≤ 94) k (by omega) hk) (fun k hk => ea k (by omega))).symm)
  rw [← ea 86 (by omega)] at hl
  have fn : ce15 94 = celK cy ad15 94 := en.trans rfl
  have fF : ∀ k, (87 ≤ k ∧ k < 95) → ce15 k = celK cy ad15 k := by
    intro k hk
    by_cases z : 94 ≤ k ∧ k < 95
    · rw [show k = 94 by omega]; exact fn
    · exact fF k (by omega)
  rw [← ea 86 (by omega)]
  refine pF_ (k := 9) (T := TX8) (ty0 := tyX8) (ty := tyX8 9) C S hname (by omega) fO rfl ni_X8_init_X8 tyX8_ok nmX8 (by decide) mi_X8_init_13 rfl rfl (by decide +kernel) rfl rfl (Nat.le_of_ble_eq_true rfl) dX8_init_66 (fun ce16 H locs fO eo S => ?_)
  have fO : ce16 86 = .inr (8, [.ref (ad15 (87)), .ref (ad15 (88)), .ref (ad15 (89)), .ref (ad15 (90)), .int 0, .int 0, .ref (ad15 (91)), .ref (ad15 (92)), .ref (ad15 (93)), .ref (ad15 (94)), .null, .null, .int 0, .int 0, .int 0, .int 0, .int 0, .int 0, .null, .null, .long 0, .long 0, .null, .int 0]) := fO
  have fC : ∀ k, k < 86 → ce16 k = ce k := fun k hk => (eo k (by omega)).trans (fC k hk)
  have fF : ∀ k, (87 ≤ k ∧ k < 95) → ce16 k = celK cy ad15 k := fun k hk => (eo k (by omega)).trans (fF k hk)
  refine lv_aload_n hx hb dX8_init_69 rfl (lv_at hl 0 rfl) ?_
  refine lv_bipush (v := 40) hx hb dX8_init_70 (by decide) ?_
  refine nI_ (n := 40) C S mi_X8_init_4 (by decide) (by decide) (Nat.le_of_ble_eq_true rfl) (Nat.le_of_ble_eq_true rfl) (Nat.le_of_ble_eq_true rfl) dX8_init_72 (fun ad17 ce17 H ea ec en S => ?_)
  have S : SK dC dI s B0 (96) ad17 ce17 H locs := S
  have fA : ∀ k, k ≤ 86 → ad17 k = ad k := fun k hk => (ea k (by omega)).trans (fA k hk)
  have fC : ∀ k, k < 86 → ce17 k = ce k := fun k hk => (ec k (by omega)).trans (fC k hk)
  have fO : ce17 86 = .inr (8, [.ref (ad17 (87)), .ref (ad17 (88)), .ref (ad17 (89)), .ref (ad17 (90)), .int 0, .int 0, .ref (ad17 (91)), .ref (ad17 (92)), .ref (ad17 (93)), .ref (ad17 (94)), .null, .null, .int 0, .int 0, .int 0, .int 0, .int 0, .int 0, .null, .null, .long 0, .long 0, .null, .int 0]) := by rw [ec 86 (by omega), fO, ea 87 (by omega), ea 88 (by omega), ea 89 (by omega), ea 90 (by omega), ea 91 (by omega), ea 92 (by omega), ea 93 (by omega), ea 94 (by omega)]
  have fF : ∀ k, (87 ≤ k ∧ k < 95) → ce17 k = celK cy ad17 k := fun k hk => (ec k (by omega)).trans ((fF k hk).trans (celK_cg (N := 95) ((by decide +kernel : ∀ k, k < 100 → ((87 ≤ k ∧ k < 95)) → upK k ≤ 95) k (by omega) hk) (fun k hk => ea k (by omega))).symm)
  rw [← ea 86 (by omega)] at hl
  have fn : ce17 95 = celK cy ad17 95 := en.trans rfl
  have fF : ∀ k, (87 ≤ k ∧ k < 96) → ce17 k = celK cy ad17 k := by
    intro k hk
    by_cases z : 95 ≤ k ∧ k < 96
    · rw [show k = 95 by omega]; exact fn
    · exact fF k (by omega)
  rw [← ea 86 (by omega)]
  refine pF_ (k := 10) (T := TX8) (ty0 := tyX8) (ty := tyX8 10) C S hname (by omega) fO rfl ni_X8_init_X8 tyX8_ok nmX8 (by decide) mi_X8_init_14 rfl rfl (by decide +kernel) rfl rfl (Nat.le_of_ble_eq_true rfl) dX8_init_74 (fun ce18 H locs fO eo S => ?_)
  have fO : ce18 86 = .inr (8, [.ref (ad17 (87)), .ref (ad17 (88)), .ref (ad17 (89)), .ref (ad17 (90)), .int 0, .int 0, .ref (ad17 (91)), .ref (ad17 (92)), .ref (ad17 (93)), .ref (ad17 (94)), .ref (ad17 (95)), .null, .int 0, .int 0, .int 0, .int 0, .int 0, .int 0, .null, .null, .long 0, .long 0, .null, .int 0]) := fO
  have fC : ∀ k, k < 86 → ce18 k = ce k := fun k hk => (eo k (by omega)).trans (fC k hk)
  have fF : ∀ k, (87 ≤ k ∧ k < 96) → ce18 k = celK cy ad17 k := fun k hk => (eo k (by omega)).trans (fF k hk)
  refine lv_aload_n hx hb dX8_init_77 rfl (lv_at hl 0 rfl) ?_
  refine lv_bipush (v := 70) hx hb dX8_init_78 (by decide) ?_
  refine nI_ (n := 70) C S mi_X8_init_4 (by decide) (by decide) (Nat.le_of_ble_eq_true rfl) (Nat.le_of_ble_eq_true rfl) (Nat.le_of_ble_eq_true rfl) dX8_init_80 (fun ad19 ce19 H ea ec en S => ?_)
  have S : SK dC dI s B0 (97) ad19 ce19 H locs := S
  have fA : ∀ k, k ≤ 86 → ad19 k = ad k := fun k hk => (ea k (by omega)).trans (fA k hk)
  have fC : ∀ k, k < 86 → ce19 k = ce k := fun k hk => (ec k (by omega)).trans (fC k hk)
  have fO : ce19 86 = .inr (8, [.ref (ad19 (87)), .ref (ad19 (88)), .ref (ad19 (89)), .ref (ad19 (90)), .int 0, .int 0, .ref (ad19 (91)), .ref (ad19 (92)), .ref (ad19 (93)), .ref (ad19 (94)), .ref (ad19 (95)), .null, .int 0, .int 0, .int 0, .int 0, .int 0, .int 0, .null, .null, .long 0, .long 0, .null, .int 0]) := by rw [ec 86 (by omega), fO, ea 87 (by omega), ea 88 (by omega), ea 89 (by omega), ea 90 (by omega), ea 91 (by omega), ea 92 (by omega), ea 93 (by omega), ea 94 (by omega), ea 95 (by omega)]
  have fF : ∀ k, (87 ≤ k ∧ k < 96) → ce19 k = celK cy ad19 k := fun k hk => (ec k (by omega)).trans ((fF k hk).trans (celK_cg (N := 96) ((by decide +kernel : ∀ k, k < 100 → ((87 ≤ k ∧ k < 96)) → upK k ≤ 96) k (by omega) hk) (fun k hk => ea k (by omega))).symm)
  rw [← ea 86 (by omega)] at hl
  have fn : ce19 96 = celK cy ad19 96 := en.trans rfl
  have fF : ∀ k, (87 ≤ k ∧ k < 97) → ce19 k = celK cy ad19 k := by
    intro k hk
    by_cases z : 96 ≤ k ∧ k < 97
    · rw [show k = 96 by omega]; exact fn
    · exact fF k (by omega)
  rw [← ea 86 (by omega)]
  refine pF_ (k := 11) (T := TX8) (ty0 := tyX8) (ty := tyX8 11) C S hname (by omega) fO rfl ni_X8_init_X8 tyX8_ok nmX8 (by decide) mi_X8_init_15 rfl rfl (by decide +kernel) rfl rfl (Nat.le_of_ble_eq_true rfl) dX8_init_82 (fun ce20 H locs fO eo S => ?_)
  have fO : ce20 86 = .inr (8, [.ref (ad19 (87)), .ref (ad19 (88)), .ref (ad19 (89)), .ref (ad19 (90)), .int 0, .int 0, .ref (ad19 (91)), .ref (ad19 (92)), .ref (ad19 (93)), .ref (ad19 (94)), .ref (ad19 (95)), .ref (ad19 (96)), .int 0, .int 0, .int 0, .int 0, .int 0, .int 0, .null, .null, .long 0, .long 0, .null, .int 0]) := fO
  have fC : ∀ k, k < 86 → ce20 k = ce k := fun k hk => (eo k (by omega)).trans (fC k hk)
  have fF : ∀ k, (87 ≤ k ∧ k < 97) → ce20 k = celK cy ad19 k := fun k hk => (eo k (by omega)).trans (fF k hk)
  refine lv_aload_n hx hb dX8_init_85 rfl (lv_at hl 0 rfl) ?_
  refine lv_bipush (v := 33) hx hb dX8_init_86 (by decide) ?_
  refine nI_ (n := 33) C S mi_X8_init_4 (by decide) (by decide) (Nat.le_of_ble_eq_true rfl) (Nat.le_of_ble_eq_true rfl) (Nat.le_of_ble_eq_true rfl) dX8_init_88 (fun ad21 ce21 H ea ec en S => ?_)
  have S : SK dC dI s B0 (98) ad21 ce21 H locs := S
  have fA : ∀ k, k ≤ 86 → ad21 k = ad k := fun k hk => (ea k (by omega)).trans (fA k hk)
  have fC : ∀ k, k < 86 → ce21 k = ce k := fun k hk => (ec k (by omega)).trans (fC k hk)
  have fO : ce21 86 = .inr (8, [.ref (ad21 (87)), .ref (ad21 (88)), .ref (ad21 (89)), .ref (ad21 (90)), .int 0, .int 0, .ref (ad21 (91)), .ref (ad21 (92)), .ref (ad21 (93)), .ref (ad21 (94)), .ref (ad21 (95)), .ref (ad21 (96)), .int 0, .int 0, .int 0, .int 0, .int 0, .int 0, .null, .null, .long 0, .long 0, .null, .int 0]) := by rw [ec 86 (by omega), fO, ea 87 (by omega), ea 88 (by omega), ea 89 (by omega), ea 90 (by omega), ea 91 (by omega), ea 92 (by omega), ea 93 (by omega), ea 94 (by omega), ea 95 (by omega), ea 96 (by omega)]
  have fF : ∀ k, (87 ≤ k ∧ k < 97) → ce21 k = celK cy ad21 k := fun k hk => (ec k (by omega)).trans ((fF k hk).trans (celK_cg (N := 97) ((by decide +kernel : ∀ k, k < 100 → ((87 ≤ k ∧ k < 97)) → upK k ≤ 97) k (by omega) hk) (fun k hk => ea k (by omega))).symm)
  rw [← ea 86 (by omega)] at hl
  have fn : ce21 97 = celK cy ad21 97 := en.trans rfl
  have fF : ∀ k, (87 ≤ k ∧ k < 98) → ce21 k = celK cy ad21 k := by
    intro k hk
    by_cases z : 97 ≤ k ∧ k < 98
    · rw [show k = 97 by omega]; exact fn
    · exact fF k (by omega)
  rw [← ea 86 (by omega)]
  refine pF_ (k := 18) (T := TX8) (ty0 := tyX8) (ty := tyX8 18) C S hname (by omega) fO rfl ni_X8_init_X8 tyX8_ok nmX8 (by decide) mi_X8_init_16 rfl rfl (by decide +kernel) rfl rfl (Nat.le_of_ble_eq_true rfl) dX8_init_90 (fun ce22 H locs fO eo S => ?_)
  have fO : ce22 86 = .inr (8, [.ref (ad21 (87)), .ref (ad21 (88)), .ref (ad21 (89)), .ref (ad21 (90)), .int 0, .int 0, .ref (ad21 (91)), .ref (ad21 (92)), .ref (ad21 (93)), .ref (ad21 (94)), .ref (ad21 (95)), .ref (ad21 (96)), .int 0, .int 0, .int 0, .int 0, .int 0, .int 0, .ref (ad21 (97)), .null, .long 0, .long 0, .null, .int 0]) := fO
  have fC : ∀ k, k < 86 → ce22 k = ce k := fun k hk => (eo k (by omega)).trans (fC k hk)
  have fF : ∀ k, (87 ≤ k ∧ k < 98) → ce22 k = celK cy ad21 k := fun k hk => (eo k (by omega)).trans (fF k hk)
  refine lv_aload_n hx hb dX8_init_93 rfl (lv_at hl 0 rfl) ?_
  refine lv_bipush (v := 33) hx hb dX8_init_94 (by decide) ?_
  refine nI_ (n := 33) C S mi_X8_init_4 (by decide) (by decide) (Nat.le_of_ble_eq_true rfl) (Nat.le_of_ble_eq_true rfl) (Nat.le_of_ble_eq_true rfl) dX8_init_96 (fun ad23 ce23 H ea ec en S => ?_)
  have S : SK dC dI s B0 (99) ad23 ce23 H locs := S
  have fA : ∀ k, k ≤ 86 → ad23 k = ad k := fun k hk => (ea k (by omega)).trans (fA k hk)
  have fC : ∀ k, k < 86 → ce23 k = ce k := fun k hk => (ec k (by omega)).trans (fC k hk)
  have fO : ce23 86 = .inr (8, [.ref (ad23 (87)), .ref (ad23 (88)), .ref (ad23 (89)), .ref (ad23 (90)), .int 0, .int 0, .ref (ad23 (91)), .ref (ad23 (92)), .ref (ad23 (93)), .ref (ad23 (94)), .ref (ad23 (95)), .ref (ad23 (96)), .int 0, .int 0, .int 0, .int 0, .int 0, .int 0, .ref (ad23 (97)), .null, .long 0, .long 0, .null, .int 0]) := by rw [ec 86 (by omega), fO, ea 87 (by omega), ea 88 (by omega), ea 89 (by omega), ea 90 (by omega), ea 91 (by omega), ea 92 (by omega), ea 93 (by omega), ea 94 (by omega), ea 95 (by omega), ea 96 (by omega), ea 97 (by omega)]
  have fF : ∀ k, (87 ≤ k ∧ k < 98) → ce23 k = celK cy ad23 k := fun k hk => (ec k (by omega)).trans ((fF k hk).trans (celK_cg (N := 98) ((by decide +kernel : ∀ k, k < 100 → ((87 ≤ k ∧ k < 98)) → upK k ≤ 98) k (by omega) hk) (fun k hk => ea k (by omega))).symm)
  rw [← ea 86 (by omega)] at hl
  have fn : ce23 98 = celK cy ad23 98 := en.trans rfl
  have fF : ∀ k, (87 ≤ k ∧ k < 99) → ce23 k = celK cy ad23 k := by
    intro k hk
    by_cases z : 98 ≤ k ∧ k < 99
    · rw [show k = 98 by omega]; exact fn
    · exact fF k (by omega)
  rw [← ea 86 (by omega)]
  refine pF_ (k := 19) (T := TX8) (ty0 := tyX8) (ty := tyX8 19) C S hname (by omega) fO rfl ni_X8_init_X8 tyX8_ok nmX8 (by decide) mi_X8_init_17 rfl rfl (by decide +kernel) rfl rfl (Nat.le_of_ble_eq_true rfl) dX8_init_98 (fun ce24 H locs fO eo S => ?_)
  have fO : ce24 86 = .inr (8, [.ref (ad23 (87)), .ref (ad23 (88)), .ref (ad23 (89)), .ref (ad23 (90)), .int 0, .int 0, .ref (ad23 (91)), .ref (ad23 (92)), .ref (ad23 (93)), .ref (ad23 (94)), .ref (ad23 (95)), .ref (ad23 (96)), .int 0, .int 0, .int 0, .int 0, .int 0, .int 0, .ref (ad23 (97)), .ref (ad23 (98)), .long 0, .long 0, .null, .int 0]) := fO
  have fC : ∀ k, k < 86 → ce24 k = ce k := fun k hk => (eo k (by omega)).trans (fC k hk)
  have fF : ∀ k, (87 ≤ k ∧ k < 99) → ce24 k = celK cy ad23 k := fun k hk => (eo k (by omega)).trans (fF k hk)
  refine lv_aload_n hx hb dX8_init_101 rfl (lv_at hl 0 rfl) ?_
  refine lv_lconst (v := 1) hx hb dX8_init_102 rfl ?_
  refine pI_ (k := 21) (T := TX8) (ty0 := tyX8) (ty := .long) C S (by omega) fO rfl ni_X8_init_X8 tyX8_ok nmX8 (by decide) mi_X8_init_18 rfl (by decide +kernel) rfl rfl (Nat.le_of_ble_eq_true rfl) dX8_init_103 (fun ce25 H locs fO eo S => ?_)
  have fO : ce25 86 = .inr (8, [.ref (ad23 (87)), .ref (ad23 (88)), .ref (ad23 (89)), .ref (ad23 (90)), .int 0, .int 0, .ref (ad23 (91)), .ref (ad23 (92)), .ref (ad23 (93)), .ref (ad23 (94)), .ref (ad23 (95)), .ref (ad23 (96)), .int 0, .int 0, .int 0, .int 0, .int 0, .int 0, .ref (ad23 (97)), .ref (ad23 (98)), .long 0, .long 1, .null, .int 0]) := fO
  have fC : ∀ k, k < 86 → ce25 k = ce k := fun k hk => (eo k (by omega)).trans (fC k hk)
  have fF : ∀ k, (87 ≤ k ∧ k < 99) → ce25 k = celK cy ad23 k := fun k hk => (eo k (by omega)).trans (fF k hk)
  refine lv_aload_n hx hb dX8_init_106 rfl (lv_at hl 0 rfl) ?_
  refine lv_bipush (v := 16) hx hb dX8_init_107 (by decide) ?_
  refine nI_ (n := 16) C S mi_X8_init_4 (by decide) (by decide) (Nat.le_of_ble_eq_true rfl) (Nat.le_of_ble_eq_true rfl) (Nat.le_of_ble_eq_true rfl) dX8_init_109 (fun ad26 ce26 H ea ec en S => ?_)
  have S : SK dC dI s B0 (100) ad26 ce26 H locs := S
  have fA : ∀ k, k ≤ 86 → ad26 k = ad k := fun k hk => (ea k (by omega)).trans (fA k hk)
  have fC : ∀ k, k < 86 → ce26 k = ce k := fun k hk => (ec k (by omega)).trans (fC k hk)
  have fO : ce26 86 = .inr (8, [.ref (ad26 (87)), .ref (ad26 (88)), .ref (ad26 (89)), .ref (ad26 (90)), .int 0, .int 0, .ref (ad26 (91)), .ref (ad26 (92)), .ref (ad26 (93)), .ref (ad26 (94)), .ref (ad26 (95)), .ref (ad26 (96)), .int 0, .int 0, .int 0, .int 0, .int 0, .int 0, .ref (ad26 (97)), .ref (ad26 (98)), .long 0, .long 1, .null, .int 0]) := by rw [ec 86 (by omega), fO, ea 87 (by omega), ea 88 (by omega), ea 89 (by omega), ea 90 (by omega), ea 91 (by omega), ea 92 (by omega), ea 93 (by omega), ea 94 (by omega), ea 95 (by omega), ea 96 (by omega), ea 97 (by omega), ea 98 (by omega)]
  have fF : ∀ k, (87 ≤ k ∧ k < 99) → ce26 k = celK cy ad26 k := fun k hk => (ec k (by omega)).trans ((fF k hk).trans (celK_cg (N := 99) ((by decide +kernel : ∀ k, k < 100 → ((87 ≤ k ∧ k < 99)) → upK k ≤ 99) k (by omega) hk) (fun k hk => ea k (by omega))).symm)
  rw [← ea 86 (by omega)] at hl
  have fn : ce26 99 = celK cy ad26 99 := en.trans rfl
  have fF : ∀ k, (87 ≤ k ∧ k < 100) → ce26 k = celK cy ad26 k := by
    intro k hk
    by_cases z : 99 ≤ k ∧ k < 100
    · rw [show k = 99 by omega]; exact fn
    · exact fF k (by omega)
  rw [← ea 86 (by omega)]
  refine pF_ (k := 22) (T := TX8) (ty0 := tyX8) (ty := tyX8 22) C S hname (by omega) fO rfl ni_X8_init_X8 tyX8_ok nmX8 (by decide) mi_X8_init_19 rfl rfl (by decide +kernel) rfl rfl (Nat.le_of_ble_eq_true rfl) dX8_init_111 (fun ce27 H locs fO eo S => ?_)
  have fO : ce27 86 = .inr (8, [.ref (ad26 (87)), .ref (ad26 (88)), .ref (ad26 (89)), .ref (ad26 (90)), .int 0, .int 0, .ref (ad26 (91)), .ref (ad26 (92)), .ref (ad26 (93)), .ref (ad26 (94)), .ref (ad26 (95)), .ref (ad26 (96)), .int 0, .int 0, .int 0, .int 0, .int 0, .int 0, .ref (ad26 (97)), .ref (ad26 (98)), .long 0, .long 1, .ref (ad26 (99)), .int 0]) := fO
  have fC : ∀ k, k < 86 → ce27 k = ce k := fun k hk => (eo k (by omega)).trans (fC k hk)
  have fF : ∀ k, (87 ≤ k ∧ k < 100) → ce27 k = celK cy ad26 k := fun k hk => (eo k (by omega)).trans (fF k hk)
  refine W.widen (k := 13) (n := 1429) (Nat.le_of_ble_eq_true rfl) (Nat.le_of_ble_eq_true rfl) ?_
  refine rK_ C S hret hlk ⟨fA, fC, fun k h1 h2 => ?_⟩ dX8_init_114
  by_cases z : k = 86
  · rw [z]; exact fO.trans rfl
  · exact fF k (by omega)
