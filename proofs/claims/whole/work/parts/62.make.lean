/-! the constructors with loops -/
theorem mi_X0_init_1 : Cond.methodLink RX0 3 objectInit ∈ wsX0_init := List.mem_of_getElem? (i := 1) (by decide +kernel)
theorem mi_X0_init_2 : Cond.instanceMethod objectInit ∈ wsX0_init := List.mem_of_getElem? (i := 2) (by decide +kernel)
theorem mi_X0_init_3 : Cond.code objectInit ⟨#[0xb1]⟩ 1 none ∈ wsX0_init := List.mem_of_getElem? (i := 3) (by decide +kernel)
theorem mi_X0_init_4 : Cond.classLink RX0 9 RX2 ∈ wsX0_init := List.mem_of_getElem? (i := 4) (by decide +kernel)
theorem mi_X0_init_5 : Cond.fieldLink RX0 11 "ClawCase$Acts" "ring" "[LClawCase$Before;" ∈ wsX0_init := List.mem_of_getElem? (i := 5) (by decide +kernel)
theorem ni_X0_init_X0 : ∀ w ∈ wsX00, w ∈ wsX0_init := mem_by [20, 21, 22] (by decide +kernel)
theorem mi_X0_init_6 : Cond.fieldLink RX0 17 "ClawCase$Acts" "free" "I" ∈ wsX0_init := List.mem_of_getElem? (i := 6) (by decide +kernel)
theorem mi_X0_init_7 : Cond.fieldLink RX0 21 "ClawCase$Acts" "kept" "I" ∈ wsX0_init := List.mem_of_getElem? (i := 7) (by decide +kernel)
theorem ni_X0_init_X2 : ∀ w ∈ wsX20, w ∈ wsX0_init := mem_by [23, 24, 25, 26, 27, 28] (by decide +kernel)
theorem mi_X0_init_8 : Cond.instantiable RX2 6 ∈ wsX0_init := List.mem_of_getElem? (i := 8) (by decide +kernel)
theorem mi_X0_init_9 : Cond.initialized RX2 ∈ wsX0_init := List.mem_of_getElem? (i := 9) (by decide +kernel)
theorem mi_X0_init_10 : Cond.instanceMethod yX2_init ∈ wsX0_init := List.mem_of_getElem? (i := 10) (by decide +kernel)
theorem mi_X4_init_1 : Cond.methodLink RX4 3 objectInit ∈ wsX4_init := List.mem_of_getElem? (i := 1) (by decide +kernel)
theorem mi_X4_init_2 : Cond.instanceMethod objectInit ∈ wsX4_init := List.mem_of_getElem? (i := 2) (by decide +kernel)
theorem mi_X4_init_3 : Cond.code objectInit ⟨#[0xb1]⟩ 1 none ∈ wsX4_init := List.mem_of_getElem? (i := 3) (by decide +kernel)
theorem ni_X4_init_X3 : ∀ w ∈ wsX30, w ∈ wsX4_init := mem_by [39, 40, 41, 42, 43, 44, 45, 46, 47] (by decide +kernel)
theorem mi_X4_init_4 : Cond.classLink RX4 9 RX3 ∈ wsX4_init := List.mem_of_getElem? (i := 4) (by decide +kernel)
theorem mi_X4_init_5 : Cond.instantiable RX3 9 ∈ wsX4_init := List.mem_of_getElem? (i := 5) (by decide +kernel)
theorem mi_X4_init_6 : Cond.initialized RX3 ∈ wsX4_init := List.mem_of_getElem? (i := 6) (by decide +kernel)
theorem mi_X4_init_17 : Cond.instanceMethod yX3_init ∈ wsX4_init := List.mem_of_getElem? (i := 17) (by decide +kernel)
theorem mi_X4_init_7 : Cond.fieldLink RX4 12 "ClawCase$Foretold" "trial" "LClawCase$Box;" ∈ wsX4_init := List.mem_of_getElem? (i := 7) (by decide +kernel)
theorem ni_X4_init_X4 : ∀ w ∈ wsX40, w ∈ wsX4_init := mem_by [48, 49, 50, 51, 52, 53] (by decide +kernel)
theorem mi_X4_init_8 : Cond.arrayClass .int ∈ wsX4_init := List.mem_of_getElem? (i := 8) (by decide +kernel)
theorem mi_X4_init_9 : Cond.fieldLink RX4 18 "ClawCase$Foretold" "path" "[I" ∈ wsX4_init := List.mem_of_getElem? (i := 9) (by decide +kernel)
theorem mi_X4_init_10 : Cond.fieldLink RX4 22 "ClawCase$Foretold" "best" "[I" ∈ wsX4_init := List.mem_of_getElem? (i := 10) (by decide +kernel)
theorem mi_X4_init_11 : Cond.fieldLink RX4 25 "ClawCase$Foretold" "bestToys" "I" ∈ wsX4_init := List.mem_of_getElem? (i := 11) (by decide +kernel)
theorem mi_X4_init_12 : Cond.fieldLink RX4 29 "ClawCase$Foretold" "bestWeight" "I" ∈ wsX4_init := List.mem_of_getElem? (i := 12) (by decide +kernel)
theorem mi_X4_init_13 : Cond.classLink RX4 32 RX2 ∈ wsX4_init := List.mem_of_getElem? (i := 13) (by decide +kernel)
theorem mi_X4_init_14 : Cond.fieldLink RX4 34 "ClawCase$Foretold" "steps" "[LClawCase$Before;" ∈ wsX4_init := List.mem_of_getElem? (i := 14) (by decide +kernel)
theorem ni_X4_init_X2 : ∀ w ∈ wsX20, w ∈ wsX4_init := mem_by [54, 55, 56, 57, 58, 59] (by decide +kernel)
theorem mi_X4_init_15 : Cond.instantiable RX2 6 ∈ wsX4_init := List.mem_of_getElem? (i := 15) (by decide +kernel)
theorem mi_X4_init_16 : Cond.initialized RX2 ∈ wsX4_init := List.mem_of_getElem? (i := 16) (by decide +kernel)
theorem mi_X4_init_29 : Cond.instanceMethod yX2_init ∈ wsX4_init := List.mem_of_getElem? (i := 29) (by decide +kernel)
theorem mi_X7_init_1 : Cond.methodLink RX7 1 objectInit ∈ wsX7_init := List.mem_of_getElem? (i := 1) (by decide +kernel)
theorem mi_X7_init_2 : Cond.instanceMethod objectInit ∈ wsX7_init := List.mem_of_getElem? (i := 2) (by decide +kernel)
theorem mi_X7_init_3 : Cond.code objectInit ⟨#[0xb1]⟩ 1 none ∈ wsX7_init := List.mem_of_getElem? (i := 3) (by decide +kernel)
theorem mi_X7_init_4 : Cond.classLink RX7 9 RX6 ∈ wsX7_init := List.mem_of_getElem? (i := 4) (by decide +kernel)
theorem mi_X7_init_5 : Cond.fieldLink RX7 11 "ClawCase" "rows" "[LClawCase$Row;" ∈ wsX7_init := List.mem_of_getElem? (i := 5) (by decide +kernel)
theorem ni_X7_init_X7 : ∀ w ∈ wsX70, w ∈ wsX7_init := mem_by [100, 101, 102, 103, 104, 105, 106, 107, 108] (by decide +kernel)
theorem ni_X7_init_X5 : ∀ w ∈ wsX50, w ∈ wsX7_init := mem_by [109, 110, 111, 112, 113, 114, 115, 116] (by decide +kernel)
theorem mi_X7_init_6 : Cond.classLink RX7 15 RX5 ∈ wsX7_init := List.mem_of_getElem? (i := 6) (by decide +kernel)
theorem mi_X7_init_7 : Cond.instantiable RX5 8 ∈ wsX7_init := List.mem_of_getElem? (i := 7) (by decide +kernel)
theorem mi_X7_init_8 : Cond.initialized RX5 ∈ wsX7_init := List.mem_of_getElem? (i := 8) (by decide +kernel)
theorem mi_X7_init_31 : Cond.instanceMethod yX5_init ∈ wsX7_init := List.mem_of_getElem? (i := 31) (by decide +kernel)
theorem mi_X7_init_9 : Cond.fieldLink RX7 18 "ClawCase" "reader" "LClawCase$Reader;" ∈ wsX7_init := List.mem_of_getElem? (i := 9) (by decide +kernel)
theorem ni_X7_init_X3 : ∀ w ∈ wsX30, w ∈ wsX7_init := mem_by [117, 118, 119, 120, 121, 122, 123, 124, 125] (by decide +kernel)
theorem mi_X7_init_10 : Cond.classLink RX7 22 RX3 ∈ wsX7_init := List.mem_of_getElem? (i := 10) (by decide +kernel)
theorem mi_X7_init_11 : Cond.instantiable RX3 9 ∈ wsX7_init := List.mem_of_getElem? (i := 11) (by decide +kernel)
theorem mi_X7_init_12 : Cond.initialized RX3 ∈ wsX7_init := List.mem_of_getElem? (i := 12) (by decide +kernel)
theorem mi_X7_init_44 : Cond.instanceMethod yX3_init ∈ wsX7_init := List.mem_of_getElem? (i := 44) (by decide +kernel)
theorem mi_X7_init_13 : Cond.fieldLink RX7 25 "ClawCase" "now" "LClawCase$Box;" ∈ wsX7_init := List.mem_of_getElem? (i := 13) (by decide +kernel)
theorem ni_X7_init_X0 : ∀ w ∈ wsX00, w ∈ wsX7_init := mem_by [126, 127, 128] (by decide +kernel)
theorem mi_X7_init_14 : Cond.classLink RX7 29 RX0 ∈ wsX7_init := List.mem_of_getElem? (i := 14) (by decide +kernel)
theorem mi_X7_init_15 : Cond.instantiable RX0 3 ∈ wsX7_init := List.mem_of_getElem? (i := 15) (by decide +kernel)
theorem mi_X7_init_16 : Cond.initialized RX0 ∈ wsX7_init := List.mem_of_getElem? (i := 16) (by decide +kernel)
theorem mi_X7_init_57 : Cond.instanceMethod yX0_init ∈ wsX7_init := List.mem_of_getElem? (i := 57) (by decide +kernel)
theorem mi_X7_init_56 : Cond.methodLink RX7 31 yX0_init ∈ wsX7_init := List.mem_of_getElem? (i := 56) (by decide +kernel)
theorem mi_X7_init_17 : Cond.fieldLink RX7 32 "ClawCase" "acts" "LClawCase$Acts;" ∈ wsX7_init := List.mem_of_getElem? (i := 17) (by decide +kernel)
theorem mi_X7_init_18 : Cond.fieldLink RX7 36 "ClawCase" "images" "[LClawCase$Box;" ∈ wsX7_init := List.mem_of_getElem? (i := 18) (by decide +kernel)
theorem ni_X7_init_X4 : ∀ w ∈ wsX40, w ∈ wsX7_init := mem_by [129, 130, 131, 132, 133, 134] (by decide +kernel)
theorem mi_X7_init_19 : Cond.classLink RX7 40 RX4 ∈ wsX7_init := List.mem_of_getElem? (i := 19) (by decide +kernel)
theorem mi_X7_init_20 : Cond.instantiable RX4 6 ∈ wsX7_init := List.mem_of_getElem? (i := 20) (by decide +kernel)
theorem mi_X7_init_21 : Cond.initialized RX4 ∈ wsX7_init := List.mem_of_getElem? (i := 21) (by decide +kernel)
theorem mi_X7_init_77 : Cond.instanceMethod yX4_init ∈ wsX7_init := List.mem_of_getElem? (i := 77) (by decide +kernel)
theorem mi_X7_init_76 : Cond.methodLink RX7 42 yX4_init ∈ wsX7_init := List.mem_of_getElem? (i := 76) (by decide +kernel)
theorem mi_X7_init_22 : Cond.fieldLink RX7 43 "ClawCase" "foretold" "LClawCase$Foretold;" ∈ wsX7_init := List.mem_of_getElem? (i := 22) (by decide +kernel)
theorem ni_X7_init_X1 : ∀ w ∈ wsX10, w ∈ wsX7_init := mem_by [135, 136] (by decide +kernel)
theorem mi_X7_init_23 : Cond.classLink RX7 47 RX1 ∈ wsX7_init := List.mem_of_getElem? (i := 23) (by decide +kernel)
theorem mi_X7_init_24 : Cond.instantiable RX1 2 ∈ wsX7_init := List.mem_of_getElem? (i := 24) (by decide +kernel)
theorem mi_X7_init_25 : Cond.initialized RX1 ∈ wsX7_init := List.mem_of_getElem? (i := 25) (by decide +kernel)
theorem mi_X7_init_88 : Cond.instanceMethod yX1_init ∈ wsX7_init := List.mem_of_getElem? (i := 88) (by decide +kernel)
theorem mi_X7_init_26 : Cond.fieldLink RX7 50 "ClawCase" "asked" "LClawCase$Asked;" ∈ wsX7_init := List.mem_of_getElem? (i := 26) (by decide +kernel)
theorem mi_X7_init_27 : Cond.fieldLink RX7 54 "ClawCase" "latestFault" "I" ∈ wsX7_init := List.mem_of_getElem? (i := 27) (by decide +kernel)
theorem mi_X7_init_28 : Cond.fieldLink RX7 58 "ClawCase" "latestFinding" "I" ∈ wsX7_init := List.mem_of_getElem? (i := 28) (by decide +kernel)
theorem ni_X7_init_X6 : ∀ w ∈ wsX60, w ∈ wsX7_init := mem_by [137, 138, 139, 140] (by decide +kernel)
theorem mi_X7_init_29 : Cond.instantiable RX6 4 ∈ wsX7_init := List.mem_of_getElem? (i := 29) (by decide +kernel)
theorem mi_X7_init_30 : Cond.initialized RX6 ∈ wsX7_init := List.mem_of_getElem? (i := 30) (by decide +kernel)
theorem mi_X7_init_93 : Cond.instanceMethod yX6_init ∈ wsX7_init := List.mem_of_getElem? (i := 93) (by decide +kernel)
set_option maxHeartbeats 4000000 in
set_option maxRecDepth 100000 in
theorem mk_X0 {l : Launch} {dC : Nat → ClassId} {dI : Nat → Nat → Nat} {cy : Nat → ClassId} {B0 : Nat} {ad : Nat → Nat} {ce : Nat → va_E} (hb0 : ce 14 = .inr (0, [.null, .int 0, .int 0])) : KN l dC dI cy B0 yX0_init wsX0_init (rmK 2 25 168) 14 26 25 168 ad ce := by
  refine KN.of (by decide) rfl rfl rfl (Nat.le_of_ble_eq_true rfl) ?_
  intro p e s m args below meth c ls C hname hret hlk hl S
  have hx := C.1.1
  have hb := C.1.2.1
  have hts := C.1.2.2.2.2
  have fA : ∀ k, k ≤ 14 → ad k = ad k := fun k _ => rfl
  have fC : ∀ k, k < 14 → ce k = ce k := fun k _ => rfl
  have fO : ce 14 = .inr (0, [.null, .int 0, .int 0]) := hb0
  refine lv_aload_n hx hb dX0_init_0 rfl (lv_at hl 0 rfl) ?_
  refine W.objInit hx hb C.1.2.2.2.1 (hts _ mi_X0_init_1) (hts _ mi_X0_init_2) (hts _ mi_X0_init_3) rfl (by rw [C.1.2.2.1]; exact hl.1) rfl dX0_init_1 (Nat.le_of_ble_eq_true rfl) (Nat.le_of_ble_eq_true rfl) ?_
  refine W.eq (g2 := F0 m 4 ls []) rfl ?_
  generalize hlc : ([] : List Loc) = locs at S ⊢
  have S : SK dC dI s B0 (15) ad ce s.heap locs := S
  refine lv_aload_n hx hb dX0_init_4 rfl (lv_at hl 0 rfl) ?_
  refine lv_bipush (v := 24) hx hb dX0_init_5 (by decide) ?_
  refine nQ_ (n := 24) (t0 := 2) C S mi_X0_init_4 C.2.2.2.1.1 rfl (by decide) (by decide) (Nat.le_of_ble_eq_true rfl) (Nat.le_of_ble_eq_true rfl) (Nat.le_of_ble_eq_true rfl) dX0_init_7 (fun ad1 ce1 H ea ec en S => ?_)
  have S : SK dC dI s B0 (16) ad1 ce1 H locs := S
  have fA : ∀ k, k ≤ 14 → ad1 k = ad k := fun k hk => (ea k (by omega)).trans (fA k hk)
  have fC : ∀ k, k < 14 → ce1 k = ce k := fun k hk => (ec k (by omega)).trans (fC k hk)
  have fO : ce1 14 = .inr (0, [.null, .int 0, .int 0]) := by rw [ec 14 (by omega), fO]
  rw [← ea 14 (by omega)] at hl
  have fR1 := en
  rw [← ea 14 (by omega)]
  refine pF_ (k := 0) (T := TX0) (ty0 := tyX0) (ty := tyX0 0) C S hname (by omega) fO rfl ni_X0_init_X0 tyX0_ok nmX0 (by decide) mi_X0_init_5 rfl rfl (by decide +kernel) rfl rfl (Nat.le_of_ble_eq_true rfl) dX0_init_10 (fun ce2 H locs fO eo S => ?_)
  have fO : ce2 14 = .inr (0, [.ref (ad1 (15)), .int 0, .int 0]) := fO
  have fC : ∀ k, k < 14 → ce2 k = ce k := fun k hk => (eo k (by omega)).trans (fC k hk)
  have fR1 := (eo 15 (by omega)).trans fR1
  refine lv_aload_n hx hb dX0_init_13 rfl (lv_at hl 0 rfl) ?_
  refine lv_iconst (v := 0) hx hb dX0_init_14 (by decide) ?_
  refine pI_ (k := 1) (T := TX0) (ty0 := tyX0) (ty := .int) C S (by omega) fO rfl ni_X0_init_X0 tyX0_ok nmX0 (by decide) mi_X0_init_6 rfl (by decide +kernel) rfl rfl (Nat.le_of_ble_eq_true rfl) dX0_init_15 (fun ce3 H locs fO eo S => ?_)
  have fO : ce3 14 = .inr (0, [.ref (ad1 (15)), .int 0, .int 0]) := fO
  have fC : ∀ k, k < 14 → ce3 k = ce k := fun k hk => (eo k (by omega)).trans (fC k hk)
  have fR1 := (eo 15 (by omega)).trans fR1
  refine lv_aload_n hx hb dX0_init_18 rfl (lv_at hl 0 rfl) ?_
  refine lv_iconst (v := 0) hx hb dX0_init_19 (by decide) ?_
  refine pI_ (k := 2) (T := TX0) (ty0 := tyX0) (ty := .int) C S (by omega) fO rfl ni_X0_init_X0 tyX0_ok nmX0 (by decide) mi_X0_init_7 rfl (by decide +kernel) rfl rfl (Nat.le_of_ble_eq_true rfl) dX0_init_20 (fun ce4 H locs fO eo S => ?_)
  have fO : ce4 14 = .inr (0, [.ref (ad1 (15)), .int 0, .int 0]) := fO
  have fC : ∀ k, k < 14 → ce4 k = ce k := fun k hk => (eo k (by omega)).trans (fC k hk)
  have fR1 := (eo 15 (by omega)).trans fR1
  have fF : ∀ k, False → ce4 k = celK cy ad1 k := fun k h => absurd h id
  refine lv_iconst (v := 0) hx hb dX0_init_23 (by decide) ?_
  refine lv_istore_n (lv' := [(1, .int 0), (0, .ref (ad1 14))]) hx hb dX0_init_24 rfl hl (by decide) rfl (fun ls hl => ?_)
  have loop0 : ∀ (mm i : Nat) (adx0 : Nat → Nat) (cex0 : Nat → va_E) (H : Heap) (locs : List Loc) (ls : Array Slot), i + mm = 24 → (∀ k, k ≤ 14 → adx0 k = ad k) → (∀ k, k < 14 → cex0 k = ce k) → cex0 14 = .inr (0, [.ref (adx0 (15)), .int 0, .int 0]) → cex0 15 = .inl (cy 2, 24, .inr (.inr (.inr (.inr (fun x => if x < i then some (adx0 (15 + 1 + x)) else none))))) → (∀ k, (16 ≤ k ∧ k < 15 + 1 + i) → cex0 k = celK cy adx0 k) → SK dC dI s B0 (15 + 1 + i) adx0 cex0 H locs → lv_has ls 2 [(0, .ref (adx0 14)), (1, .int (nI i))] → W p l e (rmK 2 25 168) s m args below meth c H locs (1 + 1 * i) (24 + 6 * i) (QK dC dI cy B0 below args s 14 26 25 168 ad ce) (F0 m 25 ls []) := by
    intro mm
    induction mm with
    | zero =>
      intro i adx0 cex0 H locs ls hi fA fC fO fR fF S hl
      have hi : i = 24 := by omega
      subst hi
      refine lv_iload_n hx hb dX0_init_25 rfl (lv_at hl 1 rfl) ?_
      refine lv_bipush (v := 24) hx hb dX0_init_26 (by decide) ?_
      refine lv_icmp_ge (tgt := 50) hx hb dX0_init_28 (by decide) (fun c9 => ?_) (fun c9 => absurd ((nI_leI (a := 24) (by omega) (by omega)).mpr (by omega)) c9)
      refine W.widen (k := 25) (n := 168) (Nat.le_of_ble_eq_true rfl) (Nat.le_of_ble_eq_true rfl) ?_
      have S : SK dC dI s B0 (14 + 26) adx0 cex0 H locs := S
      refine rK_ C S hret hlk ⟨fA, fC, fun k h1 h2 => ?_⟩ dX0_init_50
      by_cases z : k = 14
      · rw [z]; exact fO.trans rfl
      · by_cases z2 : k = 15
        · rw [z2]; exact fR.trans rfl
        · exact fF k (by omega)
    | succ mm ih =>
      intro i adx0 cex0 H locs ls hi fA fC fO fR fF S hl
      refine lv_iload_n hx hb dX0_init_25 rfl (lv_at hl 1 rfl) ?_
      refine lv_bipush (v := 24) hx hb dX0_init_26 (by decide) ?_
      refine lv_icmp_ge (tgt := 50) hx hb dX0_init_28 (by decide) (fun c9 => absurd ((nI_leI (a := 24) (by omega) (by omega)).mp c9) (by omega)) (fun c9 => ?_)
      refine lv_aload_n hx hb dX0_init_31 rfl (lv_at hl 0 rfl) ?_
      refine gF_ (k := 0) (T := TX0) (v := .ref (adx0 15)) C S (by omega) fO rfl ni_X0_init_X0 (by decide) mi_X0_init_5 rfl dX0_init_32 ?_
      refine lv_iload_n hx hb dX0_init_35 rfl (lv_at hl 1 rfl) ?_
      refine nO_ (T := TX2) (ty := tyX2) (fs := [.int 0, .int 0, .int 0, .int 0, .int 0, .int 0]) C S (ci := 2) rfl ni_X0_init_X2 tyX2_ok mi_X0_init_4 mi_X0_init_8 mi_X0_init_9 df_X2 (by show 1 + 1 * i + 1 ≤ 25; omega) (by show 24 + 6 * i + 6 ≤ 168; omega) dX0_init_36 (fun ad1 ce1 H ea ec en S => ?_)
      have EA1 : ∀ k, k < 15 + 1 + i → ad1 k = adx0 k := ea
      have EC1 : ∀ k, k < 15 + 1 + i → ce1 k = cex0 k := ec
      rw [← EA1 15 (by omega)]
      rw [← EA1 14 (by omega)] at hl
      refine lv_dup hx hb dX0_init_39 rfl ?_
      have hly := ly_ring i (by omega)
      refine cN_ C S hl.1 (mk_X2 hly en) ⟨va_cnB 0 hts gX0_init_X2_init_n24 rfl rfl rfl (C.2.2.1 (RX0, 24, yX2_init, "ClawCase") (by decide +kernel)) (hts _ mi_X0_init_9) (by decide +kernel) ⟨Nat.le_of_ble_eq_true rfl, Nat.le_of_ble_eq_true rfl⟩, rfl, hts _ mi_X0_init_10⟩ (Nat.le_of_ble_eq_true rfl) (by show 1 + 1 * i + 1 + 0 ≤ 25; omega) (by show 24 + 6 * i + 6 + 0 ≤ 168; omega) dX0_init_40 (fun ad2 ce2 H locs ea ec en2 S => ?_)
      have EA : ∀ k, k < 15 + 1 + i → ad2 k = adx0 k := fun k hk => (ea k (by omega)).trans (EA1 k hk)
      have EC : ∀ k, k < 15 + 1 + i → ce2 k = cex0 k := fun k hk => (ec k hk).trans (EC1 k hk)
      rw [← ea 15 (by omega), ← ea (15 + 1 + i) (by omega)]
      rw [← ea 14 (by omega)] at hl
      have hv : ce2 (15 + 1 + i) = .inr (2, [.int 0, .int 0, .int 0, .int (-1000000), .int 0, .int 0]) := (en2 _ (by omega) (by omega)).trans (by unfold celK; rw [hly]; rfl)
      refine aQ_ (r := 15) (t0 := 2) (x := 15 + 1 + i) C S (by omega) (by omega) ((EC 15 (by omega)).trans fR) rfl hv rfl (vlit i (by omega) (by omega)) dX0_init_43 (fun ce3 H locs fR3 eo S => ?_)
      have fA : ∀ k, k ≤ 14 → ad2 k = ad k := fun k hk => (EA k (by omega)).trans (fA k hk)
      have fC : ∀ k, k < 14 → ce3 k = ce k := fun k hk => (eo k (by omega)).trans ((EC k (by omega)).trans (fC k hk))
      have fO : ce3 14 = .inr (0, [.ref (ad2 (15)), .int 0, .int 0]) := by rw [eo 14 (by omega), EC 14 (by omega), fO, EA 15 (by omega)]
      have fR : ce3 15 = .inl (cy 2, 24, .inr (.inr (.inr (.inr (fun x => if x < i + 1 then some (ad2 (15 + 1 + x)) else none))))) := by
        rw [fR3, cl (by omega)]
        have q9 : va_up (fun x => if x < i then some (adx0 (15 + 1 + x)) else none) i (some (ad2 (15 + 1 + i))) = (fun x => if x < i + 1 then some (ad2 (15 + 1 + x)) else none) := by
          funext x
          by_cases z : x = i
          · subst z; rw [up_eq, if_pos (by omega)]
          · rw [up_ne z]
            by_cases y : x < i
            · rw [if_pos y, if_pos (by omega), EA (15 + 1 + x) (by omega)]
            · rw [if_neg y, if_neg (by omega)]
        rw [q9]
      have fF : ∀ k, (16 ≤ k ∧ k < 15 + 1 + (i + 1)) → ce3 k = celK cy ad2 k := by
        intro k hk
        by_cases z : 15 + 1 + i ≤ k
        · exact (eo k (by omega)).trans (en2 k z (by omega))
        · exact (eo k (by omega)).trans ((EC k (by omega)).trans ((fF k (by omega)).trans (celK_cg (N := 15 + 1 + i) ((by decide +kernel : ∀ i, i < 24 → ∀ k, k < 100 → ((16 ≤ k ∧ k < 15 + 1 + i)) → upK k ≤ 15 + 1 + i) i (by omega) k (by omega) (by omega)) EA).symm))
      obtain ⟨x9, ex9⟩ : ∃ y : Int32, y = nI i + 1 := ⟨_, rfl⟩
      refine lv_iinc (v := x9) (lv' := [(1, .int x9), (0, .ref (ad2 14))]) hx hb dX0_init_44 hl (k := 1) rfl (by rw [ex9]; rfl) (by decide) rfl (fun ls hl => ?_)
      rw [nI_1] at ex9
      subst ex9
      refine lv_goto (tgt := 25) hx hb dX0_init_47 (by decide) ?_
      refine W.widen (k := 1 + 1 * (i + 1)) (n := 24 + 6 * (i + 1)) (by omega) (by omega) ?_
      have S : SK dC dI s B0 (15 + 1 + (i + 1)) ad2 ce3 H locs := by rw [show 15 + 1 + (i + 1) = 15 + 1 + i + 1 by omega]; exact S
      exact ih (i + 1) ad2 ce3 H locs ls (by omega) fA fC fO fR  fF S (lv_sub hl [1, 0] rfl)
  have fR0 : ce4 15 = .inl (cy 2, 24, .inr (.inr (.inr (.inr (fun x => if x < 0 then some (ad1 (15 + 1 + x)) else none))))) := fR1.trans (by
    have q9 : (fun x => if x < 0 then some (ad1 (15 + 1 + x)) else none) = (fun _ => none) := by funext x; rw [if_neg (by omega)]
    rw [q9])
  refine W.widen (k := 1 + 1 * 0) (n := 24 + 6 * 0) (Nat.le_of_ble_eq_true rfl) (Nat.le_of_ble_eq_true rfl) ?_
  exact loop0 24 0 ad1 ce4 _ _ ls (by omega) fA fC fO fR0  (fun k hk => fF k (by omega)) S (lv_sub hl [1, 0] rfl)
set_option maxHeartbeats 4000000 in
set_option maxRecDepth 100000 in
theorem mk_X4 {l : Launch} {dC : Nat → ClassId} {dI : Nat → Nat → Nat} {cy : Nat → ClassId} {B0 : Nat} {ad : Nat → Nat} {ce : Nat → va_E} (hb0 : ce 41 = .inr (4, [.null, .null, .null, .int 0, .int 0, .null])) : KN l dC dI cy B0 yX4_init wsX4_init (rmK 2 16 101) 41 17 16 101 ad ce := by
  refine KN.of (by decide) rfl rfl rfl (Nat.le_of_ble_eq_true rfl) ?_
  intro p e s m args below meth c ls C hname hret hlk hl S
  have hx := C.1.1
  have hb := C.1.2.1
  have hts := C.1.2.2.2.2
  have fA : ∀ k, k ≤ 41 → ad k = ad k := fun k _ => rfl
  have fC : ∀ k, k < 41 → ce k = ce k := fun k _ => rfl
  have fO : ce 41 = .inr (4, [.null, .null, .null, .int 0, .int 0, .null]) := hb0
  refine lv_aload_n hx hb dX4_init_0 rfl (lv_at hl 0 rfl) ?_
  refine W.objInit hx hb C.1.2.2.2.1 (hts _ mi_X4_init_1) (hts _ mi_X4_init_2) (hts _ mi_X4_init_3) rfl (by rw [C.1.2.2.1]; exact hl.1) rfl dX4_init_1 (Nat.le_of_ble_eq_true rfl) (Nat.le_of_ble_eq_true rfl) ?_
  refine W.eq (g2 := F0 m 4 ls []) rfl ?_
  generalize hlc : ([] : List Loc) = locs at S ⊢
  have S : SK dC dI s B0 (42) ad ce s.heap locs := S
  refine lv_aload_n hx hb dX4_init_4 rfl (lv_at hl 0 rfl) ?_
  refine nO_ (T := TX3) (ty := tyX3) (fs := [.null, .null, .null, .null, .int 0, .int 0, .int 0, .int 0, .int 0]) C S (ci := 3) rfl ni_X4_init_X3 tyX3_ok mi_X4_init_4 mi_X4_init_5 mi_X4_init_6 df_X3 (Nat.le_of_ble_eq_true rfl) (Nat.le_of_ble_eq_true rfl) dX4_init_5 (fun ad1 ce1 H ea ec en S => ?_)
  have fA : ∀ k, k ≤ 41 → ad1 k = ad k := fun k hk => (ea k (by omega)).trans (fA k hk)
  have fC : ∀ k, k < 41 → ce1 k = ce k := fun k hk => (ec k (by omega)).trans (fC k hk)
  have fO : ce1 41 = .inr (4, [.null, .null, .null, .int 0, .int 0, .null]) := by rw [ec 41 (by omega), fO]
  rw [← ea 41 (by omega)] at hl
  rw [← ea 41 (by omega)]
  refine lv_dup hx hb dX4_init_8 rfl ?_
  refine cN_ C S hl.1 (mk_X3 rfl en) ⟨va_cnB 0 hts gX4_init_X3_init_n11 rfl rfl rfl (C.2.2.1 (RX4, 11, yX3_init, "ClawCase") (by decide +kernel)) (hts _ mi_X4_init_6) (by decide +kernel) ⟨Nat.le_of_ble_eq_true rfl, Nat.le_of_ble_eq_true rfl⟩, rfl, hts _ mi_X4_init_17⟩ (Nat.le_of_ble_eq_true rfl) (Nat.le_of_ble_eq_true rfl) (Nat.le_of_ble_eq_true rfl) dX4_init_9 (fun ad2 ce2 H locs ea ec en2 S => ?_)
  have S : SK dC dI s B0 (47) ad2 ce2 H locs := S
  have ea : ∀ k, k < 43 → ad2 k = ad1 k := fun k hk => ea k (by omega)
  have fA : ∀ k, k ≤ 41 → ad2 k = ad k := fun k hk => (ea k (by omega)).trans (fA k hk)
  have fC : ∀ k, k < 41 → ce2 k = ce k := fun k hk => (ec k (by omega)).trans (fC k hk)
  have fO : ce2 41 = .inr (4, [.null, .null, .null, .int 0, .int 0, .null]) := by rw [ec 41 (by omega), fO]
  rw [← ea 41 (by omega)] at hl
  have fF : ∀ k, (42 ≤ k ∧ k < 47) → ce2 k = celK cy ad2 k := by
    intro k hk
    by_cases z : 42 ≤ k ∧ k < 47
    · exact en2 k z.1 (by omega)
    · exact absurd hk (by omega)
  rw [← ea 41 (by omega), ← ea 42 (by omega)]
  refine pF_ (k := 0) (T := TX4) (ty0 := tyX4) (ty := tyX4 0) C S hname (by omega) fO rfl ni_X4_init_X4 tyX4_ok nmX4 (by decide) mi_X4_init_7 rfl rfl (by decide +kernel) rfl rfl (Nat.le_of_ble_eq_true rfl) dX4_init_12 (fun ce3 H locs fO eo S => ?_)
  have fO : ce3 41 = .inr (4, [.ref (ad2 (42)), .null, .null, .int 0, .int 0, .null]) := fO
  have fC : ∀ k, k < 41 → ce3 k = ce k := fun k hk => (eo k (by omega)).trans (fC k hk)
  have fF : ∀ k, (42 ≤ k ∧ k < 47) → ce3 k = celK cy ad2 k := fun k hk => (eo k (by omega)).trans (fF k hk)
  refine lv_aload_n hx hb dX4_init_15 rfl (lv_at hl 0 rfl) ?_
  refine lv_iconst (v := 4) hx hb dX4_init_16 (by decide) ?_
  refine nI_ (n := 4) C S mi_X4_init_8 (by decide) (by decide) (Nat.le_of_ble_eq_true rfl) (Nat.le_of_ble_eq_true rfl) (Nat.le_of_ble_eq_true rfl) dX4_init_17 (fun ad4 ce4 H ea ec en S => ?_)
  have S : SK dC dI s B0 (48) ad4 ce4 H locs := S
  have fA : ∀ k, k ≤ 41 → ad4 k = ad k := fun k hk => (ea k (by omega)).trans (fA k hk)
  have fC : ∀ k, k < 41 → ce4 k = ce k := fun k hk => (ec k (by omega)).trans (fC k hk)
  have fO : ce4 41 = .inr (4, [.ref (ad4 (42)), .null, .null, .int 0, .int 0, .null]) := by rw [ec 41 (by omega), fO, ea 42 (by omega)]
  have fF : ∀ k, (42 ≤ k ∧ k < 47) → ce4 k = celK cy ad4 k := fun k hk => (ec k (by omega)).trans ((fF k hk).trans (celK_cg (N := 47) ((by decide +kernel : ∀ k, k < 100 → ((42 ≤ k ∧ k < 47)) → upK k ≤ 47) k (by omega) hk) (fun k hk => ea k (by omega))).symm)
  rw [← ea 41 (by omega)] at hl
  have fn : ce4 47 = celK cy ad4 47 := en.trans rfl
  have fF : ∀ k, (42 ≤ k ∧ k < 48) → ce4 k = celK cy ad4 k := by
    intro k hk
    by_cases z : 47 ≤ k ∧ k < 48
    · rw [show k = 47 by omega]; exact fn
    · exact fF k (by omega)
  rw [← ea 41 (by omega)]
  refine pF_ (k := 1) (T := TX4) (ty0 := tyX4) (ty := tyX4 1) C S hname (by omega) fO rfl ni_X4_init_X4 tyX4_ok nmX4 (by decide) mi_X4_init_9 rfl rfl (by decide +kernel) rfl rfl (Nat.le_of_ble_eq_true rfl) dX4_init_19 (fun ce5 H locs fO eo S => ?_)
  have fO : ce5 41 = .inr (4, [.ref (ad4 (42)), .ref (ad4 (47)), .null, .int 0, .int 0, .null]) := fO
  have fC : ∀ k, k < 41 → ce5 k = ce k := fun k hk => (eo k (by omega)).trans (fC k hk)
  have fF : ∀ k, (42 ≤ k ∧ k < 48) → ce5 k = celK cy ad4 k := fun k hk => (eo k (by omega)).trans (fF k hk)
  refine lv_aload_n hx hb dX4_init_22 rfl (lv_at hl 0 rfl) ?_
  refine lv_iconst (v := 4) hx hb dX4_init_23 (by decide) ?_
  refine nI_ (n := 4) C S mi_X4_init_8 (by decide) (by decide) (Nat.le_of_ble_eq_true rfl) (Nat.le_of_ble_eq_true rfl) (Nat.le_of_ble_eq_true rfl) dX4_init_24 (fun ad6 ce6 H ea ec en S => ?_)
  have S : SK dC dI s B0 (49) ad6 ce6 H locs := S
  have fA : ∀ k, k ≤ 41 → ad6 k = ad k := fun k hk => (ea k (by omega)).trans (fA k hk)
  have fC : ∀ k, k < 41 → ce6 k = ce k := fun k hk => (ec k (by omega)).trans (fC k hk)
  have fO : ce6 41 = .inr (4, [.ref (ad6 (42)), .ref (ad6 (47)), .null, .int 0, .int 0, .null]) := by rw [ec 41 (by omega), fO, ea 42 (by omega), ea 47 (by omega)]
  have fF : ∀ k, (42 ≤ k ∧ k < 48) → ce6 k = celK cy ad6 k := fun k hk => (ec k (by omega)).trans ((fF k hk).trans (celK_cg (N := 48) ((by decide +kernel : ∀ k, k < 100 → ((42 ≤ k ∧ k < 48)) → upK k ≤ 48) k (by omega) hk) (fun k hk => ea k (by omega))).symm)
  rw [← ea 41 (by omega)] at hl
  have fn : ce6 48 = celK cy ad6 48 := en.trans rfl
  have fF : ∀ k, (42 ≤ k ∧ k < 49) → ce6 k = celK cy ad6 k := by
    intro k hk
    by_cases z : 48 ≤ k ∧ k < 49
    · rw [show k = 48 by omega]; exact fn
    · exact fF k (by omega)
  rw [← ea 41 (by omega)]
  refine pF_ (k := 2) (T := TX4) (ty0 := tyX4) (ty := tyX4 2) C S hname (by omega) fO rfl ni_X4_init_X4 tyX4_ok nmX4 (by decide) mi_X4_init_10 rfl rfl (by decide +kernel) rfl rfl (Nat.le_of_ble_eq_true rfl) dX4_init_26 (fun ce7 H locs fO eo S => ?_)
  have fO : ce7 41 = .inr (4, [.ref (ad6 (42)), .ref (ad6 (47)), .ref (ad6 (48)), .int 0, .int 0, .null]) := fO
  have fC : ∀ k, k < 41 → ce7 k = ce k := fun k hk => (eo k (by omega)).trans (fC k hk)
  have fF : ∀ k, (42 ≤ k ∧ k < 49) → ce7 k = celK cy ad6 k := fun k hk => (eo k (by omega)).trans (fF k hk)
  refine lv_aload_n hx hb dX4_init_29 rfl (lv_at hl 0 rfl) ?_
  refine lv_iconst (v := 0) hx hb dX4_init_30 (by decide) ?_
  refine pI_ (k := 3) (T := TX4) (ty0 := tyX4) (ty := .int) C S (by omega) fO rfl ni_X4_init_X4 tyX4_ok nmX4 (by decide) mi_X4_init_11 rfl (by decide +kernel) rfl rfl (Nat.le_of_ble_eq_true rfl) dX4_init_31 (fun ce8 H locs fO eo S => ?_)
  have fO : ce8 41 = .inr (4, [.ref (ad6 (42)), .ref (ad6 (47)), .ref (ad6 (48)), .int 0, .int 0, .null]) := fO
  have fC : ∀ k, k < 41 → ce8 k = ce k := fun k hk => (eo k (by omega)).trans (fC k hk)
  have fF : ∀ k, (42 ≤ k ∧ k < 49) → ce8 k = celK cy ad6 k := fun k hk => (eo k (by omega)).trans (fF k hk)
  refine lv_aload_n hx hb dX4_init_34 rfl (lv_at hl 0 rfl) ?_
  refine lv_iconst (v := 0) hx hb dX4_init_35 (by decide) ?_
  refine pI_ (k := 4) (T := TX4) (ty0 := tyX4) (ty := .int) C S (by omega) fO rfl ni_X4_init_X4 tyX4_ok nmX4 (by decide) mi_X4_init_12 rfl (by decide +kernel) rfl rfl (Nat.le_of_ble_eq_true rfl) dX4_init_36 (fun ce9 H locs fO eo S => ?_)
  have fO : ce9 41 = .inr (4, [.ref (ad6 (42)), .ref (ad6 (47)), .ref (ad6 (48)), .int 0, .int 0, .null]) := fO
  have fC : ∀ k, k < 41 → ce9 k = ce k := fun k hk => (eo k (by omega)).trans (fC k hk)
  have fF : ∀ k, (42 ≤ k ∧ k < 49) → ce9 k = celK cy ad6 k := fun k hk => (eo k (by omega)).trans (fF k hk)
  refine lv_aload_n hx hb dX4_init_39 rfl (lv_at hl 0 rfl) ?_
  refine lv_bipush (v := 8) hx hb dX4_init_40 (by decide) ?_
  refine nQ_ (n := 8) (t0 := 2) C S mi_X4_init_13 C.2.2.2.1.1 rfl (by decide) (by decide) (Nat.le_of_ble_eq_true rfl) (Nat.le_of_ble_eq_true rfl) (Nat.le_of_ble_eq_true rfl) dX4_init_42 (fun ad10 ce10 H ea ec en S => ?_)
  have S : SK dC dI s B0 (50) ad10 ce10 H locs := S
  have fA : ∀ k, k ≤ 41 → ad10 k = ad k := fun k hk => (ea k (by omega)).trans (fA k hk)
  have fC : ∀ k, k < 41 → ce10 k = ce k := fun k hk => (ec k (by omega)).trans (fC k hk)
  have fO : ce10 41 = .inr (4, [.ref (ad10 (42)), .ref (ad10 (47)), .ref (ad10 (48)), .int 0, .int 0, .null]) := by rw [ec 41 (by omega), fO, ea 42 (by omega), ea 47 (by omega), ea 48 (by omega)]
  have fF : ∀ k, (42 ≤ k ∧ k < 49) → ce10 k = celK cy ad10 k := fun k hk => (ec k (by omega)).trans ((fF k hk).trans (celK_cg (N := 49) ((by decide +kernel : ∀ k, k < 100 → ((42 ≤ k ∧ k < 49)) → upK k ≤ 49) k (by omega) hk) (fun k hk => ea k (by omega))).symm)
  rw [← ea 41 (by omega)] at hl
  have fR8 := en
  rw [← ea 41 (by omega)]
  refine pF_ (k := 5) (T := TX4) (ty0 := tyX4) (ty := tyX4 5) C S hname (by omega) fO rfl ni_X4_init_X4 tyX4_ok nmX4 (by decide) mi_X4_init_14 rfl rfl (by decide +kernel) rfl rfl (Nat.le_of_ble_eq_true rfl) dX4_init_45 (fun ce11 H locs fO eo S => ?_)
  have fO : ce11 41 = .inr (4, [.ref (ad10 (42)), .ref (ad10 (47)), .ref (ad10 (48)), .int 0, .int 0, .ref (ad10 (49))]) := fO
  have fC : ∀ k, k < 41 → ce11 k = ce k := fun k hk => (eo k (by omega)).trans (fC k hk)
  have fR8 := (eo 49 (by omega)).trans fR8
  have fF : ∀ k, (42 ≤ k ∧ k < 49) → ce11 k = celK cy ad10 k := fun k hk => (eo k (by omega)).trans (fF k hk)
  refine lv_iconst (v := 0) hx hb dX4_init_48 (by decide) ?_
  refine lv_istore_n (lv' := [(1, .int 0), (0, .ref (ad10 41))]) hx hb dX4_init_49 rfl hl (by decide) rfl (fun ls hl => ?_)
  have loop0 : ∀ (mm i : Nat) (adx0 : Nat → Nat) (cex0 : Nat → va_E) (H : Heap) (locs : List Loc) (ls : Array Slot), i + mm = 8 → (∀ k, k ≤ 41 → adx0 k = ad k) → (∀ k, k < 41 → cex0 k = ce k) → cex0 41 = .inr (4, [.ref (adx0 (42)), .ref (adx0 (47)), .ref (adx0 (48)), .int 0, .int 0, .ref (adx0 (49))]) → cex0 49 = .inl (cy 2, 8, .inr (.inr (.inr (.inr (fun x => if x < i then some (adx0 (49 + 1 + x)) else none))))) → (∀ k, (42 ≤ k ∧ k < 49) ∨ (50 ≤ k ∧ k < 49 + 1 + i) → cex0 k = celK cy adx0 k) → SK dC dI s B0 (49 + 1 + i) adx0 cex0 H locs → lv_has ls 2 [(0, .ref (adx0 41)), (1, .int (nI i))] → W p l e (rmK 2 16 101) s m args below meth c H locs (8 + 1 * i) (53 + 6 * i) (QK dC dI cy B0 below args s 41 17 16 101 ad ce) (F0 m 50 ls []) := by
    intro mm
    induction mm with
    | zero =>
      intro i adx0 cex0 H locs ls hi fA fC fO fR fF S hl
      have hi : i = 8 := by omega
      subst hi
      refine lv_iload_n hx hb dX4_init_50 rfl (lv_at hl 1 rfl) ?_
      refine lv_bipush (v := 8) hx hb dX4_init_51 (by decide) ?_
      refine lv_icmp_ge (tgt := 75) hx hb dX4_init_53 (by decide) (fun c9 => ?_) (fun c9 => absurd ((nI_leI (a := 8) (by omega) (by omega)).mpr (by omega)) c9)
      refine W.widen (k := 16) (n := 101) (Nat.le_of_ble_eq_true rfl) (Nat.le_of_ble_eq_true rfl) ?_
      have S : SK dC dI s B0 (41 + 17) adx0 cex0 H locs := S
      refine rK_ C S hret hlk ⟨fA, fC, fun k h1 h2 => ?_⟩ dX4_init_75
      by_cases z : k = 41
      · rw [z]; exact fO.trans rfl
      · by_cases z2 : k = 49
        · rw [z2]; exact fR.trans rfl
        · exact fF k (by omega)
    | succ mm ih =>
      intro i adx0 cex0 H locs ls hi fA fC fO fR fF S hl
      refine lv_iload_n hx hb dX4_init_50 rfl (lv_at hl 1 rfl) ?_
      refine lv_bipush (v := 8) hx hb dX4_init_51 (by decide) ?_
      refine lv_icmp_ge (tgt := 75) hx hb dX4_init_53 (by decide) (fun c9 => absurd ((nI_leI (a := 8) (by omega) (by omega)).mp c9) (by omega)) (fun c9 => ?_)
      refine lv_aload_n hx hb dX4_init_56 rfl (lv_at hl 0 rfl) ?_
      refine gF_ (k := 5) (T := TX4) (v := .ref (adx0 49)) C S (by omega) fO rfl ni_X4_init_X4 (by decide) mi_X4_init_14 rfl dX4_init_57 ?_
      refine lv_iload_n hx hb dX4_init_60 rfl (lv_at hl 1 rfl) ?_
      refine nO_ (T := TX2) (ty := tyX2) (fs := [.int 0, .int 0, .int 0, .int 0, .int 0, .int 0]) C S (ci := 2) rfl ni_X4_init_X2 tyX2_ok mi_X4_init_13 mi_X4_init_15 mi_X4_init_16 df_X2 (by show 8 + 1 * i + 1 ≤ 16; omega) (by show 53 + 6 * i + 6 ≤ 101; omega) dX4_init_61 (fun ad1 ce1 H ea ec en S => ?_)
      have EA1 : ∀ k, k < 49 + 1 + i → ad1 k = adx0 k := ea
      have EC1 : ∀ k, k < 49 + 1 + i → ce1 k = cex0 k := ec
      rw [← EA1 49 (by omega)]
      rw [← EA1 41 (by omega)] at hl
      refine lv_dup hx hb dX4_init_64 rfl ?_
      have hly := ly_steps i (by omega)
      refine cN_ C S hl.1 (mk_X2 hly en) ⟨va_cnB 0 hts gX4_init_X2_init_n38 rfl rfl rfl (C.2.2.1 (RX4, 38, yX2_init, "ClawCase") (by decide +kernel)) (hts _ mi_X4_init_16) (by decide +kernel) ⟨Nat.le_of_ble_eq_true rfl, Nat.le_of_ble_eq_true rfl⟩, rfl, hts _ mi_X4_init_29⟩ (Nat.le_of_ble_eq_true rfl) (by show 8 + 1 * i + 1 + 0 ≤ 16; omega) (by show 53 + 6 * i + 6 + 0 ≤ 101; omega) dX4_init_65 (fun ad2 ce2 H locs ea ec en2 S => ?_)
      have EA : ∀ k, k < 49 + 1 + i → ad2 k = adx0 k := fun k hk => (ea k (by omega)).trans (EA1 k hk)
      have EC : ∀ k, k < 49 + 1 + i → ce2 k = cex0 k := fun k hk => (ec k hk).trans (EC1 k hk)
      rw [← ea 49 (by omega), ← ea (49 + 1 + i) (by omega)]
      rw [← ea 41 (by omega)] at hl
      have hv : ce2 (49 + 1 + i) = .inr (2, [.int 0, .int 0, .int 0, .int (-1000000), .int 0, .int 0]) := (en2 _ (by omega) (by omega)).trans (by unfold celK; rw [hly]; rfl)
      refine aQ_ (r := 49) (t0 := 2) (x := 49 + 1 + i) C S (by omega) (by omega) ((EC 49 (by omega)).trans fR) rfl hv rfl (vlit i (by omega) (by omega)) dX4_init_68 (fun ce3 H locs fR3 eo S => ?_)
      have fA : ∀ k, k ≤ 41 → ad2 k = ad k := fun k hk => (EA k (by omega)).trans (fA k hk)
      have fC : ∀ k, k < 41 → ce3 k = ce k := fun k hk => (eo k (by omega)).trans ((EC k (by omega)).trans (fC k hk))
      have fO : ce3 41 = .inr (4, [.ref (ad2 (42)), .ref (ad2 (47)), .ref (ad2 (48)), .int 0, .int 0, .ref (ad2 (49))]) := by rw [eo 41 (by omega), EC 41 (by omega), fO, EA 42 (by omega), EA 47 (by omega), EA 48 (by omega), EA 49 (by omega)]
      have fR : ce3 49 = .inl (cy 2, 8, .inr (.inr (.inr (.inr (fun x => if x < i + 1 then some (ad2 (49 + 1 + x)) else none))))) := by
        rw [fR3, cl (by omega)]
        have q9 : va_up (fun x => if x < i then some (adx0 (49 + 1 + x)) else none) i (some (ad2 (49 + 1 + i))) = (fun x => if x < i + 1 then some (ad2 (49 + 1 + x)) else none) := by
          funext x
          by_cases z : x = i
          · subst z; rw [up_eq, if_pos (by omega)]
          · rw [up_ne z]
            by_cases y : x < i
            · rw [if_pos y, if_pos (by omega), EA (49 + 1 + x) (by omega)]
            · rw [if_neg y, if_neg (by omega)]
        rw [q9]
      have fF : ∀ k, (42 ≤ k ∧ k < 49) ∨ (50 ≤ k ∧ k < 49 + 1 + (i + 1)) → ce3 k = celK cy ad2 k := by
        intro k hk
        by_cases z : 49 + 1 + i ≤ k
        · exact (eo k (by omega)).trans (en2 k z (by omega))
        · exact (eo k (by omega)).trans ((EC k (by omega)).trans ((fF k (by omega)).trans (celK_cg (N := 49 + 1 + i) ((by decide +kernel : ∀ i, i < 8 → ∀ k, k < 100 → ((42 ≤ k ∧ k < 49) ∨ (50 ≤ k ∧ k < 49 + 1 + i)) → upK k ≤ 49 + 1 + i) i (by omega) k (by omega) (by omega)) EA).symm))
      obtain ⟨x9, ex9⟩ : ∃ y : Int32, y = nI i + 1 := ⟨_, rfl⟩
      refine lv_iinc (v := x9) (lv' := [(1, .int x9), (0, .ref (ad2 41))]) hx hb dX4_init_69 hl (k := 1) rfl (by rw [ex9]; rfl) (by decide) rfl (fun ls hl => ?_)
      rw [nI_1] at ex9
      subst ex9
      refine lv_goto (tgt := 50) hx hb dX4_init_72 (by decide) ?_
      refine W.widen (k := 8 + 1 * (i + 1)) (n := 53 + 6 * (i + 1)) (by omega) (by omega) ?_
      have S : SK dC dI s B0 (49 + 1 + (i + 1)) ad2 ce3 H locs := by rw [show 49 + 1 + (i + 1) = 49 + 1 + i + 1 by omega]; exact S
      exact ih (i + 1) ad2 ce3 H locs ls (by omega) fA fC fO fR  fF S (lv_sub hl [1, 0] rfl)
  have fR0 : ce11 49 = .inl (cy 2, 8, .inr (.inr (.inr (.inr (fun x => if x < 0 then some (ad10 (49 + 1 + x)) else none))))) := fR8.trans (by
    have q9 : (fun x => if x < 0 then some (ad10 (49 + 1 + x)) else none) = (fun _ => none) := by funext x; rw [if_neg (by omega)]
    rw [q9])
  refine W.widen (k := 8 + 1 * 0) (n := 53 + 6 * 0) (Nat.le_of_ble_eq_true rfl) (Nat.le_of_ble_eq_true rfl) ?_
  exact loop0 8 0 ad10 ce11 _ _ ls (by omega) fA fC fO fR0  (fun k hk => fF k (by omega)) S (lv_sub hl [1, 0] rfl)
set_option maxHeartbeats 4000000 in
set_option maxRecDepth 100000 in
theorem mk_X7 {l : Launch} {dC : Nat → ClassId} {dI : Nat → Nat → Nat} {cy : Nat → ClassId} {B0 : Nat} {ad : Nat → Nat} {ce : Nat → va_E} (hb0 : ce 0 = .inr (7, [.null, .null, .null, .null, .null, .null, .null, .int 0, .int 0])) : KN l dC dI cy B0 yX7_init wsX7_init (rmK 3 85 884) 0 86 85 884 ad ce := by
  refine KN.of (by decide) rfl rfl rfl (Nat.le_of_ble_eq_true rfl) ?_
  intro p e s m args below meth c ls C hname hret hlk hl S
  have hx := C.1.1
  have hb := C.1.2.1
  have hts := C.1.2.2.2.2
  have fA : ∀ k, k ≤ 0 → ad k = ad k := fun k _ => rfl
  have fC : ∀ k, k < 0 → ce k = ce k := fun k _ => rfl
  have fO : ce 0 = .inr (7, [.null, .null, .null, .null, .null, .null, .null, .int 0, .int 0]) := hb0
  refine lv_aload_n hx hb dX7_init_0 rfl (lv_at hl 0 rfl) ?_
  refine W.objInit hx hb C.1.2.2.2.1 (hts _ mi_X7_init_1) (hts _ mi_X7_init_2) (hts _ mi_X7_init_3) rfl (by rw [C.1.2.2.1]; exact hl.1) rfl dX7_init_1 (Nat.le_of_ble_eq_true rfl) (Nat.le_of_ble_eq_true rfl) ?_
  refine W.eq (g2 := F0 m 4 ls []) rfl ?_
  generalize hlc : ([] : List Loc) = locs at S ⊢
  have S : SK dC dI s B0 (1) ad ce s.heap locs := S
  refine lv_aload_n hx hb dX7_init_4 rfl (lv_at hl 0 rfl) ?_
  refine lv_bipush (v := 8) hx hb dX7_init_5 (by decide) ?_
  refine nQ_ (n := 8) (t0 := 4) C S mi_X7_init_4 C.2.2.2.1.2.2 rfl (by decide) (by decide) (Nat.le_of_ble_eq_true rfl) (Nat.le_of_ble_eq_true rfl) (Nat.le_of_ble_eq_true rfl) dX7_init_7 (fun ad1 ce1 H ea ec en S => ?_)
  have S : SK dC dI s B0 (2) ad1 ce1 H locs := S
  have fA : ∀ k, k ≤ 0 → ad1 k = ad k := fun k hk => (ea k (by omega)).trans (fA k hk)
  have fC : ∀ k, k < 0 → ce1 k = ce k := fun k hk => (ec k (by omega)).trans (fC k hk)
  have fO : ce1 0 = .inr (7, [.null, .null, .null, .null, .null, .null, .null, .int 0, .int 0]) := by rw [ec 0 (by omega), fO]
  rw [← ea 0 (by omega)] at hl
  have fR1 := en
  rw [← ea 0 (by omega)]
  refine pF_ (k := 0) (T := TX7) (ty0 := tyX7) (ty := tyX7 0) C S hname (by omega) fO rfl ni_X7_init_X7 tyX7_ok nmX7 (by decide) mi_X7_init_5 rfl rfl (by decide +kernel) rfl rfl (Nat.le_of_ble_eq_true rfl) dX7_init_10 (fun ce2 H locs fO eo S => ?_)
  have fO : ce2 0 = .inr (7, [.ref (ad1 (1)), .null, .null, .null, .null, .null, .null, .int 0, .int 0]) := fO
  have fC : ∀ k, k < 0 → ce2 k = ce k := fun k hk => (eo k (by omega)).trans (fC k hk)
  have fR1 := (eo 1 (by omega)).trans fR1
  refine lv_aload_n hx hb dX7_init_13 rfl (lv_at hl 0 rfl) ?_
  refine nO_ (T := TX5) (ty := tyX5) (fs := [.null, .null, .int 0, .int 0, .int 0, .int 0, .int 0, .int 0]) C S (ci := 5) rfl ni_X7_init_X5 tyX5_ok mi_X7_init_6 mi_X7_init_7 mi_X7_init_8 df_X5 (Nat.le_of_ble_eq_true rfl) (Nat.le_of_ble_eq_true rfl) dX7_init_14 (fun ad3 ce3 H ea ec en S => ?_)
  have fA : ∀ k, k ≤ 0 → ad3 k = ad k := fun k hk => (ea k (by omega)).trans (fA k hk)
  have fC : ∀ k, k < 0 → ce3 k = ce k := fun k hk => (ec k (by omega)).trans (fC k hk)
  have fO : ce3 0 = .inr (7, [.ref (ad3 (1)), .null, .null, .null, .null, .null, .null, .int 0, .int 0]) := by rw [ec 0 (by omega), fO, ea 1 (by omega)]
  have fR1 : ce3 1 = .inl (cy 4, 8, .inr (.inr (.inr (.inr (fun _ => none))))) := by rw [ec 1 (by omega), fR1]
  rw [← ea 0 (by omega)] at hl
  rw [← ea 0 (by omega)]
  refine lv_dup hx hb dX7_init_17 rfl ?_
  refine cN_ C S hl.1 (mk_X5 en) ⟨va_cnB 0 hts gX7_init_X5_init_n17 rfl rfl rfl (C.2.2.1 (RX7, 17, yX5_init, "ClawCase") (by decide +kernel)) (hts _ mi_X7_init_8) (by decide +kernel) ⟨Nat.le_of_ble_eq_true rfl, Nat.le_of_ble_eq_true rfl⟩, rfl, hts _ mi_X7_init_31⟩ (Nat.le_of_ble_eq_true rfl) (Nat.le_of_ble_eq_true rfl) (Nat.le_of_ble_eq_true rfl) dX7_init_18 (fun ad4 ce4 H locs ea ec en2 S => ?_)
  have S : SK dC dI s B0 (9) ad4 ce4 H locs := S
  have ea : ∀ k, k < 3 → ad4 k = ad3 k := fun k hk => ea k (by omega)
  have fA : ∀ k, k ≤ 0 → ad4 k = ad k := fun k hk => (ea k (by omega)).trans (fA k hk)
  have fC : ∀ k, k < 0 → ce4 k = ce k := fun k hk => (ec k (by omega)).trans (fC k hk)
  have fO : ce4 0 = .inr (7, [.ref (ad4 (1)), .null, .null, .null, .null, .null, .null, .int 0, .int 0]) := by rw [ec 0 (by omega), fO, ea 1 (by omega)]
  have fR1 : ce4 1 = .inl (cy 4, 8, .inr (.inr (.inr (.inr (fun _ => none))))) := by rw [ec 1 (by omega), fR1]
  rw [← ea 0 (by omega)] at hl
  have fF : ∀ k, (2 ≤ k ∧ k < 9) → ce4 k = celK cy ad4 k := by
    intro k hk
    by_cases z : 2 ≤ k ∧ k < 9
    · exact en2 k z.1 (by omega)
    · exact absurd hk (by omega)
  rw [← ea 0 (by omega), ← ea 2 (by omega)]
  refine pF_ (k := 1) (T := TX7) (ty0 := tyX7) (ty := tyX7 1) C S hname (by omega) fO rfl ni_X7_init_X7 tyX7_ok nmX7 (by decide) mi_X7_init_9 rfl rfl (by decide +kernel) rfl rfl (Nat.le_of_ble_eq_true rfl) dX7_init_21 (fun ce5 H locs fO eo S => ?_)
  have fO : ce5 0 = .inr (7, [.ref (ad4 (1)), .ref (ad4 (2)), .null, .null, .null, .null, .null, .int 0, .int 0]) := fO
  have fC : ∀ k, k < 0 → ce5 k = ce k := fun k hk => (eo k (by omega)).trans (fC k hk)
  have fR1 := (eo 1 (by omega)).trans fR1
  have fF : ∀ k, (2 ≤ k ∧ k < 9) → ce5 k = celK cy ad4 k := fun k hk => (eo k (by omega)).trans (fF k hk)
  refine lv_aload_n hx hb dX7_init_24 rfl (lv_at hl 0 rfl) ?_
  refine nO_ (T := TX3) (ty := tyX3) (fs := [.null, .null, .null, .null, .int 0, .int 0, .int 0, .int 0, .int 0]) C S (ci := 3) rfl ni_X7_init_X3 tyX3_ok mi_X7_init_10 mi_X7_init_11 mi_X7_init_12 df_X3 (Nat.le_of_ble_eq_true rfl) (Nat.le_of_ble_eq_true rfl) dX7_init_25 (fun ad6 ce6 H ea ec en S => ?_)
  have fA : ∀ k, k ≤ 0 → ad6 k = ad k := fun k hk => (ea k (by omega)).trans (fA k hk)
  have fC : ∀ k, k < 0 → ce6 k = ce k := fun k hk => (ec k (by omega)).trans (fC k hk)
  have fO : ce6 0 = .inr (7, [.ref (ad6 (1)), .ref (ad6 (2)), .null, .null, .null, .null, .null, .int 0, .int 0]) := by rw [ec 0 (by omega), fO, ea 1 (by omega), ea 2 (by omega)]
  have fR1 : ce6 1 = .inl (cy 4, 8, .inr (.inr (.inr (.inr (fun _ => none))))) := by rw [ec 1 (by omega), fR1]
  have fF : ∀ k, (2 ≤ k ∧ k < 9) → ce6 k = celK cy ad6 k := fun k hk => (ec k (by omega)).trans ((fF k hk).trans (celK_cg (N := 9) ((by decide +kernel : ∀ k, k < 100 → ((2 ≤ k ∧ k < 9)) → upK k ≤ 9) k (by omega) hk) (fun k hk => ea k (by omega))).symm)
  rw [← ea 0 (by omega)] at hl
  rw [← ea 0 (by omega)]
  refine lv_dup hx hb dX7_init_28 rfl ?_
  refine cN_ C S hl.1 (mk_X3 rfl en) ⟨va_cnB 0 hts gX7_init_X3_init_n24 rfl rfl rfl (C.2.2.1 (RX7, 24, yX3_init, "ClawCase") (by decide +kernel)) (hts _ mi_X7_init_12) (by decide +kernel) ⟨Nat.le_of_ble_eq_true rfl, Nat.le_of_ble_eq_true rfl⟩, rfl, hts _ mi_X7_init_44⟩ (Nat.le_of_ble_eq_true rfl) (Nat.le_of_ble_eq_true rfl) (Nat.le_of_ble_eq_true rfl) dX7_init_29 (fun ad7 ce7 H locs ea ec en2 S => ?_)
  have S : SK dC dI s B0 (14) ad7 ce7 H locs := S
  have ea : ∀ k, k < 10 → ad7 k = ad6 k := fun k hk => ea k (by omega)
  have fA : ∀ k, k ≤ 0 → ad7 k = ad k := fun k hk => (ea k (by omega)).trans (fA k hk)
  have fC : ∀ k, k < 0 → ce7 k = ce k := fun k hk => (ec k (by omega)).trans (fC k hk)
  have fO : ce7 0 = .inr (7, [.ref (ad7 (1)), .ref (ad7 (2)), .null, .null, .null, .null, .null, .int 0, .int 0]) := by rw [ec 0 (by omega), fO, ea 1 (by omega), ea 2 (by omega)]
  have fR1 : ce7 1 = .inl (cy 4, 8, .inr (.inr (.inr (.inr (fun _ => none))))) := by rw [ec 1 (by omega), fR1]
  have fF : ∀ k, (2 ≤ k ∧ k < 9) → ce7 k = celK cy ad7 k := fun k hk => (ec k (by omega)).trans ((fF k hk).trans (celK_cg (N := 9) ((by decide +kernel : ∀ k, k < 100 → ((2 ≤ k ∧ k < 9)) → upK k ≤ 9) k (by omega) hk) (fun k hk => ea k (by omega))).symm)
  rw [← ea 0 (by omega)] at hl
  have fF : ∀ k, (2 ≤ k ∧ k < 14) → ce7 k = celK cy ad7 k := by
    intro k hk
    by_cases z : 9 ≤ k ∧ k < 14
    · exact en2 k z.1 (by omega)
    · exact fF k (by omega)
  rw [← ea 0 (by omega), ← ea 9 (by omega)]
  refine pF_ (k := 2) (T := TX7) (ty0 := tyX7) (ty := tyX7 2) C S hname (by omega) fO rfl ni_X7_init_X7 tyX7_ok nmX7 (by decide) mi_X7_init_13 rfl rfl (by decide +kernel) rfl rfl (Nat.le_of_ble_eq_true rfl) dX7_init_32 (fun ce8 H locs fO eo S => ?_)
  have fO : ce8 0 = .inr (7, [.ref (ad7 (1)), .ref (ad7 (2)), .ref (ad7 (9)), .null, .null, .null, .null, .int 0, .int 0]) := fO
  have fC : ∀ k, k < 0 → ce8 k = ce k := fun k hk => (eo k (by omega)).trans (fC k hk)
  have fR1 := (eo 1 (by omega)).trans fR1
  have fF : ∀ k, (2 ≤ k ∧ k < 14) → ce8 k = celK cy ad7 k := fun k hk => (eo k (by omega)).trans (fF k hk)
  refine lv_aload_n hx hb dX7_init_35 rfl (lv_at hl 0 rfl) ?_
  refine nO_ (T := TX0) (ty := tyX0) (fs := [.null, .int 0, .int 0]) C S (ci := 0) rfl ni_X7_init_X0 tyX0_ok mi_X7_init_14 mi_X7_init_15 mi_X7_init_16 df_X0 (Nat.le_of_ble_eq_true rfl) (Nat.le_of_ble_eq_true rfl) dX7_init_36 (fun ad9 ce9 H ea ec en S => ?_)
  have fA : ∀ k, k ≤ 0 → ad9 k = ad k := fun k hk => (ea k (by omega)).trans (fA k hk)
  have fC : ∀ k, k < 0 → ce9 k = ce k := fun k hk => (ec k (by omega)).trans (fC k hk)
  have fO : ce9 0 = .inr (7, [.ref (ad9 (1)), .ref (ad9 (2)), .ref (ad9 (9)), .null, .null, .null, .null, .int 0, .int 0]) := by rw [ec 0 (by omega), fO, ea 1 (by omega), ea 2 (by omega), ea 9 (by omega)]
  have fR1 : ce9 1 = .inl (cy 4, 8, .inr (.inr (.inr (.inr (fun _ => none))))) := by rw [ec 1 (by omega), fR1]
  have fF : ∀ k, (2 ≤ k ∧ k < 14) → ce9 k = celK cy ad9 k := fun k hk => (ec k (by omega)).trans ((fF k hk).trans (celK_cg (N := 14) ((by decide +kernel : ∀ k, k < 100 → ((2 ≤ k ∧ k < 14)) → upK k ≤ 14) k (by omega) hk) (fun k hk => ea k (by omega))).symm)
  rw [← ea 0 (by omega)] at hl
  rw [← ea 0 (by omega)]
  refine lv_dup hx hb dX7_init_39 rfl ?_
  refine cI_ C S hl.1 (mk_X0 en) (cwI 0 hts gX7_init_X0_init rfl rfl rfl (hts _ mi_X7_init_16) (hts _ mi_X7_init_56) (hts _ mi_X7_init_57) rfl (by decide +kernel) ⟨Nat.le_of_ble_eq_true rfl, Nat.le_of_ble_eq_true rfl⟩) (Nat.le_of_ble_eq_true rfl) (Nat.le_of_ble_eq_true rfl) (Nat.le_of_ble_eq_true rfl) dX7_init_40 (fun ad10 ce10 H locs ea ec en2 S => ?_)
  have S : SK dC dI s B0 (40) ad10 ce10 H locs := S
  have ea : ∀ k, k < 15 → ad10 k = ad9 k := fun k hk => ea k (by omega)
  have fA : ∀ k, k ≤ 0 → ad10 k = ad k := fun k hk => (ea k (by omega)).trans (fA k hk)
  have fC : ∀ k, k < 0 → ce10 k = ce k := fun k hk => (ec k (by omega)).trans (fC k hk)
  have fO : ce10 0 = .inr (7, [.ref (ad10 (1)), .ref (ad10 (2)), .ref (ad10 (9)), .null, .null, .null, .null, .int 0, .int 0]) := by rw [ec 0 (by omega), fO, ea 1 (by omega), ea 2 (by omega), ea 9 (by omega)]
  have fR1 : ce10 1 = .inl (cy 4, 8, .inr (.inr (.inr (.inr (fun _ => none))))) := by rw [ec 1 (by omega), fR1]
  have fF : ∀ k, (2 ≤ k ∧ k < 14) → ce10 k = celK cy ad10 k := fun k hk => (ec k (by omega)).trans ((fF k hk).trans (celK_cg (N := 14) ((by decide +kernel : ∀ k, k < 100 → ((2 ≤ k ∧ k < 14)) → upK k ≤ 14) k (by omega) hk) (fun k hk => ea k (by omega))).symm)
  rw [← ea 0 (by omega)] at hl
  have fF : ∀ k, (2 ≤ k ∧ k < 40) → ce10 k = celK cy ad10 k := by
    intro k hk
    by_cases z : 14 ≤ k ∧ k < 40
    · exact en2 k z.1 (by omega)
    · exact fF k (by omega)
  rw [← ea 0 (by omega), ← ea 14 (by omega)]
  refine pF_ (k := 3) (T := TX7) (ty0 := tyX7) (ty := tyX7 3) C S hname (by omega) fO rfl ni_X7_init_X7 tyX7_ok nmX7 (by decide) mi_X7_init_17 rfl rfl (by decide +kernel) rfl rfl (Nat.le_of_ble_eq_true rfl) dX7_init_43 (fun ce11 H locs fO eo S => ?_)
  have fO : ce11 0 = .inr (7, [.ref (ad10 (1)), .ref (ad10 (2)), .ref (ad10 (9)), .ref (ad10 (14)), .null, .null, .null, .int 0, .int 0]) := fO
  have fC : ∀ k, k < 0 → ce11 k = ce k := fun k hk => (eo k (by omega)).trans (fC k hk)
  have fR1 := (eo 1 (by omega)).trans fR1
  have fF : ∀ k, (2 ≤ k ∧ k < 40) → ce11 k = celK cy ad10 k := fun k hk => (eo k (by omega)).trans (fF k hk)
  refine lv_aload_n hx hb dX7_init_46 rfl (lv_at hl 0 rfl) ?_
  refine lv_iconst (v := 2) hx hb dX7_init_47 (by decide) ?_
  refine nQ_ (n := 2) (t0 := 3) C S mi_X7_init_10 C.2.2.2.1.2.1 rfl (by decide) (by decide) (Nat.le_of_ble_eq_true rfl) (Nat.le_of_ble_eq_true rfl) (Nat.le_of_ble_eq_true rfl) dX7_init_48 (fun ad12 ce12 H ea ec en S => ?_)
  have S : SK dC dI s B0 (41) ad12 ce12 H locs := S
  have fA : ∀ k, k ≤ 0 → ad12 k = ad k := fun k hk => (ea k (by omega)).trans (fA k hk)
  have fC : ∀ k, k < 0 → ce12 k = ce k := fun k hk => (ec k (by omega)).trans (fC k hk)
  have fO : ce12 0 = .inr (7, [.ref (ad12 (1)), .ref (ad12 (2)), .ref (ad12 (9)), .ref (ad12 (14)), .null, .null, .null, .int 0, .int 0]) := by rw [ec 0 (by omega), fO, ea 1 (by omega), ea 2 (by omega), ea 9 (by omega), ea 14 (by omega)]
  have fR1 : ce12 1 = .inl (cy 4, 8, .inr (.inr (.inr (.inr (fun _ => none))))) := by rw [ec 1 (by omega), fR1]
  have fF : ∀ k, (2 ≤ k ∧ k < 40) → ce12 k = celK cy ad12 k := fun k hk => (ec k (by omega)).trans ((fF k hk).trans (celK_cg (N := 40) ((by decide +kernel : ∀ k, k < 100 → ((2 ≤ k ∧ k < 40)) → upK k ≤ 40) k (by omega) hk) (fun k hk => ea k (by omega))).symm)
  rw [← ea 0 (by omega)] at hl
  have fR40 := en
  rw [← ea 0 (by omega)]
  refine pF_ (k := 4) (T := TX7) (ty0 := tyX7) (ty := tyX7 4) C S hname (by omega) fO rfl ni_X7_init_X7 tyX7_ok nmX7 (by decide) mi_X7_init_18 rfl rfl (by decide +kernel) rfl rfl (Nat.le_of_ble_eq_true rfl) dX7_init_51 (fun ce13 H locs fO eo S => ?_)
  have fO : ce13 0 = .inr (7, [.ref (ad12 (1)), .ref (ad12 (2)), .ref (ad12 (9)), .ref (ad12 (14)), .ref (ad12 (40)), .null, .null, .int 0, .int 0]) := fO
  have fC : ∀ k, k < 0 → ce13 k = ce k := fun k hk => (eo k (by omega)).trans (fC k hk)
  have fR1 := (eo 1 (by omega)).trans fR1
  have fR40 := (eo 40 (by omega)).trans fR40
  have fF : ∀ k, (2 ≤ k ∧ k < 40) → ce13 k = celK cy ad12 k := fun k hk => (eo k (by omega)).trans (fF k hk)
  refine lv_aload_n hx hb dX7_init_54 rfl (lv_at hl 0 rfl) ?_
  refine nO_ (T := TX4) (ty := tyX4) (fs := [.null, .null, .null, .int 0, .int 0, .null]) C S (ci := 4) rfl ni_X7_init_X4 tyX4_ok mi_X7_init_19 mi_X7_init_20 mi_X7_init_21 df_X4 (Nat.le_of_ble_eq_true rfl) (Nat.le_of_ble_eq_true rfl) dX7_init_55 (fun ad14 ce14 H ea ec en S => ?_)
  have fA : ∀ k, k ≤ 0 → ad14 k = ad k := fun k hk => (ea k (by omega)).trans (fA k hk)
  have fC : ∀ k, k < 0 → ce14 k = ce k := fun k hk => (ec k (by omega)).trans (fC k hk)
  have fO : ce14 0 = .inr (7, [.ref (ad14 (1)), .ref (ad14 (2)), .ref (ad14 (9)), .ref (ad14 (14)), .ref (ad14 (40)), .null, .null, .int 0, .int 0]) := by rw [ec 0 (by omega), fO, ea 1 (by omega), ea 2 (by omega), ea 9 (by omega), ea 14 (by omega), ea 40 (by omega)]
  have fR1 : ce14 1 = .inl (cy 4, 8, .inr (.inr (.inr (.inr (fun _ => none))))) := by rw [ec 1 (by omega), fR1]
  have fR40 : ce14 40 = .inl (cy 3, 2, .inr (.inr (.inr (.inr (fun _ => none))))) := by rw [ec 40 (by omega), fR40]
  have fF : ∀ k, (2 ≤ k ∧ k < 40) → ce14 k = celK cy ad14 k := fun k hk => (ec k (by omega)).trans ((fF k hk).trans (celK_cg (N := 41) ((by decide +kernel : ∀ k, k < 100 → ((2 ≤ k ∧ k < 40)) → upK k ≤ 41) k (by omega) hk) (fun k hk => ea k (by omega))).symm)
  rw [← ea 0 (by omega)] at hl
  rw [← ea 0 (by omega)]
  refine lv_dup hx hb dX7_init_58 rfl ?_
  refine cI_ C S hl.1 (mk_X4 en) (cwI 0 hts gX7_init_X4_init rfl rfl rfl (hts _ mi_X7_init_21) (hts _ mi_X7_init_76) (hts _ mi_X7_init_77) rfl (by decide +kernel) ⟨Nat.le_of_ble_eq_true rfl, Nat.le_of_ble_eq_true rfl⟩) (Nat.le_of_ble_eq_true rfl) (Nat.le_of_ble_eq_true rfl) (Nat.le_of_ble_eq_true rfl) dX7_init_59 (fun ad15 ce15 H locs ea ec en2 S => ?_)
  have S : SK dC dI s B0 (58) ad15 ce15 H locs := S
  have ea : ∀ k, k < 42 → ad15 k = ad14 k := fun k hk => ea k (by omega)
  have fA : ∀ k, k ≤ 0 → ad15 k = ad k := fun k hk => (ea k (by omega)).trans (fA k hk)
  have fC : ∀ k, k < 0 → ce15 k = ce k := fun k hk => (ec k (by omega)).trans (fC k hk)
  have fO : ce15 0 = .inr (7, [.ref (ad15 (1)), .ref (ad15 (2)), .ref (ad15 (9)), .ref (ad15 (14)), .ref (ad15 (40)), .null, .null, .int 0, .int 0]) := by rw [ec 0 (by omega), fO, ea 1 (by omega), ea 2 (by omega), ea 9 (by omega), ea 14 (by omega), ea 40 (by omega)]
  have fR1 : ce15 1 = .inl (cy 4, 8, .inr (.inr (.inr (.inr (fun _ => none))))) := by rw [ec 1 (by omega), fR1]
  have fR40 : ce15 40 = .inl (cy 3, 2, .inr (.inr (.inr (.inr (fun _ => none))))) := by rw [ec 40 (by omega), fR40]
  have fF : ∀ k, (2 ≤ k ∧ k < 40) → ce15 k = celK cy ad15 k := fun k hk => (ec k (by omega)).trans ((fF k hk).trans (celK_cg (N := 41) ((by decide +kernel : ∀ k, k < 100 → ((2 ≤ k ∧ k < 40)) → upK k ≤ 41) k (by omega) hk) (fun k hk => ea k (by omega))).symm)
  rw [← ea 0 (by omega)] at hl
  have fF : ∀ k, (2 ≤ k ∧ k < 40) ∨ (41 ≤ k ∧ k < 58) → ce15 k = celK cy ad15 k := by
    intro k hk
    by_cases z : 41 ≤ k ∧ k < 58
    · exact en2 k z.1 (by omega)
    · exact fF k (by omega)
  rw [← ea 0 (by omega), ← ea 41 (by omega)]
  refine pF_ (k := 5) (T := TX7) (ty0 := tyX7) (ty := tyX7 5) C S hname (by omega) fO rfl ni_X7_init_X7 tyX7_ok nmX7 (by decide) mi_X7_init_22 rfl rfl (by decide +kernel) rfl rfl (Nat.le_of_ble_eq_true rfl) dX7_init_62 (fun ce16 H locs fO eo S => ?_)
  have fO : ce16 0 = .inr (7, [.ref (ad15 (1)), .ref (ad15 (2)), .ref (ad15 (9)), .ref (ad15 (14)), .ref (ad15 (40)), .ref (ad15 (41)), .null, .int 0, .int 0]) := fO
  have fC : ∀ k, k < 0 → ce16 k = ce k := fun k hk => (eo k (by omega)).trans (fC k hk)
  have fR1 := (eo 1 (by omega)).trans fR1
  have fR40 := (eo 40 (by omega)).trans fR40
  have fF : ∀ k, (2 ≤ k ∧ k < 40) ∨ (41 ≤ k ∧ k < 58) → ce16 k = celK cy ad15 k := fun k hk => (eo k (by omega)).trans (fF k hk)
  refine lv_aload_n hx hb dX7_init_65 rfl (lv_at hl 0 rfl) ?_
  refine nO_ (T := TX1) (ty := tyX1) (fs := [.null, .int 0]) C S (ci := 1) rfl ni_X7_init_X1 tyX1_ok mi_X7_init_23 mi_X7_init_24 mi_X7_init_25 df_X1 (Nat.le_of_ble_eq_true rfl) (Nat.le_of_ble_eq_true rfl) dX7_init_66 (fun ad17 ce17 H ea ec en S => ?_)
  have fA : ∀ k, k ≤ 0 → ad17 k = ad k := fun k hk => (ea k (by omega)).trans (fA k hk)
  have fC : ∀ k, k < 0 → ce17 k = ce k := fun k hk => (ec k (by omega)).trans (fC k hk)
  have fO : ce17 0 = .inr (7, [.ref (ad17 (1)), .ref (ad17 (2)), .ref (ad17 (9)), .ref (ad17 (14)), .ref (ad17 (40)), .ref (ad17 (41)), .null, .int 0, .int 0]) := by rw [ec 0 (by omega), fO, ea 1 (by omega), ea 2 (by omega), ea 9 (by omega), ea 14 (by omega), ea 40 (by omega), ea 41 (by omega)]
  have fR1 : ce17 1 = .inl (cy 4, 8, .inr (.inr (.inr (.inr (fun _ => none))))) := by rw [ec 1 (by omega), fR1]
  have fR40 : ce17 40 = .inl (cy 3, 2, .inr (.inr (.inr (.inr (fun _ => none))))) := by rw [ec 40 (by omega), fR40]
  have fF : ∀ k, (2 ≤ k ∧ k < 40) ∨ (41 ≤ k ∧ k < 58) → ce17 k = celK cy ad17 k := fun k hk => (ec k (by omega)).trans ((fF k hk).trans (celK_cg (N := 58) ((by decide +kernel : ∀ k, k < 100 → ((2 ≤ k ∧ k < 40) ∨ (41 ≤ k ∧ k < 58)) → upK k ≤ 58) k (by omega) hk) (fun k hk => ea k (by omega))).symm)
  rw [← ea 0 (by omega)] at hl
  rw [← ea 0 (by omega)]
  refine lv_dup hx hb dX7_init_69 rfl ?_
  refine cN_ C S hl.1 (mk_X1 en) ⟨va_cnB 0 hts gX7_init_X1_init_n49 rfl rfl rfl (C.2.2.1 (RX7, 49, yX1_init, "ClawCase") (by decide +kernel)) (hts _ mi_X7_init_25) (by decide +kernel) ⟨Nat.le_of_ble_eq_true rfl, Nat.le_of_ble_eq_true rfl⟩, rfl, hts _ mi_X7_init_88⟩ (Nat.le_of_ble_eq_true rfl) (Nat.le_of_ble_eq_true rfl) (Nat.le_of_ble_eq_true rfl) dX7_init_70 (fun ad18 ce18 H locs ea ec en2 S => ?_)
  have S : SK dC dI s B0 (60) ad18 ce18 H locs := S
  have ea : ∀ k, k < 59 → ad18 k = ad17 k := fun k hk => ea k (by omega)
  have fA : ∀ k, k ≤ 0 → ad18 k = ad k := fun k hk => (ea k (by omega)).trans (fA k hk)
  have fC : ∀ k, k < 0 → ce18 k = ce k := fun k hk => (ec k (by omega)).trans (fC k hk)
  have fO : ce18 0 = .inr (7, [.ref (ad18 (1)), .ref (ad18 (2)), .ref (ad18 (9)), .ref (ad18 (14)), .ref (ad18 (40)), .ref (ad18 (41)), .null, .int 0, .int 0]) := by rw [ec 0 (by omega), fO, ea 1 (by omega), ea 2 (by omega), ea 9 (by omega), ea 14 (by omega), ea 40 (by omega), ea 41 (by omega)]
  have fR1 : ce18 1 = .inl (cy 4, 8, .inr (.inr (.inr (.inr (fun _ => none))))) := by rw [ec 1 (by omega), fR1]
  have fR40 : ce18 40 = .inl (cy 3, 2, .inr (.inr (.inr (.inr (fun _ => none))))) := by rw [ec 40 (by omega), fR40]
  have fF : ∀ k, (2 ≤ k ∧ k < 40) ∨ (41 ≤ k ∧ k < 58) → ce18 k = celK cy ad18 k := fun k hk => (ec k (by omega)).trans ((fF k hk).trans (celK_cg (N := 58) ((by decide +kernel : ∀ k, k < 100 → ((2 ≤ k ∧ k < 40) ∨ (41 ≤ k ∧ k < 58)) → upK k ≤ 58) k (by omega) hk) (fun k hk => ea k (by omega))).symm)
  rw [← ea 0 (by omega)] at hl
  have fF : ∀ k, (2 ≤ k ∧ k < 40) ∨ (41 ≤ k ∧ k < 60) → ce18 k = celK cy ad18 k := by
    intro k hk
    by_cases z : 58 ≤ k ∧ k < 60
    · exact en2 k z.1 (by omega)
    · exact fF k (by omega)
  rw [← ea 0 (by omega), ← ea 58 (by omega)]
  refine pF_ (k := 6) (T := TX7) (ty0 := tyX7) (ty := tyX7 6) C S hname (by omega) fO rfl ni_X7_init_X7 tyX7_ok nmX7 (by decide) mi_X7_init_26 rfl rfl (by decide +kernel) rfl rfl (Nat.le_of_ble_eq_true rfl) dX7_init_73 (fun ce19 H locs fO eo S => ?_)
  have fO : ce19 0 = .inr (7, [.ref (ad18 (1)), .ref (ad18 (2)), .ref (ad18 (9)), .ref (ad18 (14)), .ref (ad18 (40)), .ref (ad18 (41)), .ref (ad18 (58)), .int 0, .int 0]) := fO
  have fC : ∀ k, k < 0 → ce19 k = ce k := fun k hk => (eo k (by omega)).trans (fC k hk)
  have fR1 := (eo 1 (by omega)).trans fR1
  have fR40 := (eo 40 (by omega)).trans fR40
  have fF : ∀ k, (2 ≤ k ∧ k < 40) ∨ (41 ≤ k ∧ k < 60) → ce19 k = celK cy ad18 k := fun k hk => (eo k (by omega)).trans (fF k hk)
  refine lv_aload_n hx hb dX7_init_76 rfl (lv_at hl 0 rfl) ?_
  refine lv_iconst (v := 0) hx hb dX7_init_77 (by decide) ?_
  refine pI_ (k := 7) (T := TX7) (ty0 := tyX7) (ty := .int) C S (by omega) fO rfl ni_X7_init_X7 tyX7_ok nmX7 (by decide) mi_X7_init_27 rfl (by decide +kernel) rfl rfl (Nat.le_of_ble_eq_true rfl) dX7_init_78 (fun ce20 H locs fO eo S => ?_)
  have fO : ce20 0 = .inr (7, [.ref (ad18 (1)), .ref (ad18 (2)), .ref (ad18 (9)), .ref (ad18 (14)), .ref (ad18 (40)), .ref (ad18 (41)), .ref (ad18 (58)), .int 0, .int 0]) := fO
  have fC : ∀ k, k < 0 → ce20 k = ce k := fun k hk => (eo k (by omega)).trans (fC k hk)
  have fR1 := (eo 1 (by omega)).trans fR1
  have fR40 := (eo 40 (by omega)).trans fR40
  have fF : ∀ k, (2 ≤ k ∧ k < 40) ∨ (41 ≤ k ∧ k < 60) → ce20 k = celK cy ad18 k := fun k hk => (eo k (by omega)).trans (fF k hk)
  refine lv_aload_n hx hb dX7_init_81 rfl (lv_at hl 0 rfl) ?_
  refine lv_iconst (v := 0) hx hb dX7_init_82 (by decide) ?_
  refine pI_ (k := 8) (T := TX7) (ty0 := tyX7) (ty := .int) C S (by omega) fO rfl ni_X7_init_X7 tyX7_ok nmX7 (by decide) mi_X7_init_28 rfl (by decide +kernel) rfl rfl (Nat.le_of_ble_eq_true rfl) dX7_init_83 (fun ce21 H locs fO eo S => ?_)
  have fO : ce21 0 = .inr (7, [.ref (ad18 (1)), .ref (ad18 (2)), .ref (ad18 (9)), .ref (ad18 (14)), .ref (ad18 (40)), .ref (ad18 (41)), .ref (ad18 (58)), .int 0, .int 0]) := fO
  have fC : ∀ k, k < 0 → ce21 k = ce k := fun k hk => (eo k (by omega)).trans (fC k hk)
  have fR1 := (eo 1 (by omega)).trans fR1
  have fR40 := (eo 40 (by omega)).trans fR40
  have fF : ∀ k, (2 ≤ k ∧ k < 40) ∨ (41 ≤ k ∧ k < 60) → ce21 k = celK cy ad18 k := fun k hk => (eo k (by omega)).trans (fF k hk)
  refine lv_iconst (v := 0) hx hb dX7_init_86 (by decide) ?_
  refine lv_istore_n (lv' := [(1, .int 0), (0, .ref (ad18 0))]) hx hb dX7_init_87 rfl hl (by decide) rfl (fun ls hl => ?_)
  have loop0 : ∀ (mm i : Nat) (adx0 : Nat → Nat) (cex0 : Nat → va_E) (H : Heap) (locs : List Loc) (ls : Array Slot), i + mm = 8 → (∀ k, k ≤ 0 → adx0 k = ad k) → (∀ k, k < 0 → cex0 k = ce k) → cex0 0 = .inr (7, [.ref (adx0 (1)), .ref (adx0 (2)), .ref (adx0 (9)), .ref (adx0 (14)), .ref (adx0 (40)), .ref (adx0 (41)), .ref (adx0 (58)), .int 0, .int 0]) → cex0 1 = .inl (cy 4, 8, .inr (.inr (.inr (.inr (fun x => if x < i then some (adx0 (60 + 2 * x)) else none))))) → cex0 40 = .inl (cy 3, 2, .inr (.inr (.inr (.inr (fun _ => none))))) → (∀ k, (2 ≤ k ∧ k < 40) ∨ (41 ≤ k ∧ k < 60) ∨ (60 ≤ k ∧ k < 60 + 2 * i) → cex0 k = celK cy adx0 k) → SK dC dI s B0 (60 + 2 * i) adx0 cex0 H locs → lv_has ls 2 [(0, .ref (adx0 0)), (1, .int (nI i))] → W p l e (rmK 3 85 884) s m args below meth c H locs (59 + 2 * i) (458 + 44 * i) (QK dC dI cy B0 below args s 0 86 85 884 ad ce) (F0 m 88 ls []) := by
    intro mm
    induction mm with
    | zero =>
      intro i adx0 cex0 H locs ls hi fA fC fO fR fX40 fF S hl
      have hi : i = 8 := by omega
      subst hi
      refine lv_iload_n hx hb dX7_init_88 rfl (lv_at hl 1 rfl) ?_
      refine lv_bipush (v := 8) hx hb dX7_init_89 (by decide) ?_
      refine lv_icmp_ge (tgt := 113) hx hb dX7_init_91 (by decide) (fun c9 => ?_) (fun c9 => absurd ((nI_leI (a := 8) (by omega) (by omega)).mpr (by omega)) c9)
      have fF : ∀ k, (1 ≤ k ∧ k < 40) ∨ (41 ≤ k ∧ k < 76) → cex0 k = celK cy adx0 k := by
        intro k hk
        by_cases z : k = 1
        · rw [z]; exact fR.trans rfl
        · exact fF k (by omega)
      have fR40 := fX40
      have S : SK dC dI s B0 76 adx0 cex0 H locs := S
      refine lv_iconst (v := 0) hx hb dX7_init_113 (by decide) ?_
      refine lv_istore_n (lv' := [(1, .int 0), (0, .ref (adx0 0))]) hx hb dX7_init_114 rfl hl (by decide) rfl (fun ls hl => ?_)
      have loop1 : ∀ (mm i : Nat) (adx1 : Nat → Nat) (cex1 : Nat → va_E) (H : Heap) (locs : List Loc) (ls : Array Slot), i + mm = 2 → (∀ k, k ≤ 0 → adx1 k = ad k) → (∀ k, k < 0 → cex1 k = ce k) → cex1 0 = .inr (7, [.ref (adx1 (1)), .ref (adx1 (2)), .ref (adx1 (9)), .ref (adx1 (14)), .ref (adx1 (40)), .ref (adx1 (41)), .ref (adx1 (58)), .int 0, .int 0]) → cex1 40 = .inl (cy 3, 2, .inr (.inr (.inr (.inr (fun x => if x < i then some (adx1 (76 + 5 * x)) else none))))) → (∀ k, (1 ≤ k ∧ k < 40) ∨ (41 ≤ k ∧ k < 76) ∨ (76 ≤ k ∧ k < 76 + 5 * i) → cex1 k = celK cy adx1 k) → SK dC dI s B0 (76 + 5 * i) adx1 cex1 H locs → lv_has ls 2 [(0, .ref (adx1 0)), (1, .int (nI i))] → W p l e (rmK 3 85 884) s m args below meth c H locs (75 + 5 * i) (810 + 37 * i) (QK dC dI cy B0 below args s 0 86 85 884 ad ce) (F0 m 115 ls []) := by
        intro mm
        induction mm with
        | zero =>
          intro i adx1 cex1 H locs ls hi fA fC fO fR fF S hl
          have hi : i = 2 := by omega
          subst hi
          refine lv_iload_n hx hb dX7_init_115 rfl (lv_at hl 1 rfl) ?_
          refine lv_iconst (v := 2) hx hb dX7_init_116 (by decide) ?_
          refine lv_icmp_ge (tgt := 139) hx hb dX7_init_117 (by decide) (fun c9 => ?_) (fun c9 => absurd ((nI_leI (a := 2) (by omega) (by omega)).mpr (by omega)) c9)
          refine W.widen (k := 85) (n := 884) (Nat.le_of_ble_eq_true rfl) (Nat.le_of_ble_eq_true rfl) ?_
          have S : SK dC dI s B0 (0 + 86) adx1 cex1 H locs := S
          refine rK_ C S hret hlk ⟨fA, fC, fun k h1 h2 => ?_⟩ dX7_init_139
          by_cases z : k = 0
          · rw [z]; exact fO.trans rfl
          · by_cases z2 : k = 40
            · rw [z2]; exact fR.trans rfl
            · exact fF k (by omega)
        | succ mm ih =>
          intro i adx1 cex1 H locs ls hi fA fC fO fR fF S hl
          refine lv_iload_n hx hb dX7_init_115 rfl (lv_at hl 1 rfl) ?_
          refine lv_iconst (v := 2) hx hb dX7_init_116 (by decide) ?_
          refine lv_icmp_ge (tgt := 139) hx hb dX7_init_117 (by decide) (fun c9 => absurd ((nI_leI (a := 2) (by omega) (by omega)).mp c9) (by omega)) (fun c9 => ?_)
          refine lv_aload_n hx hb dX7_init_120 rfl (lv_at hl 0 rfl) ?_
          refine gF_ (k := 4) (T := TX7) (v := .ref (adx1 40)) C S (by omega) fO rfl ni_X7_init_X7 (by decide) mi_X7_init_18 rfl dX7_init_121 ?_
          refine lv_iload_n hx hb dX7_init_124 rfl (lv_at hl 1 rfl) ?_
          refine nO_ (T := TX3) (ty := tyX3) (fs := [.null, .null, .null, .null, .int 0, .int 0, .int 0, .int 0, .int 0]) C S (ci := 3) rfl ni_X7_init_X3 tyX3_ok mi_X7_init_10 mi_X7_init_11 mi_X7_init_12 df_X3 (by show 75 + 5 * i + 1 ≤ 85; omega) (by show 810 + 37 * i + 9 ≤ 884; omega) dX7_init_125 (fun ad1 ce1 H ea ec en S => ?_)
          have EA1 : ∀ k, k < 76 + 5 * i → ad1 k = adx1 k := ea
          have EC1 : ∀ k, k < 76 + 5 * i → ce1 k = cex1 k := ec
          rw [← EA1 40 (by omega)]
          rw [← EA1 0 (by omega)] at hl
          refine lv_dup hx hb dX7_init_128 rfl ?_
          have hly := ly_imgs i (by omega)
          refine cN_ C S hl.1 (mk_X3 hly en) ⟨va_cnB 0 hts gX7_init_X3_init_n24 rfl rfl rfl (C.2.2.1 (RX7, 24, yX3_init, "ClawCase") (by decide +kernel)) (hts _ mi_X7_init_12) (by decide +kernel) ⟨Nat.le_of_ble_eq_true rfl, Nat.le_of_ble_eq_true rfl⟩, rfl, hts _ mi_X7_init_44⟩ (Nat.le_of_ble_eq_true rfl) (by show 75 + 5 * i + 1 + 4 ≤ 85; omega) (by show 810 + 37 * i + 9 + 28 ≤ 884; omega) dX7_init_129 (fun ad2 ce2 H locs ea ec en2 S => ?_)
          have EA : ∀ k, k < 76 + 5 * i → ad2 k = adx1 k := fun k hk => (ea k (by omega)).trans (EA1 k hk)
          have EC : ∀ k, k < 76 + 5 * i → ce2 k = cex1 k := fun k hk => (ec k hk).trans (EC1 k hk)
          rw [← ea 40 (by omega), ← ea (76 + 5 * i) (by omega)]
          rw [← ea 0 (by omega)] at hl
          have hv : ce2 (76 + 5 * i) = .inr (3, [.ref (ad2 (76 + 5 * i + 1)), .ref (ad2 (76 + 5 * i + 2)), .ref (ad2 (76 + 5 * i + 3)), .ref (ad2 (76 + 5 * i + 4)), .int 0, .int 0, .int 0, .int 0, .int 0]) := (en2 _ (by omega) (by omega)).trans (by unfold celK; rw [hly]; rfl)
          refine aQ_ (r := 40) (t0 := 3) (x := 76 + 5 * i) C S (by omega) (by omega) ((EC 40 (by omega)).trans fR) rfl hv rfl (vlit i (by omega) (by omega)) dX7_init_132 (fun ce3 H locs fR3 eo S => ?_)
          have fA : ∀ k, k ≤ 0 → ad2 k = ad k := fun k hk => (EA k (by omega)).trans (fA k hk)
          have fC : ∀ k, k < 0 → ce3 k = ce k := fun k hk => (eo k (by omega)).trans ((EC k (by omega)).trans (fC k hk))
          have fO : ce3 0 = .inr (7, [.ref (ad2 (1)), .ref (ad2 (2)), .ref (ad2 (9)), .ref (ad2 (14)), .ref (ad2 (40)), .ref (ad2 (41)), .ref (ad2 (58)), .int 0, .int 0]) := by rw [eo 0 (by omega), EC 0 (by omega), fO, EA 1 (by omega), EA 2 (by omega), EA 9 (by omega), EA 14 (by omega), EA 40 (by omega), EA 41 (by omega), EA 58 (by omega)]
          have fR : ce3 40 = .inl (cy 3, 2, .inr (.inr (.inr (.inr (fun x => if x < i + 1 then some (ad2 (76 + 5 * x)) else none))))) := by
            rw [fR3, cl (by omega)]
            have q9 : va_up (fun x => if x < i then some (adx1 (76 + 5 * x)) else none) i (some (ad2 (76 + 5 * i))) = (fun x => if x < i + 1 then some (ad2 (76 + 5 * x)) else none) := by
              funext x
              by_cases z : x = i
              · subst z; rw [up_eq, if_pos (by omega)]
              · rw [up_ne z]
                by_cases y : x < i
                · rw [if_pos y, if_pos (by omega), EA (76 + 5 * x) (by omega)]
                · rw [if_neg y, if_neg (by omega)]
            rw [q9]
          have fF : ∀ k, (1 ≤ k ∧ k < 40) ∨ (41 ≤ k ∧ k < 76) ∨ (76 ≤ k ∧ k < 76 + 5 * (i + 1)) → ce3 k = celK cy ad2 k := by
            intro k hk
            by_cases z : 76 + 5 * i ≤ k
            · exact (eo k (by omega)).trans (en2 k z (by omega))
            · exact (eo k (by omega)).trans ((EC k (by omega)).trans ((fF k (by omega)).trans (celK_cg (N := 76 + 5 * i) ((by decide +kernel : ∀ i, i < 2 → ∀ k, k < 100 → ((1 ≤ k ∧ k < 40) ∨ (41 ≤ k ∧ k < 76) ∨ (76 ≤ k ∧ k < 76 + 5 * i)) → upK k ≤ 76 + 5 * i) i (by omega) k (by omega) (by omega)) EA).symm))
          obtain ⟨x9, ex9⟩ : ∃ y : Int32, y = nI i + 1 := ⟨_, rfl⟩
          refine lv_iinc (v := x9) (lv' := [(1, .int x9), (0, .ref (ad2 0))]) hx hb dX7_init_133 hl (k := 1) rfl (by rw [ex9]; rfl) (by decide) rfl (fun ls hl => ?_)
          rw [nI_1] at ex9
          subst ex9
          refine lv_goto (tgt := 115) hx hb dX7_init_136 (by decide) ?_
          refine W.widen (k := 75 + 5 * (i + 1)) (n := 810 + 37 * (i + 1)) (by omega) (by omega) ?_
          have S : SK dC dI s B0 (76 + 5 * (i + 1)) ad2 ce3 H locs := by rw [show 76 + 5 * (i + 1) = 76 + 5 * i + 5 by omega]; exact S
          exact ih (i + 1) ad2 ce3 H locs ls (by omega) fA fC fO fR  fF S (lv_sub hl [1, 0] rfl)
      have fR0 : cex0 40 = .inl (cy 3, 2, .inr (.inr (.inr (.inr (fun x => if x < 0 then some (adx0 (76 + 5 * x)) else none))))) := fR40.trans (by
        have q9 : (fun x => if x < 0 then some (adx0 (76 + 5 * x)) else none) = (fun _ => none) := by funext x; rw [if_neg (by omega)]
        rw [q9])
      refine W.widen (k := 75 + 5 * 0) (n := 810 + 37 * 0) (Nat.le_of_ble_eq_true rfl) (Nat.le_of_ble_eq_true rfl) ?_
      exact loop1 2 0 adx0 cex0 _ _ ls (by omega) fA fC fO fR0  (fun k hk => fF k (by omega)) S (lv_sub hl [1, 0] rfl)
    | succ mm ih =>
      intro i adx0 cex0 H locs ls hi fA fC fO fR fX40 fF S hl
      refine lv_iload_n hx hb dX7_init_88 rfl (lv_at hl 1 rfl) ?_
      refine lv_bipush (v := 8) hx hb dX7_init_89 (by decide) ?_
      refine lv_icmp_ge (tgt := 113) hx hb dX7_init_91 (by decide) (fun c9 => absurd ((nI_leI (a := 8) (by omega) (by omega)).mp c9) (by omega)) (fun c9 => ?_)
      refine lv_aload_n hx hb dX7_init_94 rfl (lv_at hl 0 rfl) ?_
      refine gF_ (k := 0) (T := TX7) (v := .ref (adx0 1)) C S (by omega) fO rfl ni_X7_init_X7 (by decide) mi_X7_init_5 rfl dX7_init_95 ?_
      refine lv_iload_n hx hb dX7_init_98 rfl (lv_at hl 1 rfl) ?_
      refine nO_ (T := TX6) (ty := tyX6) (fs := [.null, .int 0, .int 0, .int 0]) C S (ci := 6) rfl ni_X7_init_X6 tyX6_ok mi_X7_init_4 mi_X7_init_29 mi_X7_init_30 df_X6 (by show 59 + 2 * i + 1 ≤ 85; omega) (by show 458 + 44 * i + 4 ≤ 884; omega) dX7_init_99 (fun ad1 ce1 H ea ec en S => ?_)
      have EA1 : ∀ k, k < 60 + 2 * i → ad1 k = adx0 k := ea
      have EC1 : ∀ k, k < 60 + 2 * i → ce1 k = cex0 k := ec
      rw [← EA1 1 (by omega)]
      rw [← EA1 0 (by omega)] at hl
      refine lv_dup hx hb dX7_init_102 rfl ?_
      have hly := ly_rows i (by omega)
      refine cN_ C S hl.1 (mk_X6 hly en) ⟨va_cnB 0 hts gX7_init_X6_init_n61 rfl rfl rfl (C.2.2.1 (RX7, 61, yX6_init, "ClawCase") (by decide +kernel)) (hts _ mi_X7_init_30) (by decide +kernel) ⟨Nat.le_of_ble_eq_true rfl, Nat.le_of_ble_eq_true rfl⟩, rfl, hts _ mi_X7_init_93⟩ (Nat.le_of_ble_eq_true rfl) (by show 59 + 2 * i + 1 + 1 ≤ 85; omega) (by show 458 + 44 * i + 4 + 40 ≤ 884; omega) dX7_init_103 (fun ad2 ce2 H locs ea ec en2 S => ?_)
      have EA : ∀ k, k < 60 + 2 * i → ad2 k = adx0 k := fun k hk => (ea k (by omega)).trans (EA1 k hk)
      have EC : ∀ k, k < 60 + 2 * i → ce2 k = cex0 k := fun k hk => (ec k hk).trans (EC1 k hk)
      rw [← ea 1 (by omega), ← ea (60 + 2 * i) (by omega)]
      rw [← ea 0 (by omega)] at hl
      have hv : ce2 (60 + 2 * i) = .inr (6, [.ref (ad2 (60 + 2 * i + 1)), .int 1, .int 0, .int 0]) := (en2 _ (by omega) (by omega)).trans (by unfold celK; rw [hly]; rfl)
      refine aQ_ (r := 1) (t0 := 4) (x := 60 + 2 * i) C S (by omega) (by omega) ((EC 1 (by omega)).trans fR) rfl hv rfl (vlit i (by omega) (by omega)) dX7_init_106 (fun ce3 H locs fR3 eo S => ?_)
      have fA : ∀ k, k ≤ 0 → ad2 k = ad k := fun k hk => (EA k (by omega)).trans (fA k hk)
      have fC : ∀ k, k < 0 → ce3 k = ce k := fun k hk => (eo k (by omega)).trans ((EC k (by omega)).trans (fC k hk))
      have fO : ce3 0 = .inr (7, [.ref (ad2 (1)), .ref (ad2 (2)), .ref (ad2 (9)), .ref (ad2 (14)), .ref (ad2 (40)), .ref (ad2 (41)), .ref (ad2 (58)), .int 0, .int 0]) := by rw [eo 0 (by omega), EC 0 (by omega), fO, EA 1 (by omega), EA 2 (by omega), EA 9 (by omega), EA 14 (by omega), EA 40 (by omega), EA 41 (by omega), EA 58 (by omega)]
      have fR : ce3 1 = .inl (cy 4, 8, .inr (.inr (.inr (.inr (fun x => if x < i + 1 then some (ad2 (60 + 2 * x)) else none))))) := by
        rw [fR3, cl (by omega)]
        have q9 : va_up (fun x => if x < i then some (adx0 (60 + 2 * x)) else none) i (some (ad2 (60 + 2 * i))) = (fun x => if x < i + 1 then some (ad2 (60 + 2 * x)) else none) := by
          funext x
          by_cases z : x = i
          · subst z; rw [up_eq, if_pos (by omega)]
          · rw [up_ne z]
            by_cases y : x < i
            · rw [if_pos y, if_pos (by omega), EA (60 + 2 * x) (by omega)]
            · rw [if_neg y, if_neg (by omega)]
        rw [q9]
      have fX40 := (eo 40 (by omega)).trans ((EC 40 (by omega)).trans fX40)
      have fF : ∀ k, (2 ≤ k ∧ k < 40) ∨ (41 ≤ k ∧ k < 60) ∨ (60 ≤ k ∧ k < 60 + 2 * (i + 1)) → ce3 k = celK cy ad2 k := by
        intro k hk
        by_cases z : 60 + 2 * i ≤ k
        · exact (eo k (by omega)).trans (en2 k z (by omega))
        · exact (eo k (by omega)).trans ((EC k (by omega)).trans ((fF k (by omega)).trans (celK_cg (N := 60 + 2 * i) ((by decide +kernel : ∀ i, i < 8 → ∀ k, k < 100 → ((2 ≤ k ∧ k < 40) ∨ (41 ≤ k ∧ k < 60) ∨ (60 ≤ k ∧ k < 60 + 2 * i)) → upK k ≤ 60 + 2 * i) i (by omega) k (by omega) (by omega)) EA).symm))
      obtain ⟨x9, ex9⟩ : ∃ y : Int32, y = nI i + 1 := ⟨_, rfl⟩
      refine lv_iinc (v := x9) (lv' := [(1, .int x9), (0, .ref (ad2 0))]) hx hb dX7_init_107 hl (k := 1) rfl (by rw [ex9]; rfl) (by decide) rfl (fun ls hl => ?_)
      rw [nI_1] at ex9
      subst ex9
      refine lv_goto (tgt := 88) hx hb dX7_init_110 (by decide) ?_
      refine W.widen (k := 59 + 2 * (i + 1)) (n := 458 + 44 * (i + 1)) (by omega) (by omega) ?_
      have S : SK dC dI s B0 (60 + 2 * (i + 1)) ad2 ce3 H locs := by rw [show 60 + 2 * (i + 1) = 60 + 2 * i + 2 by omega]; exact S
      exact ih (i + 1) ad2 ce3 H locs ls (by omega) fA fC fO fR fX40 fF S (lv_sub hl [1, 0] rfl)
  have fR0 : ce21 1 = .inl (cy 4, 8, .inr (.inr (.inr (.inr (fun x => if x < 0 then some (ad18 (60 + 2 * x)) else none))))) := fR1.trans (by
    have q9 : (fun x => if x < 0 then some (ad18 (60 + 2 * x)) else none) = (fun _ => none) := by funext x; rw [if_neg (by omega)]
    rw [q9])
  refine W.widen (k := 59 + 2 * 0) (n := 458 + 44 * 0) (Nat.le_of_ble_eq_true rfl) (Nat.le_of_ble_eq_true rfl) ?_
  exact loop0 8 0 ad18 ce21 _ _ ls (by omega) fA fC fO fR0 fR40 (fun k hk => fF k (by omega)) S (lv_sub hl [1, 0] rfl)
