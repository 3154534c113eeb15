/-! ROWS: set, drop, copy -/
theorem le_i (x y : Int32) : x ≤ y ↔ x.toInt ≤ y.toInt := Int32.le_iff_toInt_le
theorem lt_i (x y : Int32) : x < y ↔ x.toInt < y.toInt := Int32.lt_iff_toInt_lt
theorem nIi {n : Nat} (h : n < 2147483648) : (nI n).toInt = (n : Int) := nI_toInt h
abbrev spn (n : Nat) (x1 x2 : Int32) : Prop := 0 ≤ x1.toInt ∧ 0 ≤ x2.toInt ∧ x1.toInt + x2.toInt ≤ (n : Int)
theorem s6_spans {Q : Int32 → Mm → Prop} {g : Mm} {j n : Nat} (hn : n ≤ 40) (hs : g.1 j 3 = nI n) {x1 x2 : Int32} (h : Q (bI (spn n x1 x2)) g) : o_X6_spans Q j g x1 x2 := by
  have z0 : (0 : Int32).toInt = 0 := rfl
  refine ⟨fun c => ?_, fun c => s7_within (bI_br (fun d => ?_) (fun d => ?_))⟩
  · rw [lt_i, z0] at c
    rw [bI_f (fun q => by have := q.1; omega)] at h; exact h
  · rw [hs, le_i, le_i, nIi (by omega), z0] at d
    rw [bI_f (fun q => d ⟨q.2.1, by have := q.1; have := q.2.2; omega⟩)] at h; exact h
  · rw [hs, le_i, le_i, nIi (by omega), z0] at d
    rw [lt_i, z0] at c
    have e : (nI n - x2).toInt = (n : Int) - x2.toInt := by
      obtain ⟨m, hm, rfl⟩ : ∃ m : Nat, m ≤ n ∧ x2 = nI m := nI_of2 (M := nI n) (nIi (by omega)) (by rw [lt_i, z0]; omega) (by rw [le_i, nIi (by omega)]; exact d.2)
      rw [pk_sub_toInt (by omega) (by omega), nIi (by omega)]
    refine ⟨fun f => ?_, fun f => ?_⟩
    · rw [hs, lt_i, e] at f
      rw [bI_f (fun q => by have := q.2.2; omega)] at h; exact h
    · rw [hs, lt_i, e] at f
      rw [bI_t ⟨by omega, d.1, by omega⟩] at h; exact h
theorem sh24 (x : Int32) : (x <<< ((24 : Int32) &&& 31)) >>> ((24 : Int32) &&& 31) = x.toInt8.toInt32 := by
  apply Int32.toInt_inj.mp
  rw [pk_shr _ _ 24 (by decide), Int.shiftRight_eq_div_pow, Int8.toInt_toInt32, Int32.toInt_toInt8]
  have h1 := pk_shl x ((24 : Int32) &&& 31) 24 (by decide)
  have h2 : (x <<< ((24 : Int32) &&& 31)).toInt = (x <<< ((24 : Int32) &&& 31)).toBitVec.toInt := rfl
  have h3 : x.toInt = x.toBitVec.toInt := rfl
  rw [h2, h3, BitVec.toInt_eq_toNat_cond, BitVec.toInt_eq_toNat_cond, h1]
  have h4 := x.toBitVec.isLt
  generalize x.toBitVec.toNat = a at *
  simp only [Int.bmod]
  split <;> split <;> split <;> omega
theorem sh16 (x : Int32) : (x <<< ((16 : Int32) &&& 31)) >>> ((16 : Int32) &&& 31) = x.toInt16.toInt32 := by
  apply Int32.toInt_inj.mp
  rw [pk_shr _ _ 16 (by decide), Int.shiftRight_eq_div_pow, Int16.toInt_toInt32, Int32.toInt_toInt16]
  have h1 := pk_shl x ((16 : Int32) &&& 31) 16 (by decide)
  have h2 : (x <<< ((16 : Int32) &&& 31)).toInt = (x <<< ((16 : Int32) &&& 31)).toBitVec.toInt := rfl
  have h3 : x.toInt = x.toBitVec.toInt := rfl
  rw [h2, h3, BitVec.toInt_eq_toNat_cond, BitVec.toInt_eq_toNat_cond, h1]
  have h4 := x.toBitVec.isLt
  generalize x.toBitVec.toNat = a at *
  simp only [Int.bmod]
  split <;> split <;> split <;> omega
/-- both see the same of a row -/
theorem row_br {g : Mm} {r : Nat} (hq : (g.1 93 r = 1 ∧ g.1 (60 + 2 * r) 1 = 0) ∨ (g.1 93 r = 0 ∧ g.1 (60 + 2 * r) 1 = 1)) : (g.1 93 r = 0 ↔ ¬ g.1 (60 + 2 * r) 1 = 0) := by
  rcases hq with ⟨a, b⟩ | ⟨a, b⟩ <;> rw [a, b] <;> decide
def Titem (j k : Nat) : Prop := (j = 0 ∧ k = 8) ∨ (j = 86 ∧ k = 5) ∨ (60 ≤ j ∧ j < 76) ∨ (91 ≤ j ∧ j ≤ 95)
theorem cmd_set {g : Mm} (hR : Rel g) (x1 x2 x3 : Int32) : o_X7_set (fun r g1 => o_X8_set (fun r2 g2 => r = r2 ∧ Rel g2) g1 x1 x2 x3) g x1 x2 x3 := by
  refine s7_isRow (bI_rb (fun c1 => ?_) (fun c1 => ?_))
  · exact s8_isRow (bI_rb (fun _ => ⟨rfl, hR⟩) (fun q => absurd q c1))
  obtain ⟨r, hr, rfl⟩ := in_of 7 rfl c1
  have hv : vp_in (nI r) 8 := vin r rfl (by omega) (by omega)
  obtain ⟨h1, h2, h3, ⟨n, hn, h4⟩, h5⟩ := hR.1 r (by omega)
  have h6 := row_br h1
  have k : ∀ (P : Int32 → Mm → Prop) (g1 : Mm), g1.1 93 r = g.1 93 r → ((g.1 93 r = 0 → o_X8_found P g1 1) ∧ (¬ g.1 93 r = 0 → vp_in (nI r) 8 ∧ o_X8_in (fun (r_4 : Int32) (g_3 : Mm) => ((¬ r_4 = 0) → vp_in (nI r) 8 ∧ (((¬ (g_3.1 91 (nI r).toNatClampNeg) = 0) → vp_in (nI r) 8 ∧ (((¬ (g_3.1 91 (nI r).toNatClampNeg) = 1) → o_X8_set_89 P g_3 (nI r) x2 x3) ∧ (((g_3.1 91 (nI r).toNatClampNeg) = 1) → o_X8_set_89 P g_3 (nI r) x2 ((x3 <<< (16 &&& 31)) >>> (16 &&& 31))))) ∧ (((g_3.1 91 (nI r).toNatClampNeg) = 0) → o_X8_set_89 P g_3 (nI r) x2 ((x3 <<< (24 &&& 31)) >>> (24 &&& 31))))) ∧ ((r_4 = 0) → o_X8_found (fun (r_9 : Int32) (g_8 : Mm) => P r_9 g_8) g_3 2)) g1 ((x2 : Int32).toInt64) 0 (((g1.1 92 (nI r).toNatClampNeg) - 1 : Int32).toInt64))) → o_X8_set P g1 (nI r) x2 x3 := by
    intro P g1 e93 hh
    refine s8_isRow (bI_rb (fun q => absurd c1 q) (fun _ => ⟨hv, ?_⟩))
    rw [cl (by omega), e93]
    refine ⟨fun q => ?_, fun q => hh.1 q⟩
    have := hh.2 q
    rw [cl (by omega)] at this
    exact this
  refine ⟨hv, ?_⟩
  rw [cl (by omega)]
  refine ⟨fun c2 => s6_spans hn h4 (bI_rb (fun c3 => ?_) (fun c3 => ?_)), fun c2 => ?_⟩
  · refine s7_found (k _ _ (by simp [mset_at]) ⟨fun q => absurd c2 (h6.mp q), fun _ => ⟨hv, ?_⟩⟩)
    have e92 : (mset g 0 8 2).1 92 (nI r).toNatClampNeg = nI n := by rw [cl (by omega)]; simp [mset_at]; rw [h3, h4]
    rw [e92]
    refine s8_in 0 (nI n - 1) rfl rfl (bI_rb (fun _ => s8_found ⟨rfl, hR.find 2⟩) (fun q => absurd ?_ c3))
    have e : (nI n - 1).toInt = (n : Int) - 1 := pk_sub_toInt (b := 1) (by omega) (by omega)
    rw [le_i, le_i, e] at q
    have z0 : (0 : Int32).toInt = 0 := rfl
    have z1 : (1 : Int32).toInt = 1 := rfl
    rw [z0] at q
    refine ⟨q.1, by decide, ?_⟩
    rw [z1]; omega
  · have z1 : (1 : Int32).toInt = 1 := rfl
    have z0 : (0 : Int32).toInt = 0 := rfl
    obtain ⟨i, hi, rfl⟩ : ∃ i : Nat, i < n ∧ x2 = nI i := by
      have := c3.2.2
      rw [z1] at this
      obtain ⟨i, hi, e⟩ : ∃ m : Nat, m ≤ n ∧ x2 = nI m := nI_of2 (M := nI n) (nIi (by omega)) (by rw [lt_i, z0]; have := c3.1; omega) (by rw [le_i, nIi (by omega)]; omega)
      subst e
      rw [nIi (by omega)] at this
      exact ⟨i, by omega, rfl⟩
    have hv2 : vp_in (nI i) 40 := vin i rfl (by omega) (by omega)
    have key : ∀ w : Int32, (((g.1 (60 + 2 * r) 2 = 0 → w = x3.toInt8.toInt32) ∧ (g.1 (60 + 2 * r) 2 = 1 → w = x3.toInt16.toInt32) ∧ ((¬ g.1 (60 + 2 * r) 2 = 0 ∧ ¬ g.1 (60 + 2 * r) 2 = 1) → w = x3))) → vp_in (nI i) 40 ∧ ∀ g8 : Mm, g8 = mset g (60 + 2 * r + 1) (nI i).toNatClampNeg w → vp_in (nI i) 40 ∧ o_X7_fine (fun ra ga => o_X8_set (fun r2 g2 => ra = r2 ∧ Rel g2) ga (nI r) (nI i) x3) g8 (g8.1 (60 + 2 * r + 1) (nI i).toNatClampNeg) := by
      intro w hw
      refine ⟨hv2, fun g8 e8 => ⟨hv2, ?_⟩⟩
      rw [cl (by omega)] at e8 ⊢
      subst e8
      rw [mset_at, if_pos ⟨rfl, rfl⟩]
      refine s7_fine (k _ _ (by simp [mset_at]; omega) ⟨fun q => absurd c2 (h6.mp q), fun _ => ⟨hv, ?_⟩⟩)
      have e92 : (mset (mset g (60 + 2 * r + 1) i w) 0 8 0).1 92 (nI r).toNatClampNeg = nI n := by rw [cl (by omega), mset_at, if_neg (by omega), mset_at, if_neg (by omega), h3, h4]
      have e91 : (mset (mset g (60 + 2 * r + 1) i w) 0 8 0).1 91 (nI r).toNatClampNeg = g.1 (60 + 2 * r) 2 := by rw [cl (by omega), mset_at, if_neg (by omega), mset_at, if_neg (by omega), h2]
      rw [e92]
      have ee : (nI n - 1).toInt = (n : Int) - 1 := pk_sub_toInt (b := 1) (by omega) (by omega)
      refine s8_in 0 (nI n - 1) rfl rfl (bI_rb (fun q => absurd ?_ q) (fun _ => ⟨hv, ?_⟩))
      · rw [le_i, le_i, ee, z0, nIi (by omega)]; omega
      have fin : o_X8_set_89 (fun r2 g2 => w = r2 ∧ Rel g2) (mset (mset g (60 + 2 * r + 1) i w) 0 8 0) (nI r) (nI i) w := by
        have e : (40 : Int32) * nI r + nI i = nI (40 * r + i) := by rw [show (40 : Int32) = nI 40 from rfl, pk_mul, nI_add]
        refine ⟨vin (40 * r + i) e (by omega) (by omega), ?_⟩
        rw [e, cl (by omega)]
        intro g5 e5
        subst e5
        refine s8_well ⟨rfl, ?_⟩
        have hf : Fr Titem g (mset (mset (mset (mset g (60 + 2 * r + 1) i w) 0 8 0) 94 (40 * r + i) w) 86 5 0) := by
          refine Fr.set (Fr.set (Fr.set (Fr.set Fr.rfl ?_) ?_) ?_) ?_ <;> unfold Titem <;> omega
        refine ⟨fun q hq => ?_, hR.2.1.fr hf (by intro j k ht; unfold Titem at ht; omega), hR.2.2.1.fr hf (by intro j k ht; unfold Titem at ht; omega), ?_, hR.2.2.2.2.1.fr hf (by intro j k ht; unfold Titem at ht; omega), hR.2.2.2.2.2.1.fr hf (by intro j k ht; unfold Titem at ht; omega), hR.2.2.2.2.2.2.fr hf (by intro j k ht; unfold Titem at ht; omega)⟩
        · have hq1 := hR.1 q hq
          have b : ∀ j k, (91 ≤ j ∧ j ≤ 93) ∨ (j = 60 + 2 * q) → (mset (mset (mset (mset g (60 + 2 * r + 1) i w) 0 8 0) 94 (40 * r + i) w) 86 5 0).1 j k = g.1 j k := by
            intro j k w
            rw [mset_at, if_neg (by omega), mset_at, if_neg (by omega), mset_at, if_neg (by omega), mset_at, if_neg (by omega)]
          rw [b 93 q (by omega), b 91 q (by omega), b 92 q (by omega), b (60 + 2 * q) 1 (by omega), b (60 + 2 * q) 2 (by omega), b (60 + 2 * q) 3 (by omega)]
          refine ⟨hq1.1, hq1.2.1, hq1.2.2.1, hq1.2.2.2.1, fun p hp => ?_⟩
          by_cases hz : q = r ∧ p = i
          · rw [hz.1, hz.2]
            simp [mset_at]; omega
          · rw [mset_at, if_neg (by omega), mset_at, if_neg (by omega), mset_at, if_neg (by omega), mset_at, if_neg (by omega)]
            rw [mset_at, if_neg (by omega), mset_at, if_neg (by omega), mset_at, if_neg (by omega), mset_at, if_neg (by omega)]
            exact hq1.2.2.2.2 p hp
        · show (mset _ 86 5 0).1 86 5 = (mset _ 86 5 0).1 0 8
          simp [mset_at]
      rw [e91]
      refine ⟨fun d1 => ⟨hv, fun d2 => ?_, fun d2 => ?_⟩, fun d1 => ?_⟩
      · have := hw.2.2 ⟨d1, d2⟩; rw [this] at fin; rw [this]; exact fin
      · have := hw.2.1 d2; rw [sh16, ← this]; exact fin
      · have := hw.1 d1; rw [sh24, ← this]; exact fin
    refine ⟨fun d => key _ ⟨fun _ => rfl, fun q => absurd (d.symm.trans q) (by decide), fun q => absurd d q.1⟩, fun d => key _ ⟨fun q => absurd (d.symm.trans q) (by decide), fun _ => rfl, fun q => absurd d q.2⟩, fun d => key _ ⟨fun q => absurd q d.1, fun q => absurd q d.2, fun _ => rfl⟩⟩
  · refine s7_found (k _ _ (by simp [mset_at]) ⟨fun q => s8_found ⟨rfl, hR.find 1⟩, fun q => absurd (h6.mpr c2) q⟩)
theorem cmd_drop {g : Mm} (hR : Rel g) (x1 : Int32) : o_X7_drop (fun r g1 => o_X8_drop (fun r2 g2 => r = r2 ∧ Rel g2) g1 x1) g x1 := by
  refine s7_isRow (bI_rb (fun c1 => ?_) (fun c1 => ?_))
  · exact s8_isRow (bI_rb (fun _ => ⟨rfl, hR⟩) (fun q => absurd q c1))
  obtain ⟨r, hr, rfl⟩ := in_of 7 rfl c1
  have hv : vp_in (nI r) 8 := vin r rfl (by omega) (by omega)
  obtain ⟨h1, h2, h3, ⟨n, hn, h4⟩, h5⟩ := hR.1 r (by omega)
  have h6 := row_br h1
  refine ⟨hv, ?_⟩
  rw [cl (by omega)]
  refine ⟨fun c2 => ⟨hv, fun g5 e5 => ⟨hv, s7_fine ?_⟩⟩, fun c2 => s7_found ?_⟩
  · subst e5
    refine s8_isRow (bI_rb (fun q => absurd c1 q) (fun _ => ⟨hv, ?_⟩))
    rw [cl (by omega)]
    have e93 : (mset (mset g (60 + 2 * r) 1 1) 0 8 0).1 93 r = g.1 93 r := by rw [mset_at, if_neg (by omega), mset_at, if_neg (by omega)]
    rw [e93]
    refine ⟨fun c3 => ⟨hv, fun g3 e3 => ⟨hv, s8_well ⟨?_, ?_⟩⟩⟩, fun c3 => absurd c2 (h6.mp c3)⟩
    · subst e3
      rw [mset_at, if_neg (by omega), mset_at, if_neg (by omega), mset_at, if_neg (by omega), mset_at, if_neg (by omega)]
      exact h3.symm
    · subst e3
      have hf : Fr Titem g (mset (mset (mset (mset g (60 + 2 * r) 1 1) 0 8 0) 93 r (vp_nar .boolean 0)) 86 5 0) := by
        refine Fr.set (Fr.set (Fr.set (Fr.set Fr.rfl ?_) ?_) ?_) ?_ <;> unfold Titem <;> omega
      refine ⟨fun q hq => ?_, hR.2.1.fr hf (by intro j k ht; unfold Titem at ht; omega), hR.2.2.1.fr hf (by intro j k ht; unfold Titem at ht; omega), ?_, hR.2.2.2.2.1.fr hf (by intro j k ht; unfold Titem at ht; omega), hR.2.2.2.2.2.1.fr hf (by intro j k ht; unfold Titem at ht; omega), hR.2.2.2.2.2.2.fr hf (by intro j k ht; unfold Titem at ht; omega)⟩
      · have hq1 := hR.1 q hq
        have b : ∀ j k, (91 ≤ j ∧ j ≤ 92) ∨ (j = 60 + 2 * q ∧ k ≠ 1) ∨ j = 60 + 2 * q + 1 ∨ j = 94 → (mset (mset (mset (mset g (60 + 2 * r) 1 1) 0 8 0) 93 r (vp_nar .boolean 0)) 86 5 0).1 j k = g.1 j k := by
          intro j k w
          rw [mset_at, if_neg (by omega), mset_at, if_neg (by omega), mset_at, if_neg (by omega), mset_at, if_neg (by omega)]
        rw [b 91 q (by omega), b 92 q (by omega), b (60 + 2 * q) 2 (by omega), b (60 + 2 * q) 3 (by omega)]
        refine ⟨?_, hq1.2.1, hq1.2.2.1, hq1.2.2.2.1, fun p hp => ?_⟩
        · by_cases z : q = r
          · subst z
            refine Or.inr ⟨?_, ?_⟩
            · rw [mset_at, if_neg (by omega), mset_at, if_pos ⟨rfl, rfl⟩]; rfl
            · rw [mset_at, if_neg (by omega), mset_at, if_neg (by omega), mset_at, if_neg (by omega), mset_at, if_pos ⟨rfl, rfl⟩]
          · rw [mset_at, if_neg (by omega), mset_at, if_neg (by omega), mset_at, if_neg (by omega), mset_at, if_neg (by omega), mset_at, if_neg (by omega), mset_at, if_neg (by omega), mset_at, if_neg (by omega), mset_at, if_neg (by omega)]
            exact hq1.1
        · rw [b 94 _ (by omega), b (60 + 2 * q + 1) p (by omega)]
          exact hq1.2.2.2.2 p hp
      · show (mset _ 86 5 0).1 86 5 = (mset _ 86 5 0).1 0 8
        simp [mset_at]
  · refine s8_isRow (bI_rb (fun q => absurd c1 q) (fun _ => ⟨hv, ?_⟩))
    rw [cl (by omega)]
    have e93 : (mset g 0 8 1).1 93 r = g.1 93 r := by rw [mset_at, if_neg (by omega)]
    rw [e93]
    exact ⟨fun c3 => absurd (h6.mpr c2) c3, fun _ => s8_found ⟨rfl, hR.find 1⟩⟩
