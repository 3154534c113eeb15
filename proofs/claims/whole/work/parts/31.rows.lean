/-! ROWS: row, set, copy, drop -/
theorem in_of {x : Int32} {M : Int32} (n : Nat) (hM : M.toInt = n) (h : 0 ≤ x ∧ x ≤ M) : ∃ k : Nat, k ≤ n ∧ x = nI k := nI_of2 hM (fun q => absurd q (Int32.not_lt.mpr h.1)) h.2
theorem cl {n : Nat} (h : n < 2147483648) : (nI n).toNatClampNeg = n := nI_clamp h
def Tfind (j k : Nat) : Prop := (j = 0 ∧ k = 8) ∨ (j = 86 ∧ k = 5)
theorem Rel.find {g : Mm} (hR : Rel g) (v : Int32) : Rel (mset (mset g 0 8 v) 86 5 v) := by
  have hf : Fr Tfind g (mset (mset g 0 8 v) 86 5 v) := (Fr.rfl.set (by unfold Tfind; omega)).set (by unfold Tfind; omega)
  exact ⟨hR.1.fr hf (by intro j k ht; unfold Tfind at ht; omega), hR.2.1.fr hf (by intro j k ht; unfold Tfind at ht; omega), hR.2.2.1.fr hf (by intro j k ht; unfold Tfind at ht; omega), (by show (mset (mset g 0 8 v) 86 5 v).1 86 5 = (mset (mset g 0 8 v) 86 5 v).1 0 8; simp [mset_at]), hR.2.2.2.2.1.fr hf (by intro j k ht; unfold Tfind at ht; omega), hR.2.2.2.2.2.1.fr hf (by intro j k ht; unfold Tfind at ht; omega), hR.2.2.2.2.2.2.fr hf (by intro j k ht; unfold Tfind at ht; omega)⟩
/-- a finding, told by both -/
theorem b_found {g : Mm} (hR : Rel g) (v : Int32) : o_X7_found (fun r g1 => o_X8_found (fun r2 g2 => r = r2 ∧ Rel g2) g1 v) g v := by
  intro g1 e1
  subst e1
  intro g2 e2
  subst e2
  exact ⟨rfl, hR.find v⟩
theorem s7_found {Q : Int32 → Mm → Prop} {g : Mm} {v : Int32} (h : Q (-1000010 - v) (mset g 0 8 v)) : o_X7_found Q g v := by intro g1 e; subst e; exact h
theorem s8_found {Q : Int32 → Mm → Prop} {g : Mm} {v : Int32} (h : Q (-1000010 - v) (mset g 86 5 v)) : o_X8_found Q g v := by intro g1 e; subst e; exact h
theorem s7_fine {Q : Int32 → Mm → Prop} {g : Mm} {v : Int32} (h : Q v (mset g 0 8 0)) : o_X7_fine Q g v := by intro g1 e; subst e; exact h
theorem s8_well {Q : Int32 → Mm → Prop} {g : Mm} {v : Int32} (h : Q v (mset g 86 5 0)) : o_X8_well Q g v := by intro g1 e; subst e; exact h
theorem s8_rowfill {Q : Int32 → Mm → Prop} {K : Mm → Int32 → Prop} {r : Nat} (hr : r < 8) {x3 : Int32} : ∀ (k i : Nat) (g : Mm), i + k = 40 → (∀ g', (∀ q, i ≤ q → q < 40 → g'.1 94 (40 * r + q) = 0) → Fr (fun j q => j = 94 ∧ 40 * r + i ≤ q ∧ q < 40 * r + 40) g g' → K g' x3) → o_X8_row_62 Q K (k + 1) g (nI r) x3 (nI i) := by
  intro k
  induction k with
  | zero =>
    intro i g hi h
    refine ⟨fun _ => h g (fun q h1 h2 => absurd h1 (by omega)) Fr.rfl, fun c => absurd (show nI 40 ≤ nI i from ?_) c⟩
    exact (nI_leI (by omega) (by omega)).mpr (by omega)
  | succ k ih =>
    intro i g hi h
    have e : (40 : Int32) * nI r + nI i = nI (40 * r + i) := by rw [show (40 : Int32) = nI 40 from rfl, pk_mul, nI_add]
    refine ⟨fun c => absurd ((nI_leI (a := 40) (b := i) (by omega) (by omega)).mp c) (by omega), fun _ => ⟨vin (40 * r + i) e (by omega) (by omega), ?_⟩⟩
    intro g1 eg x ex
    rw [e, cl (by omega)] at eg
    subst eg
    rw [nI_1] at ex
    subst ex
    refine ih (i + 1) _ (by omega) (fun g' h1 h2 => h g' (fun q q1 q2 => ?_) (Fr.trans (Fr.set Fr.rfl ⟨rfl, Nat.le_refl _, by omega⟩) (h2.mono (fun j q z => ⟨z.1, by omega, z.2.2⟩))))
    rcases Nat.lt_or_ge i q with z | z
    · exact h1 q z q2
    · have : q = i := by omega
      subst this
      rw [h2 94 (40 * r + q) (fun z => by omega), mset_at, if_pos ⟨rfl, rfl⟩]
theorem s_fill {Q : Mm → Prop} {a : Nat} {n : Nat} (hn : ln a = n) (hn2 : n < 1000) {v : Int32} : ∀ (k i : Nat) (g : Mm), i + k = n → (∀ g', (∀ q, i ≤ q → q < n → g'.1 a q = v) → Fr (fun j q => j = a ∧ i ≤ q) g g' → Q g') → o_J7_fill_53178_5 Q a (k + 1) g v (nI i) (nI n) := by
  intro k
  induction k with
  | zero =>
    intro i g hi h
    refine ⟨fun _ => h g (fun q h1 h2 => absurd h1 (by omega)) Fr.rfl, fun c => absurd ((nI_leI (by omega) (by omega)).mpr (by omega)) c⟩
  | succ k ih =>
    intro i g hi h
    refine ⟨fun c => absurd ((nI_leI (by omega) (by omega)).mp c) (by omega), fun _ => ⟨vin i rfl (by rw [hn]; omega) (by rw [hn]; omega), ?_⟩⟩
    intro g1 eg x ex
    rw [cl (by omega)] at eg
    subst eg
    rw [nI_1] at ex
    subst ex
    refine ih (i + 1) _ (by omega) (fun g' h1 h2 => h g' (fun q q1 q2 => ?_) (Fr.trans (Fr.set Fr.rfl ⟨rfl, Nat.le_refl _⟩) (h2.mono (fun j q z => ⟨z.1, by omega⟩))))
    rcases Nat.lt_or_ge i q with z | z
    · exact h1 q z q2
    · have : q = i := by omega
      subst this
      rw [h2 a q (fun z => by omega), mset_at, if_pos ⟨rfl, rfl⟩]
theorem ln_item : ∀ r, r < 8 → ln (60 + 2 * r + 1) = 40 := by decide
/-- renew: the items are 0, the rest as told -/
theorem s6_renew {Q : Mm → Prop} {g : Mm} {r : Nat} (hr : r < 8) {x1 x2 : Int32} (h : ∀ g', (∀ q, q < 40 → g'.1 (60 + 2 * r + 1) q = 0) → g'.1 (60 + 2 * r) 1 = 0 → g'.1 (60 + 2 * r) 2 = x1 → g'.1 (60 + 2 * r) 3 = x2 → Fr (fun j q => j = 60 + 2 * r ∨ j = 60 + 2 * r + 1) g g' → Q g') : o_X6_renew Q (60 + 2 * r) g x1 x2 := by
  unfold o_X6_renew
  intro x ex
  rw [ln_item r hr] at ex
  subst ex
  refine ⟨41, s_fill (n := 40) (ln_item r hr) (by decide) 40 0 g rfl (fun g' h1 h2 => ?_)⟩
  intro g3 e3 g4 e4 g5 e5
  subst e3; subst e4; subst e5
  refine h _ (fun q hq => ?_) ?_ ?_ ?_ ?_
  · simp [mset_at]; exact h1 q (Nat.zero_le _) hq
  · simp [mset_at]
  · simp [mset_at]
  · simp [mset_at]
  · refine Fr.set (Fr.set (Fr.set (h2.mono (fun j q z => Or.inr z.1)) ?_) ?_) ?_ <;> exact Or.inl rfl
def Trow (j k : Nat) : Prop := (j = 0 ∧ k = 8) ∨ (j = 86 ∧ k = 5) ∨ (60 ≤ j ∧ j < 76) ∨ (91 ≤ j ∧ j ≤ 95)
theorem cmd_row {g : Mm} (hR : Rel g) (x1 x2 x3 : Int32) : o_X7_row (fun r g1 => o_X8_row (fun r2 g2 => r = r2 ∧ Rel g2) g1 x1 x2 x3) g x1 x2 x3 := by
  refine s7_isRow (bI_br (fun c1 => ?_) (fun c1 => s7_within (bI_br (fun c2 => ?_) (fun c2 => ⟨fun c3 => ⟨fun c4 => ?_, fun c4 => ?_⟩, fun c3 => ?_⟩))))
  · exact s8_isRow (bI_br (fun _ => ⟨rfl, hR⟩) (fun q => absurd q c1))
  · exact s8_isRow (bI_br (fun q => absurd c1 q) (fun _ => s8_in 0 2 rfl rfl (bI_br (fun _ => ⟨rfl, hR⟩) (fun q => absurd q c2))))
  · obtain ⟨r, hr, rfl⟩ := in_of 7 rfl c1
    obtain ⟨n, hn, rfl⟩ := in_of 40 rfl ⟨c4, c3⟩
    have hv : vp_in (nI r) 8 := vin r rfl (by omega) (by omega)
    refine ⟨hv, ?_⟩
    rw [cl (by omega)]
    refine s6_renew (by omega) (fun g1 h1 h2 h3 h4 h5 => s7_fine ?_)
    refine s8_isRow (bI_br (fun q => absurd c1 q) (fun _ => s8_in 0 2 rfl rfl (bI_br (fun q => absurd c2 q) (fun _ => ⟨fun _ => ⟨fun _ => ⟨hv, ?_⟩, fun q => absurd c4 q⟩, fun q => absurd c3 q⟩))))
    intro g5 e5
    refine ⟨hv, fun g6 e6 => ⟨hv, fun g7 e7 => ⟨41, s8_rowfill (by omega) 40 0 _ rfl (fun g8 h6 h7 => s8_well ⟨rfl, ?_⟩)⟩⟩⟩
    rw [cl (by omega)] at e5 e6 e7
    subst e5; subst e6; subst e7
    have hf : Fr Trow g (mset g8 86 5 0) := by
      refine Fr.set (Fr.trans (Fr.set (Fr.set (Fr.set (Fr.set (h5.mono ?_) ?_) ?_) ?_) ?_) (h7.mono ?_)) ?_
      · intro j k z; unfold Trow; omega
      · unfold Trow; omega
      · unfold Trow; omega
      · unfold Trow; omega
      · unfold Trow; omega
      · intro j k z; unfold Trow; omega
      · unfold Trow; omega
    have e8 : ∀ j k, ¬ (j = 94 ∧ 40 * r + 0 ≤ k ∧ k < 40 * r + 40) → g8.1 j k = (mset (mset (mset (mset g1 0 8 0) 93 r (vp_nar .boolean 1)) 91 r x2) 92 r (nI n)).1 j k := fun j k z => h7 j k z
    have e1 : ∀ j k, ¬ (j = 60 + 2 * r ∨ j = 60 + 2 * r + 1) → g1.1 j k = g.1 j k := fun j k z => h5 j k z
    refine ⟨fun q hq => ?_, hR.2.1.fr hf (by intro j k ht; unfold Trow at ht; omega), hR.2.2.1.fr hf (by intro j k ht; unfold Trow at ht; omega), ?_, hR.2.2.2.2.1.fr hf (by intro j k ht; unfold Trow at ht; omega), hR.2.2.2.2.2.1.fr hf (by intro j k ht; unfold Trow at ht; omega), hR.2.2.2.2.2.2.fr hf (by intro j k ht; unfold Trow at ht; omega)⟩
    · have hq1 := hR.1 q hq
      by_cases z : q = r
      · subst z
        have a93 : (mset g8 86 5 0).1 93 q = 1 := by rw [mset_at, if_neg (by omega), e8 _ _ (by omega)]; simp [mset_at]; rfl
        have a91 : (mset g8 86 5 0).1 91 q = x2 := by rw [mset_at, if_neg (by omega), e8 _ _ (by omega)]; simp [mset_at]
        have a92 : (mset g8 86 5 0).1 92 q = nI n := by rw [mset_at, if_neg (by omega), e8 _ _ (by omega)]; simp [mset_at]
        have a1 : ∀ k, (mset g8 86 5 0).1 (60 + 2 * q) k = g1.1 (60 + 2 * q) k := fun k => by rw [mset_at, if_neg (by omega), e8 _ _ (by omega), mset_at, if_neg (by omega), mset_at, if_neg (by omega), mset_at, if_neg (by omega), mset_at, if_neg (by omega)]
        have a2 : ∀ k, (mset g8 86 5 0).1 (60 + 2 * q + 1) k = g1.1 (60 + 2 * q + 1) k := fun k => by rw [mset_at, if_neg (by omega), e8 _ _ (by omega), mset_at, if_neg (by omega), mset_at, if_neg (by omega), mset_at, if_neg (by omega), mset_at, if_neg (by omega)]
        rw [a93, a91, a92, a1, a1, a1, h2, h3, h4]
        refine ⟨Or.inl ⟨rfl, rfl⟩, rfl, rfl, ⟨n, hn, rfl⟩, fun i hi => ?_⟩
        rw [a2, h1 i hi, mset_at, if_neg (by omega)]
        exact h6 i (Nat.zero_le _) hi
      · have b : ∀ j k, ((j = 93 ∨ j = 91 ∨ j = 92) ∧ k = q) ∨ j = 60 + 2 * q ∨ j = 60 + 2 * q + 1 ∨ (j = 94 ∧ 40 * q ≤ k ∧ k < 40 * q + 40) → (mset g8 86 5 0).1 j k = g.1 j k := by
          intro j k w
          rw [mset_at, if_neg (by omega), e8 _ _ (by omega), mset_at, if_neg (by omega), mset_at, if_neg (by omega), mset_at, if_neg (by omega), mset_at, if_neg (by omega), e1 _ _ (by omega)]
        rw [b 93 q (by omega), b 91 q (by omega), b 92 q (by omega), b (60 + 2 * q) 1 (by omega), b (60 + 2 * q) 2 (by omega), b (60 + 2 * q) 3 (by omega)]
        refine ⟨hq1.1, hq1.2.1, hq1.2.2.1, hq1.2.2.2.1, fun i hi => ?_⟩
        rw [b 94 _ (by omega), b (60 + 2 * q + 1) i (by omega)]
        exact hq1.2.2.2.2 i hi
    · show (mset g8 86 5 0).1 86 5 = (mset g8 86 5 0).1 0 8
      rw [mset_at, if_pos ⟨rfl, rfl⟩, mset_at, if_neg (by omega), e8 _ _ (by omega)]
      simp [mset_at]
  · refine s7_found ?_
    exact s8_isRow (bI_br (fun q => absurd c1 q) (fun _ => s8_in 0 2 rfl rfl (bI_br (fun q => absurd c2 q) (fun _ => ⟨fun _ => ⟨fun q => absurd q c4, fun _ => s8_found ⟨rfl, hR.find 4⟩⟩, fun q => absurd c3 q⟩))))
  · exact s8_isRow (bI_br (fun q => absurd c1 q) (fun _ => s8_in 0 2 rfl rfl (bI_br (fun q => absurd c2 q) (fun _ => ⟨fun q => absurd q c3, fun _ => ⟨rfl, hR⟩⟩))))
