/-! ROWS: copy; the tape: feed -/
theorem w_add (x y : Int32) : (x.toInt64 + y.toInt64).toInt = x.toInt + y.toInt := by
  rw [Int64.toInt_add, Int32.toInt_toInt64, Int32.toInt_toInt64]
  have a := Int32.le_toInt x
  have b := Int32.toInt_lt x
  have c := Int32.le_toInt y
  have d := Int32.toInt_lt y
  simp only [Int.bmod]
  split <;> omega
theorem lg_gt_add (x y v : Int32) : 0 < lg_cmp (x.toInt64 + y.toInt64) v.toInt64 ↔ v.toInt < x.toInt + y.toInt := by
  rw [lg_gt, Int64.lt_iff_toInt_lt, w_add, Int32.toInt_toInt64]
theorem lg_le_add (x y v : Int32) : lg_cmp (x.toInt64 + y.toInt64) v.toInt64 ≤ 0 ↔ x.toInt + y.toInt ≤ v.toInt := by
  rw [lg_le, Int64.le_iff_toInt_le, w_add, Int32.toInt_toInt64]
theorem s8_cp1 {Q : Int32 → Mm → Prop} {K : Mm → Int32 → Int32 → Int32 → Prop} {a i n : Nat} (ha : a < 8) (hi : i + n ≤ 40) {x3 x4 : Int32} : ∀ (k q : Nat) (g : Mm), q + k = n → (∀ g', (∀ p, q ≤ p → p < n → g'.1 95 p = g.1 94 (40 * a + i + p)) → Fr (fun j p => j = 95 ∧ q ≤ p) g g' → K g' x3 x4 (nI n)) → o_X8_copy_120 Q K (k + 1) g (nI a) (nI i) x3 x4 (nI n) (nI q) := by
  intro k
  induction k with
  | zero =>
    intro q g hq h
    exact ⟨fun _ => h g (fun p h1 h2 => absurd h1 (by omega)) Fr.rfl, fun c => absurd ((nI_leI (by omega) (by omega)).mpr (by omega)) c⟩
  | succ k ih =>
    intro q g hq h
    have e : (40 : Int32) * nI a + nI i + nI q = nI (40 * a + i + q) := by rw [show (40 : Int32) = nI 40 from rfl, pk_mul, nI_add, nI_add]
    refine ⟨fun c => absurd ((nI_leI (by omega) (by omega)).mp c) (by omega), fun _ => ⟨vin _ e (by omega) (by omega), vin q rfl (by omega) (by omega), ?_⟩⟩
    intro g1 eg x ex
    rw [e, cl (by omega), cl (by omega)] at eg
    subst eg
    rw [nI_1] at ex
    subst ex
    refine ih (q + 1) _ (by omega) (fun g' h1 h2 => h g' (fun p p1 p2 => ?_) (Fr.trans (Fr.set Fr.rfl ⟨rfl, Nat.le_refl _⟩) (h2.mono (fun j p z => ⟨z.1, by omega⟩))))
    rcases Nat.lt_or_ge q p with z | z
    · rw [h1 p z p2, mset_at, if_neg (by omega)]
    · have : p = q := by omega
      subst this
      rw [h2 95 p (fun z => by omega), mset_at, if_pos ⟨rfl, rfl⟩]
theorem s8_cp2 {Q : Int32 → Mm → Prop} {K : Mm → Int32 → Prop} {a i n : Nat} (ha : a < 8) (hi : i + n ≤ 40) : ∀ (k q : Nat) (g : Mm), q + k = n → (∀ g', (∀ p, q ≤ p → p < n → g'.1 94 (40 * a + i + p) = g.1 95 p) → Fr (fun j p => j = 94 ∧ 40 * a + i + q ≤ p ∧ p < 40 * a + i + n) g g' → K g' (nI n)) → o_X8_copy_157 Q K (k + 1) g (nI a) (nI i) (nI n) (nI q) := by
  intro k
  induction k with
  | zero =>
    intro q g hq h
    exact ⟨fun _ => h g (fun p h1 h2 => absurd h1 (by omega)) Fr.rfl, fun c => absurd ((nI_leI (by omega) (by omega)).mpr (by omega)) c⟩
  | succ k ih =>
    intro q g hq h
    have e : (40 : Int32) * nI a + nI i + nI q = nI (40 * a + i + q) := by rw [show (40 : Int32) = nI 40 from rfl, pk_mul, nI_add, nI_add]
    refine ⟨fun c => absurd ((nI_leI (by omega) (by omega)).mp c) (by omega), fun _ => ⟨vin q rfl (by omega) (by omega), vin _ e (by omega) (by omega), ?_⟩⟩
    intro g1 eg x ex
    rw [e, cl (by omega), cl (by omega)] at eg
    subst eg
    rw [nI_1] at ex
    subst ex
    refine ih (q + 1) _ (by omega) (fun g' h1 h2 => h g' (fun p p1 p2 => ?_) (Fr.trans (Fr.set Fr.rfl ⟨rfl, Nat.le_refl _, by omega⟩) (h2.mono (fun j p z => ⟨z.1, by omega, z.2.2⟩))))
    rcases Nat.lt_or_ge q p with z | z
    · rw [h1 p z p2, mset_at, if_neg (by omega)]
    · have : p = q := by omega
      subst this
      rw [h2 94 _ (fun z => by omega), mset_at, if_pos ⟨rfl, rfl⟩]
/-- the guards of both -/
theorem cp_guard {A B : Prop} {i j n va vb : Int32} {na nb : Nat} (hv : vp_in i 1 ∨ True) (p1 p2 : Prop) (h1 : p1) (h2 : p2) (ea : va.toInt = na) (eb : vb.toInt = nb) (hA : ¬ (spn na i n ∧ spn nb j n) → A) (hB : (spn na i n ∧ spn nb j n) → B) :
    ((i < 0) → A) ∧ ((¬ i < 0) → ((j < 0) → A) ∧ ((¬ j < 0) → ((n < 0) → A) ∧ ((¬ n < 0) → p1 ∧ (((0 < (lg_cmp ((i.toInt64) + (n.toInt64)) (va.toInt64))) → A) ∧ ((¬ 0 < (lg_cmp ((i.toInt64) + (n.toInt64)) (va.toInt64))) → p2 ∧ ((((lg_cmp ((j.toInt64) + (n.toInt64)) (vb.toInt64)) ≤ 0) → B) ∧ ((¬ (lg_cmp ((j.toInt64) + (n.toInt64)) (vb.toInt64)) ≤ 0) → A))))))) := by
  rw [lg_gt_add, lg_le_add, ea, eb, lt_i, lt_i, lt_i, show (0 : Int32).toInt = 0 from rfl]
  refine ⟨fun c => hA (fun q => ?_), fun c1 => ⟨fun c => hA (fun q => ?_), fun c2 => ⟨fun c => hA (fun q => ?_), fun c3 => ⟨h1, fun c => hA (fun q => ?_), fun c4 => ⟨h2, fun c => hB ⟨⟨?_, ?_, ?_⟩, ?_, ?_, ?_⟩, fun c => hA (fun q => ?_)⟩⟩⟩⟩⟩
  · have := q.1.1; omega
  · have := q.2.1; omega
  · have := q.1.2.1; omega
  · have := q.1.2.2; omega
  all_goals first | omega | (have := q.2.2.2; omega)
theorem cmd_copy {g : Mm} (hR : Rel g) (x1 x2 x3 x4 x5 : Int32) : o_X7_copy (fun r g1 => o_X8_copy (fun r2 g2 => r = r2 ∧ Rel g2) g1 x1 x2 x3 x4 x5) g x1 x2 x3 x4 x5 := by
  refine s7_isRow (bI_br (fun c1 => ?_) (fun c1 => s7_isRow (bI_rb (fun c2 => ?_) (fun c2 => ?_))))
  · exact s8_isRow (bI_br (fun _ => ⟨rfl, hR⟩) (fun q => absurd q c1))
  · exact s8_isRow (bI_br (fun q => absurd c1 q) (fun _ => s8_isRow (bI_rb (fun _ => ⟨rfl, hR⟩) (fun q => absurd q c2))))
  obtain ⟨r, hr, rfl⟩ := in_of 7 rfl c1
  obtain ⟨u, hu, rfl⟩ := in_of 7 rfl c2
  have hv : vp_in (nI r) 8 := vin r rfl (by omega) (by omega)
  have hw : vp_in (nI u) 8 := vin u rfl (by omega) (by omega)
  obtain ⟨h1, h2, h3, ⟨n, hn, h4⟩, h5⟩ := hR.1 r (by omega)
  obtain ⟨k1, k2, k3, ⟨m, hm, k4⟩, k5⟩ := hR.1 u (by omega)
  have h6 := row_br h1
  have k6 := row_br k1
  -- the reference, in any memory that agrees with g where it looks
  have key : ∀ (P : Int32 → Mm → Prop) (g1 : Mm), (∀ j k, 91 ≤ j → j ≤ 95 → g1.1 j k = g.1 j k) → (((¬ g.1 (60 + 2 * r) 1 = 0 ∨ ¬ g.1 (60 + 2 * u) 1 = 0) → o_X8_found P g1 1) ∧ ((g.1 (60 + 2 * r) 1 = 0 ∧ g.1 (60 + 2 * u) 1 = 0) → ((¬ g.1 (60 + 2 * r) 2 = g.1 (60 + 2 * u) 2) → o_X8_found P g1 5) ∧ (g.1 (60 + 2 * r) 2 = g.1 (60 + 2 * u) 2 → (¬ (spn n x2 x5 ∧ spn m x4 x5) → o_X8_found P g1 2) ∧ ((spn n x2 x5 ∧ spn m x4 x5) → ∃ n120, o_X8_copy_120 P (fun (g : Mm) (x3 : Int32) (x4 : Int32) (x5 : Int32) => ∃ n157, o_X8_copy_157 P (fun (g : Mm) (x5 : Int32) => o_X8_well (fun (r_14 : Int32) (g_13 : Mm) => P r_14 g_13) g x5) n157 g x3 x4 x5 0) n120 g1 (nI r) x2 (nI u) x4 x5 0)))) → o_X8_copy P g1 (nI r) x2 (nI u) x4 x5 := by
    intro P g1 e hh
    refine s8_isRow (bI_br (fun q => absurd c1 q) (fun _ => s8_isRow (bI_rb (fun q => absurd c2 q) (fun _ => ⟨hv, ?_⟩))))
    rw [cl (by omega), cl (by omega), e 93 r (by omega) (by omega), e 93 u (by omega) (by omega), e 91 r (by omega) (by omega), e 91 u (by omega) (by omega), e 92 r (by omega) (by omega), e 92 u (by omega) (by omega), h2, k2]
    refine ⟨fun d => hh.1 (Or.inl (h6.mp d)), fun d => ⟨hw, fun d2 => ⟨hv, hw, fun d3 => ?_, fun d3 => ?_⟩, fun d2 => hh.1 (Or.inr (k6.mp d2))⟩⟩
    · have dd : g.1 (60 + 2 * r) 1 = 0 ∧ g.1 (60 + 2 * u) 1 = 0 := ⟨Decidable.byContradiction fun z => d (h6.mpr z), Decidable.byContradiction fun z => d2 (k6.mpr z)⟩
      exact cp_guard (na := n) (nb := m) (Or.inr trivial) (vp_in (nI r) 8) (vp_in (nI u) 8) hv hw (by rw [h3, h4, nIi (by omega)]) (by rw [k3, k4, nIi (by omega)]) (((hh.2 dd).2 d3).1) (((hh.2 dd).2 d3).2)
    · have dd : g.1 (60 + 2 * r) 1 = 0 ∧ g.1 (60 + 2 * u) 1 = 0 := ⟨Decidable.byContradiction fun z => d (h6.mpr z), Decidable.byContradiction fun z => d2 (k6.mpr z)⟩
      exact (hh.2 dd).1 d3
  have fnd : ∀ v : Int32, (∀ P : Int32 → Mm → Prop, ∀ g1 : Mm, (∀ j k, 91 ≤ j → j ≤ 95 → g1.1 j k = g.1 j k) → o_X8_found P g1 v → o_X8_copy P g1 (nI r) x2 (nI u) x4 x5) → o_X7_found (fun r0 g1 => o_X8_copy (fun r2 g2 => r0 = r2 ∧ Rel g2) g1 (nI r) x2 (nI u) x4 x5) g v := by
    intro v hv
    exact s7_found (hv _ _ (fun j k _ _ => by rw [mset_at, if_neg (by omega)]) (s8_found ⟨rfl, hR.find v⟩))
  refine ⟨hv, hw, ?_⟩
  rw [cl (by omega), cl (by omega)]
  refine ⟨fun d => fnd 1 (fun P g1 e f => key P g1 e ⟨fun _ => f, fun q => absurd q.1 d⟩), fun d1 => ⟨fun d2 => ⟨fun d3 => ?_, fun d3 => ?_⟩, fun d2 => ?_⟩⟩
  · refine s6_spans hn h4 (bI_br (fun s1 => fnd 2 (fun P g1 e f => key P g1 e ⟨fun q => absurd q (fun z => z.elim (fun y => y d1) (fun y => y d2)), fun _ => ⟨fun q => absurd d3 q, fun _ => ⟨fun _ => f, fun q => absurd q.1 s1⟩⟩⟩)) (fun s1 => s6_spans hm k4 (bI_rb (fun s2 => fnd 2 (fun P g1 e f => key P g1 e ⟨fun q => absurd q (fun z => z.elim (fun y => y d1) (fun y => y d2)), fun _ => ⟨fun q => absurd d3 q, fun _ => ⟨fun _ => f, fun q => absurd q.2 s2⟩⟩⟩)) (fun s2 => ?_))))
    have z0 : (0 : Int32).toInt = 0 := rfl
    obtain ⟨i, hi, rfl⟩ : ∃ i : Nat, i ≤ n ∧ x2 = nI i := nI_of2 (M := nI n) (nIi (by omega)) (by rw [lt_i, z0]; have := s1.1; omega) (by rw [le_i, nIi (by omega)]; have := s1.2.1; have := s1.2.2; omega)
    obtain ⟨j, hj, rfl⟩ : ∃ i : Nat, i ≤ m ∧ x4 = nI i := nI_of2 (M := nI m) (nIi (by omega)) (by rw [lt_i, z0]; have := s2.1; omega) (by rw [le_i, nIi (by omega)]; have := s2.2.1; have := s2.2.2; omega)
    obtain ⟨p, hp, rfl⟩ : ∃ i : Nat, i ≤ n ∧ x5 = nI i := nI_of2 (M := nI n) (nIi (by omega)) (by rw [lt_i, z0]; have := s1.2.1; omega) (by rw [le_i, nIi (by omega)]; have := s1.1; have := s1.2.2; omega)
    have f1 := s1.2.2
    have f2 := s2.2.2
    rw [nIi (by omega), nIi (by omega)] at f1 f2
    have nn : ∀ q : Nat, q ≤ 40 → ¬ nI q < 0 := fun q hq => nI_pos (by omega)
    refine ⟨⟨⟨nn _ (by omega), nn _ (by omega), nn _ (by omega)⟩, by rw [cl (by omega), cl (by omega)]; omega, by rw [cl (by omega), cl (by omega)]; omega⟩, ?_⟩
    intro g15 e15
    rw [cl (by omega), cl (by omega), cl (by omega)] at e15
    refine s7_fine (key _ _ (fun a b _ _ => ?_) ⟨fun q => absurd q (fun z => z.elim (fun y => y d1) (fun y => y d2)), fun _ => ⟨fun q => absurd d3 q, fun _ => ⟨fun q => absurd ⟨s1, s2⟩ q, fun _ => ?_⟩⟩⟩)
    · rw [mset_at, if_neg (by omega), e15, mcpy_at, if_neg (by omega)]
    refine ⟨p + 1, s8_cp1 (by omega) (by omega) p 0 _ (by omega) (fun g2 a1 a2 => ⟨p + 1, s8_cp2 (by omega) (by omega) p 0 _ (by omega) (fun g3 b1 b2 => s8_well ⟨rfl, ?_⟩)⟩)⟩
    have hf : Fr Titem g (mset g3 86 5 0) := by
      refine Fr.set (Fr.trans (Fr.trans (g1 := mset g15 0 8 0) ?_ (a2.mono ?_)) (b2.mono ?_)) ?_
      · refine Fr.set ?_ ?_
        · rw [e15]
          refine Fr.cpy Fr.rfl (fun k _ _ => ?_)
          unfold Titem; omega
        · unfold Titem; omega
      · intro j k z; unfold Titem; omega
      · intro j k z; unfold Titem; omega
      · unfold Titem; omega
    have B : ∀ a b, a ≠ 94 → a ≠ 95 → a ≠ 0 → a ≠ 86 → (mset g3 86 5 0).1 a b = g15.1 a b := by
      intro a b q1 q2 q3 q4
      rw [mset_at, if_neg (by omega), b2 _ _ (fun z => q1 z.1), a2 _ _ (fun z => q2 z.1), mset_at, if_neg (by omega)]
    refine ⟨fun q hq => ?_, hR.2.1.fr hf (by intro j k ht; unfold Titem at ht; omega), hR.2.2.1.fr hf (by intro j k ht; unfold Titem at ht; omega), ?_, hR.2.2.2.2.1.fr hf (by intro j k ht; unfold Titem at ht; omega), hR.2.2.2.2.2.1.fr hf (by intro j k ht; unfold Titem at ht; omega), hR.2.2.2.2.2.2.fr hf (by intro j k ht; unfold Titem at ht; omega)⟩
    · have hq1 := hR.1 q hq
      have C : ∀ a b, (a = 60 + 2 * q ∨ (91 ≤ a ∧ a ≤ 93)) → g15.1 a b = g.1 a b := by
        intro a b w
        rw [e15, mcpy_at, if_neg (by omega)]
      rw [B 93 q (by omega) (by omega) (by omega) (by omega), B 91 q (by omega) (by omega) (by omega) (by omega), B 92 q (by omega) (by omega) (by omega) (by omega), B (60 + 2 * q) 1 (by omega) (by omega) (by omega) (by omega), B (60 + 2 * q) 2 (by omega) (by omega) (by omega) (by omega), B (60 + 2 * q) 3 (by omega) (by omega) (by omega) (by omega)]
      rw [C 93 q (by omega), C 91 q (by omega), C 92 q (by omega), C (60 + 2 * q) 1 (by omega), C (60 + 2 * q) 2 (by omega), C (60 + 2 * q) 3 (by omega)]
      refine ⟨hq1.1, hq1.2.1, hq1.2.2.1, hq1.2.2.2.1, fun i0 hi0 => ?_⟩
      rw [B (60 + 2 * q + 1) i0 (by omega) (by omega) (by omega) (by omega), e15, mcpy_at, mset_at, if_neg (by omega)]
      have G2 : ∀ b, g2.1 94 b = g.1 94 b := by
        intro b
        rw [a2 _ _ (fun z => by omega), mset_at, if_neg (by omega), e15, mcpy_at, if_neg (by omega)]
      by_cases z : q = u ∧ j ≤ i0 ∧ i0 < j + p
      · obtain ⟨z1, z2, z3⟩ := z
        subst z1
        rw [if_pos ⟨rfl, z2, z3⟩]
        have := b1 (i0 - j) (Nat.zero_le _) (by omega)
        rw [show 40 * q + j + (i0 - j) = 40 * q + i0 by omega] at this
        rw [this, a1 (i0 - j) (Nat.zero_le _) (by omega), mset_at, if_neg (by omega), e15, mcpy_at, if_neg (by omega)]
        have hh := h5 (i + (i0 - j)) (by omega)
        rw [show 40 * r + i + (i0 - j) = 40 * r + (i + (i0 - j)) by omega]
        exact hh
      · rw [if_neg (by omega), b2 _ _ (by omega), G2]
        exact hq1.2.2.2.2 i0 hi0
    · show (mset g3 86 5 0).1 86 5 = (mset g3 86 5 0).1 0 8
      rw [mset_at, if_pos ⟨rfl, rfl⟩, mset_at, if_neg (by omega), b2 _ _ (by omega), a2 _ _ (by omega), mset_at, if_pos ⟨rfl, rfl⟩]
  · exact fnd 5 (fun P g1 e f => key P g1 e ⟨fun q => absurd q (fun z => z.elim (fun y => y d1) (fun y => y d2)), fun _ => ⟨fun _ => f, fun q => absurd q d3⟩⟩)
  · exact fnd 1 (fun P g1 e f => key P g1 e ⟨fun _ => f, fun q => absurd q.2 d2⟩)
def Tfeed (j k : Nat) : Prop := (j = 2 ∧ k = 2) ∨ j = 3 ∨ (j = 86 ∧ k = 12) ∨ j = 96
theorem cmd_feed {g : Mm} (hR : Rel g) (x1 : Int32) : o_X7_feed (fun r g1 => o_X8_feed (fun r2 g2 => r = r2 ∧ Rel g2) g1 x1) g x1 := by
  obtain ⟨h1, n, hn, h2, h3⟩ := hR.2.1
  refine s7_within (bI_rb (fun c1 => ?_) (fun c1 => ?_))
  · exact s8_in 0 255 rfl rfl (bI_rb (fun _ => ⟨rfl, hR⟩) (fun q => absurd q c1))
  obtain ⟨v, hv, rfl⟩ := in_of 255 rfl c1
  rw [h2]
  refine ⟨fun c2 => ?_, fun c2 => ?_⟩
  · have hn2 : n < 70 := (nI_ltI (b := 70) (by omega) (by omega)).mp c2
    unfold o_X5_append
    rw [h2]
    refine ⟨vin n rfl (by omega) (by omega), fun g1 e1 g2 e2 => ?_⟩
    rw [cl (by omega)] at e1
    subst e1
    rw [show (mset g 3 n (nI v)).1 2 2 = nI n by rw [mset_at, if_neg (by omega), h2], nI_1] at e2
    subst e2
    rw [mset_at, if_pos ⟨rfl, rfl⟩]
    refine s8_in 0 255 rfl rfl (bI_rb (fun q => absurd c1 q) (fun _ => ⟨fun c3 => ?_, fun c3 => ?_⟩))
    · have e12 : (mset (mset g 3 n (nI v)) 2 2 (nI (n + 1))).1 86 12 = nI n := by rw [mset_at, if_neg (by omega), mset_at, if_neg (by omega), h1, h2]
      rw [e12]
      refine ⟨vin n rfl (by omega) (by omega), fun g3 e3 g4 e4 => ?_⟩
      rw [cl (by omega)] at e3
      subst e3
      rw [show (mset (mset (mset g 3 n (nI v)) 2 2 (nI (n + 1))) 96 n (nI v)).1 86 12 = nI n by rw [mset_at, if_neg (by omega), e12], nI_1] at e4
      subst e4
      refine ⟨by rw [mset_at, if_pos ⟨rfl, rfl⟩], ?_⟩
      have hf : Fr Tfeed g (mset (mset (mset (mset g 3 n (nI v)) 2 2 (nI (n + 1))) 96 n (nI v)) 86 12 (nI (n + 1))) := by
        refine Fr.set (Fr.set (Fr.set (Fr.set Fr.rfl ?_) ?_) ?_) ?_ <;> unfold Tfeed <;> omega
      refine ⟨hR.1.fr hf (by intro j k ht; unfold Tfeed at ht; omega), ⟨?_, n + 1, by omega, ?_, fun i hi => ?_⟩, hR.2.2.1.fr hf (by intro j k ht; unfold Tfeed at ht; omega), hR.2.2.2.1.fr hf (by intro j k ht; unfold Tfeed at ht; omega), hR.2.2.2.2.1.fr hf (by intro j k ht; unfold Tfeed at ht; omega), hR.2.2.2.2.2.1.fr hf (by intro j k ht; unfold Tfeed at ht; omega), hR.2.2.2.2.2.2.fr hf (by intro j k ht; unfold Tfeed at ht; omega)⟩
      · simp [mset_at]
      · simp [mset_at]
      · by_cases z : i = n
        · subst z
          exact ⟨by simp [mset_at], v, hv, by simp [mset_at]⟩
        · have := h3 i (by omega)
          rw [mset_at, if_neg (by omega), mset_at, if_neg (by omega), mset_at, if_neg (by omega), mset_at, if_neg (by omega), mset_at, if_neg (by omega), mset_at, if_neg (by omega), mset_at, if_neg (by omega), mset_at, if_neg (by omega)]
          exact this
    · rw [mset_at, if_neg (by omega), mset_at, if_neg (by omega), h1, h2] at c3
      exact absurd ((nI_eq (b := 70) (by omega) (by omega)).mp c3) (by omega)
  · have hn2 : n = 70 := by
      have : ¬ n < 70 := fun q => c2 ((nI_ltI (b := 70) (by omega) (by omega)).mpr q)
      omega
    refine s8_in 0 255 rfl rfl (bI_rb (fun q => absurd c1 q) (fun _ => ⟨fun c3 => ?_, fun _ => ⟨rfl, hR⟩⟩))
    rw [h1, h2, hn2] at c3
    exact absurd rfl c3
