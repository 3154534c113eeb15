/-! the class' play, what takes it back, a case that becomes another, the row at hand -/
theorem s2_keep {Q : Mm → Prop} {g : Mm} {i j : Nat} {b : Bx} {p : Nat} (hB : BoxIs g j b) (h7 : b 0 0 ≤ 7) (hp : p ≤ b 0 0) (hij : i < j ∨ j + 4 < i) (h : ∀ g', (g'.1 i 0 = nI (b 8 0) ∧ g'.1 i 1 = nI (b 5 0) ∧ g'.1 i 2 = nI (b 6 0)) → ((p = 0 ∧ g'.1 i 3 = -1000000) ∨ (p ≠ 0 ∧ g'.1 i 3 = nI (p - 1) ∧ g'.1 i 4 = nI (b 3 (p - 1)) ∧ g'.1 i 5 = nI (b 4 (p - 1)))) → Fr (fun q k => q = i) g g' → Q g') : o_X2_keep Q i j g (t7I p) := by
  intro g1 e1 g2 e2 g3 e3 g4 e4
  have f1 : Fr (fun q k => q = i) g g1 := by rw [e1]; exact Fr.set (T := fun q k => q = i) Fr.rfl rfl
  have f2 : Fr (fun q k => q = i) g g2 := by rw [e2]; exact Fr.set (T := fun q k => q = i) f1 rfl
  have f3 : Fr (fun q k => q = i) g g3 := by rw [e3]; exact Fr.set (T := fun q k => q = i) f2 rfl
  have f4 : Fr (fun q k => q = i) g g4 := by rw [e4]; exact Fr.set (T := fun q k => q = i) f3 rfl
  have a5 : g1.1 j 5 = nI (b 5 0) := by rw [f1 j 5 (by omega)]; exact hB.1.2.1
  have a6 : g2.1 j 6 = nI (b 6 0) := by rw [f2 j 6 (by omega)]; exact hB.1.2.2.1
  rw [hB.1.2.2.2.2] at e1
  rw [a5] at e2
  rw [a6] at e3
  have r4 : g4.1 i 0 = nI (b 8 0) ∧ g4.1 i 1 = nI (b 5 0) ∧ g4.1 i 2 = nI (b 6 0) ∧ g4.1 i 3 = t7I p := by
    rw [e4, e3, e2, e1]
    simp [mset_at]
  refine ⟨fun q => ?_, fun q => ?_⟩
  · have hz : p = 0 := by
      by_cases z : p = 0
      · exact z
      · rw [show t7I p = nI (p - 1) from if_neg z] at q
        exact absurd q (nI_none (by omega))
    exact h g4 ⟨r4.1, r4.2.1, r4.2.2.1⟩ (Or.inl ⟨hz, r4.2.2.2.trans q⟩) f4
  · have hz : p ≠ 0 := fun z => q (if_pos z)
    have e7 : t7I p = nI (p - 1) := if_neg hz
    rw [e7] at r4 ⊢
    have hv := vt h7 (show p - 1 < b 0 0 by omega)
    refine ⟨hv, fun g5 e5 => ⟨hv, fun g6 e6 => ?_⟩⟩
    rw [cl (by omega)] at e5 e6
    have f5 : Fr (fun q k => q = i) g g5 := by rw [e5]; exact Fr.set (T := fun q k => q = i) f4 rfl
    have f6 : Fr (fun q k => q = i) g g6 := by rw [e6]; exact Fr.set (T := fun q k => q = i) f5 rfl
    have hb := hB.2 (p - 1) (by omega)
    rw [f4 (j + 3) _ (by omega), hb.2.2.1] at e5
    rw [f5 (j + 4) _ (by omega), hb.2.2.2] at e6
    refine h g6 ?_ (Or.inr ⟨hz, ?_, ?_, ?_⟩) f6
    · rw [e6, e5]
      simp only [mset_at]
      simp
      exact ⟨r4.1, r4.2.1, r4.2.2.1⟩
    · rw [e6, e5]; simp [mset_at]; exact r4.2.2.2
    · rw [e6, e5]; simp [mset_at]
    · rw [e6, e5]; simp [mset_at]
def r7I (b : Bx) (c gp : Nat) : Int32 := if tN b c = 0 then -1000000 else nI (ld b (tN b c - 1) c gp)
theorem Und.of_keep {g : Mm} {i : Nat} {b : Bx} {p : Nat} {b' : Bx} (h1 : g.1 i 0 = nI (b 8 0) ∧ g.1 i 1 = nI (b 5 0) ∧ g.1 i 2 = nI (b 6 0)) (h2 : (p = 0 ∧ g.1 i 3 = -1000000) ∨ (p ≠ 0 ∧ g.1 i 3 = nI (p - 1) ∧ g.1 i 4 = nI (b 3 (p - 1)) ∧ g.1 i 5 = nI (b 4 (p - 1)))) (hp : p ≤ b 0 0) (e : ∀ a k, a ≠ 3 → a ≠ 4 → a ≠ 5 → a ≠ 6 → a ≠ 8 → b' a k = b a k) (e3 : ∀ t, t < b 0 0 → (p = 0 ∨ t ≠ p - 1) → b' 3 t = b 3 t ∧ b' 4 t = b 4 t) : Und g i b b' := by
  refine ⟨h1, ⟨e 0 0 (by decide) (by decide) (by decide) (by decide) (by decide), e 7 0 (by decide) (by decide) (by decide) (by decide) (by decide), fun t ht => ⟨e 1 t (by decide) (by decide) (by decide) (by decide) (by decide), e 2 t (by decide) (by decide) (by decide) (by decide) (by decide)⟩⟩, ?_⟩
  rcases h2 with ⟨z, q⟩ | ⟨z, q1, q2, q3⟩
  · exact Or.inl ⟨q, fun t ht => e3 t ht (Or.inl z)⟩
  · exact Or.inr ⟨p - 1, by omega, q1, q2, q3, fun t ht hn => e3 t ht (Or.inr hn)⟩
theorem s3_playAt {Q : Int32 → Mm → Prop} {g : Mm} {i j : Nat} {b : Bx} {c gp : Nat} (hB : BoxIs g j b) (hV : Vb b) (h8 : b 8 0 < 20000) (hij : i < j ∨ j + 4 < i) (hc : 1 ≤ c ∧ c ≤ 5) (hg : gp ≤ 1000) (h : ∀ g', BoxIs g' j (pl b c gp) → Und g' i b (pl b c gp) → Fr (fun q k => q = i ∨ q = j ∨ q = j + 3 ∨ q = j + 4) g g' → Q (r7I b c gp) g') : o_X3_playAt Q j i g (nI c) (nI gp) := by
  have h7 := hV.1.2
  have htl : tN b c ≤ b 0 0 := tp_le b c _
  refine s3_uppermost hB hV (by omega) (s2_keep hB h7 htl hij (fun g3 k1 k2 k3 => ?_))
  intro g5 e5
  have hB3 : BoxIs g3 j b := hB.eq (fun q k _ _ => k3 q k (by omega))
  rw [hB3.1.2.2.2.2, nI_1] at e5
  have hB5 : BoxIs g5 j (bup b 8 0 (b 8 0 + 1)) := hB3.b8 (fun q k _ _ => by rw [e5, mset_at])
  have hV5 : Vb (bup b 8 0 (b 8 0 + 1)) := Vb_8 hV (by omega)
  have hF5 : Fr (fun q k => q = i ∨ q = j ∨ q = j + 3 ∨ q = j + 4) g g5 := by
    rw [e5]; exact Fr.set (k3.mono (fun q k z => Or.inl z)) (Or.inr (Or.inl rfl))
  have n5 : (bup b 8 0 (b 8 0 + 1)) 0 0 = b 0 0 := bup_k (by decide)
  have kk : ∀ g' : Mm, (∀ k, g'.1 i k = g5.1 i k) → (g'.1 i 0 = nI (b 8 0) ∧ g'.1 i 1 = nI (b 5 0) ∧ g'.1 i 2 = nI (b 6 0)) ∧ ((tN b c = 0 ∧ g'.1 i 3 = -1000000) ∨ (tN b c ≠ 0 ∧ g'.1 i 3 = nI (tN b c - 1) ∧ g'.1 i 4 = nI (b 3 (tN b c - 1)) ∧ g'.1 i 5 = nI (b 4 (tN b c - 1)))) := by
    intro g' w
    have : ∀ k, g'.1 i k = g3.1 i k := fun k => by rw [w, e5, mset_at, if_neg (by omega)]
    rw [this, this, this, this, this, this]
    exact ⟨k1, k2⟩
  have und : ∀ g' : Mm, (∀ k, g'.1 i k = g5.1 i k) → Und g' i b (pl b c gp) := by
    intro g' w
    refine Und.of_keep (kk g' w).1 (kk g' w).2 htl (fun a k a3 a4 a5 a6 a8 => pl_0 a3 a4 a8) (fun t ht hz => ?_)
    unfold pl
    split
    · exact ⟨bup_k (by decide), bup_k (by decide)⟩
    · rename_i z
      split
      · exact ⟨bup_k (by decide), bup_k (by decide)⟩
      · have : t ≠ tN b c - 1 := hz.elim (fun y => absurd y z) (fun y => y)
        rw [pu_t this, pu_t this]
        exact ⟨bup_k (by decide), bup_k (by decide)⟩
  refine ⟨fun q => ?_, fun q => ?_⟩
  · have hz : tN b c ≠ 0 := fun z => q (if_pos z)
    have e7 : t7I (tN b c) = nI (tN b c - 1) := if_neg hz
    have ht5 : tN b c - 1 < (bup b 8 0 (b 8 0 + 1)) 0 0 := by rw [n5]; omega
    have er : r7I b c gp = nI (ld b (tN b c - 1) c gp) := if_neg hz
    have hld := ld_in (b := b) (t := tN b c - 1) (g := gp) hc
    rw [e7]
    refine s3_landing hB5 hV5 ht5 hc hg ?_
    rw [ld_bup8]
    rw [er] at h
    refine ⟨fun w => h g5 ?_ (und g5 (fun _ => rfl)) hF5, fun w => s3_lay hB5 hV5 ht5 (by omega) (fun g8 b8 f8 => h g8 ?_ (und g8 (fun k => f8 i k (by omega))) (hF5.trans (f8.mono (fun q k z => Or.inr (Or.inr z)))))⟩
    · unfold pl
      rw [if_neg hz, if_pos ((nI_eq (by omega) (by omega)).mp w)]; exact hB5
    · unfold pl
      rw [if_neg hz, if_neg (fun z => w (by rw [z]))]; exact b8
  · have hz : tN b c = 0 := by
      by_cases z : tN b c = 0
      · exact z
      · rw [show t7I (tN b c) = nI (tN b c - 1) from if_neg z] at q
        exact absurd q (nI_none (by omega))
    have er : r7I b c gp = -1000000 := if_pos hz
    rw [er] at h
    exact h g5 (by unfold pl; rw [if_pos hz]; exact hB5) (und g5 (fun _ => rfl)) hF5
/-- a Before takes a case back -/
theorem s2_giveBack {Q : Mm → Prop} {g : Mm} {i j : Nat} {b b' : Bx} (hB : BoxIs g j b') (hU : Und g i b b') (h7 : b 0 0 ≤ 7) (hij : i < j ∨ j + 4 < i) (h : ∀ g', BoxIs g' j b → Fr (fun q k => q = j ∨ q = j + 3 ∨ q = j + 4) g g' → Q g') : o_X2_giveBack Q i j g := by
  obtain ⟨⟨u1, u2, u3⟩, ⟨v1_, v2, v3⟩, hU⟩ := hU
  intro g1 e1 g2 e2 g3 e3
  rw [u1] at e1
  rw [show g1.1 i 1 = nI (b 5 0) by rw [e1, mset_at, if_neg (by omega)]; exact u2] at e2
  rw [show g2.1 i 2 = nI (b 6 0) by rw [e2, mset_at, if_neg (by omega), e1, mset_at, if_neg (by omega)]; exact u3] at e3
  have T3 : Fr (fun q k => q = j ∨ q = j + 3 ∨ q = j + 4) g g3 := by
    rw [e3, e2, e1]
    refine Fr.set (Fr.set (Fr.set Fr.rfl ?_) ?_) ?_ <;> exact Or.inl rfl
  have ei : ∀ k, g3.1 i k = g.1 i k := fun k => T3 i k (by omega)
  have ej : ∀ k, g3.1 j k = if k = 6 then nI (b 6 0) else if k = 5 then nI (b 5 0) else if k = 8 then nI (b 8 0) else g.1 j k := by
    intro k
    rw [e3, e2, e1]
    simp only [mset_at, true_and]
  have eo : ∀ q k, q ≠ j → g3.1 q k = g.1 q k := by
    intro q k hq
    rw [e3, mset_at, if_neg (by omega), e2, mset_at, if_neg (by omega), e1, mset_at, if_neg (by omega)]
  have heads : ∀ g' : Mm, (∀ k, g'.1 j k = g3.1 j k) → (g'.1 j 4 = nI (b 0 0) ∧ g'.1 j 5 = nI (b 5 0) ∧ g'.1 j 6 = nI (b 6 0) ∧ g'.1 j 7 = nI (b 7 0) ∧ g'.1 j 8 = nI (b 8 0)) := by
    intro g' w
    rw [w, w, w, w, w, ej, ej, ej, ej, ej]
    simp
    exact ⟨by rw [← v1_]; exact hB.1.1, by rw [← v2]; exact hB.1.2.2.2.1⟩
  rw [ei 3]
  refine ⟨fun q => h g3 ⟨heads g3 (fun _ => rfl), fun t ht => ?_⟩ T3, fun q => ?_⟩
  · rcases hU with ⟨-, w⟩ | ⟨u, hu, w, -⟩
    · have hb := hB.2 t (by rw [v1_]; exact ht)
      rw [eo _ _ (by omega), eo _ _ (by omega), eo _ _ (by omega), eo _ _ (by omega)]
      rw [(v3 t ht).1, (v3 t ht).2, (w t ht).1, (w t ht).2] at hb
      exact hb
    · rw [w] at q
      exact absurd q (nI_none (by omega))
  · rcases hU with ⟨w, -⟩ | ⟨u, hu, w3, w4, w5, w⟩
    · exact absurd w q
    · rw [w3]
      have hv := vt h7 hu
      refine ⟨hv, fun g4 e4 => ?_⟩
      rw [cl (by omega), ei 4, w4] at e4
      have e43 : g4.1 i 3 = nI u := by rw [e4, mset_at, if_neg (by omega), ei 3]; exact w3
      rw [e43]
      refine ⟨hv, fun g5 e5 => ?_⟩
      rw [cl (by omega), show g4.1 i 5 = nI (b 4 u) by rw [e4, mset_at, if_neg (by omega), ei 5]; exact w5] at e5
      have e5j : ∀ k, g5.1 j k = g3.1 j k := fun k => by rw [e5, mset_at, if_neg (by omega), e4, mset_at, if_neg (by omega)]
      refine h g5 ⟨heads g5 e5j, fun t ht => ?_⟩ ?_
      · have hb := hB.2 t (by rw [v1_]; exact ht)
        rw [(v3 t ht).1, (v3 t ht).2] at hb
        have r1 : g5.1 (j + 1) t = g.1 (j + 1) t := by rw [e5, mset_at, if_neg (by omega), e4, mset_at, if_neg (by omega), eo _ _ (by omega)]
        have r2 : g5.1 (j + 2) t = g.1 (j + 2) t := by rw [e5, mset_at, if_neg (by omega), e4, mset_at, if_neg (by omega), eo _ _ (by omega)]
        rw [r1, r2]
        refine ⟨hb.1, hb.2.1, ?_⟩
        by_cases z : t = u
        · subst z
          refine ⟨?_, ?_⟩
          · rw [e5, mset_at, if_neg (by omega), e4, mset_at, if_pos ⟨rfl, rfl⟩]
          · rw [e5, mset_at, if_pos ⟨rfl, rfl⟩]
        · have hw := w t ht z
          rw [hw.1, hw.2] at hb
          rw [e5, mset_at, if_neg (by omega), mset_at, if_neg (by omega), e4, mset_at, if_neg (by omega), mset_at, if_neg (by omega), eo _ _ (by omega), eo _ _ (by omega)]
          exact hb.2.2
      · rw [e5, e4]
        exact Fr.set (Fr.set T3 (Or.inr (Or.inl rfl))) (Or.inr (Or.inr rfl))
/-- one case becomes as another -/
theorem s3_become {Q : Mm → Prop} {g : Mm} {i j : Nat} {b : Bx} (hB : BoxIs g i b) (h7 : b 0 0 ≤ 7) (hij : i + 4 < j ∨ j + 4 < i) (h : ∀ g', BoxIs g' j b → (∀ k, 4 ≤ k → k ≤ 8 → g'.1 j k = g.1 i k) → Fr (fun q k => j ≤ q ∧ q ≤ j + 4) g g' → Q g') : o_X3_become Q j i g := by
  have c0 : (((¬ (0 : Int32) < 0 ∧ ¬ (0 : Int32) < 0 ∧ ¬ (7 : Int32) < 0) ∧ (0 : Int32).toNatClampNeg + (7 : Int32).toNatClampNeg ≤ 7 ∧ (0 : Int32).toNatClampNeg + (7 : Int32).toNatClampNeg ≤ 7)) := by decide
  refine ⟨c0, fun g1 e1 => ⟨c0, fun g2 e2 => ⟨c0, fun g3 e3 => ⟨c0, fun g4 e4 g5 e5 g6 e6 g7 e7 g8 e8 g9 e9 => ?_⟩⟩⟩⟩
  rw [show (0 : Int32).toNatClampNeg = 0 from rfl, show (7 : Int32).toNatClampNeg = 7 from rfl] at e1 e2 e3 e4
  have f1 : Fr (fun q k => j ≤ q ∧ q ≤ j + 4) g g1 := by rw [e1]; exact Fr.cpy Fr.rfl (fun k _ _ => ⟨by omega, by omega⟩)
  have f2 : Fr (fun q k => j ≤ q ∧ q ≤ j + 4) g g2 := by rw [e2]; exact Fr.cpy f1 (fun k _ _ => ⟨by omega, by omega⟩)
  have f3 : Fr (fun q k => j ≤ q ∧ q ≤ j + 4) g g3 := by rw [e3]; exact Fr.cpy f2 (fun k _ _ => ⟨by omega, by omega⟩)
  have f4 : Fr (fun q k => j ≤ q ∧ q ≤ j + 4) g g4 := by rw [e4]; exact Fr.cpy f3 (fun k _ _ => ⟨by omega, by omega⟩)
  have f5 : Fr (fun q k => j ≤ q ∧ q ≤ j + 4) g g5 := by rw [e5]; exact Fr.set f4 ⟨by omega, by omega⟩
  have f6 : Fr (fun q k => j ≤ q ∧ q ≤ j + 4) g g6 := by rw [e6]; exact Fr.set f5 ⟨by omega, by omega⟩
  have f7 : Fr (fun q k => j ≤ q ∧ q ≤ j + 4) g g7 := by rw [e7]; exact Fr.set f6 ⟨by omega, by omega⟩
  have f8 : Fr (fun q k => j ≤ q ∧ q ≤ j + 4) g g8 := by rw [e8]; exact Fr.set f7 ⟨by omega, by omega⟩
  have f9 : Fr (fun q k => j ≤ q ∧ q ≤ j + 4) g g9 := by rw [e9]; exact Fr.set f8 ⟨by omega, by omega⟩
  rw [f4 i 4 (by omega)] at e5
  rw [f5 i 5 (by omega)] at e6
  rw [f6 i 6 (by omega)] at e7
  rw [f7 i 7 (by omega)] at e8
  rw [f8 i 8 (by omega)] at e9
  have hd : g9.1 j 4 = g.1 i 4 ∧ g9.1 j 5 = g.1 i 5 ∧ g9.1 j 6 = g.1 i 6 ∧ g9.1 j 7 = g.1 i 7 ∧ g9.1 j 8 = g.1 i 8 := by
    rw [e9, e8, e7, e6, e5]
    simp [mset_at]
  have hr : ∀ q k, q ≠ j → g9.1 q k = g4.1 q k := by
    intro q k hq
    rw [e9, mset_at, if_neg (by omega), e8, mset_at, if_neg (by omega), e7, mset_at, if_neg (by omega), e6, mset_at, if_neg (by omega), e5, mset_at, if_neg (by omega)]
  have ha : ∀ t, t < 7 → g4.1 (j + 1) t = g.1 (i + 1) t ∧ g4.1 (j + 2) t = g.1 (i + 2) t ∧ g4.1 (j + 3) t = g.1 (i + 3) t ∧ g4.1 (j + 4) t = g.1 (i + 4) t := by
    intro t ht
    refine ⟨?_, ?_, ?_, ?_⟩
    · rw [e4, mcpy_at, if_neg (by omega), e3, mcpy_at, if_neg (by omega), e2, mcpy_at, if_neg (by omega), e1, mcpy_at, if_pos ⟨rfl, by omega, by omega⟩]
      rw [show 0 + (t - 0) = t by omega]
    · rw [e4, mcpy_at, if_neg (by omega), e3, mcpy_at, if_neg (by omega), e2, mcpy_at, if_pos ⟨rfl, by omega, by omega⟩, show 0 + (t - 0) = t by omega]
      exact f1 _ _ (by omega)
    · rw [e4, mcpy_at, if_neg (by omega), e3, mcpy_at, if_pos ⟨rfl, by omega, by omega⟩, show 0 + (t - 0) = t by omega]
      exact f2 _ _ (by omega)
    · rw [e4, mcpy_at, if_pos ⟨rfl, by omega, by omega⟩, show 0 + (t - 0) = t by omega]
      exact f3 _ _ (by omega)
  refine h g9 ⟨?_, fun t ht => ?_⟩ (fun k k1 k2 => ?_) f9
  · rw [hd.1, hd.2.1, hd.2.2.1, hd.2.2.2.1, hd.2.2.2.2]; exact hB.1
  · rw [hr _ _ (by omega), hr _ _ (by omega), hr _ _ (by omega), hr _ _ (by omega)]
    have := ha t (by omega)
    rw [this.1, this.2.1, this.2.2.1, this.2.2.2]
    exact hB.2 t ht
  · have : k = 4 ∨ k = 5 ∨ k = 6 ∨ k = 7 ∨ k = 8 := by omega
    rcases this with rfl | rfl | rfl | rfl | rfl
    · exact hd.1
    · exact hd.2.1
    · exact hd.2.2.1
    · exact hd.2.2.2.1
    · exact hd.2.2.2.2
theorem s8_layHand {Q : Mm → Prop} {g : Mm} (h : ∀ g', (∀ k, k < 33 → g'.1 98 k = g.1 87 k) → Fr (fun q k => q = 98) g g' → Q g') : o_X8_layHand Q g := by
  have key : ∀ (k i : Nat) (g1 : Mm), i + k = 33 → Fr (fun q k => q = 98) g g1 → (∀ p, p < i → g1.1 98 p = g.1 87 p) → o_X8_layHand_2 Q (k + 1) g1 (nI i) := by
    intro k
    induction k with
    | zero =>
      intro i g1 hi hf hp
      refine ⟨fun _ => h g1 (fun p hp1 => hp p (by omega)) hf, fun q => absurd ((nI_leI (a := 33) (by omega) (by omega)).mpr (by omega)) q⟩
    | succ k ih =>
      intro i g1 hi hf hp
      have hv : vp_in (nI i) 33 := vlit i (by omega) (by omega)
      refine ⟨fun q => absurd ((nI_leI (a := 33) (by omega) (by omega)).mp q) (by omega), fun _ => ⟨hv, hv, ?_⟩⟩
      intro g2 e2 x ex
      rw [nI_1] at ex
      rw [cl (by omega), hf 87 i (by omega)] at e2
      subst ex
      refine ih (i + 1) g2 (by omega) (by rw [e2]; exact Fr.set (T := fun q k => q = 98) hf rfl) (fun p hp1 => ?_)
      rw [e2, mset_at]
      by_cases z : p = i
      · subst z; rw [if_pos ⟨rfl, rfl⟩]
      · rw [if_neg (by omega)]; exact hp p (by omega)
  exact ⟨34, key 33 0 g (by omega) Fr.rfl (fun p hp => absurd hp (by omega))⟩
theorem RowIs.of33 {f f' : Nat → Int32} {b : Bx} (h : RowIs f b) (h7 : b 0 0 ≤ 7) (e : ∀ k, k < 33 → f' k = f k) : RowIs f' b := by
  obtain ⟨⟨h1, h2, h3, h4, h5⟩, h6⟩ := h
  refine ⟨⟨by rw [e _ (by omega)]; exact h1, by rw [e _ (by omega)]; exact h2, by rw [e _ (by omega)]; exact h3, by rw [e _ (by omega)]; exact h4, by rw [e _ (by omega)]; exact h5⟩, fun t ht => ?_⟩
  rw [e (1 + t) (by omega), e (8 + t) (by omega), e (19 + t) (by omega), e (26 + t) (by omega)]
  exact h6 t ht
