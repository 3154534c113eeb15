/-! ACTS: play, put, grip, undo -/
theorem BoxIs.b5 {g g' : Mm} {j : Nat} {b : Bx} {v : Nat} (hB : BoxIs g j b) (e : ∀ q i, j ≤ q → q ≤ j + 4 → g'.1 q i = if q = j ∧ i = 5 then nI v else g.1 q i) : BoxIs g' j (bup b 5 0 v) := by
  obtain ⟨⟨h1, h2, h3, h4, h5⟩, h6⟩ := hB
  refine ⟨⟨?_, ?_, ?_, ?_, ?_⟩, fun i hi => ?_⟩
  · rw [e _ _ (by omega) (by omega), if_neg (by omega), bup_k (by decide)]; exact h1
  · rw [e _ _ (by omega) (by omega), if_pos ⟨rfl, rfl⟩, bup_same]
  · rw [e _ _ (by omega) (by omega), if_neg (by omega), bup_k (by decide)]; exact h3
  · rw [e _ _ (by omega) (by omega), if_neg (by omega), bup_k (by decide)]; exact h4
  · rw [e _ _ (by omega) (by omega), if_neg (by omega), bup_k (by decide)]; exact h5
  · rw [bup_k (by decide)] at hi
    rw [bup_k (by decide), bup_k (by decide), bup_k (by decide), bup_k (by decide), e (j + 1) i (by omega) (by omega), e (j + 2) i (by omega) (by omega), e (j + 3) i (by omega) (by omega), e (j + 4) i (by omega) (by omega), if_neg (by omega), if_neg (by omega), if_neg (by omega), if_neg (by omega)]
    exact h6 i hi
theorem RowIs.b5 {f f' : Nat → Int32} {b : Bx} {v : Nat} (hB : RowIs f b) (h7 : b 0 0 ≤ 7) (e : ∀ i, f' i = if i = 16 then nI v else f i) : RowIs f' (bup b 5 0 v) := by
  obtain ⟨⟨h1, h2, h3, h4, h5⟩, h6⟩ := hB
  refine ⟨⟨?_, ?_, ?_, ?_, ?_⟩, fun i hi => ?_⟩
  · rw [e, if_neg (by omega), bup_k (by decide)]; exact h1
  · rw [e, if_pos rfl, bup_same]
  · rw [e, if_neg (by omega), bup_k (by decide)]; exact h3
  · rw [e, if_neg (by omega), bup_k (by decide)]; exact h4
  · rw [e, if_neg (by omega), bup_k (by decide)]; exact h5
  · rw [bup_k (by decide)] at hi
    rw [bup_k (by decide), bup_k (by decide), bup_k (by decide), bup_k (by decide), e (1 + i), e (8 + i), e (19 + i), e (26 + i), if_neg (by omega), if_neg (by omega), if_neg (by omega), if_neg (by omega)]
    exact h6 i hi
theorem Vb_5 {b : Bx} {v : Nat} (hV : Vb b) (hv : v ≤ 9) : Vb (bup b 5 0 v) := by
  obtain ⟨h1, h2, h3⟩ := hV
  refine ⟨by rw [bup_k (by decide)]; exact h1, ⟨?_, ?_, ?_, ?_, ?_⟩, fun i hi => ?_⟩
  · rw [bup_same]; exact hv
  · rw [bup_k (by decide)]; exact h2.2.1
  · rw [bup_k (by decide)]; exact h2.2.2.1
  · rw [bup_k (by decide)]; exact h2.2.2.2.1
  · rw [bup_k (by decide)]; exact h2.2.2.2.2
  · rw [bup_k (by decide)] at hi
    rw [bup_k (by decide), bup_k (by decide), bup_k (by decide), bup_k (by decide)]
    exact h3 i hi
theorem BoxIs.b6 {g g' : Mm} {j : Nat} {b : Bx} {v : Nat} (hB : BoxIs g j b) (e : ∀ q i, j ≤ q → q ≤ j + 4 → g'.1 q i = if q = j ∧ i = 6 then nI v else g.1 q i) : BoxIs g' j (bup b 6 0 v) := by
  obtain ⟨⟨h1, h2, h3, h4, h5⟩, h6⟩ := hB
  refine ⟨⟨?_, ?_, ?_, ?_, ?_⟩, fun i hi => ?_⟩
  · rw [e _ _ (by omega) (by omega), if_neg (by omega), bup_k (by decide)]; exact h1
  · rw [e _ _ (by omega) (by omega), if_neg (by omega), bup_k (by decide)]; exact h2
  · rw [e _ _ (by omega) (by omega), if_pos ⟨rfl, rfl⟩, bup_same]
  · rw [e _ _ (by omega) (by omega), if_neg (by omega), bup_k (by decide)]; exact h4
  · rw [e _ _ (by omega) (by omega), if_neg (by omega), bup_k (by decide)]; exact h5
  · rw [bup_k (by decide)] at hi
    rw [bup_k (by decide), bup_k (by decide), bup_k (by decide), bup_k (by decide), e (j + 1) i (by omega) (by omega), e (j + 2) i (by omega) (by omega), e (j + 3) i (by omega) (by omega), e (j + 4) i (by omega) (by omega), if_neg (by omega), if_neg (by omega), if_neg (by omega), if_neg (by omega)]
    exact h6 i hi
theorem RowIs.b6 {f f' : Nat → Int32} {b : Bx} {v : Nat} (hB : RowIs f b) (h7 : b 0 0 ≤ 7) (e : ∀ i, f' i = if i = 17 then nI v else f i) : RowIs f' (bup b 6 0 v) := by
  obtain ⟨⟨h1, h2, h3, h4, h5⟩, h6⟩ := hB
  refine ⟨⟨?_, ?_, ?_, ?_, ?_⟩, fun i hi => ?_⟩
  · rw [e, if_neg (by omega), bup_k (by decide)]; exact h1
  · rw [e, if_neg (by omega), bup_k (by decide)]; exact h2
  · rw [e, if_pos rfl, bup_same]
  · rw [e, if_neg (by omega), bup_k (by decide)]; exact h4
  · rw [e, if_neg (by omega), bup_k (by decide)]; exact h5
  · rw [bup_k (by decide)] at hi
    rw [bup_k (by decide), bup_k (by decide), bup_k (by decide), bup_k (by decide), e (1 + i), e (8 + i), e (19 + i), e (26 + i), if_neg (by omega), if_neg (by omega), if_neg (by omega), if_neg (by omega)]
    exact h6 i hi
theorem Vb_6 {b : Bx} {v : Nat} (hV : Vb b) (hv : v ≤ 9) : Vb (bup b 6 0 v) := by
  obtain ⟨h1, h2, h3⟩ := hV
  refine ⟨by rw [bup_k (by decide)]; exact h1, ⟨?_, ?_, ?_, ?_, ?_⟩, fun i hi => ?_⟩
  · rw [bup_k (by decide)]; exact h2.1
  · rw [bup_same]; exact hv
  · rw [bup_k (by decide)]; exact h2.2.2.1
  · rw [bup_k (by decide)]; exact h2.2.2.2.1
  · rw [bup_k (by decide)]; exact h2.2.2.2.2
  · rw [bup_k (by decide)] at hi
    rw [bup_k (by decide), bup_k (by decide), bup_k (by decide), bup_k (by decide)]
    exact h3 i hi

theorem s0_begin {Q : Nat → Mm → Prop} {g : Mm} {f n : Nat} (hf : f < 24) (hn : n ≤ 24) (e1 : g.1 14 1 = nI f) (e2 : g.1 14 2 = nI n) (h : ∀ g' : Mm, g'.1 14 1 = nI ((f + 1) % 24) → g'.1 14 2 = nI (if n = 24 then 24 else n + 1) → Fr (fun q k => q = 14) g g' → Q (16 + f) g') : o_X0_begin Q g := by
  unfold o_X0_begin
  rw [e1]
  refine ⟨vlit f hf (by omega), by decide, fun g2 h2 g3 h3 => ?_⟩
  rw [nI_1, show nI (f + 1) - nI (f + 1) / 24 * 24 = nI ((f + 1) % 24) from pk_rem (d := 24) (by omega) (by omega) (by omega)] at h2
  rw [show g2.1 14 2 = nI n by rw [h2, mset_at, if_neg (by omega)]; exact e2, nI_1] at h3
  rw [cl (by omega), show 15 + 1 + f = 16 + f by omega]
  refine h g3 ?_ ?_ ?_
  · rw [h3, mset_at, if_neg (by omega), h2, mset_at, if_pos ⟨rfl, rfl⟩]
  · rw [h3, mset_at, if_pos ⟨rfl, rfl⟩]
    by_cases z : n = 24
    · have q : (24 : Int32) < nI (n + 1) := (nI_ltI (a := 24) (b := n + 1) (by omega) (by omega)).mpr (by omega)
      rw [if_pos z, if_pos q]; rfl
    · have q : ¬ (24 : Int32) < nI (n + 1) := fun q => by have := (nI_ltI (a := 24) (b := n + 1) (by omega) (by omega)).mp q; omega
      rw [if_neg z, if_neg q]
  · rw [h3, h2]
    exact Fr.set (T := fun q k => q = 14) (Fr.set (T := fun q k => q = 14) Fr.rfl rfl) rfl
theorem s8_save_b {Q : Mm → Prop} {g : Mm} {m : Nat} (hm : m < 24) (e : g.1 86 4 = nI m) (h : ∀ g' : Mm, g'.1 86 4 = nI (m + 1) → (∀ i, i < 33 → g'.1 90 (33 * m + i) = g.1 87 i) → Fr (fun q k => (q = 86 ∧ k = 4) ∨ (q = 90 ∧ 33 * m ≤ k ∧ k < 33 * m + 33)) g g' → Q g') : o_X8_save_49 Q g := by
  have key : ∀ (k i : Nat) (g1 : Mm), i + k = 33 → Fr (fun q k => q = 90 ∧ 33 * m ≤ k ∧ k < 33 * m + 33) g g1 → (∀ p, p < i → g1.1 90 (33 * m + p) = g.1 87 p) → o_X8_save_51 Q (fun (g : Mm) => ∀ g_3 : Mm, g_3 = mset g 86 4 ((g.1 86 4) + 1) → (Q g_3)) (k + 1) g1 (nI i) := by
    intro k
    induction k with
    | zero =>
      intro i g1 hi hf hp
      refine ⟨fun _ => ?_, fun q => absurd ((nI_leI (a := 33) (by omega) (by omega)).mpr (by omega)) q⟩
      intro g3 e3
      rw [show g1.1 86 4 = nI m by rw [hf 86 4 (by omega)]; exact e, nI_1] at e3
      refine h g3 (by rw [e3, mset_at, if_pos ⟨rfl, rfl⟩]) (fun p hp1 => ?_) ?_
      · rw [e3, mset_at, if_neg (by omega)]; exact hp p (by omega)
      · rw [e3]; exact Fr.set (hf.mono (fun q k z => Or.inr z)) (Or.inl ⟨rfl, rfl⟩)
    | succ k ih =>
      intro i g1 hi hf hp
      have em : g1.1 86 4 = nI m := by rw [hf 86 4 (by omega)]; exact e
      have ee : (33 : Int32) * nI m + nI i = nI (33 * m + i) := by rw [show (33 : Int32) = nI 33 from rfl, pk_mul, nI_add]
      refine ⟨fun q => absurd ((nI_leI (a := 33) (by omega) (by omega)).mp q) (by omega), fun _ => ⟨vlit i (by omega) (by omega), ?_⟩⟩
      rw [em, ee]
      refine ⟨vlit _ (by omega) (by omega), fun g2 e2 x ex => ?_⟩
      rw [nI_1] at ex; subst ex
      rw [cl (by omega), cl (by omega), hf 87 i (by omega)] at e2
      refine ih (i + 1) g2 (by omega) (by rw [e2]; exact Fr.set (T := fun q k => q = 90 ∧ 33 * m ≤ k ∧ k < 33 * m + 33) hf ⟨rfl, by omega, by omega⟩) (fun p hp1 => ?_)
      rw [e2, mset_at]
      by_cases z : p = i
      · subst z; rw [if_pos ⟨rfl, rfl⟩]
      · rw [if_neg (by omega)]; exact hp p (by omega)
  exact ⟨34, key 33 0 g (by omega) Fr.rfl (fun p hp => absurd hp (by omega))⟩
theorem s8_shift {Q : Mm → Prop} {K : Mm → Prop} {g : Mm} (h : ∀ g' : Mm, (∀ i, i < 759 → g'.1 90 i = g.1 90 (33 + i)) → Fr (fun q k => q = 90) g g' → K g') : ∃ n, o_X8_save_11 Q K n g 0 := by
  have key : ∀ (k i : Nat) (g1 : Mm), i + k = 759 → Fr (fun q k => q = 90 ∧ k < i) g g1 → (∀ p, p < i → g1.1 90 p = g.1 90 (33 + p)) → o_X8_save_11 Q K (k + 1) g1 (nI i) := by
    intro k
    induction k with
    | zero =>
      intro i g1 hi hf hp
      exact ⟨fun _ => h g1 (fun p hp1 => hp p (by omega)) (hf.mono (fun q k z => z.1)), fun q => absurd ((nI_leI (a := 759) (by omega) (by omega)).mpr (by omega)) q⟩
    | succ k ih =>
      intro i g1 hi hf hp
      have ee : (33 : Int32) + nI i = nI (33 + i) := nI_add 33 i
      refine ⟨fun q => absurd ((nI_leI (a := 759) (by omega) (by omega)).mp q) (by omega), fun _ => ?_⟩
      rw [ee]
      refine ⟨vlit _ (by omega) (by omega), vlit _ (by omega) (by omega), fun g2 e2 x ex => ?_⟩
      rw [nI_1] at ex; subst ex
      rw [cl (by omega), cl (by omega), hf 90 (33 + i) (by omega)] at e2
      refine ih (i + 1) g2 (by omega) (by rw [e2]; exact Fr.set (T := fun q k => q = 90 ∧ k < i + 1) (hf.mono (fun q k z => ⟨z.1, by omega⟩)) ⟨rfl, by omega⟩) (fun p hp1 => ?_)
      rw [e2, mset_at]
      by_cases z : p = i
      · subst z; rw [if_pos ⟨rfl, rfl⟩]
      · rw [if_neg (by omega)]; exact hp p (by omega)
  exact ⟨760, key 759 0 g (by omega) Fr.rfl (fun p hp => absurd hp (by omega))⟩
def sft (n : Nat) : Nat := if n = 24 then 1 else 0
def nxt (n : Nat) : Nat := if n = 24 then 24 else n + 1
theorem s8_save {Q : Mm → Prop} {g : Mm} {n : Nat} (hn : n ≤ 24) (e : g.1 86 4 = nI n) (h : ∀ g' : Mm, g'.1 86 4 = nI (nxt n) → (∀ k i, k + 1 < nxt n → i < 33 → g'.1 90 (33 * k + i) = g.1 90 (33 * (k + sft n) + i)) → (∀ i, i < 33 → g'.1 90 (33 * (nxt n - 1) + i) = g.1 87 i) → Fr (fun q k => (q = 86 ∧ k = 4) ∨ q = 90) g g' → Q g') : o_X8_save Q g := by
  unfold o_X8_save
  rw [e]
  refine ⟨fun q => ?_, fun q => ?_⟩
  · have hz : n ≠ 24 := fun z => q (by rw [z]; rfl)
    have e1 : nxt n = n + 1 := if_neg hz
    have e2 : sft n = 0 := if_neg hz
    rw [e1, e2] at h
    refine s8_save_b (by omega) e (fun g' a1 a2 a3 => h g' a1 (fun k i hk hi => ?_) (fun i hi => ?_) (a3.mono (fun q k z => by omega)))
    · rw [a3 90 _ (by omega)]; rfl
    · exact a2 i hi
  · have hz : n = 24 := (nI_eq (b := 24) (by omega) (by omega)).mp q
    have e1 : nxt n = 24 := if_pos hz
    have e2 : sft n = 1 := if_pos hz
    rw [e1, e2] at h
    refine s8_shift (fun g1 a1 a2 => ?_)
    intro g6 e6
    rw [show g1.1 86 4 = nI 24 by rw [a2 86 4 (by omega), e, hz], show nI 24 - 1 = nI 23 from rfl] at e6
    have e64 : g6.1 86 4 = nI 23 := by rw [e6, mset_at, if_pos ⟨rfl, rfl⟩]
    refine s8_save_b (by omega) e64 (fun g' b1 b2 b3 => h g' b1 (fun k i hk hi => ?_) (fun i hi => ?_) ?_)
    · rw [b3 90 _ (by omega), e6, mset_at, if_neg (by omega), a1 _ (by omega)]
      rw [show 33 + (33 * k + i) = 33 * (k + 1) + i by omega]
    · rw [show 24 - 1 = 23 from rfl, b2 i hi, e6, mset_at, if_neg (by omega), a2 87 i (by omega)]
    · refine Fr.trans (g1 := g6) ?_ (b3.mono (fun q k z => by omega))
      rw [e6]; exact Fr.set (a2.mono (fun q k z => Or.inr z)) (Or.inl ⟨rfl, rfl⟩)
def Tact (j k : Nat) : Prop := (9 ≤ j ∧ j < 40) ∨ (j = 86 ∧ k = 4) ∨ j = 87 ∨ j = 90
/-- behind an act of both -/
theorem act_fin {g g1 g2 : Mm} {b b' : Bx} {n f : Nat} {bs : Nat → Bx} (hR : Rel g) (hW : RowIs (g.1 87) b) (hV : Vb b) (hP : b 8 0 ≤ 9999) (hnf : n ≤ 24 ∧ f < 24) (hbn : bs n = b) (hbs : ∀ k, k < n → RowIs (fun i => g.1 90 (33 * k + i)) (bs k) ∧ (Vb (bs k) ∧ bs k 8 0 ≤ 9999) ∧ Und g (16 + (f + 24 - n + k) % 24) (bs k) (bs (k + 1)))
    (c1 : g1.1 14 1 = nI ((f + 1) % 24)) (c2 : g1.1 14 2 = nI (nxt n)) (c3 : BoxIs g1 9 b') (c4 : Und g1 (16 + f) b b') (c5 : Fr (fun q k => (9 ≤ q ∧ q ≤ 14) ∨ q = 16 + f) g g1)
    (d1 : g2.1 86 4 = nI (nxt n)) (d2 : ∀ k i, k + 1 < nxt n → i < 33 → g2.1 90 (33 * k + i) = g.1 90 (33 * (k + sft n) + i)) (d3 : ∀ i, i < 33 → g2.1 90 (33 * (nxt n - 1) + i) = g.1 87 i) (d4 : RowIs (g2.1 87) b') (d5 : Fr (fun q k => (q = 86 ∧ k = 4) ∨ q = 90 ∨ q = 87) g1 g2) (hV2 : Vb b') (hP2 : b' 8 0 ≤ 9999) : Rel g2 := by
  have hf : Fr Tact g g2 := Fr.trans (c5.mono (fun j k z => by unfold Tact; omega)) (d5.mono (fun j k z => by unfold Tact; omega))
  have hx : (n = 24 ∧ nxt n = 24 ∧ sft n = 1) ∨ (n < 24 ∧ nxt n = n + 1 ∧ sft n = 0) := by
    by_cases z : n = 24
    · exact Or.inl ⟨z, if_pos z, if_pos z⟩
    · exact Or.inr ⟨by omega, if_neg z, if_neg z⟩
  refine ⟨hR.1.fr hf (by intro j k ht; unfold Tact at ht; omega), hR.2.1.fr hf (by intro j k ht; unfold Tact at ht; omega), hR.2.2.1.fr hf (by intro j k ht; unfold Tact at ht; omega), hR.2.2.2.1.fr hf (by intro j k ht; unfold Tact at ht; omega), ⟨b', c3.eq (fun q k _ _ => d5 q k (by omega)), d4, Or.inr hV2, ⟨nxt n, (f + 1) % 24, fun k => if k < nxt n then bs (k + sft n) else b', ⟨by omega, Nat.mod_lt _ (by omega)⟩, ⟨by rw [d5 14 2 (by omega)]; exact c2, d1, by rw [d5 14 1 (by omega)]; exact c1⟩, if_neg (Nat.lt_irrefl _), fun k hk => ?_⟩, hP2⟩, hR.2.2.2.2.2.1.fr hf (by intro j k ht; unfold Tact at ht; omega), hR.2.2.2.2.2.2.fr hf (by intro j k ht; unfold Tact at ht; omega)⟩
  dsimp only
  rw [if_pos hk]
  by_cases z : k + 1 < nxt n
  · rw [if_pos z]
    obtain ⟨a1, a2, a3⟩ := hbs (k + sft n) (by omega)
    have h7 := a2.1.1.2
    refine ⟨a1.of33 h7 (fun i hi => d2 k i z hi), a2, ?_⟩
    rw [show k + 1 + sft n = k + sft n + 1 by omega]
    have ep : 16 + ((f + 1) % 24 + 24 - nxt n + k) % 24 = 16 + (f + 24 - n + (k + sft n)) % 24 := by omega
    rw [ep]
    refine a3.eq (fun i => ?_)
    rw [d5 _ i (by omega), c5 _ i (by omega)]
  · have hk1 : k = nxt n - 1 := by omega
    rw [if_neg z]
    have eb : bs (k + sft n) = b := by rw [show k + sft n = n by omega]; exact hbn
    rw [eb]
    refine ⟨hW.of33 hV.1.2 (fun i hi => by rw [hk1]; exact d3 i hi), ⟨hV, hP⟩, ?_⟩
    have ep : 16 + ((f + 1) % 24 + 24 - nxt n + k) % 24 = 16 + f := by omega
    rw [ep]
    exact c4.eq (fun i => d5 _ i (by omega))
theorem ly16 {f : Nat} (h : f < 24) : ly (16 + f) = 2 := by
  have := ly_ring f h
  rw [show 15 + 1 + f = 16 + f by omega] at this
  exact this
theorem cmd_play {g : Mm} (hR : Rel g) (x1 : Int32) : o_X7_play (fun r g1 => o_X8_play (fun r2 g2 => r = r2 ∧ Rel g2) g1 x1) g x1 := by
  obtain ⟨b, hB, hW, hV, hA, hP⟩ := hR.2.2.2.2.1
  have h7 := toys7 hV
  refine b7_case hB.1.1 h7 (bI_br (fun c0 => ?_) (fun c0 => b8_toys hW.1.1 ⟨fun q => absurd ((n0 h7).mpr c0) q, fun _ => ⟨rfl, hR⟩⟩))
  have st : ¬ nI (b 0 0) = 0 := fun q => c0 ((n0 h7).mp q)
  have hV := case_of hV c0
  refine s7_isColumn (bI_rb (fun c1 => b8_toys hW.1.1 ⟨fun _ => s8_isColumn (bI_rb (fun _ => ⟨rfl, hR⟩) (fun q => absurd q c1)), fun q => absurd q st⟩) (fun c1 => ?_))
  obtain ⟨c, hc, rfl⟩ := col_of c1
  obtain ⟨n, f, bs, hnf, ⟨e2, e3, e1⟩, hbn, hbs⟩ := hA
  have e15 : ∀ g1 : Mm, (∀ k, g1.1 87 k = g.1 87 k) → g1.1 87 (15 : Int32).toNatClampNeg = nI (b 8 0) := fun g1 w => (w _).trans hW.1.2.2.2.2
  rw [hB.1.2.2.2.2]
  refine ⟨fun c2 => ?_, fun c2 => ?_⟩
  · have h8 : b 8 0 < 9999 := (nI_ltI (b := 9999) (by omega) (by omega)).mp c2
    have hg := gr_le (k := 0) hV
    refine s3_grip (k := 0) hB hV (by omega) (s0_begin hnf.2 hnf.1 e1 e2 (fun g1 a1 a2 a3 => ⟨ly16 hnf.2, ?_⟩))
    have hB1 : BoxIs g1 9 b := hB.eq (fun q k _ _ => a3 q k (by omega))
    refine s3_playAt hB1 hV (by omega) (Or.inr (by omega)) hc (by omega) (fun g2 p1 p2 p3 => ?_)
    have hF : Fr (fun q k => (9 ≤ q ∧ q ≤ 14) ∨ q = 16 + f) g g2 := Fr.trans (a3.mono (fun q k z => by omega)) (p3.mono (fun q k z => by omega))
    have e87 : ∀ k, g2.1 87 k = g.1 87 k := fun k => hF 87 k (by omega)
    have hW2 : RowIs (g2.1 87) b := hW.eq e87
    refine b8_toys hW2.1.1 ⟨fun _ => s8_isColumn (bI_rb (fun q => absurd c1 q) (fun _ => ⟨vlit 15 (by omega) (by omega), ?_⟩)), fun q => absurd q st⟩
    rw [e15 g2 e87]
    refine ⟨fun _ => s8_save hnf.1 (by rw [hF 86 4 (by omega)]; exact e3) (fun g3 q1 q2 q3 q4 => ?_), fun z => absurd ((nI_eq (b := 9999) (by omega) (by omega)).mp z) (by omega)⟩
    have hW3 : RowIs (g3.1 87) b := hW2.eq (fun k => q4 87 k (by omega))
    refine s8_goNext hW3 hV (by omega) hc (fun g4 r4 f4 => r8_tell (Q := fun r2 g2 => r7I b c (gr b 0) = r2 ∧ Rel g2) hV hc r4 ⟨rfl, ?_⟩)
    exact act_fin (g1 := g2) hR hW hV hP hnf hbn hbs (by rw [p3 14 1 (by omega)]; exact a1) (by rw [p3 14 2 (by omega)]; exact a2) p1 p2 hF (by rw [f4 86 4 (by omega)]; exact q1) (fun k i hk hi => by rw [f4 90 _ (by omega), q2 k i hk hi, hF 90 _ (by omega)]) (fun i hi => by rw [f4 90 _ (by omega), q3 i hi, e87]) r4 (Fr.trans (q4.mono (fun q k z => by omega)) (f4.mono (fun q k z => by omega))) (Vb_pl hV hc (by omega)) (by rw [pl_8]; omega)
  · have h8 : b 8 0 = 9999 := by
      have : ¬ b 8 0 < 9999 := fun z => c2 ((nI_ltI (b := 9999) (by omega) (by omega)).mpr z)
      omega
    refine b8_toys hW.1.1 ⟨fun _ => s8_isColumn (bI_rb (fun q => absurd c1 q) (fun _ => ⟨vlit 15 (by omega) (by omega), ?_⟩)), fun q => absurd q st⟩
    rw [e15 g (fun _ => rfl), h8]
    exact ⟨fun z => absurd rfl z, fun _ => ⟨rfl, hR⟩⟩
theorem colI {n : Nat} (hn : n < 1000) : (1 ≤ nI n ∧ nI n ≤ 5) ↔ (1 ≤ n ∧ n ≤ 5) := by
  rw [show (1 : Int32) ≤ nI n ↔ 1 ≤ n from nI_leI (a := 1) (by omega) (by omega), show nI n ≤ (5 : Int32) ↔ n ≤ 5 from nI_leI (b := 5) (by omega) (by omega)]
theorem cmd_put {g : Mm} (hR : Rel g) (x1 x2 : Int32) : o_X7_put (fun r g1 => o_X8_put (fun r2 g2 => r = r2 ∧ Rel g2) g1 x1 x2) g x1 x2 := by
  obtain ⟨b, hB, hW, hV, hA, hP⟩ := hR.2.2.2.2.1
  have h7 := toys7 hV
  refine b7_toy hB.1.1 (bI_br (fun c1 => b8_toy hW.1.1 (bI_br (fun _ => ⟨rfl, hR⟩) (fun q => absurd q c1))) (fun c1 => ?_))
  refine s7_isColumn (bI_rb (fun c2 => b8_toy hW.1.1 (bI_br (fun q => absurd c1 q) (fun _ => s8_isColumn (bI_rb (fun _ => ⟨rfl, hR⟩) (fun q => absurd q c2))))) (fun c2 => ?_))
  obtain ⟨t, ht, rfl⟩ := toy_of h7 c1
  obtain ⟨c, hc, rfl⟩ := col_of c2
  have hV := case_of hV (by omega)
  have hp := VbP hV ht
  have hv := vt h7 ht
  obtain ⟨n, f, bs, hnf, ⟨e2, e3, e1⟩, hbn, hbs⟩ := hA
  refine ⟨hv, ?_⟩
  rw [cl (by omega), (hB.2 t ht).2.2.1]
  refine s7_isColumn (bI_br (fun c3 => ?_) (fun c3 => ?_))
  · refine s0_begin hnf.2 hnf.1 e1 e2 (fun g1 a1 a2 a3 => ⟨ly16 hnf.2, ?_⟩)
    have hB1 : BoxIs g1 9 b := hB.eq (fun q k _ _ => a3 q k (by omega))
    show o_X2_keep _ (16 + f) 9 g1 (t7I (t + 1))
    refine s2_keep hB1 h7 (by omega) (Or.inr (by omega)) (fun g2 k1 k2 k3 => ?_)
    have hB2 : BoxIs g2 9 b := hB1.eq (fun q k _ _ => k3 q k (by omega))
    show o_X3_lay _ 9 g2 (nI t) (nI c)
    refine s3_lay hB2 hV ht (by omega) (fun g3 l1 l2 => s3_howMany l1 (Vb_pu hV (by omega)) (by omega) ?_)
    have hF : Fr (fun q k => (9 ≤ q ∧ q ≤ 14) ∨ q = 16 + f) g g3 := Fr.trans (Fr.trans (a3.mono (fun q k z => by omega)) (k3.mono (fun q k z => by omega))) (l2.mono (fun q k z => by omega))
    have e87 : ∀ k, g3.1 87 k = g.1 87 k := fun k => hF 87 k (by omega)
    have hW3 : RowIs (g3.1 87) b := hW.eq e87
    have hU : Und g3 (16 + f) b (pu b t c) := by
      have w : ∀ k, g3.1 (16 + f) k = g2.1 (16 + f) k := fun k => l2 _ k (by omega)
      refine Und.of_keep (p := t + 1) (by rw [w, w, w]; exact k1) (by rw [w, w, w]; exact k2) (by omega) (fun a k a3 a4 a5 a6 a8 => pu_0 a3 a4) (fun i hi hz => ?_)
      have : i ≠ t := by omega
      exact ⟨pu_t this, pu_t this⟩
    refine b8_toy hW3.1.1 (bI_br (fun q => absurd c1 q) (fun _ => s8_isColumn (bI_rb (fun q => absurd c2 q) (fun _ => ⟨v19 (by omega), ?_⟩))))
    rw [c19 (by omega), (hW3.2 t ht).2.2.1]
    refine s8_isColumn (bI_br (fun _ => s8_save hnf.1 (by rw [hF 86 4 (by omega)]; exact e3) (fun g4 q1 q2 q3 q4 => ?_)) (fun q => absurd q c3))
    have hW4 : RowIs (g4.1 87) b := hW3.eq (fun k => q4 87 k (by omega))
    refine s8_lay hW4 hV ht hc (fun g5 r5 f5 => s8_lyingIn r5 (Vb_pu hV (by omega)) (by omega) ⟨rfl, ?_⟩)
    exact act_fin (g1 := g3) hR hW hV hP hnf hbn hbs (by rw [l2 14 1 (by omega), k3 14 1 (by omega)]; exact a1) (by rw [l2 14 2 (by omega), k3 14 2 (by omega)]; exact a2) l1 hU hF (by rw [f5 86 4 (by omega)]; exact q1) (fun k i hk hi => by rw [f5 90 _ (by omega), q2 k i hk hi, hF 90 _ (by omega)]) (fun i hi => by rw [f5 90 _ (by omega), q3 i hi, e87]) r5 (Fr.trans (q4.mono (fun q k z => by omega)) (f5.mono (fun q k z => by omega))) (Vb_pu hV (by omega)) (by rw [pu_0 (by decide) (by decide)]; exact hP)
  · refine b8_toy hW.1.1 (bI_br (fun q => absurd c1 q) (fun _ => s8_isColumn (bI_rb (fun q => absurd c2 q) (fun _ => ⟨v19 (by omega), ?_⟩))))
    rw [c19 (by omega), (hW.2 t ht).2.2.1]
    exact s8_isColumn (bI_br (fun q => absurd c3 q) (fun _ => ⟨rfl, hR⟩))
theorem cmd_grip {g : Mm} (hR : Rel g) (x1 x2 : Int32) : o_X7_grip (fun r g1 => o_X8_grip (fun r2 g2 => r = r2 ∧ Rel g2) g1 x1 x2) g x1 x2 := by
  obtain ⟨b, hB, hW, hV, hA, hP⟩ := hR.2.2.2.2.1
  have h7 := toys7 hV
  refine b7_case hB.1.1 h7 (bI_br (fun c0 => ?_) (fun c0 => b8_toys hW.1.1 ⟨fun q => absurd ((n0 h7).mpr c0) q, fun _ => ⟨rfl, hR⟩⟩))
  have st : ¬ nI (b 0 0) = 0 := fun q => c0 ((n0 h7).mp q)
  have hV := case_of hV c0
  refine s7_within (bI_br (fun c1 => b8_toys hW.1.1 ⟨fun _ => s8_in 0 1 rfl rfl (bI_br (fun _ => ⟨rfl, hR⟩) (fun q => absurd q c1)), fun q => absurd q st⟩) (fun c1 => ?_))
  refine s7_within (bI_rb (fun c2 => b8_toys hW.1.1 ⟨fun _ => s8_in 0 1 rfl rfl (bI_br (fun q => absurd c1 q) (fun _ => s8_in 0 9 rfl rfl (bI_rb (fun _ => ⟨rfl, hR⟩) (fun q => absurd q c2)))), fun q => absurd q st⟩) (fun c2 => ?_))
  obtain ⟨w, hw, rfl⟩ := in_of 1 rfl c1
  obtain ⟨v, hv, rfl⟩ := in_of 9 rfl c2
  obtain ⟨n, f, bs, hnf, ⟨e2, e3, e1⟩, hbn, hbs⟩ := hA
  refine s0_begin hnf.2 hnf.1 e1 e2 (fun g1 a1 a2 a3 => ⟨ly16 hnf.2, ?_⟩)
  have hB1 : BoxIs g1 9 b := hB.eq (fun q k _ _ => a3 q k (by omega))
  rw [show (-1000000 : Int32) = t7I 0 from rfl]
  refine s2_keep hB1 h7 (by omega) (Or.inr (by omega)) (fun g2 k1 k2 k3 => ?_)
  have hB2 : BoxIs g2 9 b := hB1.eq (fun q k _ _ => k3 q k (by omega))
  have hF2 : Fr (fun q k => (9 ≤ q ∧ q ≤ 14) ∨ q = 16 + f) g g2 := Fr.trans (a3.mono (fun q k z => by omega)) (k3.mono (fun q k z => by omega))
  -- both, for LOW or HIGH (K: 5 or 6)
  have both : ∀ (K : Nat) (b' : Bx), (K = 5 ∧ w = 0 ∨ K = 6 ∧ w = 1) → b' = bup b K 0 v → BoxIs (mset g2 9 K (nI v)) 9 b' → (∀ f f' : Nat → Int32, RowIs f b → (∀ i, f' i = if i = 11 + K then nI v else f i) → RowIs f' b') → Vb b' → o_X8_grip (fun r2 g2 => nI (b K 0) = r2 ∧ Rel g2) (mset g2 9 K (nI v)) (nI w) (nI v) := by
    intro K b' hK eb l1 rowup hV2
    have hF : Fr (fun q k => (9 ≤ q ∧ q ≤ 14) ∨ q = 16 + f) g (mset g2 9 K (nI v)) := Fr.set hF2 (Or.inl ⟨by omega, by omega⟩)
    have e87 : ∀ k, (mset g2 9 K (nI v)).1 87 k = g.1 87 k := fun k => hF 87 k (by omega)
    have hW3 : RowIs ((mset g2 9 K (nI v)).1 87) b := hW.eq e87
    have l2 : ∀ q k, q ≠ 9 → (mset g2 9 K (nI v)).1 q k = g2.1 q k := fun q k z => by rw [mset_at, if_neg (by omega)]
    have hU : Und (mset g2 9 K (nI v)) (16 + f) b b' := by
      have y : ∀ k, (mset g2 9 K (nI v)).1 (16 + f) k = g2.1 (16 + f) k := fun k => l2 _ k (by omega)
      refine Und.of_keep (p := 0) (by rw [y, y, y]; exact k1) (by rw [y, y, y]; exact k2) (by omega) (fun a k a3 a4 a5 a6 a8 => ?_) (fun i hi hz => ?_)
      · rw [eb, bup_k (by omega)]
      · rw [eb, bup_k (by omega), bup_k (by omega)]; exact ⟨rfl, rfl⟩
    have ei : (16 : Int32) + nI w = nI (11 + K) := by rw [show (16 : Int32) = nI 16 from rfl, nI_add]; congr 1; omega
    refine b8_toys hW3.1.1 ⟨fun _ => s8_in 0 1 rfl rfl (bI_br (fun q => absurd c1 q) (fun _ => s8_in 0 9 rfl rfl (bI_rb (fun q => absurd c2 q) (fun _ => ?_)))), fun q => absurd q st⟩
    rw [ei]
    refine ⟨vlit _ (by omega) (by omega), fun x ex => ?_⟩
    have exv : x = nI (b K 0) := by
      rw [ex, cl (by omega)]
      rcases hK with ⟨z, -⟩ | ⟨z, -⟩
      · subst z; exact hW3.1.2.1
      · subst z; exact hW3.1.2.2.1
    refine s8_save hnf.1 (by rw [hF 86 4 (by omega)]; exact e3) (fun g4 q1 q2 q3 q4 => ⟨vlit _ (by omega) (by omega), fun g5 e5 => ⟨exv.symm, ?_⟩⟩)
    rw [cl (by omega)] at e5
    have hW4 : RowIs (g4.1 87) b := hW3.eq (fun k => q4 87 k (by omega))
    have f5 : Fr (fun q k => q = 87) g4 g5 := by rw [e5]; exact Fr.set (T := fun q k => q = 87) Fr.rfl rfl
    have r5 : RowIs (g5.1 87) b' := rowup _ _ hW4 (fun i => by rw [e5, mset_at]; simp only [true_and])
    exact act_fin (g1 := mset g2 9 K (nI v)) hR hW hV hP hnf hbn hbs (by rw [l2 14 1 (by omega), k3 14 1 (by omega)]; exact a1) (by rw [l2 14 2 (by omega), k3 14 2 (by omega)]; exact a2) l1 hU hF (by rw [f5 86 4 (by omega)]; exact q1) (fun k i hk hi => by rw [f5 90 _ (by omega), q2 k i hk hi, hF 90 _ (by omega)]) (fun i hi => by rw [f5 90 _ (by omega), q3 i hi, e87]) r5 (Fr.trans (q4.mono (fun q k z => by omega)) (f5.mono (fun q k z => by omega))) hV2 (by rw [eb, bup_k (by omega)]; exact hP)
  have w0 : nI w = 0 ↔ w = 0 := nI_eq (b := 0) (by omega) (by omega)
  refine ⟨fun q => ⟨fun _ g11 e11 => ?_, fun z => absurd z q⟩, fun q => ⟨fun z => absurd q z, fun _ g12 e12 => ?_⟩⟩
  · have hw1 : w = 1 := by
      have : ¬ w = 0 := fun z => q (w0.mpr z)
      omega
    rw [hB2.1.2.2.1]
    subst e11
    exact both 6 _ (Or.inr ⟨rfl, hw1⟩) rfl (hB2.b6 (fun q k _ _ => by rw [mset_at])) (fun f f' r e => r.b6 h7 e) (Vb_6 hV hv)
  · rw [hB2.1.2.1]
    subst e12
    exact both 5 _ (Or.inl ⟨rfl, w0.mp q⟩) rfl (hB2.b5 (fun q k _ _ => by rw [mset_at])) (fun f f' r e => r.b5 h7 e) (Vb_5 hV hv)
