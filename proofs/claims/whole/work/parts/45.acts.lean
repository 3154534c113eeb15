/-! undo, image, restore, share -/
theorem s8_undo_l {Q : Int32 → Mm → Prop} {g : Mm} {m : Nat} (hm : m < 24) (e : g.1 86 4 = nI m) (h : ∀ g' : Mm, (∀ i, i < 33 → g'.1 87 i = g.1 90 (33 * m + i)) → Fr (fun q k => q = 87) g g' → Q (nI m) g') : ∃ n, o_X8_undo_22 Q n g 0 := by
  have key : ∀ (k i : Nat) (g1 : Mm), i + k = 33 → Fr (fun q k => q = 87) g g1 → (∀ p, p < i → g1.1 87 p = g.1 90 (33 * m + p)) → o_X8_undo_22 Q (k + 1) g1 (nI i) := by
    intro k
    induction k with
    | zero =>
      intro i g1 hi hf hp
      refine ⟨fun _ => ?_, fun q => absurd ((nI_leI (a := 33) (by omega) (by omega)).mpr (by omega)) q⟩
      rw [hf 86 4 (by omega), e]
      exact h g1 (fun p hp1 => hp p (by omega)) hf
    | succ k ih =>
      intro i g1 hi hf hp
      have ee : (33 : Int32) * nI m + nI i = nI (33 * m + i) := by rw [show (33 : Int32) = nI 33 from rfl, pk_mul, nI_add]
      refine ⟨fun q => absurd ((nI_leI (a := 33) (by omega) (by omega)).mp q) (by omega), fun _ => ?_⟩
      rw [hf 86 4 (by omega), e, ee]
      refine ⟨vlit _ (by omega) (by omega), vlit _ (by omega) (by omega), fun g2 e2 x ex => ?_⟩
      rw [nI_1] at ex; subst ex
      rw [cl (by omega), cl (by omega), hf 90 _ (by omega)] at e2
      refine ih (i + 1) g2 (by omega) (by rw [e2]; exact Fr.set (T := fun q k => q = 87) hf rfl) (fun p hp1 => ?_)
      rw [e2, mset_at]
      by_cases z : p = i
      · subst z; rw [if_pos ⟨rfl, rfl⟩]
      · rw [if_neg (by omega)]; exact hp p (by omega)
  exact ⟨34, key 33 0 g (by omega) Fr.rfl (fun p hp => absurd hp (by omega))⟩
theorem cmd_undo {g : Mm} (hR : Rel g) : o_X7_undo (fun r g1 => o_X8_undo (fun r2 g2 => r = r2 ∧ Rel g2) g1) g := by
  obtain ⟨b, hB, hW, hV, ⟨n, f, bs, hnf, ⟨e2, e3, e1⟩, hbn, hbs⟩, hP⟩ := hR.2.2.2.2.1
  have n00 : nI n = 0 ↔ n = 0 := nI_eq (b := 0) (by omega) (by omega)
  unfold o_X7_undo
  rw [e2]
  refine ⟨fun q => ?_, fun q => ?_⟩
  · have hn : n ≠ 0 := fun z => q (n00.mpr z)
    obtain ⟨a1, a2, a3⟩ := hbs (n - 1) (by omega)
    rw [show n - 1 + 1 = n by omega, hbn] at a3
    unfold o_X0_takeBack
    rw [e1]
    refine ⟨by decide, fun g1 h1 g2 h2 => ?_⟩
    have ef : (nI f + 24 - 1) - (nI f + 24 - 1) / 24 * 24 = nI ((f + 23) % 24) := by
      rw [show nI f + (24 : Int32) = nI (f + 24) from nI_add f 24, show nI (f + 24) - 1 = nI (f + 24 - 1) from pk_sub (b := 1) (by omega), show nI (f + 24 - 1) - nI (f + 24 - 1) / 24 * 24 = nI ((f + 24 - 1) % 24) from pk_rem (d := 24) (by omega) (by omega) (by omega)]
      rfl
    rw [ef] at h1
    rw [show g1.1 14 2 = nI n by rw [h1, mset_at, if_neg (by omega)]; exact e2, show nI n - 1 = nI (n - 1) from pk_sub (b := 1) (by omega)] at h2
    have e21 : g2.1 14 1 = nI ((f + 23) % 24) := by rw [h2, mset_at, if_neg (by omega), h1, mset_at, if_pos ⟨rfl, rfl⟩]
    have hm := Nat.mod_lt (f + 23) (show 0 < 24 by decide)
    have hF2 : Fr (fun q k => q = 14) g g2 := by
      rw [h2, h1]; exact Fr.set (T := fun q k => q = 14) (Fr.set (T := fun q k => q = 14) Fr.rfl rfl) rfl
    rw [e21]
    refine ⟨vlit _ (by omega) (by omega), ?_⟩
    rw [cl (by omega)]
    have ep : 15 + 1 + (f + 23) % 24 = 16 + (f + 24 - n + (n - 1)) % 24 := by omega
    rw [ep]
    refine s2_giveBack (b := bs (n - 1)) (b' := b) (hB.eq (fun q k _ _ => hF2 q k (by omega))) (a3.eq (fun k => hF2 _ k (by omega))) a2.1.1.2 (Or.inr (by omega)) (fun g4 p1 p2 => ?_)
    have e42 : g4.1 14 2 = nI (n - 1) := by rw [p2 14 2 (by omega), h2, mset_at, if_pos ⟨rfl, rfl⟩]
    rw [e42]
    have e864 : g4.1 86 4 = nI n := by rw [p2 86 4 (by omega), hF2 86 4 (by omega)]; exact e3
    show o_X8_undo _ g4
    unfold o_X8_undo
    rw [e864]
    refine ⟨fun _ g5 h5 => ?_, fun z => absurd (n00.mp z) hn⟩
    rw [show nI n - 1 = nI (n - 1) from pk_sub (b := 1) (by omega)] at h5
    refine s8_undo_l (m := n - 1) (by omega) (by rw [h5, mset_at, if_pos ⟨rfl, rfl⟩]) (fun g6 q1 q2 => ⟨rfl, ?_⟩)
    have F5 : ∀ q k, ¬ (q = 86 ∧ k = 4) → g5.1 q k = g4.1 q k := fun q k z => by rw [h5, mset_at, if_neg z]
    have F : ∀ q k, ¬ (q = 86 ∧ k = 4) → q ≠ 87 → ¬ (9 ≤ q ∧ q ≤ 14) → g6.1 q k = g.1 q k := fun q k z1 z2 z3 => by
      rw [q2 q k z2, F5 q k z1, p2 q k (by omega), hF2 q k (by omega)]
    have hf : Fr Tact g g6 := fun q k z => by
      have z : ¬ ((9 ≤ q ∧ q < 40) ∨ (q = 86 ∧ k = 4) ∨ q = 87 ∨ q = 90) := z
      exact F q k (by omega) (by omega) (by omega)
    refine ⟨hR.1.fr hf (by intro j k ht; unfold Tact at ht; omega), hR.2.1.fr hf (by intro j k ht; unfold Tact at ht; omega), hR.2.2.1.fr hf (by intro j k ht; unfold Tact at ht; omega), hR.2.2.2.1.fr hf (by intro j k ht; unfold Tact at ht; omega), ⟨bs (n - 1), ?_, ?_, Or.inr a2.1, ⟨n - 1, (f + 23) % 24, bs, ⟨by omega, hm⟩, ⟨?_, ?_, ?_⟩, rfl, fun k hk => ?_⟩, a2.2⟩, hR.2.2.2.2.2.1.fr hf (by intro j k ht; unfold Tact at ht; omega), hR.2.2.2.2.2.2.fr hf (by intro j k ht; unfold Tact at ht; omega)⟩
    · exact p1.eq (fun q k _ _ => by rw [q2 q k (by omega), F5 q k (by omega)])
    · refine a1.of33 a2.1.1.2 (fun i hi => ?_)
      rw [q1 i hi, F5 90 _ (by omega), p2 90 _ (by omega), hF2 90 _ (by omega)]
    · rw [q2 14 2 (by omega), F5 14 2 (by omega)]; exact e42
    · rw [q2 86 4 (by omega), h5, mset_at, if_pos ⟨rfl, rfl⟩]
    · rw [q2 14 1 (by omega), F5 14 1 (by omega), p2 14 1 (by omega)]; exact e21
    · obtain ⟨b1, b2, b3⟩ := hbs k (by omega)
      refine ⟨b1.eq (fun i => F _ _ (by omega) (by omega) (by omega)), b2, ?_⟩
      have ep : 16 + ((f + 23) % 24 + 24 - (n - 1) + k) % 24 = 16 + (f + 24 - n + k) % 24 := by omega
      rw [ep]
      exact b3.eq (fun i => F _ _ (by omega) (by omega) (by omega))
  · have hn : n = 0 := n00.mp q
    show o_X8_undo _ g
    unfold o_X8_undo
    rw [e3, hn]
    exact ⟨fun z => absurd rfl z, fun _ => ⟨rfl, hR⟩⟩
theorem s8_image_l {Q : Int32 → Mm → Prop} {K : Mm → Int32 → Prop} {g : Mm} {m : Nat} (hm : m < 2) (h : ∀ g' : Mm, (∀ i, i < 33 → g'.1 88 (33 * m + i) = g.1 87 i) → Fr (fun q k => q = 88 ∧ 33 * m ≤ k ∧ k < 33 * m + 33) g g' → K g' (nI m)) : ∃ n, o_X8_image_25 Q K n g (nI m) 0 := by
  have key : ∀ (k i : Nat) (g1 : Mm), i + k = 33 → Fr (fun q k => q = 88 ∧ 33 * m ≤ k ∧ k < 33 * m + 33) g g1 → (∀ p, p < i → g1.1 88 (33 * m + p) = g.1 87 p) → o_X8_image_25 Q K (k + 1) g1 (nI m) (nI i) := by
    intro k
    induction k with
    | zero =>
      intro i g1 hi hf hp
      exact ⟨fun _ => h g1 (fun p hp1 => hp p (by omega)) hf, fun q => absurd ((nI_leI (a := 33) (by omega) (by omega)).mpr (by omega)) q⟩
    | succ k ih =>
      intro i g1 hi hf hp
      have ee : (33 : Int32) * nI m + nI i = nI (33 * m + i) := by rw [show (33 : Int32) = nI 33 from rfl, pk_mul, nI_add]
      refine ⟨fun q => absurd ((nI_leI (a := 33) (by omega) (by omega)).mp q) (by omega), fun _ => ?_⟩
      rw [ee]
      refine ⟨vlit _ (by omega) (by omega), vlit _ (by omega) (by omega), fun g2 e2 x ex => ?_⟩
      rw [nI_1] at ex; subst ex
      rw [cl (by omega), cl (by omega), hf 87 _ (by omega)] at e2
      refine ih (i + 1) g2 (by omega) (by rw [e2]; exact Fr.set (T := fun q k => q = 88 ∧ 33 * m ≤ k ∧ k < 33 * m + 33) hf ⟨rfl, by omega, by omega⟩) (fun p hp1 => ?_)
      rw [e2, mset_at]
      by_cases z : p = i
      · subst z; rw [if_pos ⟨rfl, rfl⟩]
      · rw [if_neg (by omega)]; exact hp p (by omega)
  exact ⟨34, key 33 0 g (by omega) Fr.rfl (fun p hp => absurd hp (by omega))⟩
theorem s8_restore_l {Q : Int32 → Mm → Prop} {K : Mm → Prop} {g : Mm} {m : Nat} (hm : m < 2) (h : ∀ g' : Mm, (∀ i, i < 33 → g'.1 87 i = g.1 88 (33 * m + i)) → Fr (fun q k => q = 87) g g' → K g') : ∃ n, o_X8_restore_27 Q K n g (nI m) 0 := by
  have key : ∀ (k i : Nat) (g1 : Mm), i + k = 33 → Fr (fun q k => q = 87) g g1 → (∀ p, p < i → g1.1 87 p = g.1 88 (33 * m + p)) → o_X8_restore_27 Q K (k + 1) g1 (nI m) (nI i) := by
    intro k
    induction k with
    | zero =>
      intro i g1 hi hf hp
      exact ⟨fun _ => h g1 (fun p hp1 => hp p (by omega)) hf, fun q => absurd ((nI_leI (a := 33) (by omega) (by omega)).mpr (by omega)) q⟩
    | succ k ih =>
      intro i g1 hi hf hp
      have ee : (33 : Int32) * nI m + nI i = nI (33 * m + i) := by rw [show (33 : Int32) = nI 33 from rfl, pk_mul, nI_add]
      refine ⟨fun q => absurd ((nI_leI (a := 33) (by omega) (by omega)).mp q) (by omega), fun _ => ?_⟩
      rw [ee]
      refine ⟨vlit _ (by omega) (by omega), vlit _ (by omega) (by omega), fun g2 e2 x ex => ?_⟩
      rw [nI_1] at ex; subst ex
      rw [cl (by omega), cl (by omega), hf 88 _ (by omega)] at e2
      refine ih (i + 1) g2 (by omega) (by rw [e2]; exact Fr.set (T := fun q k => q = 87) hf rfl) (fun p hp1 => ?_)
      rw [e2, mset_at]
      by_cases z : p = i
      · subst z; rw [if_pos ⟨rfl, rfl⟩]
      · rw [if_neg (by omega)]; exact hp p (by omega)
  exact ⟨34, key 33 0 g (by omega) Fr.rfl (fun p hp => absurd hp (by omega))⟩
def Timg (j k : Nat) : Prop := (76 ≤ j ∧ j < 86) ∨ j = 88 ∨ j = 89
theorem cmd_image {g : Mm} (hR : Rel g) (x1 : Int32) : o_X7_image (fun r g1 => o_X8_image (fun r2 g2 => r = r2 ∧ Rel g2) g1 x1) g x1 := by
  obtain ⟨b, hB, hW, hV, hA, hP⟩ := hR.2.2.2.2.1
  have h7 := toys7 hV
  refine s7_within (bI_rb (fun c1 => s8_in 0 1 rfl rfl (bI_rb (fun _ => ⟨rfl, hR⟩) (fun q => absurd q c1))) (fun c1 => ?_))
  refine b7_case hB.1.1 h7 (bI_br (fun c0 => ?_) (fun c0 => s8_in 0 1 rfl rfl (bI_rb (fun q => absurd c1 q) (fun _ => b8_toys hW.1.1 ⟨fun q => absurd ((n0 h7).mpr c0) q, fun _ => ⟨rfl, hR⟩⟩))))
  have st : ¬ nI (b 0 0) = 0 := fun q => c0 ((n0 h7).mp q)
  have hV := case_of hV c0
  obtain ⟨m, hm, rfl⟩ := in_of 1 rfl c1
  have hv : vp_in (nI m) 2 := vlit m (by omega) (by omega)
  refine ⟨hv, ?_⟩
  rw [cl (by omega)]
  refine s3_become hB h7 (Or.inl (by omega)) (fun g1 p1 p2 p3 => ?_)
  have hW1 : RowIs (g1.1 87) b := hW.eq (fun k => p3 87 k (by omega))
  refine s8_in 0 1 rfl rfl (bI_rb (fun q => absurd c1 q) (fun _ => b8_toys hW1.1.1 ⟨fun _ => s8_image_l (by omega) (fun g2 q1 q2 => ⟨hv, fun g3 e3 => ⟨rfl, ?_⟩⟩), fun q => absurd q st⟩))
  rw [cl (by omega)] at e3
  have F3 : ∀ q k, ¬ (q = 89 ∧ k = m) → g3.1 q k = g2.1 q k := fun q k z => by rw [e3, mset_at, if_neg z]
  have hf : Fr Timg g g3 := by
    rw [e3]
    refine Fr.set (Fr.trans (p3.mono ?_) (q2.mono ?_)) ?_
    · intro j k z; unfold Timg; omega
    · intro j k z; unfold Timg; omega
    · unfold Timg; omega
  refine ⟨hR.1.fr hf (by intro j k ht; unfold Timg at ht; omega), hR.2.1.fr hf (by intro j k ht; unfold Timg at ht; omega), hR.2.2.1.fr hf (by intro j k ht; unfold Timg at ht; omega), hR.2.2.2.1.fr hf (by intro j k ht; unfold Timg at ht; omega), hR.2.2.2.2.1.fr hf (by intro j k ht; unfold Timg at ht; omega), fun k hk => ?_, hR.2.2.2.2.2.2.fr hf (by intro j k ht; unfold Timg at ht; omega)⟩
  by_cases z : k = m
  · subst z
    refine Or.inr ⟨?_, b, hV, hP, ?_, ?_⟩
    · rw [e3, mset_at, if_pos ⟨rfl, rfl⟩]; rfl
    · exact p1.eq (fun q i _ _ => by rw [F3 q i (by omega), q2 q i (by omega)])
    · refine hW1.of33 h7 (fun i hi => ?_)
      rw [F3 88 _ (by omega), q1 i hi]
  · rw [F3 89 k (by omega), q2 89 k (by omega), p3 89 k (by omega), F3 (76 + 5 * k) 4 (by omega), q2 (76 + 5 * k) 4 (by omega), p3 (76 + 5 * k) 4 (by omega)]
    rcases hR.2.2.2.2.2.1 k hk with w | ⟨w1, bk, w2, w3, w4, w5⟩
    · exact Or.inl w
    · refine Or.inr ⟨w1, bk, w2, w3, w4.eq (fun q i _ _ => by rw [F3 q i (by omega), q2 q i (by omega), p3 q i (by omega)]), w5.of33 w2.1.2 (fun i hi => ?_)⟩
      rw [F3 88 _ (by omega), q2 88 _ (by omega), p3 88 _ (by omega)]
theorem cmd_restore {g : Mm} (hR : Rel g) (x1 : Int32) : o_X7_restore (fun r g1 => o_X8_restore (fun r2 g2 => r = r2 ∧ Rel g2) g1 x1) g x1 := by
  refine s7_within (bI_rb (fun c1 => s8_in 0 1 rfl rfl (bI_rb (fun _ => ⟨rfl, hR⟩) (fun q => absurd q c1))) (fun c1 => ?_))
  obtain ⟨m, hm, rfl⟩ := in_of 1 rfl c1
  have hv : vp_in (nI m) 2 := vlit m (by omega) (by omega)
  refine ⟨hv, ?_⟩
  rw [cl (by omega)]
  rcases hR.2.2.2.2.2.1 m (by omega) with ⟨w1, w2⟩ | ⟨w1, b, w2, w3, w4, w5⟩
  · rw [w2]
    refine ⟨fun q => absurd rfl q, fun _ => s8_in 0 1 rfl rfl (bI_rb (fun q => absurd c1 q) (fun _ => ⟨hv, ?_⟩))⟩
    rw [cl (by omega), w1]
    exact ⟨fun q => absurd rfl q, fun _ => ⟨rfl, hR⟩⟩
  · have h7 := w2.1.2
    rw [w4.1.1]
    refine ⟨fun _ => ⟨hv, s3_become w4 h7 (Or.inr (by omega)) (fun g1 p1 p2 p3 g2 e2 => ?_)⟩, fun q => absurd ((n0 h7).mp q) (by have := w2.1.1; omega)⟩
    refine s8_in 0 1 rfl rfl (bI_rb (fun q => absurd c1 q) (fun _ => ⟨hv, ?_⟩))
    have F2 : ∀ q k, ¬ (q = 14 ∧ k = 2) → g2.1 q k = g1.1 q k := fun q k z => by rw [e2, mset_at, if_neg z]
    rw [cl (by omega), F2 89 m (by omega), p3 89 m (by omega), w1]
    refine ⟨fun _ => s8_restore_l (by omega) (fun g3 q1 q2 g4 e4 => ⟨rfl, ?_⟩), fun q => absurd q (by decide)⟩
    have F4 : ∀ q k, ¬ (q = 86 ∧ k = 4) → g4.1 q k = g3.1 q k := fun q k z => by rw [e4, mset_at, if_neg z]
    obtain ⟨b0, -, -, -, ⟨n, f, bs, hnf, ⟨a2, a3, a1⟩, -, -⟩, -⟩ := hR.2.2.2.2.1
    have hf : Fr Tact g g4 := fun q k z => by
      have z : ¬ ((9 ≤ q ∧ q < 40) ∨ (q = 86 ∧ k = 4) ∨ q = 87 ∨ q = 90) := z
      rw [F4 q k (by omega), q2 q k (by omega), F2 q k (by omega), p3 q k (by omega)]
    refine ⟨hR.1.fr hf (by intro j k ht; unfold Tact at ht; omega), hR.2.1.fr hf (by intro j k ht; unfold Tact at ht; omega), hR.2.2.1.fr hf (by intro j k ht; unfold Tact at ht; omega), hR.2.2.2.1.fr hf (by intro j k ht; unfold Tact at ht; omega), ⟨b, ?_, ?_, Or.inr w2, ⟨0, f, fun _ => b, ⟨by omega, hnf.2⟩, ⟨?_, ?_, ?_⟩, rfl, fun k hk => absurd hk (by omega)⟩, w3⟩, hR.2.2.2.2.2.1.fr hf (by intro j k ht; unfold Tact at ht; omega), hR.2.2.2.2.2.2.fr hf (by intro j k ht; unfold Tact at ht; omega)⟩
    · exact p1.eq (fun q k _ _ => by rw [F4 q k (by omega), q2 q k (by omega), F2 q k (by omega)])
    · refine w5.of33 h7 (fun i hi => ?_)
      rw [F4 87 i (by omega), q1 i hi, F2 88 _ (by omega), p3 88 _ (by omega)]
    · rw [F4 14 2 (by omega), q2 14 2 (by omega), e2, mset_at, if_pos ⟨rfl, rfl⟩]; rfl
    · rw [e4, mset_at, if_pos ⟨rfl, rfl⟩]; rfl
    · rw [F4 14 1 (by omega), q2 14 1 (by omega), F2 14 1 (by omega), p3 14 1 (by omega)]; exact a1
/-! share -/
def ww (b : Bx) : Nat → Nat
  | 0 => 0
  | t + 1 => ww b t + (if b 3 t = 0 then b 2 t else 0)
def wN (b : Bx) : Nat := ww b (b 0 0)
theorem ww_le {b : Bx} (hV : Vb b) : ∀ t, t ≤ b 0 0 → ww b t ≤ 9 * t
  | 0, _ => Nat.le_refl 0
  | t + 1, h => by
    have := ww_le hV t (by omega)
    have := (hV.2.2 t (by omega)).2.1
    rw [ww]; split <;> omega
theorem ww_pos {b : Bx} (hV : Vb b) {u : Nat} (hu : b 3 u = 0) : ∀ t, t ≤ b 0 0 → u < t → 1 ≤ ww b t
  | 0, _, h => absurd h (by omega)
  | t + 1, h, hut => by
    have h2 := (hV.2.2 t (by omega)).2.1
    rw [ww]
    by_cases z : u = t
    · subst z; rw [if_pos hu]; omega
    · have := ww_pos hV hu t (by omega) (by omega)
      split <;> omega
theorem s3_wonWeight {Q : Int32 → Mm → Prop} {g : Mm} {j : Nat} {b : Bx} (hB : BoxIs g j b) (hV : Vb b) (h : Q (nI (wN b)) g) : o_X3_wonWeight Q j g := by
  have h7 := hV.1.2
  have key : ∀ (k t : Nat), t + k = b 0 0 → o_X3_wonWeight_4 Q j (k + 1) g (nI (ww b t)) (nI t) := by
    intro k
    induction k with
    | zero =>
      intro t ht
      refine ⟨fun _ => ?_, fun q => absurd ?_ q⟩
      · rw [show t = b 0 0 by omega]; exact h
      · rw [hB.1.1]; exact (nI_leI (by omega) (by omega)).mpr (by omega)
    | succ k ih =>
      intro t ht
      have hp := VbP hV (show t < b 0 0 by omega)
      have hv := vt h7 (show t < b 0 0 by omega)
      refine ⟨fun q => ?_, fun _ => ⟨hv, fun q => ?_, fun q => ⟨hv, ?_⟩⟩⟩
      · rw [hB.1.1] at q
        exact absurd ((nI_leI (by omega) (by omega)).mp q) (by omega)
      · intro x ex
        rw [nI_1] at ex; subst ex
        rw [cl (by omega), (hB.2 t (by omega)).2.2.1] at q
        have := ih (t + 1) (by omega)
        rw [show ww b (t + 1) = ww b t by rw [ww, if_neg (fun z => q (by rw [z]; rfl)), Nat.add_zero]] at this
        exact this
      · intro y ey x ex
        rw [cl (by omega), (hB.2 t (by omega)).2.1, nI_add] at ey
        rw [nI_1] at ex; subst ex; subst ey
        rw [cl (by omega), (hB.2 t (by omega)).2.2.1] at q
        have := ih (t + 1) (by omega)
        rw [show ww b (t + 1) = ww b t + b 2 t by rw [ww, if_pos ((nI_eq (b := 0) (by omega) (by omega)).mp q)]] at this
        exact this
  exact ⟨b 0 0 + 1, key (b 0 0) 0 (by omega)⟩
theorem s8_wonW {Q : Int32 → Mm → Prop} {g : Mm} {a : Nat} {b : Bx} {x : Int32} {F : Nat → Nat} (hB : RowIs (g.1 a) b) (hV : Vb b) (F0 : F 0 = 0) (F1 : ∀ t, t < b 0 0 → b 3 t ≠ 0 → F (t + 1) = F t) (F2 : ∀ t, t < b 0 0 → b 3 t = 0 → x = 0 → F (t + 1) = F t + 1) (F3 : ∀ t, t < b 0 0 → b 3 t = 0 → ¬ x = 0 → F (t + 1) = F t + b 2 t) (h : Q (nI (F (b 0 0))) g) : o_X8_wonWeight Q a g x := by
  have h7 := hV.1.2
  have e0 : g.1 a (0 : Int32).toNatClampNeg = nI (b 0 0) := hB.1.1
  have key : ∀ (k t : Nat), t + k = b 0 0 → o_X8_wonWeight_5 Q a (k + 1) g x (nI (F t)) (nI t) := by
    intro k
    induction k with
    | zero =>
      intro t ht
      refine ⟨vlit 0 (by omega) (by omega), fun _ => ?_, fun q => absurd ?_ q⟩
      · rw [show t = b 0 0 by omega]; exact h
      · rw [e0]; exact (nI_leI (by omega) (by omega)).mpr (by omega)
    | succ k ih =>
      intro t ht
      have hp := VbP hV (show t < b 0 0 by omega)
      have ih1 := ih (t + 1) (by omega)
      refine ⟨vlit 0 (by omega) (by omega), fun q => ?_, fun _ => ⟨v19 (by omega), ?_⟩⟩
      · rw [e0] at q
        exact absurd ((nI_leI (by omega) (by omega)).mp q) (by omega)
      · rw [c19 (by omega), (hB.2 t (by omega)).2.2.1]
        have z0 : nI (b 3 t) = 0 ↔ b 3 t = 0 := nI_eq (b := 0) (by omega) (by omega)
        refine ⟨fun q => ⟨fun p => ?_, fun p => ⟨v8 (by omega), ?_⟩⟩, fun q => ?_⟩
        · intro y ey w ew
          rw [nI_1] at ey ew; subst ey; subst ew
          rw [F2 t (by omega) (z0.mp q) p] at ih1
          exact ih1
        · intro y ey w ew
          rw [c8 (by omega), (hB.2 t (by omega)).2.1, nI_add] at ey
          rw [nI_1] at ew; subst ey; subst ew
          rw [F3 t (by omega) (z0.mp q) p] at ih1
          exact ih1
        · intro y ey w ew
          rw [show nI (F t) + (0 : Int32) = nI (F t) from Int32.add_zero _] at ey
          rw [nI_1] at ew; subst ey; subst ew
          rw [F1 t (by omega) (fun z => q (z0.mpr z))] at ih1
          exact ih1
  have := key (b 0 0) 0 (by omega)
  rw [F0] at this
  exact ⟨b 0 0 + 1, this⟩
theorem s8_wonWeight1 {Q : Int32 → Mm → Prop} {g : Mm} {a : Nat} {b : Bx} (hB : RowIs (g.1 a) b) (hV : Vb b) (h : Q (nI (wN b)) g) : o_X8_wonWeight Q a g 1 :=
  s8_wonW (F := ww b) hB hV rfl (fun t _ z => by rw [ww, if_neg z, Nat.add_zero]) (fun t _ _ z => absurd z (by decide)) (fun t _ z _ => by rw [ww, if_pos z]) h
theorem s8_wonWeight0 {Q : Int32 → Mm → Prop} {g : Mm} {a : Nat} {b : Bx} (hB : RowIs (g.1 a) b) (hV : Vb b) (h : Q (nI (cN b 0)) g) : o_X8_wonWeight Q a g 0 :=
  s8_wonW (F := ct b 0) hB hV rfl (fun t _ z => by rw [ct, if_neg z, Nat.add_zero]) (fun t _ z _ => by rw [ct, if_pos z]) (fun t _ _ z => absurd rfl z) h
def shL (b : Bx) (n s : Int32) : Nat → Int32
  | 0 => n
  | t + 1 => if b 3 t = 0 then shL b n s t - n * nI (b 2 t) / s else shL b n s t
def shA (b : Bx) (u : Int32) : Nat → Int32
  | 0 => 0
  | t + 1 => if b 3 t = 0 then shA b u t + (if u ≤ nI t then 0 else 1) else shA b u t
def shR (b : Bx) (n s : Int32) (u : Nat) : Int32 := if shL b n s (b 0 0) ≤ shA b (nI u) (b 0 0) then n * nI (b 2 u) / s + 0 else n * nI (b 2 u) / s + 1
theorem s3_shareOf {Q : Int32 → Mm → Prop} {g : Mm} {j : Nat} {b : Bx} {u : Nat} {n : Int32} (hB : BoxIs g j b) (hV : Vb b) (hu : u < b 0 0) (hw : b 3 u = 0) (h : Q (shR b n (nI (wN b)) u) g) : o_X3_shareOf Q j g (nI u) n := by
  have h7 := hV.1.2
  have hpos := ww_pos hV hw (b 0 0) (Nat.le_refl _) hu
  have hle := ww_le hV (b 0 0) (Nat.le_refl _)
  have hwn : wN b = ww b (b 0 0) := rfl
  have hs : ¬ nI (wN b) = 0 := fun q => by
    have := (nI_eq (b := 0) (by omega) (by omega)).mp q; omega
  refine s3_wonWeight hB hV ?_
  intro s es
  have es2 : s = nI (wN b) := by
    rw [es]
    by_cases z : (1 : Int32) < nI (wN b)
    · rw [if_pos z]
    · rw [if_neg z]
      have : ¬ 1 < wN b := fun y => z ((nI_ltI (a := 1) (by omega) (by omega)).mpr y)
      rw [show wN b = 1 by omega]; rfl
  subst es2
  have key : ∀ (k t : Nat), t + k = b 0 0 → o_X3_shareOf_18 Q (fun (g : Mm) (x1 : Int32) (x2 : Int32) (x3 : Int32) (x4 : Int32) (x5 : Int32) => vp_in x1 7 ∧ (¬ (x3 : Int32) = 0 ∧ (((x4 ≤ x5) → Q (((x2 * (g.1 (j + 2) x1.toNatClampNeg)) / x3) + 0) g) ∧ ((¬ x4 ≤ x5) → Q (((x2 * (g.1 (j + 2) x1.toNatClampNeg)) / x3) + 1) g)))) j (k + 1) g (nI u) n (nI (wN b)) (shL b n (nI (wN b)) t) (shA b (nI u) t) (nI t) := by
    intro k
    induction k with
    | zero =>
      intro t ht
      refine ⟨fun _ => ⟨vt h7 hu, hs, ?_⟩, fun q => absurd ?_ q⟩
      · rw [show t = b 0 0 by omega, cl (by omega), (hB.2 u hu).2.1]
        unfold shR at h
        exact ⟨fun q => by rw [if_pos q] at h; exact h, fun q => by rw [if_neg q] at h; exact h⟩
      · rw [hB.1.1]; exact (nI_leI (by omega) (by omega)).mpr (by omega)
    | succ k ih =>
      intro t ht
      have hp := VbP hV (show t < b 0 0 by omega)
      have hv := vt h7 (show t < b 0 0 by omega)
      have ih1 := ih (t + 1) (by omega)
      refine ⟨fun q => ?_, fun _ => ⟨hv, ?_⟩⟩
      · rw [hB.1.1] at q
        exact absurd ((nI_leI (by omega) (by omega)).mp q) (by omega)
      · rw [cl (by omega), (hB.2 t (by omega)).2.2.1, (hB.2 t (by omega)).2.1]
        have z0 : nI (b 3 t) = 0 ↔ b 3 t = 0 := nI_eq (b := 0) (by omega) (by omega)
        refine ⟨fun q => ?_, fun q => ⟨hv, hs, fun y ey => ?_⟩⟩
        · intro x ex
          rw [nI_1] at ex; subst ex
          have z : ¬ b 3 t = 0 := fun z => q (z0.mpr z)
          rw [shL, shA, if_neg z, if_neg z] at ih1
          exact ih1
        · rw [shL, shA, if_pos (z0.mp q), if_pos (z0.mp q), ← ey] at ih1
          refine ⟨fun p => ?_, fun p => ?_⟩
          · intro w ew x ex
            rw [nI_1] at ex; subst ex; subst ew
            rw [if_pos p] at ih1
            exact ih1
          · intro w ew x ex
            rw [nI_1] at ex; subst ex; subst ew
            rw [if_neg p] at ih1
            exact ih1
  exact ⟨b 0 0 + 1, key (b 0 0) 0 (by omega)⟩
theorem s8_shareOf {Q : Int32 → Mm → Prop} {g : Mm} {b : Bx} {u : Nat} {n : Int32} (hB : RowIs (g.1 87) b) (hV : Vb b) (hu : u < b 0 0) (hw : b 3 u = 0) (h : Q (shR b n (nI (wN b)) u) g) : o_X8_shareOf Q g (nI u) n := by
  have h7 := hV.1.2
  have hpos := ww_pos hV hw (b 0 0) (Nat.le_refl _) hu
  have hle := ww_le hV (b 0 0) (Nat.le_refl _)
  have hwn : wN b = ww b (b 0 0) := rfl
  have hs : ¬ nI (wN b) = 0 := fun q => by
    have := (nI_eq (b := 0) (by omega) (by omega)).mp q; omega
  refine s8_wonWeight1 hB hV ?_
  have key : ∀ (k t : Nat), t + k = b 0 0 → o_X8_shareOf_19 Q (fun (g : Mm) (x1 : Int32) (x2 : Int32) (x3 : Int32) (x4 : Int32) (x5 : Int32) => vp_in (8 + x1) 33 ∧ (¬ (x3 : Int32) = 0 ∧ (((x4 ≤ x5) → Q (((x2 * (g.1 87 (8 + x1 : Int32).toNatClampNeg)) / x3) + 0) g) ∧ ((¬ x4 ≤ x5) → Q (((x2 * (g.1 87 (8 + x1 : Int32).toNatClampNeg)) / x3) + 1) g)))) (k + 1) g (nI u) n (nI (wN b)) (shL b n (nI (wN b)) t) (shA b (nI u) t) (nI t) := by
    intro k
    induction k with
    | zero =>
      intro t ht
      refine b8_toys hB.1.1 ⟨fun _ => ⟨v8 (by omega), hs, ?_⟩, fun q => absurd ?_ q⟩
      · rw [show t = b 0 0 by omega, c8 (by omega), (hB.2 u hu).2.1]
        unfold shR at h
        exact ⟨fun q => by rw [if_pos q] at h; exact h, fun q => by rw [if_neg q] at h; exact h⟩
      · exact (nI_leI (by omega) (by omega)).mpr (by omega)
    | succ k ih =>
      intro t ht
      have hp := VbP hV (show t < b 0 0 by omega)
      have ih1 := ih (t + 1) (by omega)
      refine b8_toys hB.1.1 ⟨fun q => ?_, fun _ => ⟨v19 (by omega), ?_⟩⟩
      · exact absurd ((nI_leI (by omega) (by omega)).mp q) (by omega)
      · rw [c19 (by omega), (hB.2 t (by omega)).2.2.1]
        have z0 : nI (b 3 t) = 0 ↔ b 3 t = 0 := nI_eq (b := 0) (by omega) (by omega)
        refine ⟨fun q => ⟨fun _ => ?_, fun z => absurd rfl z⟩, fun q => ⟨fun z => absurd z (by decide), fun _ => ⟨v8 (by omega), hs, ?_⟩⟩⟩
        · intro y ey
          rw [show shL b n (nI (wN b)) t - (0 : Int32) = shL b n (nI (wN b)) t from Int32.sub_zero _] at ey
          have z : ¬ b 3 t = 0 := fun z => q (z0.mpr z)
          rw [shL, shA, if_neg z, if_neg z, ← ey] at ih1
          refine ⟨fun _ => ?_, fun z => absurd rfl z⟩
          intro w ew x ex
          rw [show shA b (nI u) t + (0 : Int32) = shA b (nI u) t from Int32.add_zero _] at ew
          rw [nI_1] at ex; subst ex; subst ew
          exact ih1
        · rw [c8 (by omega), (hB.2 t (by omega)).2.1]
          intro y ey
          rw [shL, shA, if_pos (z0.mp q), if_pos (z0.mp q), ← ey] at ih1
          refine ⟨fun z => absurd z (by decide), fun _ => ⟨fun p => ?_, fun p => ?_⟩⟩
          · intro w ew x ex
            rw [nI_1] at ex; subst ex; subst ew
            rw [if_pos p] at ih1
            exact ih1
          · intro w ew x ex
            rw [nI_1] at ex; subst ex; subst ew
            rw [if_neg p] at ih1
            exact ih1
  exact ⟨b 0 0 + 1, key (b 0 0) 0 (by omega)⟩
theorem cmd_share {g : Mm} (hR : Rel g) (x1 x2 : Int32) : o_X7_share (fun r g1 => o_X8_share (fun r2 g2 => r = r2 ∧ Rel g2) g1 x1 x2) g x1 x2 := by
  obtain ⟨b, hB, hW, hV, hA, hP⟩ := hR.2.2.2.2.1
  have h7 := toys7 hV
  refine b7_toy hB.1.1 (bI_br (fun c1 => b8_toy hW.1.1 (bI_br (fun _ => ⟨rfl, hR⟩) (fun q => absurd q c1))) (fun c1 => ?_))
  refine s7_within (bI_rb (fun c2 => b8_toy hW.1.1 (bI_br (fun q => absurd c1 q) (fun _ => s8_in 0 999 rfl rfl (bI_rb (fun _ => ⟨rfl, hR⟩) (fun q => absurd q c2))))) (fun c2 => ?_))
  obtain ⟨t, ht, rfl⟩ := toy_of h7 c1
  have hV := case_of hV (by omega)
  have hp := VbP hV ht
  have z0 : nI (b 3 t) = 0 ↔ b 3 t = 0 := nI_eq (b := 0) (by omega) (by omega)
  refine ⟨vt h7 ht, ?_⟩
  rw [cl (by omega), (hB.2 t ht).2.2.1]
  refine ⟨fun q => ?_, fun q => s3_shareOf hB hV ht (z0.mp q) ?_⟩
  · refine b8_toy hW.1.1 (bI_br (fun q => absurd c1 q) (fun _ => s8_in 0 999 rfl rfl (bI_rb (fun q => absurd c2 q) (fun _ => ⟨v19 (by omega), ?_⟩))))
    rw [c19 (by omega), (hW.2 t ht).2.2.1]
    exact ⟨fun _ => ⟨rfl, hR⟩, fun z => absurd z q⟩
  · refine b8_toy hW.1.1 (bI_br (fun q => absurd c1 q) (fun _ => s8_in 0 999 rfl rfl (bI_rb (fun q => absurd c2 q) (fun _ => ⟨v19 (by omega), ?_⟩))))
    rw [c19 (by omega), (hW.2 t ht).2.2.1]
    exact ⟨fun z => absurd q z, fun _ => s8_shareOf hW hV ht (z0.mp q) ⟨rfl, hR⟩⟩
