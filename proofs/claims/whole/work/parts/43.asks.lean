/-! toy, column, gives, grips, enough -/
theorem b7_case {Q : Int32 → Mm → Prop} {g : Mm} {n : Nat} (e : g.1 9 4 = nI n) (hn : n ≤ 7) (h : Q (bI (n = 0)) g) : o_X7_noCase Q g := by
  refine ⟨fun c => ?_, fun c => ?_⟩
  · rw [bI_f (fun z => c (by rw [e, z]; rfl))] at h; exact h
  · rw [e] at c
    rw [bI_t ((nI_eq (b := 0) (by omega) (by omega)).mp c)] at h; exact h
theorem n0 {n : Nat} (hn : n ≤ 7) : (nI n = 0 ↔ n = 0) := nI_eq (b := 0) (by omega) (by omega)
def Thand (j k : Nat) : Prop := j = 98
theorem Rel.hand {g g' : Mm} (hR : Rel g) (hf : Fr (fun q k => q = 98) g g') : Rel g' := by
  have hf : Fr Thand g g' := hf
  exact ⟨hR.1.fr hf (by intro j k ht; unfold Thand at ht; omega), hR.2.1.fr hf (by intro j k ht; unfold Thand at ht; omega), hR.2.2.1.fr hf (by intro j k ht; unfold Thand at ht; omega), hR.2.2.2.1.fr hf (by intro j k ht; unfold Thand at ht; omega), hR.2.2.2.2.1.fr hf (by intro j k ht; unfold Thand at ht; omega), hR.2.2.2.2.2.1.fr hf (by intro j k ht; unfold Thand at ht; omega), hR.2.2.2.2.2.2.fr hf (by intro j k ht; unfold Thand at ht; omega)⟩
theorem case_of {b : Bx} (h : b 0 0 = 0 ∨ Vb b) (hn : b 0 0 ≠ 0) : Vb b := h.elim (fun q => absurd q hn) (fun q => q)
theorem col_of {x : Int32} (h : 1 ≤ x ∧ x ≤ 5) : ∃ c : Nat, (1 ≤ c ∧ c ≤ 5) ∧ x = nI c := by
  obtain ⟨c, hc, rfl⟩ := in_of 5 rfl ⟨Int32.le_trans (by decide) h.1, h.2⟩
  exact ⟨c, ⟨(nI_leI (a := 1) (by omega) (by omega)).mp h.1, hc⟩, rfl⟩
theorem cmd_toy {g : Mm} (hR : Rel g) (x1 x2 : Int32) : o_X7_toy (fun r g1 => o_X8_toy (fun r2 g2 => r = r2 ∧ Rel g2) g1 x1 x2) g x1 x2 := by
  obtain ⟨b, hB, hW, hV, hA, hP⟩ := hR.2.2.2.2.1
  have h7 := toys7 hV
  refine b7_toy hB.1.1 (bI_rb (fun c1 => b8_toy hW.1.1 (bI_br (fun _ => ⟨rfl, hR⟩) (fun q => absurd q c1))) (fun c1 => ?_))
  obtain ⟨t, ht, rfl⟩ := toy_of h7 c1
  have hV := case_of hV (by omega)
  have hp := VbP hV ht
  have hv := vt h7 ht
  have hb := hB.2 t ht
  have hw := hW.2 t ht
  have ref : ∀ (P : Int32 → Mm → Prop) (k : Nat), k ≤ 4 → x2 = nI k → (k = 0 → P (nI (b 2 t)) g) → (k = 1 → P (nI (b 3 t)) g) → (k = 2 → P (nI (nd b t)) g) → (k = 3 → o_X8_isColumn (fun (r_9 : Int32) (g_8 : Mm) => ((r_9 = 0) → P 0 g_8) ∧ ((¬ r_9 = 0) → o_X8_lyingIn (fun (r_11 : Int32) (g_10 : Mm) => vp_in (26 + nI t) 33 ∧ (P ((r_11 - 1) - (g_10.1 87 (26 + nI t : Int32).toNatClampNeg)) g_10)) 87 g_8 (nI (b 3 t)))) g (nI (b 3 t))) → (k = 4 → P (nI (b 4 t)) g) → o_X8_toy P g (nI t) x2 := by
    intro P k hk e p0 p1 p2 p3 p4
    subst e
    have E : ∀ c : Nat, c < 1000 → (nI k = nI c ↔ k = c) := fun c hc => nI_eq (by omega) (by omega)
    refine b8_toy hW.1.1 (bI_br (fun q => absurd c1 q) (fun _ => s8_in 0 4 rfl rfl (bI_rb (fun q => absurd ⟨nI_pos' (by omega), (nI_leI (b := 4) (by omega) (by omega)).mpr hk⟩ q) (fun _ => ⟨v19 (by omega), ?_⟩))))
    intro x ex
    rw [c19 (by omega), hw.2.2.1] at ex
    subst ex
    refine ⟨fun q => ⟨v8 (by omega), by rw [c8 (by omega), hw.2.1]; exact p0 ((E 0 (by omega)).mp q)⟩, fun q => p1 ((E 1 (by omega)).mp q), fun q => s8_needOf hW hV ht (p2 ((E 2 (by omega)).mp q)), fun q => p3 ((E 3 (by omega)).mp q), fun q => ⟨v26 (by omega), ?_⟩⟩
    rw [c26 (by omega), hw.2.2.2]
    refine p4 ?_
    have a0 : ¬ k = 0 := fun z => q.1 ((E 0 (by omega)).mpr z)
    have a1 : ¬ k = 1 := fun z => q.2.1 ((E 1 (by omega)).mpr z)
    have a2 : ¬ k = 2 := fun z => q.2.2.1 ((E 2 (by omega)).mpr z)
    have a3 : ¬ k = 3 := fun z => q.2.2.2 ((E 3 (by omega)).mpr z)
    omega
  refine ⟨fun q => ⟨hv, ?_⟩, fun q => ⟨hv, ?_⟩, fun q => s3_need hB hV ht ?_, fun q => ⟨hv, ?_⟩, fun q => ⟨hv, ?_⟩, fun q => ?_⟩
  · rw [cl (by omega), hb.2.1]
    exact ref _ 0 (by omega) q (fun _ => ⟨rfl, hR⟩) (by omega) (by omega) (by omega) (by omega)
  · rw [cl (by omega), hb.2.2.1]
    exact ref _ 1 (by omega) q (by omega) (fun _ => ⟨rfl, hR⟩) (by omega) (by omega) (by omega)
  · exact ref _ 2 (by omega) q (by omega) (by omega) (fun _ => ⟨rfl, hR⟩) (by omega) (by omega)
  · rw [cl (by omega), hb.2.2.1]
    refine s7_isColumn (bI_br (fun c2 => ref _ 3 (by omega) q (by omega) (by omega) (by omega) (fun _ => s8_isColumn (bI_br (fun _ => ⟨rfl, hR⟩) (fun z => absurd z c2))) (by omega)) (fun c2 => ⟨hv, ?_⟩))
    rw [hb.2.2.1]
    refine s3_howMany hB hV (by omega) ⟨hv, ?_⟩
    rw [hb.2.2.2]
    refine ref _ 3 (by omega) q (by omega) (by omega) (by omega) (fun _ => s8_isColumn (bI_br (fun z => absurd c2 z) (fun _ => s8_lyingIn hW hV (by omega) ⟨v26 (by omega), ?_, hR⟩))) (by omega)
    rw [c26 (by omega), hw.2.2.2]
  · rw [cl (by omega), hb.2.2.2]
    exact ref _ 4 (by omega) q (by omega) (by omega) (by omega) (by omega) (fun _ => ⟨rfl, hR⟩)
  · obtain ⟨q0, q1, q2, q3, q4⟩ := q
    refine b8_toy hW.1.1 (bI_br (fun q => absurd c1 q) (fun _ => s8_in 0 4 rfl rfl (bI_rb (fun _ => ⟨rfl, hR⟩) (fun z => ?_))))
    obtain ⟨k, hk, rfl⟩ := in_of 4 rfl z
    have : k = 0 ∨ k = 1 ∨ k = 2 ∨ k = 3 ∨ k = 4 := by omega
    rcases this with rfl | rfl | rfl | rfl | rfl
    · exact absurd rfl q0
    · exact absurd rfl q1
    · exact absurd rfl q2
    · exact absurd rfl q3
    · exact absurd rfl q4
theorem t78 {p : Nat} (hp : p ≤ 7) {Q : Int32 → Mm → Prop} {g : Mm} (h : Q (t7I p) g) : ((0 ≤ t8I p) → Q (t8I p) g) ∧ ((¬ 0 ≤ t8I p) → Q (-1000000) g) := by
  by_cases z : p = 0
  · rw [show t8I p = -1 from if_pos z]
    rw [show t7I p = -1000000 from if_pos z] at h
    exact ⟨fun q => absurd q (by decide), fun _ => h⟩
  · rw [show t8I p = nI (p - 1) from if_neg z]
    rw [show t7I p = nI (p - 1) from if_neg z] at h
    exact ⟨fun _ => h, fun q => absurd (nI_pos' (by omega)) q⟩
theorem tN_le {b : Bx} (hV : Vb b) (c : Nat) : tN b c ≤ 7 := Nat.le_trans (tp_le b c _) hV.1.2
theorem cmd_column {g : Mm} (hR : Rel g) (x1 x2 : Int32) : o_X7_column (fun r g1 => o_X8_column (fun r2 g2 => r = r2 ∧ Rel g2) g1 x1 x2) g x1 x2 := by
  obtain ⟨b, hB, hW, hV, hA, hP⟩ := hR.2.2.2.2.1
  have h7 := toys7 hV
  refine b7_case hB.1.1 h7 (bI_br (fun c0 => ?_) (fun c0 => b8_toys hW.1.1 ⟨fun q => absurd ((n0 h7).mpr c0) q, fun _ => ⟨rfl, hR⟩⟩))
  have st : ¬ nI (b 0 0) = 0 := fun q => c0 ((n0 h7).mp q)
  have hV := case_of hV c0
  have hp := pl_small (b := b) (Or.inr hV)
  refine s7_isColumn (bI_rb (fun c1 => b8_toys hW.1.1 ⟨fun _ => s8_isColumn (bI_br (fun _ => ⟨rfl, hR⟩) (fun q => absurd q c1)), fun q => absurd q st⟩) (fun c1 => ?_))
  obtain ⟨c, hc, rfl⟩ := col_of c1
  have ref : ∀ (P : Int32 → Mm → Prop) (k : Nat), k ≤ 2 → x2 = nI k → (k = 0 → P (nI (cN b c)) g) → (k = 1 → P (t7I (tN b c)) g) → (k = 2 → P (tb b c (b 0 0)) g) → o_X8_column P g (nI c) x2 := by
    intro P k hk e p0 p1 p2
    subst e
    have E : ∀ c : Nat, c < 1000 → (nI k = nI c ↔ k = c) := fun c hc => nI_eq (by omega) (by omega)
    refine b8_toys hW.1.1 ⟨fun _ => s8_isColumn (bI_br (fun q => absurd c1 q) (fun _ => s8_in 0 2 rfl rfl (bI_rb (fun q => absurd ⟨nI_pos' (by omega), (nI_leI (b := 2) (by omega) (by omega)).mpr hk⟩ q) (fun _ => s8_topOf hW hV (by omega) ?_)))), fun q => absurd q st⟩
    refine ⟨fun q => ⟨fun q2 => t78 (tN_le hV c) (p1 ?_), fun q2 => s8_setIn hW h7 hp (by omega) (p2 ((E 2 (by omega)).mp q2))⟩, fun q => s8_lyingIn hW hV (by omega) (p0 ((E 0 (by omega)).mp q))⟩
    have a0 : ¬ k = 0 := fun z => q ((E 0 (by omega)).mpr z)
    have a2 : ¬ k = 2 := fun z => q2 ((E 2 (by omega)).mpr z)
    omega
  refine ⟨fun q => s3_howMany hB hV (by omega) (ref _ 0 (by omega) q (fun _ => ⟨rfl, hR⟩) (by omega) (by omega)), fun q => s3_uppermost hB hV (by omega) (ref _ 1 (by omega) q (by omega) (fun _ => ⟨rfl, hR⟩) (by omega)), fun q => s3_toysAt hB h7 hp (by omega) (ref _ 2 (by omega) q (by omega) (by omega) (fun _ => ⟨rfl, hR⟩)), fun q => ?_⟩
  obtain ⟨q0, q1, q2⟩ := q
  refine b8_toys hW.1.1 ⟨fun _ => s8_isColumn (bI_br (fun q => absurd c1 q) (fun _ => s8_in 0 2 rfl rfl (bI_rb (fun _ => ⟨rfl, hR⟩) (fun z => ?_)))), fun q => absurd q st⟩
  obtain ⟨k, hk, rfl⟩ := in_of 2 rfl z
  have : k = 0 ∨ k = 1 ∨ k = 2 := by omega
  rcases this with rfl | rfl | rfl
  · exact absurd rfl q0
  · exact absurd rfl q1
  · exact absurd rfl q2
theorem pl_3 {b : Bx} {c gp : Nat} (h : tN b c ≠ 0) : pl b c gp 3 (tN b c - 1) = ld b (tN b c - 1) c gp := by
  unfold pl
  rw [if_neg h]
  split
  · rename_i z
    rw [bup_k (by decide), z]
    exact tp_at b c _ h
  · rw [pu_3]
/-- what the reference's play tells: where the toy is -/
theorem r8_tell {Q : Int32 → Mm → Prop} {g : Mm} {a : Nat} {b : Bx} {c gp : Nat} (hV : Vb b) (hc : 1 ≤ c ∧ c ≤ 5) (hB : RowIs (g.1 a) (pl b c gp)) (h : Q (r7I b c gp) g) : ((0 ≤ t8I (tN b c)) → vp_in (19 + t8I (tN b c)) 33 ∧ (Q (g.1 a (19 + t8I (tN b c) : Int32).toNatClampNeg) g)) ∧ ((¬ 0 ≤ t8I (tN b c)) → Q (-1000000) g) := by
  have h7 := hV.1.2
  have htl : tN b c ≤ b 0 0 := tp_le b c _
  by_cases z : tN b c = 0
  · rw [show t8I (tN b c) = -1 from if_pos z]
    rw [show r7I b c gp = -1000000 from if_pos z] at h
    exact ⟨fun q => absurd q (by decide), fun _ => h⟩
  · rw [show t8I (tN b c) = nI (tN b c - 1) from if_neg z]
    rw [show r7I b c gp = nI (ld b (tN b c - 1) c gp) from if_neg z] at h
    refine ⟨fun _ => ⟨v19 (by omega), ?_⟩, fun q => absurd (nI_pos' (by omega)) q⟩
    rw [c19 (by omega), (hB.2 (tN b c - 1) (by rw [pl_0 (by decide) (by decide) (by decide)]; omega)).2.2.1, pl_3 z]
    exact h
theorem cmd_gives {g : Mm} (hR : Rel g) (x1 : Int32) : o_X7_gives (fun r g1 => o_X8_gives (fun r2 g2 => r = r2 ∧ Rel g2) g1 x1) g x1 := by
  obtain ⟨b, hB, hW, hV, hA, hP⟩ := hR.2.2.2.2.1
  have h7 := toys7 hV
  refine b7_case hB.1.1 h7 (bI_br (fun c0 => ?_) (fun c0 => b8_toys hW.1.1 ⟨fun q => absurd ((n0 h7).mpr c0) q, fun _ => ⟨rfl, hR⟩⟩))
  have st : ¬ nI (b 0 0) = 0 := fun q => c0 ((n0 h7).mp q)
  have hV := case_of hV c0
  refine s7_isColumn (bI_rb (fun c1 => b8_toys hW.1.1 ⟨fun _ => s8_isColumn (bI_rb (fun _ => ⟨rfl, hR⟩) (fun q => absurd q c1)), fun q => absurd q st⟩) (fun c1 => ?_))
  obtain ⟨c, hc, rfl⟩ := col_of c1
  have hg := gr_le (k := 0) hV
  have htl : tN b c ≤ b 0 0 := tp_le b c _
  have ref : ∀ (P : Int32 → Mm → Prop), (∀ g', Rel g' → P (r7I b c (gr b 0)) g') → o_X8_gives P g (nI c) := by
    intro P p
    refine b8_toys hW.1.1 ⟨fun _ => s8_isColumn (bI_rb (fun q => absurd c1 q) (fun _ => s8_layHand (fun g1 k1 f1 => ?_))), fun q => absurd q st⟩
    have hH : RowIs (g1.1 98) b := hW.of33 h7 k1
    exact s8_goNext hH hV (by omega) hc (fun g2 r2 f2 => r8_tell hV hc r2 (p g2 (hR.hand (f1.trans f2))))
  refine s3_uppermost hB hV (by omega) ⟨fun q => ?_, fun q => ?_⟩
  · have hz : tN b c ≠ 0 := fun z => q (if_pos z)
    rw [show t7I (tN b c) = nI (tN b c - 1) from if_neg hz]
    refine s3_grip (k := 0) hB hV (by omega) (s3_landing hB hV (by omega) hc (by omega) (ref _ (fun g' r' => ⟨?_, r'⟩)))
    exact (show r7I b c (gr b 0) = _ from if_neg hz).symm
  · have hz : tN b c = 0 := by
      by_cases z : tN b c = 0
      · exact z
      · rw [show t7I (tN b c) = nI (tN b c - 1) from if_neg z] at q
        exact absurd q (nI_none (by omega))
    exact ref _ (fun g' r' => ⟨(show r7I b c (gr b 0) = _ from if_pos hz).symm, r'⟩)
theorem cmd_grips {g : Mm} (hR : Rel g) (x1 : Int32) : o_X7_grips (fun r g1 => o_X8_grips (fun r2 g2 => r = r2 ∧ Rel g2) g1 x1) g x1 := by
  obtain ⟨b, hB, hW, hV, hA, hP⟩ := hR.2.2.2.2.1
  have h7 := toys7 hV
  refine b7_case hB.1.1 h7 (bI_br (fun c0 => ?_) (fun c0 => b8_toys hW.1.1 ⟨fun q => absurd ((n0 h7).mpr c0) q, fun _ => ⟨rfl, hR⟩⟩))
  have st : ¬ nI (b 0 0) = 0 := fun q => c0 ((n0 h7).mp q)
  have hV := case_of hV c0
  refine s7_within (bI_br (fun c1 => b8_toys hW.1.1 ⟨fun _ => s8_in 0 60 rfl rfl (bI_br (fun _ => ⟨rfl, hR⟩) (fun q => absurd q c1)), fun q => absurd q st⟩) (fun c1 => ?_))
  obtain ⟨k, hk, rfl⟩ := in_of 60 rfl c1
  refine s3_grip hB hV (by omega) (b8_toys hW.1.1 ⟨fun _ => s8_in 0 60 rfl rfl (bI_br (fun q => absurd c1 q) (fun _ => ⟨vlit 15 (by omega) (by omega), ?_⟩)), fun q => absurd q st⟩)
  have e15 : g.1 87 (15 : Int32).toNatClampNeg = nI (b 8 0) := hW.1.2.2.2.2
  exact s8_grip hW hV (by omega) (by rw [e15, nI_1, nI_add]) ⟨rfl, hR⟩
theorem fr_won {n : Nat} (hn : 1 ≤ n) : ∀ a h, n ≤ h + 1 → (fr_ n a h = 0 ↔ a + n ≤ h + 1)
  | 0, h => fun q => ⟨fun _ => by omega, fun _ => rfl⟩
  | a + 1, h => fun q => by
    rw [fr_]
    by_cases z : h < n
    · rw [if_pos z]; omega
    · rw [if_neg z, fr_won hn a (h - 1) (by omega)]; omega
theorem ld_won {b : Bx} {t c gp : Nat} (hV : Vb b) (ht : t < b 0 0) (hc : 1 ≤ c ∧ c ≤ 5) : (ld b t c gp = 0 ↔ nd b t + (c - 1) ≤ gp) := by
  have hn := nd_in hV ht
  unfold ld
  by_cases z : gp < nd b t
  · rw [if_pos z]
    have := rl_in (b := b) hc
    split <;> omega
  · rw [if_neg z]
    have := fr_won hn.1 (c - 1) (gp - 1) (by omega)
    by_cases y : fr_ (nd b t) (c - 1) (gp - 1) = 0
    · rw [if_pos y]; rw [this] at y; omega
    · rw [if_neg y]
      rw [this] at y
      have hf := this
      split <;> omega
theorem cmd_enough {g : Mm} (hR : Rel g) (x1 : Int32) : o_X7_enough (fun r g1 => o_X8_enough (fun r2 g2 => r = r2 ∧ Rel g2) g1 x1) g x1 := by
  obtain ⟨b, hB, hW, hV, hA, hP⟩ := hR.2.2.2.2.1
  have h7 := toys7 hV
  refine b7_case hB.1.1 h7 (bI_br (fun c0 => ?_) (fun c0 => b8_toys hW.1.1 ⟨fun q => absurd ((n0 h7).mpr c0) q, fun _ => ⟨rfl, hR⟩⟩))
  have st : ¬ nI (b 0 0) = 0 := fun q => c0 ((n0 h7).mp q)
  have hV := case_of hV c0
  refine s7_isColumn (bI_rb (fun c1 => b8_toys hW.1.1 ⟨fun _ => s8_isColumn (bI_rb (fun _ => ⟨rfl, hR⟩) (fun q => absurd q c1)), fun q => absurd q st⟩) (fun c1 => ?_))
  obtain ⟨c, hc, rfl⟩ := col_of c1
  have htl : tN b c ≤ b 0 0 := tp_le b c _
  have ref : ∀ (P : Int32 → Mm → Prop), (tN b c = 0 → ∀ g', Rel g' → P (-1000000) g') → (tN b c ≠ 0 → ∀ g', Rel g' → P (nI (nd b (tN b c - 1) + (c - 1))) g') → o_X8_enough P g (nI c) := by
    intro P pn pw
    have key : ∀ (k i : Nat) (g1 : Mm), i + k = 21 → Fr (fun q k => q = 98) g g1 → (tN b c ≠ 0 → i ≤ nd b (tN b c - 1) + (c - 1)) → o_X8_enough_22 P (k + 1) g1 (nI c) (nI i) := by
      intro k
      induction k with
      | zero =>
        intro i g1 hi f1 hle
        have hz : tN b c = 0 := by
          by_cases z : tN b c = 0
          · exact z
          · have := hle z
            have := nd_in hV (show tN b c - 1 < b 0 0 by omega)
            omega
        exact ⟨fun _ => pn hz g1 (hR.hand f1), fun q => absurd ((nI_ltI (a := 20) (by omega) (by omega)).mpr (by omega)) q⟩
      | succ k ih =>
        intro i g1 hi f1 hle
        refine ⟨fun q => absurd ((nI_ltI (a := 20) (by omega) (by omega)).mp q) (by omega), fun _ => s8_layHand (fun g2 k2 f2 => ?_)⟩
        have hH : RowIs (g2.1 98) b := hW.of33 h7 (fun p hp => by rw [k2 p hp, f1 87 p (by omega)])
        refine s8_goPlay hH hV (by omega) hc (by omega) (fun g3 r3 f3 => ?_)
        have nxt : (tN b c ≠ 0 → i + 1 ≤ nd b (tN b c - 1) + (c - 1)) → o_X8_enough_60 P (o_X8_enough_22 P (k + 1)) g3 (nI c) (nI i) := by
          intro hh x ex
          rw [nI_1] at ex; subst ex
          exact ih (i + 1) g3 (by omega) ((f1.trans f2).trans f3) hh
        by_cases z : tN b c = 0
        · rw [show t8I (tN b c) = -1 from if_pos z]
          exact ⟨fun _ => nxt (fun y => absurd z y), fun q => absurd (by decide) q⟩
        · have ht : tN b c - 1 < b 0 0 := by omega
          rw [show t8I (tN b c) = nI (tN b c - 1) from if_neg z]
          refine ⟨fun q => absurd q (nI_pos (by omega)), fun _ => ⟨v19 (by omega), ?_⟩⟩
          have hld := ld_in (b := b) (t := tN b c - 1) (g := i) hc
          rw [c19 (by omega), (r3.2 (tN b c - 1) (by rw [pl_0 (by decide) (by decide) (by decide)]; omega)).2.2.1, pl_3 z]
          have hwon := ld_won (gp := i) hV ht hc
          refine ⟨fun q => nxt (fun _ => ?_), fun q => ?_⟩
          · have : ¬ ld b (tN b c - 1) c i = 0 := fun y => q (by rw [y]; rfl)
            rw [hwon] at this; omega
          · have := hwon.mp ((nI_eq (b := 0) (by omega) (by omega)).mp q)
            have hi2 : i = nd b (tN b c - 1) + (c - 1) := by have := hle z; omega
            rw [hi2]
            exact pw z g3 (hR.hand ((f1.trans f2).trans f3))
    exact b8_toys hW.1.1 ⟨fun _ => s8_isColumn (bI_rb (fun q => absurd c1 q) (fun _ => ⟨22, key 21 0 g (by omega) Fr.rfl (fun _ => by omega)⟩)), fun q => absurd q st⟩
  refine s3_uppermost hB hV (by omega) ⟨fun q => ?_, fun q => ?_⟩
  · have hz : tN b c ≠ 0 := fun z => q (if_pos z)
    rw [show t7I (tN b c) = nI (tN b c - 1) from if_neg hz]
    refine s3_need hB hV (by omega) (ref _ (fun z => absurd z hz) (fun _ g' r' => ⟨?_, r'⟩))
    have hn := nd_in hV (show tN b c - 1 < b 0 0 by omega)
    rw [nI_add, show nI (nd b (tN b c - 1) + c) - 1 = nI (nd b (tN b c - 1) + c - 1) from pk_sub (b := 1) (by omega), show nd b (tN b c - 1) + c - 1 = nd b (tN b c - 1) + (c - 1) by omega]
  · have hz : tN b c = 0 := by
      by_cases z : tN b c = 0
      · exact z
      · rw [show t7I (tN b c) = nI (tN b c - 1) from if_neg z] at q
        exact absurd q (nI_none (by omega))
    exact ref _ (fun _ g' r' => ⟨rfl, r'⟩) (fun z => absurd hz z)
