/-! haul -/
def vv (b : Bx) (n k : Nat) : Nat := 1000 * cN (pc n k b) 0 + wN (pc n k b)
/-- the first best code among the first K -/
def bi (b : Bx) (n : Nat) : Nat → Nat
  | 0 => 0
  | k + 1 => if k = 0 ∨ vv b n (bi b n k) < vv b n k then k else bi b n k
theorem bi_lt (b : Bx) (n : Nat) : ∀ k, 1 ≤ k → bi b n k < k
  | 0, h => absurd h (by omega)
  | k + 1, _ => by
    rw [bi]
    split
    · omega
    · rename_i q
      have := bi_lt b n k (by omega)
      omega
theorem wN_le {b : Bx} (hV : Vb b) : wN b ≤ 63 := by
  have := ww_le hV (b 0 0) (Nat.le_refl _)
  have := hV.1.2
  unfold wN; omega
def HS (b : Bx) (n : Nat) (g : Mm) (K : Nat) : Prop := (K = 0 ∧ g.1 41 3 = -1 ∧ g.1 41 4 = -1) ∨ (1 ≤ K ∧ g.1 41 3 = nI (cN (pc n (bi b n K) b) 0) ∧ g.1 41 4 = nI (wN (pc n (bi b n K) b)) ∧ ∀ i, i < n → g.1 48 i = nI (dg n (bi b n K) i))
theorem HS.eq {b : Bx} {n : Nat} {g g' : Mm} {K : Nat} (h : HS b n g K) (e : ∀ k, g'.1 41 k = g.1 41 k) (e2 : ∀ k, g'.1 48 k = g.1 48 k) : HS b n g' K := by
  unfold HS
  rw [e, e]
  rcases h with q | ⟨q1, q2, q3, q4⟩
  · exact Or.inl q
  · exact Or.inr ⟨q1, q2, q3, fun i hi => by rw [e2]; exact q4 i hi⟩
def Th (d q k : Nat) : Prop := (41 ≤ q ∧ q ≤ 46) ∨ (q = 47 ∧ d ≤ k) ∨ q = 48 ∨ (50 + d ≤ q ∧ q ≤ 57)
theorem s4_weigh {Q : Mm → Prop} {g : Mm} {b0 : Bx} {n K : Nat} (hn : n ≤ 4) (hK : K < 5 ^ n) (hV0 : Vb b0) (h8 : b0 8 0 ≤ 9999) (hB : BoxIs g 42 (pc n K b0)) (hp : ∀ i, i < n → g.1 47 i = nI (dg n K i)) (hS : HS b0 n g K) (h : ∀ g', HS b0 n g' (K + 1) → Fr (fun q k => q = 41 ∨ q = 48) g g' → Q g') : o_X4_weighPath Q g (nI n) := by
  obtain ⟨hV, -⟩ := pc_ok (n := n) (k := K) (b := b0) hK hV0 (by omega)
  have hc := cN_le hV 0
  have hw := wN_le hV
  have take : (K = 0 ∨ vv b0 n (bi b0 n K) < vv b0 n K) → o_X4_weighPath_41 Q g (nI n) (nI (cN (pc n K b0) 0)) (nI (wN (pc n K b0))) := by
    intro hz g5 e5 g6 e6
    have nn : ¬ nI n < 0 := nI_pos (by omega)
    refine ⟨⟨⟨by decide, by decide, nn⟩, by rw [cl (by omega)]; show 0 + n ≤ 4; omega, by rw [cl (by omega)]; show 0 + n ≤ 4; omega⟩, fun g7 e7 => h g7 (Or.inr ?_) ?_⟩
    · rw [show (0 : Int32).toNatClampNeg = 0 from rfl, cl (by omega)] at e7
      have eb : bi b0 n (K + 1) = K := by rw [bi, if_pos hz]
      rw [eb]
      refine ⟨by omega, ?_, ?_, fun i hi => ?_⟩
      · rw [e7, mcpy_at, if_neg (by omega), e6, mset_at, if_neg (by omega), e5, mset_at, if_pos ⟨rfl, rfl⟩]
      · rw [e7, mcpy_at, if_neg (by omega), e6, mset_at, if_pos ⟨rfl, rfl⟩]
      · rw [e7, mcpy_at, if_pos ⟨rfl, by omega, by omega⟩, e6, mset_at, if_neg (by omega), e5, mset_at, if_neg (by omega), show 0 + (i - 0) = i by omega]
        exact hp i hi
    · rw [e7, e6, e5]
      exact Fr.cpy (Fr.set (Fr.set Fr.rfl (Or.inl rfl)) (Or.inl rfl)) (fun k _ _ => Or.inr rfl)
  have keep : ¬ (K = 0 ∨ vv b0 n (bi b0 n K) < vv b0 n K) → Q g := by
    intro hz
    refine h g ?_ Fr.rfl
    rcases hS with ⟨q, -⟩ | ⟨q1, q2, q3, q4⟩
    · exact absurd (Or.inl q) hz
    · refine Or.inr ⟨by omega, ?_⟩
      rw [show bi b0 n (K + 1) = bi b0 n K by rw [bi, if_neg hz]]
      exact ⟨q2, q3, q4⟩
  refine s3_howMany (c := 0) hB hV (by omega) (s3_wonWeight hB hV ?_)
  rcases hS with ⟨q, q3, q4⟩ | ⟨q1, q3, q4, -⟩
  · rw [q3, q4]
    have l : (-1 : Int32) < nI (cN (pc n K b0) 0) := by
      rw [lt_i, nIi (by omega), show (-1 : Int32).toInt = -1 from by decide]; omega
    exact ⟨fun _ => take (Or.inl q), fun z => absurd l z⟩
  · rw [q3, q4]
    have hbi := bi_lt b0 n K q1
    obtain ⟨hVb, -⟩ := pc_ok (n := n) (k := bi b0 n K) (b := b0) (by omega) hV0 (by omega)
    have hcb := cN_le hVb 0
    have hwb := wN_le hVb
    have ev : vv b0 n K = 1000 * cN (pc n K b0) 0 + wN (pc n K b0) := rfl
    have eb : vv b0 n (bi b0 n K) = 1000 * cN (pc n (bi b0 n K) b0) 0 + wN (pc n (bi b0 n K) b0) := rfl
    refine ⟨fun z => take (Or.inr ?_), fun z => ⟨fun y => keep (fun x => ?_), fun y => ⟨fun w => keep (fun x => ?_), fun w => take (Or.inr ?_)⟩⟩⟩
    · have := (nI_ltI (by omega) (by omega)).mp z
      omega
    · have : ¬ cN (pc n (bi b0 n K) b0) 0 < cN (pc n K b0) 0 := fun p => z ((nI_ltI (by omega) (by omega)).mpr p)
      have : ¬ cN (pc n K b0) 0 = cN (pc n (bi b0 n K) b0) 0 := fun p => y (by rw [p])
      omega
    · have := (nI_eq (by omega) (by omega)).mp y
      have := (nI_leI (by omega) (by omega)).mp w
      omega
    · have := (nI_eq (by omega) (by omega)).mp y
      have : ¬ wN (pc n K b0) ≤ wN (pc n (bi b0 n K) b0) := fun p => w ((nI_leI (by omega) (by omega)).mpr p)
      omega
theorem dg_pre {d p e i : Nat} (hi : i < d) : dg (d + 1) (p * 5 + e) i = if e < 5 then dg d p i else dg (d + 1) (p * 5 + e) i := by
  split
  · rename_i he
    unfold dg
    have e1 : d + 1 - 1 - i = (d - 1 - i) + 1 := by omega
    rw [e1, Nat.pow_succ, Nat.mul_comm (5 ^ (d - 1 - i)) 5, ← Nat.div_div_eq_div_mul, show (p * 5 + e) / 5 = p by omega]
  · rfl
theorem dg_last {d p e : Nat} (he : e < 5) : dg (d + 1) (p * 5 + e) d = e + 1 := by
  unfold dg
  rw [show d + 1 - 1 - d = 0 by omega, Nat.pow_zero, Nat.div_one, show (p * 5 + e) % 5 = e by omega]
theorem s4_haul {n : Nat} {b0 : Bx} (hn : n ≤ 4) (hV0 : Vb b0) (h80 : b0 8 0 ≤ 9999) : ∀ (m d p : Nat) (b : Bx) (g : Mm) (Q : Mm → Prop) (fu : Nat), d + m = n → p < 5 ^ d → BoxIs g 42 b → Vb b → b 8 0 + m ≤ 20000 → (∀ k, k < 5 ^ m → pc n (p * 5 ^ m + k) b0 = pc m k b) → (∀ i, i < d → g.1 47 i = nI (dg d p i)) → HS b0 n g (p * 5 ^ m) →
    (∀ g', BoxIs g' 42 b → HS b0 n g' ((p + 1) * 5 ^ m) → Fr (Th d) g g' → Q g') → o_X4_haulFrom (fu + m + 1) Q g (nI d) (nI n) := by
  intro m
  induction m with
  | zero =>
    intro d p b g Q fu hd hp hB hV h8 he hx hS h
    have hdn : d = n := by omega
    subst hdn
    refine ⟨fun q => absurd ((nI_ltI (by omega) (by omega)).mp q) (by omega), fun _ => ?_⟩
    have e0 := he 0 (by decide)
    rw [Nat.pow_zero, Nat.mul_one, Nat.add_zero] at e0
    rw [Nat.pow_zero, Nat.mul_one] at hS
    have hB2 : BoxIs g 42 (pc d p b0) := by rw [e0]; exact hB
    refine s4_weigh hn hp hV0 h80 hB2 hx hS (fun g' q1 q2 => h g' ?_ ?_ (q2.mono (fun q k z => by unfold Th; omega)))
    · exact hB.eq (fun q k _ _ => q2 q k (by omega))
    · rw [Nat.pow_zero, Nat.mul_one]; exact q1
  | succ m ih =>
    intro d p b g Q fu hd hp hB hV h8 he hx hS h
    have h7 := hV.1.2
    refine ⟨fun _ => ⟨6, ?_⟩, fun q => absurd ((nI_ltI (by omega) (by omega)).mpr (by omega)) q⟩
    have loop : ∀ (k e : Nat) (g1 : Mm), e + k = 5 → BoxIs g1 42 b → Fr (Th d) g g1 → HS b0 n g1 ((p * 5 + e) * 5 ^ m) → o_X4_haulFrom_13 Q (o_X4_haulFrom (fu + (m + 1))) (k + 1) g1 (nI d) (nI n) (nI (e + 1)) := by
      intro k
      induction k with
      | zero =>
        intro e g1 hek hB1 hF1 hS1
        have e5 : e = 5 := by omega
        subst e5
        refine ⟨fun _ => h g1 hB1 ?_ hF1, fun q => absurd ((nI_ltI (a := 5) (by omega) (by omega)).mpr (by omega)) q⟩
        rw [show p * 5 + 5 = (p + 1) * 5 by omega, Nat.mul_assoc, show 5 * 5 ^ m = 5 ^ (m + 1) by rw [Nat.pow_succ, Nat.mul_comm]] at hS1
        exact hS1
      | succ k ihk =>
        intro e g1 hek hB1 hF1 hS1
        have hg := gr_le (k := 0) hV
        have hv8 : vp_in (nI d) 8 := vlit d (by omega) (by omega)
        refine ⟨fun q => absurd ((nI_ltI (a := 5) (by omega) (by omega)).mp q) (by omega), fun _ => ⟨vlit d (by omega) (by omega), fun g2 e2 => ?_⟩⟩
        rw [cl (by omega)] at e2 ⊢
        have hB2 : BoxIs g2 42 b := hB1.eq (fun q i _ _ => by rw [e2, mset_at, if_neg (by omega)])
        have hF2 : Fr (Th d) g g2 := by rw [e2]; exact Fr.set hF1 (Or.inr (Or.inl ⟨rfl, Nat.le_refl _⟩))
        refine s3_grip (k := 0) hB2 hV (by omega) ⟨hv8, ?_⟩
        rw [show 49 + 1 + d = 50 + d by omega]
        refine s3_playAt hB2 hV (by omega) (Or.inr (by omega)) ⟨by omega, by omega⟩ (by omega) (fun g3 p1 p2 p3 => ?_)
        have hF3 : Fr (Th d) g g3 := hF2.trans (p3.mono (fun q i z => by unfold Th; omega))
        rw [nI_1 d, show fu + (m + 1) = fu + m + 1 by omega]
        have hBn : BoxIs g3 42 (pn b (e + 1)) := p1
        have hp2 : p * 5 + e < 5 ^ (d + 1) := by rw [Nat.pow_succ]; omega
        refine ih (d + 1) (p * 5 + e) (pn b (e + 1)) g3 _ fu (by omega) hp2 hBn (Vb_pn hV ⟨by omega, by omega⟩ (by omega)) (by rw [pn_8]; omega) (fun c hc => ?_) (fun i hi => ?_) ?_ (fun g4 b4 s4 f4 => ⟨hv8, ?_⟩)
        · have hlt : e * 5 ^ m + c < 5 ^ (m + 1) := by
            rw [Nat.pow_succ]
            have : e * 5 ^ m ≤ 4 * 5 ^ m := Nat.mul_le_mul_right _ (by omega)
            omega
          have := he (e * 5 ^ m + c) hlt
          rw [show p * 5 ^ (m + 1) + (e * 5 ^ m + c) = (p * 5 + e) * 5 ^ m + c by rw [Nat.add_mul, Nat.pow_succ, Nat.mul_assoc, Nat.mul_comm 5 (5 ^ m), Nat.add_assoc]] at this
          rw [this, pc, cat_div hc, cat_mod hc]
        · rw [p3 47 i (by omega), e2, mset_at]
          by_cases z : i = d
          · subst z; rw [if_pos ⟨rfl, rfl⟩, dg_last (by omega)]
          · rw [if_neg (by omega), dg_pre (by omega), if_pos (by omega), hF1 47 i (by unfold Th; omega)]
            exact hx i (by omega)
        · exact hS1.eq (fun i => by rw [p3 41 i (by omega), e2, mset_at, if_neg (by omega)]) (fun i => by rw [p3 48 i (by omega), e2, mset_at, if_neg (by omega)])
        · refine s2_giveBack b4 (p2.eq (fun i => f4 _ i (by unfold Th; omega))) h7 (Or.inr (by omega)) (fun g5 q1 q2 x ex => ?_)
          rw [nI_1] at ex; subst ex
          have := ihk (e + 1) g5 (by omega) q1 ((hF3.trans (f4.mono (fun q i z => by unfold Th at *; omega))).trans (q2.mono (fun q i z => by unfold Th; omega))) ?_
          · rw [show fu + (m + 1) = fu + m + 1 by omega] at this
            exact this
          · have := s4.eq (g' := g5) (fun i => q2 41 i (by omega)) (fun i => q2 48 i (by omega))
            rw [show p * 5 + e + 1 = p * 5 + (e + 1) by omega] at this
            exact this
    have hS0 : HS b0 n g ((p * 5 + 0) * 5 ^ m) := by
      rw [Nat.add_zero, Nat.mul_assoc, show 5 * 5 ^ m = 5 ^ (m + 1) by rw [Nat.pow_succ, Nat.mul_comm]]
      exact hS
    exact loop 5 0 g (by omega) hB Fr.rfl hS0
theorem s8_haul_l {Q : Int32 → Mm → Prop} {K : Mm → Int32 → Int32 → Int32 → Int32 → Prop} {g : Mm} {b : Bx} {n : Nat} {x2 : Int32} (hW : RowIs (g.1 87) b) (hV : Vb b) (h8 : b 8 0 ≤ 9999) (hn : n ≤ 4) (h : ∀ g', Fr (fun q k => q = 98) g g' → K g' (nI n) x2 (nI (bi b n (5 ^ n))) (nI (vv b n (bi b n (5 ^ n))))) : ∃ n38, o_X8_haul_38 Q K n38 g (nI n) x2 0 (-1) 0 := by
  have hP := p5_le hn
  have loop : ∀ (l c : Nat) (g1 : Mm) (x3 x4 : Int32), c + l = 5 ^ n → Fr (fun q k => q = 98) g g1 → ((c = 0 ∧ x4 = -1) ∨ (1 ≤ c ∧ x3 = nI (bi b n c) ∧ x4 = nI (vv b n (bi b n c)))) → o_X8_haul_38 Q K (l + 1) g1 (nI n) x2 x3 x4 (nI c) := by
    intro l
    induction l with
    | zero =>
      intro c g1 x3 x4 hc hF hS
      have hpos := p5 n
      rcases hS with q | ⟨q1, q2, q3⟩
      · omega
      · have hcc : c = 5 ^ n := by omega
        rw [hcc] at q2 q3
        subst q2; subst q3
        exact s8_power hn ⟨fun _ => h g1 hF, fun q => absurd ((nI_leI (by omega) (by omega)).mpr (by omega)) q⟩
    | succ l ih =>
      intro c g1 x3 x4 hc hF hS
      have hW1 : RowIs (g1.1 87) b := hW.eq (fun i => hF 87 i (by omega))
      refine s8_power hn ⟨fun q => absurd ((nI_leI (by omega) (by omega)).mp q) (by omega), fun _ => s8_goBy hW1 hV h8 hn (by omega) (fun g2 r2 f2 => ?_)⟩
      obtain ⟨hVc, -⟩ := pc_ok (n := n) (k := c) (b := b) (by omega) hV (by omega)
      have hcc := cN_le hVc 0
      have hwc := wN_le hVc
      refine s8_wonWeight0 r2 hVc (s8_wonWeight1 r2 hVc (fun x ex => ?_))
      have ex2 : x = nI (vv b n c) := by
        rw [ex, show (1000 : Int32) * nI (cN (pc n c b) 0) = nI (1000 * cN (pc n c b) 0) from pk_mul 1000 _, nI_add]; rfl
      have ev : vv b n c = 1000 * cN (pc n c b) 0 + wN (pc n c b) := rfl
      subst ex2
      have hF2 := hF.trans f2
      have go : ∀ (y3 y4 : Int32), y3 = nI (bi b n (c + 1)) → y4 = nI (vv b n (bi b n (c + 1))) → ∀ z, z = nI c + 1 → o_X8_haul_38 Q K (l + 1) g2 (nI n) x2 y3 y4 z := by
        intro y3 y4 e3 e4 z ez
        rw [nI_1] at ez; subst ez
        exact ih (c + 1) g2 y3 y4 (by omega) hF2 (Or.inr ⟨by omega, e3, e4⟩)
      rcases hS with ⟨q1, q2⟩ | ⟨q1, q2, q3⟩
      · have eb : bi b n (c + 1) = c := by rw [bi, if_pos (Or.inl q1)]
        have l1 : ¬ nI (vv b n c) ≤ x4 := by
          rw [q2, le_i, nIi (by omega), show (-1 : Int32).toInt = -1 from by decide]; omega
        exact ⟨fun z => absurd z l1, fun _ => ⟨fun z => absurd z l1, fun _ => go _ _ (by rw [eb]) (by rw [eb])⟩⟩
      · have hbi := bi_lt b n c q1
        obtain ⟨hVb, -⟩ := pc_ok (n := n) (k := bi b n c) (b := b) (by omega) hV (by omega)
        have hcb := cN_le hVb 0
        have hwb := wN_le hVb
        have evb : vv b n (bi b n c) = 1000 * cN (pc n (bi b n c) b) 0 + wN (pc n (bi b n c) b) := rfl
        subst q2; subst q3
        refine ⟨fun z => ⟨fun _ => ?_, fun y => absurd z y⟩, fun z => ⟨fun y => absurd y z, fun _ => ?_⟩⟩
        · have := (nI_leI (by omega) (by omega)).mp z
          have eb : bi b n (c + 1) = bi b n c := by rw [bi, if_neg (by omega)]
          exact go _ _ (by rw [eb]) (by rw [eb])
        · have : ¬ vv b n c ≤ vv b n (bi b n c) := fun y => z ((nI_leI (by omega) (by omega)).mpr y)
          have eb : bi b n (c + 1) = c := by rw [bi, if_pos (Or.inr (by omega))]
          exact go _ _ (by rw [eb]) (by rw [eb])
  exact ⟨5 ^ n + 1, loop (5 ^ n) 0 g 0 (-1) (by omega) Fr.rfl (Or.inl ⟨rfl, rfl⟩)⟩
theorem cmd_haul {g : Mm} (hR : Rel g) (x1 x2 : Int32) : o_X7_haul (fun r g1 => o_X8_haul (fun r2 g2 => r = r2 ∧ Rel g2) g1 x1 x2) g x1 x2 := by
  obtain ⟨b, hB, hW, hV, hA, hP⟩ := hR.2.2.2.2.1
  have h7 := toys7 hV
  refine b7_case hB.1.1 h7 (bI_br (fun c0 => ?_) (fun c0 => b8_toys hW.1.1 ⟨fun q => absurd ((n0 h7).mpr c0) q, fun _ => ⟨rfl, hR⟩⟩))
  have st : ¬ nI (b 0 0) = 0 := fun q => c0 ((n0 h7).mp q)
  have hV := case_of hV c0
  refine s7_within (bI_br (fun c1 => b8_toys hW.1.1 ⟨fun _ => s8_in 1 4 rfl rfl (bI_br (fun _ => ⟨rfl, hR⟩) (fun q => absurd q c1)), fun q => absurd q st⟩) (fun c1 => ⟨fun c2 => ?_, fun c2 => b8_toys hW.1.1 ⟨fun _ => s8_in 1 4 rfl rfl (bI_br (fun q => absurd c1 q) (fun _ => ⟨fun q => absurd q c2, fun _ => ⟨rfl, hR⟩⟩)), fun q => absurd q st⟩⟩))
  obtain ⟨n, hn, rfl⟩ := in_of 4 rfl ⟨Int32.le_trans (by decide) c1.1, c1.2⟩
  have hn1 : 1 ≤ n := (nI_leI (a := 1) (by omega) (by omega)).mp c1.1
  have hN := p5_le hn
  have hbi := bi_lt b n (5 ^ n) (p5 n)
  obtain ⟨hVb, -⟩ := pc_ok (n := n) (k := bi b n (5 ^ n)) (b := b) hbi hV (by omega)
  have hcb := cN_le hVb 0
  have hwb := wN_le hVb
  have ref : ∀ (P : Int32 → Mm → Prop) (g1 : Mm), Fr Tsea g g1 → (∀ g', Rel g' → ((¬ x2 = (-1)) → ((x2 < nI n) → o_X8_columnBy (fun (r_16 : Int32) (g_15 : Mm) => P r_16 g_15) g' (nI n) (nI (bi b n (5 ^ n))) x2) ∧ ((¬ x2 < nI n) → P (-1000000) g')) ∧ ((x2 = (-1)) → P (nI (cN (pc n (bi b n (5 ^ n)) b) 0)) g')) → o_X8_haul P g1 (nI n) x2 := by
    intro P g1 f1 h1
    have hW1 : RowIs (g1.1 87) b := hW.eq (fun i => f1 87 i (by unfold Tsea; omega))
    refine b8_toys hW1.1.1 ⟨fun _ => s8_in 1 4 rfl rfl (bI_br (fun q => absurd c1 q) (fun _ => ⟨fun _ => s8_haul_l hW1 hV hP hn (fun g' f' => ?_), fun q => absurd c2 q⟩)), fun q => absurd q st⟩
    have := h1 g' (hR.search f1 f')
    refine ⟨this.1, fun q => ⟨by decide, ?_⟩⟩
    have e : nI (vv b n (bi b n (5 ^ n))) / (1000 : Int32) = nI (cN (pc n (bi b n (5 ^ n)) b) 0) := by
      have ev : vv b n (bi b n (5 ^ n)) = 1000 * cN (pc n (bi b n (5 ^ n)) b) 0 + wN (pc n (bi b n (5 ^ n)) b) := rfl
      rw [show nI (vv b n (bi b n (5 ^ n))) / (1000 : Int32) = nI (vv b n (bi b n (5 ^ n)) / 1000) from pk_div (d := 1000) (by omega) (by omega) (by omega)]
      congr 1
      omega
    rw [e]
    exact this.2 q
  refine ⟨fun c3 => ?_, fun c3 => ref _ g Fr.rfl (fun g' r' => ⟨fun _ => ⟨fun z => absurd z c3, fun _ => ⟨rfl, r'⟩⟩, fun z => ?_⟩)⟩
  · refine s3_become hB h7 (Or.inl (by omega)) (fun g1 p1 p2 p3 g3 e3 g4 e4 => ?_)
    have hB4 : BoxIs g4 42 b := p1.eq (fun q i _ _ => by
      by_cases z : q = 41
      · omega
      · rw [e4, mset_at, if_neg (by omega), e3, mset_at, if_neg (by omega)])
    have hF4 : Fr Tsea g g4 := by
      rw [e4, e3]
      exact Fr.set (Fr.set (p3.mono (fun q k z => by unfold Tsea; omega)) (by unfold Tsea; omega)) (by unfold Tsea; omega)
    have := s4_haul (n := n) (b0 := b) hn hV hP n 0 0 b g4 (fun (g_5 : Mm) => ((¬ x2 = (-1)) → vp_in x2 4 ∧ (o_X8_haul (fun r2 g2 => g_5.1 48 x2.toNatClampNeg = r2 ∧ Rel g2) g_5 (nI n) x2)) ∧ ((x2 = (-1)) → o_X8_haul (fun r2 g2 => g_5.1 41 3 = r2 ∧ Rel g2) g_5 (nI n) x2)) (5 - n) (by omega) (by decide) hB4 hV (by omega) (fun k _ => by rw [Nat.zero_mul, Nat.zero_add]) (fun i hi => absurd hi (by omega)) ?_ (fun g5 b5 s5 f5 => ?_)
    · rw [show 5 - n + n + 1 = 6 by omega] at this
      exact this
    · rw [Nat.zero_mul]
      refine Or.inl ⟨rfl, ?_, ?_⟩
      · rw [e4, mset_at, if_neg (by omega), e3, mset_at, if_pos ⟨rfl, rfl⟩]
      · rw [e4, mset_at, if_pos ⟨rfl, rfl⟩]
    · have hF5 : Fr Tsea g g5 := hF4.trans (f5.mono (fun q k z => by unfold Th at z; unfold Tsea; omega))
      rw [show (0 + 1) * 5 ^ n = 5 ^ n by omega] at s5
      have hpos := p5 n
      rcases s5 with ⟨z, -⟩ | ⟨-, s1, -, s3⟩
      · omega
      · refine ⟨fun q => ?_, fun q => ?_⟩
        · obtain ⟨i, hi, rfl⟩ := m1_le c2 q
          have hin : i < n := (nI_ltI (by omega) (by omega)).mp c3
          refine ⟨vlit i (by omega) (by omega), ?_⟩
          rw [cl (by omega), s3 i hin]
          exact ref _ g5 hF5 (fun g' r' => ⟨fun _ => ⟨fun _ => s8_columnBy hn hbi hin ⟨rfl, r'⟩, fun z => absurd c3 z⟩, fun z => absurd z q⟩)
        · rw [s1]
          exact ref _ g5 hF5 (fun g' r' => ⟨fun z => absurd q z, fun _ => ⟨rfl, r'⟩⟩)
  · exfalso
    apply c3
    rw [z, lt_i, nIi (by omega), show (-1 : Int32).toInt = -1 from by decide]
    omega
