/-! win: rows of plays as codes -/
def pn (b : Bx) (c : Nat) : Bx := pl b c (gr b 0)
def pc : Nat → Nat → Bx → Bx
  | 0, _, b => b
  | n + 1, k, b => pc n (k % 5 ^ n) (pn b (k / 5 ^ n + 1))
def dg (n k i : Nat) : Nat := k / 5 ^ (n - 1 - i) % 5 + 1
def Wn (n : Nat) (b : Bx) (t k : Nat) : Prop := pc n k b 3 t = 0
theorem pn_0 {b : Bx} {c : Nat} {a i : Nat} (h : a ≠ 3) (h2 : a ≠ 4) (h8 : a ≠ 8) : pn b c a i = b a i := pl_0 h h2 h8
theorem pn_8 {b : Bx} {c : Nat} : pn b c 8 0 = b 8 0 + 1 := pl_8
theorem Vb_pn {b : Bx} {c : Nat} (hV : Vb b) (hc : 1 ≤ c ∧ c ≤ 5) (h8 : b 8 0 < 20000) : Vb (pn b c) := Vb_pl hV hc h8
theorem p5 (n : Nat) : 0 < 5 ^ n := Nat.pow_pos (by decide)
theorem div5 {n k : Nat} (h : k < 5 ^ (n + 1)) : k / 5 ^ n < 5 := by
  rw [Nat.div_lt_iff_lt_mul (p5 n), Nat.mul_comm]
  rw [Nat.pow_succ] at h
  exact h
theorem pc_ok {n : Nat} : ∀ {k : Nat} {b : Bx}, k < 5 ^ n → Vb b → b 8 0 + n ≤ 20000 → Vb (pc n k b) ∧ pc n k b 0 0 = b 0 0 := by
  induction n with
  | zero => intro k b _ hV _; exact ⟨hV, rfl⟩
  | succ n ih =>
    intro k b hk hV h8
    have hd := div5 hk
    have := ih (k := k % 5 ^ n) (b := pn b (k / 5 ^ n + 1)) (Nat.mod_lt _ (p5 n)) (Vb_pn hV ⟨Nat.le_add_left 1 _, by omega⟩ (by omega)) (by rw [pn_8]; omega)
    exact ⟨this.1, this.2.trans (pn_0 (by decide) (by decide) (by decide))⟩
theorem cat_div {P e r : Nat} (h : r < P) : (e * P + r) / P = e := by
  rw [Nat.mul_comm, Nat.mul_add_div (by omega), Nat.div_eq_of_lt h, Nat.add_zero]
theorem cat_mod {P e r : Nat} (h : r < P) : (e * P + r) % P = r := by
  rw [Nat.mul_comm, Nat.mul_add_mod, Nat.mod_eq_of_lt h]
theorem Wn_cat {n e r t : Nat} {b : Bx} (h : r < 5 ^ n) : Wn (n + 1) b t (e * 5 ^ n + r) ↔ Wn n (pn b (e + 1)) t r := by
  unfold Wn
  rw [pc, cat_div h, cat_mod h]
/-- the first code that wins, put together -/
theorem first_cat {n e r t : Nat} {b : Bx} (h : r < 5 ^ n) (h1 : ∀ e' r', e' < e → r' < 5 ^ n → ¬ Wn n (pn b (e' + 1)) t r') (h2 : ∀ r', r' < r → ¬ Wn n (pn b (e + 1)) t r') : ∀ k, k < e * 5 ^ n + r → ¬ Wn (n + 1) b t k := by
  intro k hk
  have hP := p5 n
  have hm := Nat.mod_lt k hP
  have hdm := Nat.div_add_mod k (5 ^ n)
  rw [← hdm, Nat.mul_comm, Wn_cat hm]
  rcases Nat.lt_trichotomy (k / 5 ^ n) e with q | q | q
  · exact h1 _ _ q hm
  · rw [q]
    refine h2 _ ?_
    rw [q, Nat.mul_comm] at hdm
    omega
  · exfalso
    have : (e + 1) * 5 ^ n ≤ (k / 5 ^ n) * 5 ^ n := Nat.mul_le_mul_right _ q
    rw [Nat.add_mul, Nat.one_mul] at this
    rw [Nat.mul_comm] at hdm
    omega
theorem none_cat {n t : Nat} {b : Bx} (h1 : ∀ e' r', e' < 5 → r' < 5 ^ n → ¬ Wn n (pn b (e' + 1)) t r') : ∀ k, k < 5 ^ (n + 1) → ¬ Wn (n + 1) b t k := by
  intro k hk
  have hP := p5 n
  have hm := Nat.mod_lt k hP
  have hdm := Nat.div_add_mod k (5 ^ n)
  rw [← hdm, Nat.mul_comm, Wn_cat hm]
  exact h1 _ _ (div5 hk) hm
theorem dg_0 {n e r : Nat} (h : r < 5 ^ n) (he : e < 5) : dg (n + 1) (e * 5 ^ n + r) 0 = e + 1 := by
  unfold dg
  rw [show n + 1 - 1 - 0 = n by omega, cat_div h, Nat.mod_eq_of_lt he]
theorem dg_s {n e r i : Nat} (hi : i < n) : dg (n + 1) (e * 5 ^ n + r) (i + 1) = dg n r i := by
  unfold dg
  have e1 : n + 1 - 1 - (i + 1) = n - 1 - i := by omega
  have e2 : 5 ^ n = 5 ^ (n - 1 - i) * (5 * 5 ^ i) := by
    rw [show 5 * 5 ^ i = 5 ^ (i + 1) by rw [Nat.pow_succ, Nat.mul_comm], ← Nat.pow_add]
    congr 1; omega
  rw [e1, e2, show e * (5 ^ (n - 1 - i) * (5 * 5 ^ i)) = 5 ^ (n - 1 - i) * (5 * (e * 5 ^ i)) by rw [← Nat.mul_assoc, Nat.mul_comm e, Nat.mul_assoc]; congr 1; rw [← Nat.mul_assoc, Nat.mul_comm e, Nat.mul_assoc], Nat.mul_add_div (p5 _), Nat.mul_add_mod]
theorem dg_in {n k i : Nat} : 1 ≤ dg n k i ∧ dg n k i ≤ 5 := by
  unfold dg
  have := Nat.mod_lt (k / 5 ^ (n - 1 - i)) (show 0 < 5 by decide)
  omega
/-! the class' search -/
def Tw (d q k : Nat) : Prop := (42 ≤ q ∧ q ≤ 46) ∨ (q = 47 ∧ d ≤ k) ∨ (50 + d ≤ q ∧ q ≤ 57)
theorem s4_wins {t : Nat} : ∀ (m d : Nat) (b : Bx) (g : Mm) (Q : Int32 → Mm → Prop) (fu : Nat), d + m ≤ 4 → BoxIs g 42 b → Vb b → b 8 0 + m ≤ 20000 → t < b 0 0 →
    (∀ g', BoxIs g' 42 b → Fr (Tw d) g g' → (∀ k, k < 5 ^ m → ¬ Wn m b t k) → Q 0 g') →
    (∀ g' k, BoxIs g' 42 b → Fr (Tw d) g g' → k < 5 ^ m → Wn m b t k → (∀ k', k' < k → ¬ Wn m b t k') → (∀ i, i < m → g'.1 47 (d + i) = nI (dg m k i)) → Q 1 g') →
    o_X4_winsWithin (fu + m + 1) Q g (nI t) (nI d) (nI (d + m)) := by
  intro m
  induction m with
  | zero =>
    intro d b g Q fu hd hB hV h8 ht h0 h1
    have h7 := hV.1.2
    have hp := VbP hV ht
    refine ⟨fun q => absurd ((nI_ltI (by omega) (by omega)).mp q) (by omega), fun _ => ⟨vt h7 ht, ?_⟩⟩
    rw [cl (by omega), (hB.2 t ht).2.2.1]
    have z0 : nI (b 3 t) = 0 ↔ b 3 t = 0 := nI_eq (b := 0) (by omega) (by omega)
    refine ⟨fun q => h0 g hB Fr.rfl (fun k _ w => q (z0.mpr w)), fun q => h1 g 0 hB Fr.rfl (by decide) (z0.mp q) (fun k' hk => absurd hk (by omega)) (fun i hi => absurd hi (by omega))⟩
  | succ m ih =>
    intro d b g Q fu hd hB hV h8 ht h0 h1
    have h7 := hV.1.2
    refine ⟨fun _ => ⟨6, ?_⟩, fun q => absurd ((nI_ltI (by omega) (by omega)).mpr (by omega)) q⟩
    have loop : ∀ (k e : Nat) (g1 : Mm), e + k = 5 → BoxIs g1 42 b → Fr (Tw d) g g1 → (∀ e' r', e' < e → r' < 5 ^ m → ¬ Wn m (pn b (e' + 1)) t r') → o_X4_winsWithin_26 Q (o_X4_winsWithin (fu + (m + 1))) (k + 1) g1 (nI t) (nI d) (nI (d + (m + 1))) (nI (e + 1)) := by
      intro k
      induction k with
      | zero =>
        intro e g1 he hB1 hF1 hno
        refine ⟨fun _ => h0 g1 hB1 hF1 (none_cat (fun e' r' h1 h2 => hno e' r' (by omega) h2)), fun q => absurd ((nI_ltI (a := 5) (by omega) (by omega)).mpr (by omega)) q⟩
      | succ k ihk =>
        intro e g1 he hB1 hF1 hno
        have hg := gr_le (k := 0) hV
        have hv8 : vp_in (nI d) 8 := vlit d (by omega) (by omega)
        refine ⟨fun q => absurd ((nI_ltI (a := 5) (by omega) (by omega)).mp q) (by omega), fun _ => ⟨vlit d (by omega) (by omega), fun g2 e2 => ?_⟩⟩
        rw [cl (by omega)] at e2 ⊢
        have hB2 : BoxIs g2 42 b := hB1.eq (fun q i _ _ => by rw [e2, mset_at, if_neg (by omega)])
        have hF2 : Fr (Tw d) g g2 := by rw [e2]; exact Fr.set hF1 (Or.inr (Or.inl ⟨rfl, Nat.le_refl _⟩))
        refine s3_grip (k := 0) hB2 hV (by omega) ⟨hv8, ?_⟩
        rw [show 49 + 1 + d = 50 + d by omega]
        refine s3_playAt hB2 hV (by omega) (Or.inr (by omega)) ⟨by omega, by omega⟩ (by omega) (fun g3 p1 p2 p3 => ?_)
        have hF3 : Fr (Tw d) g g3 := hF2.trans (p3.mono (fun q i z => by unfold Tw; omega))
        rw [nI_1 d]
        rw [show fu + (m + 1) = fu + m + 1 by omega, show d + (m + 1) = (d + 1) + m by omega]
        have hBn : BoxIs g3 42 (pn b (e + 1)) := p1
        have back : ∀ (g4 : Mm) (R : Mm → Prop), BoxIs g4 42 (pn b (e + 1)) → Fr (Tw (d + 1)) g3 g4 → (∀ g5, BoxIs g5 42 b → Fr (Tw d) g g5 → (∀ i, g5.1 47 i = g4.1 47 i) → R g5) → o_X2_giveBack R (50 + d) 42 g4 := by
          intro g4 R b4 f4 hh
          refine s2_giveBack b4 (p2.eq (fun i => f4 _ i (by unfold Tw; omega))) h7 (Or.inr (by omega)) (fun g5 q1 q2 => hh g5 q1 ((hF3.trans (f4.mono (fun q i z => by unfold Tw at *; omega))).trans (q2.mono (fun q i z => by unfold Tw; omega))) (fun i => q2 47 i (by omega)))
        refine ih (d + 1) (pn b (e + 1)) g3 _ fu (by omega) hBn (Vb_pn hV ⟨by omega, by omega⟩ (by omega)) (by rw [pn_8]; omega) (by rw [pn_0 (by decide) (by decide) (by decide)]; exact ht) ?_ ?_
        · intro g4 b4 f4 w4
          refine ⟨hv8, back g4 _ b4 f4 (fun g5 b5 f5 _ => ⟨fun _ x ex => ?_, fun z => absurd rfl z⟩)⟩
          rw [nI_1] at ex; subst ex
          have := ihk (e + 1) g5 (by omega) b5 f5 (fun e' r' h1 h2 => ?_)
          · rw [show fu + (m + 1) = fu + m + 1 by omega, show d + (m + 1) = (d + 1) + m by omega] at this
            exact this
          · rcases Nat.lt_or_ge e' e with y | y
            · exact hno e' r' y h2
            · have : e' = e := by omega
              subst this
              exact w4 r' h2
        · intro g4 r b4 f4 hr w4 m4 dg4
          refine ⟨hv8, back g4 _ b4 f4 (fun g5 b5 f5 p5_ => ⟨fun z => absurd z (by decide), fun _ => ?_⟩)⟩
          have hlt : e * 5 ^ m + r < 5 ^ (m + 1) := by
            rw [Nat.pow_succ]
            have : e * 5 ^ m ≤ 4 * 5 ^ m := Nat.mul_le_mul_right _ (by omega)
            omega
          refine h1 g5 (e * 5 ^ m + r) b5 f5 hlt ((Wn_cat hr).mpr w4) (first_cat hr hno m4) (fun i hi => ?_)
          rw [p5_]
          cases i with
          | zero =>
            rw [dg_0 hr (by omega), f4 47 _ (by unfold Tw; omega), p3 47 _ (by omega), e2, mset_at, if_pos ⟨rfl, rfl⟩]
          | succ i =>
            rw [dg_s (by omega), show d + (i + 1) = d + 1 + i by omega]
            exact dg4 i (by omega)
    exact loop 5 0 g (by omega) hB Fr.rfl (fun e' r' h => absurd h (by omega))
/-- the answer of WIN: told by the first n and code -/
def Fst (b : Bx) (t n k : Nat) : Prop := n ≤ 4 ∧ k < 5 ^ n ∧ Wn n b t k ∧ (∀ k', k' < k → ¬ Wn n b t k') ∧ ∀ n', n' < n → ∀ k', k' < 5 ^ n' → ¬ Wn n' b t k'
def Non (b : Bx) (t : Nat) : Prop := ∀ n', n' ≤ 4 → ∀ k', k' < 5 ^ n' → ¬ Wn n' b t k'
def Tsea (q k : Nat) : Prop := 41 ≤ q ∧ q ≤ 57
theorem s4_fewest {Q : Int32 → Mm → Prop} {g : Mm} {b : Bx} {t : Nat} (hB : BoxIs g 9 b) (hV : Vb b) (h8 : b 8 0 ≤ 9999) (ht : t < b 0 0) (h0 : ∀ g', Fr Tsea g g' → Non b t → Q (-1000000) g') (h1 : ∀ g' n k, Fr Tsea g g' → Fst b t n k → (∀ i, i < n → g'.1 47 i = nI (dg n k i)) → Q (nI n) g') : o_X4_fewestPlays Q 9 g (nI t) := by
  have h7 := hV.1.2
  refine s3_become hB h7 (Or.inl (by omega)) (fun g1 p1 p2 p3 => ⟨6, ?_⟩)
  have hF1 : Fr Tsea g g1 := p3.mono (fun q k z => by unfold Tsea; omega)
  have loop : ∀ (k n : Nat) (g2 : Mm), n + k = 5 → BoxIs g2 42 b → Fr Tsea g g2 → (∀ n', n' < n → ∀ k', k' < 5 ^ n' → ¬ Wn n' b t k') → o_X4_fewestPlays_10 Q 9 (k + 1) g2 (nI t) (nI n) := by
    intro k
    induction k with
    | zero =>
      intro n g2 hn hB2 hF2 hno
      exact ⟨fun _ => h0 g2 hF2 (fun n' h' => hno n' (by omega)), fun q => absurd ((nI_ltI (a := 4) (by omega) (by omega)).mpr (by omega)) q⟩
    | succ k ih =>
      intro n g2 hn hB2 hF2 hno
      refine ⟨fun q => absurd ((nI_ltI (a := 4) (by omega) (by omega)).mp q) (by omega), fun _ => ?_⟩
      have := s4_wins (t := t) n 0 b g2 (fun (r_4 : Int32) (g_3 : Mm) => ((r_4 = 0) → ∀ x_5 : Int32, x_5 = nI n + 1 → (o_X4_fewestPlays_10 Q 9 (k + 1) g_3 (nI t) x_5)) ∧ ((¬ r_4 = 0) → Q (nI n) g_3)) (5 - n) (by omega) hB2 hV (by omega) ht (fun g3 b3 f3 w3 => ⟨fun _ x ex => ?_, fun z => absurd rfl z⟩) (fun g3 c b3 f3 hc w3 m3 d3 => ⟨fun z => absurd z (by decide), fun _ => ?_⟩)
      · rw [show 5 - n + n + 1 = 6 by omega, Nat.zero_add] at this
        exact this
      · rw [nI_1] at ex; subst ex
        refine ih (n + 1) g3 (by omega) b3 (hF2.trans (f3.mono (fun q i z => by unfold Tw at z; unfold Tsea; omega))) (fun n' hn' k' hk' => ?_)
        rcases Nat.lt_or_ge n' n with y | y
        · exact hno n' y k' hk'
        · have : n' = n := by omega
          subst this
          exact w3 k' hk'
      · refine h1 g3 n c (hF2.trans (f3.mono (fun q i z => by unfold Tw at z; unfold Tsea; omega))) ⟨by omega, hc, w3, m3, hno⟩ (fun i hi => ?_)
        have := d3 i hi
        rw [Nat.zero_add] at this
        exact this
  exact loop 5 0 g1 (by omega) p1 hF1 (fun n' h => absurd h (by omega))
/-! the reference's search -/
theorem p5_le {n : Nat} (h : n ≤ 4) : 5 ^ n ≤ 625 := by
  have : n = 0 ∨ n = 1 ∨ n = 2 ∨ n = 3 ∨ n = 4 := by omega
  rcases this with rfl | rfl | rfl | rfl | rfl <;> decide
theorem s8_power {Q : Int32 → Mm → Prop} {g : Mm} {n : Nat} (hn : n ≤ 4) (h : Q (nI (5 ^ n)) g) : o_X8_power Q g (nI n) := by
  have key : ∀ (k i : Nat), i + k = n → o_X8_power_4 Q (k + 1) g (nI n) (nI (5 ^ i)) (nI i) := by
    intro k
    induction k with
    | zero =>
      intro i hi
      exact ⟨fun _ => by rw [show i = n by omega]; exact h, fun q => absurd ((nI_leI (by omega) (by omega)).mpr (by omega)) q⟩
    | succ k ih =>
      intro i hi
      refine ⟨fun q => absurd ((nI_leI (by omega) (by omega)).mp q) (by omega), fun _ x ex y ey => ?_⟩
      rw [show nI (5 ^ i) * (5 : Int32) = nI (5 ^ i * 5) from pk_mul (5 ^ i) 5, ← Nat.pow_succ] at ex
      rw [nI_1] at ey
      subst ex; subst ey
      exact ih (i + 1) (by omega)
  exact ⟨n + 1, key n 0 (by omega)⟩
theorem s8_goBy {Q : Mm → Prop} {g : Mm} {b : Bx} {n k : Nat} (hW : RowIs (g.1 87) b) (hV : Vb b) (h8 : b 8 0 ≤ 9999) (hn : n ≤ 4) (hk : k < 5 ^ n) (h : ∀ g', RowIs (g'.1 98) (pc n k b) → Fr (fun q k => q = 98) g g' → Q g') : o_X8_goBy Q g (nI n) (nI k) := by
  have h7 := hV.1.2
  refine s8_power hn (s8_layHand (fun g1 k1 f1 => ⟨n + 1, ?_⟩))
  have hH : RowIs (g1.1 98) b := hW.of33 h7 k1
  have loop : ∀ (m i : Nat) (c : Nat) (b1 : Bx) (g2 : Mm), i + m = n → c < 5 ^ m → RowIs (g2.1 98) b1 → Vb b1 → b1 8 0 + m ≤ 20000 → Fr (fun q k => q = 98) g g2 → pc m c b1 = pc n k b → o_X8_goBy_15 Q (m + 1) g2 (nI n) (nI (5 ^ m)) (nI c) (nI i) := by
    intro m
    induction m with
    | zero =>
      intro i c b1 g2 hi hc hH2 hV2 h82 hF2 e
      exact ⟨fun _ => h g2 (by rw [← e]; exact hH2) hF2, fun q => absurd ((nI_leI (by omega) (by omega)).mpr (by omega)) q⟩
    | succ m ih =>
      intro i c b1 g2 hi hc hH2 hV2 h82 hF2 e
      have hP := p5 m
      have hP2 := p5_le (n := m) (by omega)
      have hd := div5 hc
      have hc2 : c < 3125 := by rw [Nat.pow_succ] at hc; omega
      refine ⟨fun q => absurd ((nI_leI (by omega) (by omega)).mp q) (by omega), fun _ => ⟨by decide, fun x ex => ?_⟩⟩
      rw [show nI (5 ^ (m + 1)) / (5 : Int32) = nI (5 ^ (m + 1) / 5) from pk_div (d := 5) (by rw [Nat.pow_succ]; omega) (by omega) (by omega), Nat.pow_succ, Nat.mul_div_cancel _ (by decide)] at ex
      subst ex
      have hx0 : ¬ nI (5 ^ m) = 0 := fun q => by have := (nI_eq (b := 0) (by omega) (by omega)).mp q; omega
      refine ⟨hx0, ?_⟩
      rw [show nI c / nI (5 ^ m) = nI (c / 5 ^ m) from pk_div (by omega) hP (by omega), nI_1 (c / 5 ^ m)]
      refine s8_goNext hH2 hV2 (by omega) ⟨Nat.le_add_left 1 _, by omega⟩ (fun g3 r3 f3 => ⟨hx0, fun y ey z ez => ?_⟩)
      rw [nI_1] at ez
      have ey2 : y = nI (c % 5 ^ m) := by
        rw [ey, ← pk_rem (a := c) (d := 5 ^ m) (by omega) hP (by omega), pk_div (by omega) hP (by omega)]
      subst ey2; subst ez
      exact ih (i + 1) (c % 5 ^ m) (pn b1 (c / 5 ^ m + 1)) g3 (by omega) (Nat.mod_lt _ hP) r3 (Vb_pn hV2 ⟨Nat.le_add_left 1 _, by omega⟩ (by omega)) (by rw [pn_8]; omega) (hF2.trans f3) e
  exact loop n 0 k b g1 (by omega) hk hH hV (by omega) f1 rfl
theorem s8_columnBy {Q : Int32 → Mm → Prop} {g : Mm} {n k i : Nat} (hn : n ≤ 4) (hk : k < 5 ^ n) (hi : i < n) (h : Q (nI (dg n k i)) g) : o_X8_columnBy Q g (nI n) (nI k) (nI i) := by
  have hk2 := p5_le hn
  unfold o_X8_columnBy
  rw [show nI n - 1 = nI (n - 1) from pk_sub (b := 1) (by omega), show nI (n - 1) - nI i = nI (n - 1 - i) from pk_sub (by omega)]
  have hP := p5 (n - 1 - i)
  have hP2 := p5_le (n := n - 1 - i) (by omega)
  have hd : k / 5 ^ (n - 1 - i) ≤ k := Nat.div_le_self _ _
  refine s8_power (by omega) ⟨fun q => by have := (nI_eq (b := 0) (by omega) (by omega)).mp q; omega, by decide, ?_⟩
  rw [show nI k / nI (5 ^ (n - 1 - i)) = nI (k / 5 ^ (n - 1 - i)) from pk_div (by omega) hP (by omega), show nI (k / 5 ^ (n - 1 - i)) - nI (k / 5 ^ (n - 1 - i)) / 5 * 5 = nI (k / 5 ^ (n - 1 - i) % 5) from pk_rem (d := 5) (by omega) (by omega) (by omega), nI_1]
  exact h
theorem Fst_one {b : Bx} {t n k n' k' : Nat} (h : Fst b t n k) (h' : Fst b t n' k') : n = n' ∧ k = k' := by
  obtain ⟨a1, a2, a3, a4, a5⟩ := h
  obtain ⟨b1, b2, b3, b4, b5⟩ := h'
  have e : n = n' := by
    rcases Nat.lt_trichotomy n n' with q | q | q
    · exact absurd a3 (b5 n q k a2)
    · exact q
    · exact absurd b3 (a5 n' q k' b2)
  subst e
  refine ⟨rfl, ?_⟩
  rcases Nat.lt_trichotomy k k' with q | q | q
  · exact absurd a3 (b4 k q)
  · exact q
  · exact absurd b3 (a4 k' q)
theorem s8_winl {Q : Int32 → Mm → Prop} {K : Mm → Int32 → Int32 → Int32 → Prop} {g : Mm} {b : Bx} {t : Nat} {x2 : Int32} (hW : RowIs (g.1 87) b) (hV : Vb b) (h8 : b 8 0 ≤ 9999) (ht : t < b 0 0) (h0 : ∀ g', Fr (fun q k => q = 98) g g' → Non b t → Q (-1000000) g') (h1 : ∀ g' n k, Fr (fun q k => q = 98) g g' → Fst b t n k → K g' x2 (nI n) (nI k)) : ∃ n18, o_X8_win_18 Q K n18 g (nI t) x2 0 := by
  have h7 := hV.1.2
  have outer : ∀ (k n : Nat) (g2 : Mm), n + k = 5 → Fr (fun q k => q = 98) g g2 → (∀ n', n' < n → ∀ k', k' < 5 ^ n' → ¬ Wn n' b t k') → o_X8_win_18 Q K (k + 1) g2 (nI t) x2 (nI n) := by
    intro k
    induction k with
    | zero =>
      intro n g2 hn hF2 hno
      exact ⟨fun _ => h0 g2 hF2 (fun n' h' => hno n' (by omega)), fun q => absurd ((nI_leI (a := 5) (by omega) (by omega)).mpr (by omega)) q⟩
    | succ k ih =>
      intro n g2 hn hF2 hno
      have hP := p5_le (n := n) (by omega)
      refine ⟨fun q => absurd ((nI_leI (a := 5) (by omega) (by omega)).mp q) (by omega), fun _ => ⟨5 ^ n + 1, ?_⟩⟩
      have inner : ∀ (l c : Nat) (g3 : Mm), c + l = 5 ^ n → Fr (fun q k => q = 98) g g3 → (∀ c', c' < c → ¬ Wn n b t c') → o_X8_win_26 Q (fun (g : Mm) (x2 : Int32) (x3 : Int32) (x4 : Int32) => K g x2 x3 x4) (fun (g : Mm) (x1 : Int32) (x2 : Int32) (x3 : Int32) => ∀ x_8 : Int32, x_8 = x3 + 1 → (o_X8_win_18 Q K (k + 1) g x1 x2 x_8)) (l + 1) g3 (nI t) x2 (nI n) (nI c) := by
        intro l
        induction l with
        | zero =>
          intro c g3 hc hF3 hm
          refine s8_power (by omega) ⟨fun _ x ex => ?_, fun q => absurd ((nI_leI (by omega) (by omega)).mpr (by omega)) q⟩
          rw [nI_1] at ex; subst ex
          refine ih (n + 1) g3 (by omega) hF3 (fun n' hn' k' hk' => ?_)
          rcases Nat.lt_or_ge n' n with y | y
          · exact hno n' y k' hk'
          · have : n' = n := by omega
            subst this
            exact hm k' (by omega)
        | succ l ihl =>
          intro c g3 hc hF3 hm
          have hW3 : RowIs (g3.1 87) b := hW.eq (fun i => hF3 87 i (by omega))
          refine s8_power (by omega) ⟨fun q => absurd ((nI_leI (by omega) (by omega)).mp q) (by omega), fun _ => s8_goBy hW3 hV h8 (by omega) (by omega) (fun g4 r4 f4 => ⟨v19 (by omega), ?_⟩)⟩
          obtain ⟨hVc, hnc⟩ := pc_ok (n := n) (k := c) (b := b) (by omega) hV (by omega)
          have htc : t < pc n c b 0 0 := by rw [hnc]; exact ht
          have hp := VbP hVc htc
          rw [c19 (by omega), (r4.2 t htc).2.2.1]
          have z0 : nI (pc n c b 3 t) = 0 ↔ pc n c b 3 t = 0 := nI_eq (b := 0) (by omega) (by omega)
          refine ⟨fun q x ex => ?_, fun q => ?_⟩
          · rw [nI_1] at ex; subst ex
            refine ihl (c + 1) g4 (by omega) (hF3.trans f4) (fun c' hc' => ?_)
            rcases Nat.lt_or_ge c' c with y | y
            · exact hm c' y
            · have : c' = c := by omega
              subst this
              exact fun w => q (z0.mpr w)
          · exact h1 g4 n c (hF3.trans f4) ⟨by omega, by omega, z0.mp q, hm, hno⟩
      exact inner (5 ^ n) 0 g2 (by omega) hF2 (fun c' h => absurd h (by omega))
  exact ⟨6, outer 5 0 g (by omega) Fr.rfl (fun n' h => absurd h (by omega))⟩
def Tsr (q k : Nat) : Prop := (41 ≤ q ∧ q ≤ 57) ∨ q = 98
theorem Rel.search {g g1 g2 : Mm} (hR : Rel g) (h1 : Fr Tsea g g1) (h2 : Fr (fun q k => q = 98) g1 g2) : Rel g2 := by
  have hf : Fr Tsr g g2 := Fr.trans (h1.mono (fun q k z => by unfold Tsea at z; unfold Tsr; omega)) (h2.mono (fun q k z => by unfold Tsr; omega))
  exact ⟨hR.1.fr hf (by intro j k ht; unfold Tsr at ht; omega), hR.2.1.fr hf (by intro j k ht; unfold Tsr at ht; omega), hR.2.2.1.fr hf (by intro j k ht; unfold Tsr at ht; omega), hR.2.2.2.1.fr hf (by intro j k ht; unfold Tsr at ht; omega), hR.2.2.2.2.1.fr hf (by intro j k ht; unfold Tsr at ht; omega), hR.2.2.2.2.2.1.fr hf (by intro j k ht; unfold Tsr at ht; omega), hR.2.2.2.2.2.2.fr hf (by intro j k ht; unfold Tsr at ht; omega)⟩
theorem m1_le {x : Int32} (h : -1 ≤ x) (h1 : ¬ x = -1) : ∃ k : Nat, k < 2147483648 ∧ x = nI k := by
  have : ¬ x < 0 := by
    intro q
    rw [lt_i, show (0 : Int32).toInt = 0 from rfl] at q
    rw [le_i, show (-1 : Int32).toInt = -1 from by decide] at h
    exact h1 (Int32.toInt_inj.mp (by rw [show (-1 : Int32).toInt = -1 from by decide]; omega))
  obtain ⟨k, hk, e⟩ := nI_of this
  exact ⟨k, hk, e⟩
theorem cmd_win {g : Mm} (hR : Rel g) (x1 x2 : Int32) : o_X7_win (fun r g1 => o_X8_win (fun r2 g2 => r = r2 ∧ Rel g2) g1 x1 x2) g x1 x2 := by
  obtain ⟨b, hB, hW, hV, hA, hP⟩ := hR.2.2.2.2.1
  have h7 := toys7 hV
  refine b7_toy hB.1.1 (bI_br (fun c1 => b8_toy hW.1.1 (bI_br (fun _ => ⟨rfl, hR⟩) (fun q => absurd q c1))) (fun c1 => ⟨fun c2 => ?_, fun c2 => b8_toy hW.1.1 (bI_br (fun q => absurd c1 q) (fun _ => ⟨fun q => absurd q c2, fun _ => ⟨rfl, hR⟩⟩))⟩))
  obtain ⟨t, ht, rfl⟩ := toy_of h7 c1
  have hV := case_of hV (by omega)
  have ref : ∀ (P : Int32 → Mm → Prop) (g1 : Mm), Fr Tsea g g1 → (∀ g', Rel g' → Non b t → P (-1000000) g') → (∀ g' n k, Rel g' → Fst b t n k → ((¬ x2 = (-1)) → ((x2 < nI n) → o_X8_columnBy (fun (r_10 : Int32) (g_9 : Mm) => P r_10 g_9) g' (nI n) (nI k) x2) ∧ ((¬ x2 < nI n) → P (-1000000) g')) ∧ ((x2 = (-1)) → P (nI n) g')) → o_X8_win P g1 (nI t) x2 := by
    intro P g1 f1 h0 h1
    have hW1 : RowIs (g1.1 87) b := hW.eq (fun i => f1 87 i (by unfold Tsea; omega))
    refine b8_toy hW1.1.1 (bI_br (fun q => absurd c1 q) (fun _ => ⟨fun _ => ?_, fun q => absurd c2 q⟩))
    exact s8_winl hW1 hV hP ht (fun g' f' w => h0 g' (hR.search f1 f') w) (fun g' n k f' w => h1 g' n k (hR.search f1 f') w)
  refine s4_fewest hB hV hP ht (fun g1 f1 w1 => ?_) (fun g1 n k f1 w1 d1 => ?_)
  · have fin : o_X8_win (fun r2 g2 => (-1000000 : Int32) = r2 ∧ Rel g2) g1 (nI t) x2 := ref _ g1 f1 (fun g' r' _ => ⟨rfl, r'⟩) (fun g' n k _ w => absurd w.2.2.1 (w1 n w.1 k w.2.1))
    refine ⟨fun q => ⟨fun _ => fin, fun z => ?_⟩, fun _ => fin⟩
    obtain ⟨k, hk, rfl⟩ := m1_le c2 q
    refine absurd ?_ z
    rw [le_i, nIi hk, show (-1000000 : Int32).toInt = -1000000 from by decide]
    omega
  · have hn4 := w1.1
    refine ⟨fun q => ?_, fun q => ?_⟩
    · obtain ⟨i, hi, rfl⟩ := m1_le c2 q
      refine ⟨fun z => ?_, fun z => ?_⟩
      · have hz := (nI_leI (by omega) (by omega)).mp z
        refine ref _ g1 f1 (fun g' r' w => absurd w1.2.2.1 (w n w1.1 k w1.2.1)) (fun g' n' k' r' w => ?_)
        obtain ⟨rfl, rfl⟩ := Fst_one w1 w
        exact ⟨fun _ => ⟨fun y => absurd ((nI_ltI (by omega) (by omega)).mp y) (by omega), fun _ => ⟨rfl, r'⟩⟩, fun y => absurd y q⟩
      · have hz : i < n := by
          have : ¬ n ≤ i := fun y => z ((nI_leI (by omega) (by omega)).mpr y)
          omega
        refine ⟨vlit i (by omega) (by omega), ?_⟩
        rw [cl (by omega), d1 i hz]
        refine ref _ g1 f1 (fun g' r' w => absurd w1.2.2.1 (w n w1.1 k w1.2.1)) (fun g' n' k' r' w => ?_)
        obtain ⟨rfl, rfl⟩ := Fst_one w1 w
        exact ⟨fun _ => ⟨fun _ => s8_columnBy hn4 w1.2.1 hz ⟨rfl, r'⟩, fun y => absurd ((nI_ltI (by omega) (by omega)).mpr hz) y⟩, fun y => absurd y q⟩
    · refine ref _ g1 f1 (fun g' r' w => absurd w1.2.2.1 (w n w1.1 k w1.2.1)) (fun g' n' k' r' w => ?_)
      obtain ⟨rfl, rfl⟩ := Fst_one w1 w
      exact ⟨fun y => absurd q y, fun _ => ⟨rfl, r'⟩⟩
