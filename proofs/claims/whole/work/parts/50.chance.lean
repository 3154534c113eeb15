/-! chance -/
def wy (t c q : Nat) : Nat → Bx → Nat
  | 0, b => if b 3 t = 0 then 1 else 0
  | m + 1, b => (10 - q) * wy t c q m (pl b c (b 5 0)) + q * wy t c q m (pl b c (b 6 0))
def cs (q : Nat) : Nat → Nat → Nat
  | 0, _ => 1
  | m + 1, s => (if s % 2 = 1 then q else 10 - q) * cs q m (s / 2)
def ps (c : Nat) : Nat → Nat → Bx → Bx
  | 0, _, b => b
  | m + 1, s, b => ps c m (s / 2) (pl b c (if s % 2 = 1 then b 6 0 else b 5 0))
def sm (f : Nat → Nat) : Nat → Nat
  | 0 => 0
  | n + 1 => sm f n + f n
theorem sm_cg {f h : Nat → Nat} : ∀ n, (∀ i, i < n → f i = h i) → sm f n = sm h n
  | 0, _ => rfl
  | n + 1, e => by rw [sm, sm, sm_cg n (fun i hi => e i (by omega)), e n (by omega)]
theorem sm_mul {f : Nat → Nat} (a : Nat) : ∀ n, sm (fun i => a * f i) n = a * sm f n
  | 0 => rfl
  | n + 1 => by rw [sm, sm, sm_mul a n, Nat.mul_add]
theorem sm_2 {f : Nat → Nat} : ∀ n, sm f (2 * n) = sm (fun i => f (2 * i)) n + sm (fun i => f (2 * i + 1)) n
  | 0 => rfl
  | n + 1 => by
    show sm f (2 * n + 1 + 1) = _
    rw [sm, sm, sm_2 n, sm, sm]
    omega
theorem wy_sm {t c q : Nat} : ∀ (m : Nat) (b : Bx), sm (fun s => if ps c m s b 3 t = 0 then cs q m s else 0) (2 ^ m) = wy t c q m b := by
  intro m
  induction m with
  | zero =>
    intro b
    show 0 + (if b 3 t = 0 then 1 else 0) = _
    rw [wy, Nat.zero_add]
  | succ m ih =>
    intro b
    rw [Nat.pow_succ, Nat.mul_comm, sm_2, wy, ← ih, ← ih, ← sm_mul, ← sm_mul]
    congr 1
    · refine sm_cg _ (fun i _ => ?_)
      have e1 : 2 * i % 2 = 0 := by omega
      have e2 : 2 * i / 2 = i := by omega
      show (if ps c (m + 1) (2 * i) b 3 t = 0 then cs q (m + 1) (2 * i) else 0) = (10 - q) * (if ps c m i (pl b c (b 5 0)) 3 t = 0 then cs q m i else 0)
      rw [ps, cs, e1, e2, if_neg (c := 0 = 1) (by decide), if_neg (c := 0 = 1) (by decide)]
      split
      · rfl
      · exact (Nat.mul_zero _).symm
    · refine sm_cg _ (fun i _ => ?_)
      have e1 : (2 * i + 1) % 2 = 1 := by omega
      have e2 : (2 * i + 1) / 2 = i := by omega
      show (if ps c (m + 1) (2 * i + 1) b 3 t = 0 then cs q (m + 1) (2 * i + 1) else 0) = q * (if ps c m i (pl b c (b 6 0)) 3 t = 0 then cs q m i else 0)
      rw [ps, cs, e1, e2, if_pos (c := 1 = 1) rfl, if_pos (c := 1 = 1) rfl]
      split
      · rfl
      · exact (Nat.mul_zero _).symm
theorem pl_won {b : Bx} {c gp t : Nat} (hc : 1 ≤ c) (h : b 3 t = 0) : pl b c gp 3 t = 0 := by
  unfold pl
  split
  · rw [bup_k (by decide)]; exact h
  · rename_i z
    split
    · rw [bup_k (by decide)]; exact h
    · have := tp_at b c (b 0 0) z
      have : t ≠ tN b c - 1 := fun e => by
        have y : b 3 (tN b c - 1) = c := this
        rw [← e] at y; omega
      rw [pu_t this, bup_k (by decide)]; exact h
theorem wy_won {t c q : Nat} (hc : 1 ≤ c) (hq : q ≤ 10) : ∀ (m : Nat) (b : Bx), b 3 t = 0 → wy t c q m b = 10 ^ m := by
  intro m
  induction m with
  | zero => intro b h; rw [wy, if_pos h]
  | succ m ih =>
    intro b h
    rw [wy, ih _ (pl_won hc h), ih _ (pl_won hc h), ← Nat.add_mul, Nat.sub_add_cancel hq, Nat.pow_succ, Nat.mul_comm]
theorem wy_le {t c q : Nat} (hq : q ≤ 10) : ∀ (m : Nat) (b : Bx), wy t c q m b ≤ 10 ^ m := by
  intro m
  induction m with
  | zero => intro b; rw [wy]; split <;> decide
  | succ m ih =>
    intro b
    rw [wy, Nat.pow_succ, Nat.mul_comm]
    have h1 := Nat.mul_le_mul_left (10 - q) (ih (pl b c (b 5 0)))
    have h2 := Nat.mul_le_mul_left q (ih (pl b c (b 6 0)))
    have e : (10 - q) * 10 ^ m + q * 10 ^ m = 10 * 10 ^ m := by rw [← Nat.add_mul, Nat.sub_add_cancel hq]
    rw [Nat.mul_comm] at h1
    rw [Nat.mul_comm (10 - q)] at e
    rw [Nat.mul_comm (10 ^ m) 10]
    rw [Nat.mul_comm (10 - q) (10 ^ m)] at h1
    omega
theorem p10 {n : Nat} (h : n ≤ 8) : 1 ≤ 10 ^ n ∧ 10 ^ n ≤ 100000000 := by
  rcases (by omega : n = 0 ∨ n = 1 ∨ n = 2 ∨ n = 3 ∨ n = 4 ∨ n = 5 ∨ n = 6 ∨ n = 7 ∨ n = 8) with h | h | h | h | h | h | h | h | h <;> subst h <;> decide
theorem s7_power {Q : Int32 → Mm → Prop} {g : Mm} {n : Nat} (hn : n ≤ 8) (h : Q (nI (10 ^ n)) g) : o_X7_power Q g 10 (nI n) := by
  have loop : ∀ m k, k + m = n → o_X7_power_4 Q (m + 1) g 10 (nI n) (nI (10 ^ k)) (nI k) := by
    intro m
    induction m with
    | zero =>
      intro k e
      refine ⟨fun _ => ?_, fun q => absurd ((nI_leI (by omega) (by omega)).mpr (by omega)) q⟩
      rw [show k = n by omega]; exact h
    | succ m ih =>
      intro k e
      refine ⟨fun q => absurd ((nI_leI (by omega) (by omega)).mp q) (by omega), fun _ x e1 y e2 => ?_⟩
      rw [nI_1] at e2; subst e2
      rw [show (10 : Int32) = nI 10 from rfl, pk_mul, ← Nat.pow_succ] at e1; subst e1
      exact ih (k + 1) (by omega)
  exact ⟨n + 1, loop n 0 (by omega)⟩
theorem s7_gcd {Q : Int32 → Mm → Prop} {K : Mm → Int32 → Prop} {g : Mm} : ∀ (j a b i : Nat), a < 2 ^ j → a < 2 ^ 31 → b < 2 ^ 31 → i + 2 * j + 1 ≤ 100 → K g (nI (Nat.gcd a b)) → o_X7_commonDivisor_7 Q K (2 * j + 1) g (nI a) (nI b) (nI i) := by
  intro j
  induction j with
  | zero =>
    intro a b i h1 ha hb hi h
    have a0 : a = 0 := by omega
    subst a0
    refine ⟨fun q => absurd ((nI_leI (a := 100) (by omega) (by omega)).mp q) (by omega), fun _ => ⟨fun _ => ?_, fun q => absurd rfl q⟩⟩
    rw [Nat.gcd_zero_left] at h; exact h
  | succ j ih =>
    intro a b i h1 ha hb hi h
    refine ⟨fun q => absurd ((nI_leI (a := 100) (by omega) (by omega)).mp q) (by omega), fun _ => ⟨fun q => ?_, fun q => ⟨q, fun x e1 y e2 => ?_⟩⟩⟩
    · have a0 : a = 0 := (nI_eq (b := 0) (by omega) (by omega)).mp q
      subst a0
      rw [Nat.gcd_zero_left] at h; exact h
    · have a0 : 0 < a := Nat.pos_of_ne_zero (fun z => q (by rw [z]; rfl))
      rw [pk_rem hb a0 ha] at e1; subst e1
      rw [nI_1] at e2; subst e2
      have r1 : b % a < a := Nat.mod_lt _ a0
      rw [Nat.gcd_rec] at h
      refine ⟨fun q => absurd ((nI_leI (a := 100) (by omega) (by omega)).mp q) (by omega), fun _ => ⟨fun q => ?_, fun q => ⟨q, fun x e1 y e2 => ?_⟩⟩⟩
      · have z : b % a = 0 := (nI_eq (b := 0) (by omega) (by omega)).mp q
        rw [z, Nat.gcd_zero_left] at h; exact h
      · have b0 : 0 < b % a := Nat.pos_of_ne_zero (fun z => q (by rw [z]; rfl))
        rw [pk_rem ha b0 (by omega)] at e1; subst e1
        rw [nI_1] at e2; subst e2
        rw [Nat.gcd_rec] at h
        have r2 : a % (b % a) < b % a := Nat.mod_lt _ b0
        have r3 : a % (b % a) + (b % a) ≤ a := by
          have := Nat.div_add_mod a (b % a)
          have z : 1 ≤ a / (b % a) := (Nat.le_div_iff_mul_le b0).mpr (by omega)
          have := Nat.mul_le_mul_left (b % a) z
          omega
        refine ih _ _ (i + 1 + 1) ?_ (by omega) (by omega) (by omega) h
        rw [Nat.pow_succ] at h1
        omega
theorem s7_common {Q : Int32 → Mm → Prop} {g : Mm} {a b : Nat} (ha : a ≤ 100000000) (hb : 1 ≤ b ∧ b ≤ 100000000) (h : Q (nI (Nat.gcd a b)) g) : o_X7_commonDivisor Q g (nI a) (nI b) := by
  refine ⟨55, s7_gcd 27 a b 0 (by omega) (by omega) (by omega) (by omega) ⟨fun _ => h, fun q => ?_⟩⟩
  have g1 : Nat.gcd a b ≤ b := Nat.gcd_le_right _ (by omega)
  have g0 : 0 < Nat.gcd a b := Nat.gcd_pos_of_pos_right _ (by omega)
  exact absurd ((nI_eq (b := 0) (by omega) (by omega)).mp q) (by omega)
theorem s8_gcd {Q : Mm → Prop} {K : Mm → Int64 → Int64 → Int64 → Prop} {g : Mm} {y1 y3 : Int64} : ∀ (b a : Nat), a < 2 ^ 31 → b < 2 ^ 31 → K g y1 y3 (lN (Nat.gcd b a)) → ∃ n, o_X8_fraction_6 Q K n g y1 y3 (lN a) (lN b) := by
  intro b
  induction b using Nat.strongRecOn with
  | ind b ih =>
    intro a ha hb h
    by_cases z : b = 0
    · subst z
      refine ⟨1, fun _ => ?_, fun q => absurd ((lg_cmp_eq _ _).mpr rfl) q⟩
      rw [Nat.gcd_zero_left] at h; exact h
    · have z0 : ¬ lN b = 0 := fun q => z ((lN_eq (b := 0) (by omega) (by omega)).mp q)
      have r1 : a % b < b := Nat.mod_lt _ (by omega)
      rw [Nat.gcd_rec] at h
      obtain ⟨n, hn⟩ := ih (a % b) r1 b hb (by omega) h
      refine ⟨n + 1, fun q => absurd ((lg_cmp_eq _ _).mp q) z0, fun _ => ⟨z0, fun y e => ?_⟩⟩
      rw [pk_lRem (by omega) (by omega) (by omega)] at e; subst e
      exact hn
theorem s8_fraction {Q : Mm → Prop} {g : Mm} {a b : Nat} (ha : a < 2 ^ 31) (hb : b < 2 ^ 31) (h0 : 0 < b) (h : Q (mlng (mlng g 0 (lN (a / Nat.gcd a b))) 1 (lN (b / Nat.gcd a b)))) : o_X8_fraction Q g (lN a) (lN b) := by
  have g1 : Nat.gcd a b ≤ b := Nat.gcd_le_right _ h0
  have g0 : 0 < Nat.gcd a b := Nat.gcd_pos_of_pos_right _ h0
  have z0 : ¬ lN (Nat.gcd a b) = 0 := fun q => absurd ((lN_eq (b := 0) (by omega) (by omega)).mp q) (by omega)
  refine s8_gcd b a ha hb ?_
  rw [Nat.gcd_comm]
  refine ⟨z0, fun g2 e2 => ⟨z0, fun g3 e3 => ?_⟩⟩
  rw [pk_lDiv (by omega) g0 (by omega)] at e2 e3
  subst e2; subst e3
  exact h
def Twy (m q k : Nat) : Prop := (42 ≤ q ∧ q ≤ 46) ∨ (50 ≤ q ∧ q < 50 + m)
theorem s4_ways {t c q : Nat} (hc : 1 ≤ c ∧ c ≤ 5) (hq : q ≤ 10) : ∀ (m : Nat) (b : Bx) (g : Mm) (Q : Int32 → Mm → Prop) (fu : Nat), m ≤ 8 → BoxIs g 42 b → Vb b → b 8 0 + m ≤ 20000 → t < b 0 0 → (∀ g', BoxIs g' 42 b → Fr (Twy m) g g' → Q (nI (wy t c q m b)) g') → o_X4_waysFrom (fu + m + 1) Q g (nI t) (nI c) (nI m) (nI q) := by
  intro m
  induction m with
  | zero =>
    intro b g Q fu hm hB hV h8 ht h
    have h3 := (VbP hV ht).2.2.1
    refine ⟨vt hV.1.2 ht, ?_⟩
    rw [cl (by have := hV.1; omega), (hB.2 t ht).2.2.1]
    refine ⟨fun z => ⟨fun y => absurd y (by decide), fun _ => ?_⟩, fun z => s7_power (n := 0) (by omega) ?_⟩
    · have := h g hB Fr.rfl
      have z0 : ¬ b 3 t = 0 := fun y => z (by rw [y]; rfl)
      rw [wy, if_neg z0] at this
      exact this
    · have := h g hB Fr.rfl
      rw [wy_won hc.1 hq 0 b ((nI_eq (b := 0) (by omega) (by omega)).mp z)] at this
      exact this
  | succ m ih =>
    intro b g Q fu hm hB hV h8 ht h
    have h3 := (VbP hV ht).2.2.1
    have h7 := hV.1
    refine ⟨vt hV.1.2 ht, ?_⟩
    rw [cl (by omega), (hB.2 t ht).2.2.1]
    refine ⟨fun z => ⟨fun _ => ⟨3, ?_⟩, fun y => absurd ((nI_ltI (a := 0) (by omega) (by omega)).mpr (by omega)) y⟩, fun z => s7_power (by omega) ?_⟩
    · have v1 : vp_in (nI (m + 1) - 1) 8 := by rw [nI_pred]; exact vlit m (by omega) (by omega)
      have c1 : 49 + 1 + (nI (m + 1) - 1 : Int32).toNatClampNeg = 50 + m := by rw [nI_pred, cl (by omega)]
      have step : ∀ (w s gp x6 : Nat) (g1 : Mm) (K : Mm → Int32 → Int32 → Int32 → Int32 → Int32 → Int32 → Prop), BoxIs g1 42 b → gp ≤ 9 → (∀ g2, BoxIs g2 42 b → Fr (Twy (m + 1)) g1 g2 → K g2 (nI t) (nI c) (nI (m + 1)) (nI q) (nI (w + s * wy t c q m (pl b c gp))) (nI (x6 + 1))) → o_X4_waysFrom_83 Q (o_X4_waysFrom (fu + m + 1)) K g1 (nI t) (nI c) (nI (m + 1)) (nI q) (nI w) (nI x6) (nI s) (nI c) (nI gp) := by
        intro w s gp x6 g1 K hB1 hgp hh
        refine ⟨v1, ?_⟩
        rw [c1]
        refine s3_playAt hB1 hV (by omega) (Or.inr (by omega)) hc (by omega) (fun g2 p1 p2 p3 => ?_)
        rw [nI_pred]
        refine ih (pl b c gp) g2 _ fu (by omega) p1 (Vb_pl hV hc (by omega)) (by rw [pl_8]; omega) (by rw [pl_0 (by decide) (by decide) (by decide)]; exact ht) (fun g3 b3 f3 x e => ⟨by rw [← nI_pred]; exact v1, ?_⟩)
        rw [pk_mul, nI_add] at e; subst e
        refine s2_giveBack b3 (p2.eq (fun k => f3 _ _ (by unfold Twy; omega))) h7.2 (Or.inr (by omega)) (fun g4 b4 f4 x10 e => ?_)
        rw [nI_1] at e; subst e
        refine hh g4 b4 ?_
        exact (p3.mono (fun q k z => by unfold Twy; omega)).trans ((f3.mono (fun q k z => by unfold Twy at z ⊢; omega)).trans (f4.mono (fun q k z => by unfold Twy; omega)))
      have h5 := hV.2.1
      refine ⟨fun y => absurd y (by decide), fun _ => ⟨fun _ => ⟨fun _ => ?_, fun y => absurd y (by decide)⟩, fun y => absurd y (by decide)⟩⟩
      rw [hB.1.2.1, show (10 : Int32) - nI q = nI (10 - q) from pk_sub (a := 10) hq]
      refine step 0 (10 - q) (b 5 0) 0 g _ hB h5.1 (fun g2 b2 f2 => ?_)
      refine ⟨fun y => absurd y (by decide), fun _ => ⟨fun y => absurd rfl y, fun _ => ⟨fun y => absurd rfl y, fun _ => ?_⟩⟩⟩
      rw [b2.1.2.2.1]
      refine step _ q (b 6 0) 1 g2 _ b2 h5.2.1 (fun g3 b3 f3 => ?_)
      refine ⟨fun _ => ?_, fun y => absurd (by decide) y⟩
      have := h g3 b3 (f2.trans f3)
      rw [wy, ← Nat.zero_add ((10 - q) * _)] at this
      exact this
    · have := h g hB Fr.rfl
      rw [wy_won hc.1 hq (m + 1) b ((nI_eq (b := 0) (by omega) (by omega)).mp z)] at this
      exact this
theorem e_has {s k : Nat} (hs : s < 256) (hk : k < 8) : ((nI s >>> (nI k &&& 31)) &&& 1) = nI (s / 2 ^ k % 2) := by
  rw [pk_shrN (n := s) (by omega) (nI k &&& 31) k (by
    rcases (by omega : k = 0 ∨ k = 1 ∨ k = 2 ∨ k = 3 ∨ k = 4 ∨ k = 5 ∨ k = 6 ∨ k = 7) with h | h | h | h | h | h | h | h <;> subst h <;> rfl)]
  have : s / 2 ^ k ≤ s := Nat.div_le_self _ _
  exact pk_andN (by omega) 1 rfl
theorem s8_has {Q : Int32 → Mm → Prop} {g : Mm} {s k : Nat} (hs : s < 256) (hk : k < 8) (h0 : s / 2 ^ k % 2 ≠ 1 → Q 0 g) (h1 : s / 2 ^ k % 2 = 1 → Q 1 g) : o_X8_has Q g (nI s) (nI k) := by
  have := @e_has s k hs hk
  refine ⟨fun q => h0 (fun z => q ?_), fun q => h1 ?_⟩
  · rw [this, z]; rfl
  · rw [this] at q
    exact (nI_eq (b := 1) (by omega) (by omega)).mp q
theorem d2 (s k : Nat) : s / 2 ^ (k + 1) = s / 2 ^ k / 2 := by rw [Nat.pow_succ, Nat.div_div_eq_div_mul]
theorem s8_plays {t c q n s : Nat} {x5 : Int32} {y6 y8 : Int64} {Q : Int32 → Mm → Prop} {K : Mm → Int32 → Int32 → Int32 → Int32 → Int32 → Int64 → Int64 → Int32 → Int64 → Prop} {b0 : Bx} (hc : 1 ≤ c ∧ c ≤ 5) (hq : q ≤ 10) (hn : n ≤ 8) (hs : s < 256) (h5 : b0 5 0 ≤ 9 ∧ b0 6 0 ≤ 9) : ∀ (m k a : Nat) (b : Bx) (g : Mm), k + m = n → RowIs (g.1 98) b → g.1 87 16 = nI (b0 5 0) → g.1 87 17 = nI (b0 6 0) → b 5 0 = b0 5 0 → b 6 0 = b0 6 0 → Vb b → b 8 0 + m ≤ 20000 → (∀ g', RowIs (g'.1 98) (ps c m (s / 2 ^ k) b) → Fr (fun q k => q = 98) g g' → K g' (nI t) (nI c) (nI n) (nI q) x5 y6 y8 (nI s) (lN (a * cs q m (s / 2 ^ k)))) → o_X8_chance_104 Q K (m + 1) g (nI t) (nI c) (nI n) (nI q) x5 y6 y8 (nI s) (lN a) (nI k) := by
  intro m
  induction m with
  | zero =>
    intro k a b g hk hB e1 e2 e3 e4 hV h8 h
    refine ⟨fun _ => ?_, fun q => absurd ((nI_leI (by omega) (by omega)).mpr (by omega)) q⟩
    have := h g hB Fr.rfl
    rw [cs, Nat.mul_one] at this
    exact this
  | succ m ih =>
    intro k a b g hk hB e1 e2 e3 e4 hV h8 h
    refine ⟨fun q => absurd ((nI_leI (by omega) (by omega)).mp q) (by omega), fun _ => ?_⟩
    have fin : ∀ (f gp : Nat), gp ≤ 9 → f = (if s / 2 ^ k % 2 = 1 then q else 10 - q) → gp = (if s / 2 ^ k % 2 = 1 then b 6 0 else b 5 0) → o_X8_chance_169 Q (o_X8_chance_104 Q K (m + 1)) K g (nI t) (nI c) (nI n) (nI q) x5 y6 y8 (nI s) (lN (a * f)) (nI k) (nI c) (nI gp) := by
      intro f gp hgp ef eg
      refine s8_goPlay hB hV (by omega) hc (by omega) (fun g2 b2 f2 x ex => ?_)
      rw [nI_1] at ex; subst ex
      refine ih (k + 1) (a * f) (pl b c gp) g2 (by omega) b2 (by rw [f2 87 16 (by omega)]; exact e1) (by rw [f2 87 17 (by omega)]; exact e2) (by rw [pl_0 (by decide) (by decide) (by decide)]; exact e3) (by rw [pl_0 (by decide) (by decide) (by decide)]; exact e4) (Vb_pl hV hc (by omega)) (by rw [pl_8]; omega) (fun g3 b3 f3 => ?_)
      have := h g3 (by rw [ps, ← eg, ← d2]; exact b3) (f2.trans f3)
      rw [cs, ← ef, ← d2, ← Nat.mul_assoc] at this
      exact this
    refine s8_has hs (by omega) (fun z => ⟨fun _ => ?_, fun y => absurd rfl y⟩) (fun z => ⟨fun y => absurd y (by decide), fun _ => ?_⟩)
    · intro y ey
      rw [show (10 : Int32) - nI q = nI (10 - q) from pk_sub (a := 10) hq, nI_l (by omega), lN_mul] at ey
      subst ey
      refine s8_has hs (by omega) (fun z => ⟨fun _ => ⟨vlit 16 (by omega) (by omega), ?_⟩, fun y => absurd rfl y⟩) (fun y => absurd y z)
      rw [show (16 : Int32).toNatClampNeg = 16 from rfl, e1]
      exact fin _ _ h5.1 (by rw [if_neg z]) (by rw [if_neg z, e3])
    · intro y ey
      rw [nI_l (by omega), lN_mul] at ey
      subst ey
      refine s8_has hs (by omega) (fun y => absurd z y) (fun z => ⟨fun y => absurd y (by decide), fun _ => ⟨vlit 17 (by omega) (by omega), ?_⟩⟩)
      rw [show (17 : Int32).toNatClampNeg = 17 from rfl, e2]
      exact fin _ _ h5.2 (by rw [if_pos z]) (by rw [if_pos z, e4])
theorem shl8 {n : Nat} (hn : n ≤ 8) : (1 : Int32) <<< (nI n &&& 31) = nI (2 ^ n) := by
  rcases (by omega : n = 0 ∨ n = 1 ∨ n = 2 ∨ n = 3 ∨ n = 4 ∨ n = 5 ∨ n = 6 ∨ n = 7 ∨ n = 8) with h | h | h | h | h | h | h | h | h <;> subst h <;> rfl
theorem p2_le {n : Nat} (hn : n ≤ 8) : 2 ^ n ≤ 256 := by
  rcases (by omega : n = 0 ∨ n = 1 ∨ n = 2 ∨ n = 3 ∨ n = 4 ∨ n = 5 ∨ n = 6 ∨ n = 7 ∨ n = 8) with h | h | h | h | h | h | h | h | h <;> subst h <;> decide
theorem ps_ok {c : Nat} (hc : 1 ≤ c ∧ c ≤ 5) : ∀ (m s : Nat) (b : Bx), Vb b → b 8 0 + m ≤ 20000 → Vb (ps c m s b) ∧ ps c m s b 0 0 = b 0 0 := by
  intro m
  induction m with
  | zero => intro s b hV _; exact ⟨hV, rfl⟩
  | succ m ih =>
    intro s b hV h8
    have := ih (s / 2) (pl b c (if s % 2 = 1 then b 6 0 else b 5 0)) (Vb_pl hV hc (by omega)) (by rw [pl_8]; omega)
    rw [pl_0 (a := 0) (by decide) (by decide) (by decide)] at this
    exact this
theorem s8_sets {t c q n : Nat} {x5 : Int32} {y8 : Int64} {Q : Int32 → Mm → Prop} {K : Mm → Int32 → Int64 → Int64 → Prop} {b : Bx} (hc : 1 ≤ c ∧ c ≤ 5) (hq : q ≤ 10) (hn : n ≤ 8) (hV : Vb b) (h8 : b 8 0 ≤ 9999) (ht : t < b 0 0) : ∀ (m s : Nat) (g : Mm), s + m = 2 ^ n → RowIs (g.1 87) b → (∀ g', Fr (fun q k => q = 98) g g' → K g' x5 (lN (wy t c q n b)) y8) → o_X8_chance_86 Q K (m + 1) g (nI t) (nI c) (nI n) (nI q) x5 (lN (sm (fun s => if ps c n s b 3 t = 0 then cs q n s else 0) s)) y8 (nI s) := by
  have hp := p2_le hn
  intro m
  induction m with
  | zero =>
    intro s g e hW h
    rw [show s = 2 ^ n by omega]
    refine ⟨fun _ => ?_, fun q => absurd ?_ q⟩
    · rw [wy_sm]; exact h g Fr.rfl
    · rw [shl8 hn]; exact (nI_leI (by omega) (by omega)).mpr (by omega)
  | succ m ih =>
    intro s g e hW h
    refine ⟨fun q => ?_, fun _ => ?_⟩
    · rw [shl8 hn] at q
      exact absurd ((nI_leI (by omega) (by omega)).mp q) (by omega)
    · refine s8_layHand (fun g1 e1 f1 => ⟨n + 1, ?_⟩)
      have hW1 : RowIs (g1.1 98) b := hW.of33 hV.1.2 e1
      have z0 : s / 2 ^ 0 = s := by rw [Nat.pow_zero, Nat.div_one]
      refine s8_plays (b0 := b) hc hq hn (by omega) ⟨hV.2.1.1, hV.2.1.2.1⟩ n 0 1 b g1 (by omega) hW1 (by rw [f1 87 16 (by omega)]; exact hW.1.2.1) (by rw [f1 87 17 (by omega)]; exact hW.1.2.2.1) rfl rfl hV (by omega) (fun g2 b2 f2 => ⟨v19 (by have := hV.1; omega), ?_⟩)
      rw [z0] at b2
      rw [z0, Nat.one_mul]
      have ok := ps_ok hc n s b hV (by omega)
      have p3 := (VbP ok.1 (t := t) (by rw [ok.2]; exact ht)).2.2.1
      rw [c19 (by have := hV.1; omega), (b2.2 t (by rw [ok.2]; exact ht)).2.2.1]
      have go : ∀ v, v = (if ps c n s b 3 t = 0 then cs q n s else 0) → o_X8_chance_200 Q (o_X8_chance_86 Q K (m + 1)) K g2 (nI t) (nI c) (nI n) (nI q) x5 y8 (nI s) (lN (sm (fun s => if ps c n s b 3 t = 0 then cs q n s else 0) s)) (lN v) := by
        intro v ev y ey x ex
        rw [nI_1] at ex; subst ex
        rw [lN_add, ev] at ey; subst ey
        exact ih (s + 1) g2 (by omega) (hW.eq (fun k => by rw [f2 87 k (by omega), f1 87 k (by omega)])) (fun g' f' => h g' (f1.trans (f2.trans f')))
      refine ⟨fun z => go 0 ?_, fun z => go (cs q n s) ?_⟩
      · rw [if_neg (fun y => z (by rw [y]; rfl))]
      · rw [if_pos ((nI_eq (b := 0) (by omega) (by omega)).mp z)]
theorem s8_whole {x1 x2 x4 x5 : Int32} {y6 : Int64} {n : Nat} {Q : Int32 → Mm → Prop} {K : Mm → Int32 → Int32 → Int32 → Int32 → Int32 → Int64 → Int64 → Prop} {g : Mm} (hn : n ≤ 8) (h : K g x1 x2 (nI n) x4 x5 y6 (lN (10 ^ n))) : ∀ m k, k + m = n → o_X8_chance_63 Q K (m + 1) g x1 x2 (nI n) x4 x5 y6 (lN (10 ^ k)) (nI k) := by
  intro m
  induction m with
  | zero =>
    intro k e
    refine ⟨fun _ => ?_, fun q => absurd ((nI_leI (by omega) (by omega)).mpr (by omega)) q⟩
    rw [show k = n by omega]; exact h
  | succ m ih =>
    intro k e
    refine ⟨fun q => absurd ((nI_leI (by omega) (by omega)).mp q) (by omega), fun _ y ey x ex => ?_⟩
    rw [nI_1] at ex; subst ex
    rw [show (10 : Int64) = lN 10 from rfl, lN_mul, ← Nat.pow_succ] at ey; subst ey
    exact ih (k + 1) (by omega)
theorem mlng_1 (g : Mm) (k : Nat) (v : Int64) : (mlng g k v).1 = g.1 := rfl
theorem mlng_2 (g : Mm) (k : Nat) (v : Int64) : (mlng g k v).2 k = v := by
  show vp_updL g.2 k v k = v
  unfold vp_updL; rw [if_pos rfl]
theorem mlng_3 (g : Mm) (k j : Nat) (v : Int64) (h : j ≠ k) : (mlng g k v).2 j = g.2 j := by
  show vp_updL g.2 k v j = g.2 j
  unfold vp_updL; rw [if_neg h]
theorem cmd_chance {g : Mm} (hR : Rel g) (x1 x2 x3 x4 x5 : Int32) : o_X7_chance (fun r g1 => o_X8_chance (fun r2 g2 => r = r2 ∧ Rel g2) g1 x1 x2 x3 x4 x5) g x1 x2 x3 x4 x5 := by
  obtain ⟨b, hB, hW, hV, hA, hP⟩ := hR.2.2.2.2.1
  have h7 := toys7 hV
  refine b7_toy hB.1.1 (bI_br (fun c1 => b8_toy hW.1.1 (bI_br (fun _ => ⟨rfl, hR⟩) (fun q => absurd q c1))) (fun c1 => ?_))
  refine s7_isColumn (bI_br (fun c2 => b8_toy hW.1.1 (bI_br (fun q => absurd c1 q) (fun _ => s8_isColumn (bI_br (fun _ => ⟨rfl, hR⟩) (fun q => absurd q c2))))) (fun c2 => ?_))
  refine s7_within (bI_rb (fun c3 => b8_toy hW.1.1 (bI_br (fun q => absurd c1 q) (fun _ => s8_isColumn (bI_br (fun q => absurd c2 q) (fun _ => s8_in 0 8 rfl rfl (bI_br (fun _ => ⟨rfl, hR⟩) (fun q => absurd q c3))))))) (fun c3 => ?_))
  refine s7_within (bI_br (fun c4 => b8_toy hW.1.1 (bI_br (fun q => absurd c1 q) (fun _ => s8_isColumn (bI_br (fun q => absurd c2 q) (fun _ => s8_in 0 8 rfl rfl (bI_br (fun q => absurd c3 q) (fun _ => s8_in 0 10 rfl rfl (bI_br (fun _ => ⟨rfl, hR⟩) (fun q => absurd q c4))))))))) (fun c4 => ?_))
  refine s7_within (bI_rb (fun c5 => b8_toy hW.1.1 (bI_br (fun q => absurd c1 q) (fun _ => s8_isColumn (bI_br (fun q => absurd c2 q) (fun _ => s8_in 0 8 rfl rfl (bI_br (fun q => absurd c3 q) (fun _ => s8_in 0 10 rfl rfl (bI_br (fun q => absurd c4 q) (fun _ => s8_in 0 1 rfl rfl (bI_rb (fun _ => ⟨rfl, hR⟩) (fun q => absurd q c5))))))))))) (fun c5 => ?_))
  obtain ⟨t, ht, rfl⟩ := toy_of h7 c1
  obtain ⟨c, hc, rfl⟩ := col_of c2
  obtain ⟨n, hn, rfl⟩ := in_of 8 rfl c3
  obtain ⟨q, hq, rfl⟩ := in_of 10 rfl c4
  have hV := case_of hV (by omega)
  have w1 := wy_le (t := t) (c := c) hq n b
  have w2 := p10 hn
  have key : ∀ (P : Int32 → Mm → Prop) (g1 : Mm), Fr Tsea g g1 → (∀ g2 : Mm, Fr (fun q k => q = 98) g1 g2 → ((¬ x5 = 0) → P (nI (10 ^ n / Nat.gcd (wy t c q n b) (10 ^ n))) g2) ∧ ((x5 = 0) → P (nI (wy t c q n b / Nat.gcd (wy t c q n b) (10 ^ n))) g2)) → o_X8_chance P g1 (nI t) (nI c) (nI n) (nI q) x5 := by
    intro P g1 f1 hh
    have hW1 : RowIs (g1.1 87) b := hW.eq (fun k => f1 87 k (by unfold Tsea; omega))
    refine b8_toy hW1.1.1 (bI_br (fun q => absurd c1 q) (fun _ => s8_isColumn (bI_br (fun q => absurd c2 q) (fun _ => s8_in 0 8 rfl rfl (bI_br (fun q => absurd c3 q) (fun _ => s8_in 0 10 rfl rfl (bI_br (fun q => absurd c4 q) (fun _ => s8_in 0 1 rfl rfl (bI_rb (fun q => absurd c5 q) (fun _ => ?_))))))))))
    refine ⟨n + 1, s8_whole (y6 := 0) hn ⟨2 ^ n + 1, ?_⟩ n 0 (by omega)⟩
    refine s8_sets hc hq hn hV hP ht (2 ^ n) 0 g1 (by omega) hW1 (fun g2 f2 => s8_fraction (by omega) (by omega) (by omega) ?_)
    have := hh (mlng (mlng g2 0 (lN (wy t c q n b / Nat.gcd (wy t c q n b) (10 ^ n)))) 1 (lN (10 ^ n / Nat.gcd (wy t c q n b) (10 ^ n)))) (fun j k z => f2 j k z)
    refine ⟨fun d => ?_, fun d => ?_⟩
    · rw [mlng_2, lN_i]; exact this.1 d
    · rw [mlng_3 _ _ _ _ (by decide), mlng_2, lN_i]; exact this.2 d
  have g1' : Nat.gcd (wy t c q n b) (10 ^ n) ≤ 10 ^ n := Nat.gcd_le_right _ (by omega)
  have g0' : 0 < Nat.gcd (wy t c q n b) (10 ^ n) := Nat.gcd_pos_of_pos_right _ (by omega)
  have z0 : ¬ nI (Nat.gcd (wy t c q n b) (10 ^ n)) = 0 := fun q => absurd ((nI_eq (b := 0) (by omega) (by omega)).mp q) (by omega)
  refine s3_become hB h7 (Or.inl (by omega)) (fun g1 b1 _ f1 => ?_)
  refine (congrArg (fun z => o_X4_waysFrom z _ _ _ _ _ _) (show 9 - n + n + 1 = 10 by omega)).mp (s4_ways hc hq n b g1 _ (9 - n) hn b1 hV (by omega) ht (fun g2 b2 f2 => s7_power hn (s7_common (by omega) (by omega) ?_)))
  have F : Fr Tsea g g2 := (f1.mono (fun q k z => by unfold Tsea; omega)).trans (f2.mono (fun q k z => by unfold Twy at z; unfold Tsea; omega))
  refine ⟨fun d => ⟨z0, ?_⟩, fun d => ⟨z0, ?_⟩⟩
  · rw [pk_div (by omega) g0' (by omega)]
    exact key _ _ F (fun g3 f3 => ⟨fun _ => ⟨rfl, hR.search F f3⟩, fun q => absurd q d⟩)
  · rw [pk_div (by omega) g0' (by omega)]
    exact key _ _ F (fun g3 f3 => ⟨fun q => absurd d q, fun _ => ⟨rfl, hR.search F f3⟩⟩)
