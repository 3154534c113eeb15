/-! A CASE in plain numbers: counts, tops, needs, grips, where a toy comes to, plays -/
def bup (b : Bx) (k t v : Nat) : Bx := fun a i => if a = k ∧ i = t then v else b a i
def ct (b : Bx) (c : Nat) : Nat → Nat
  | 0 => 0
  | t + 1 => ct b c t + (if b 3 t = c then 1 else 0)
def tp (b : Bx) (c : Nat) : Nat → Nat
  | 0 => 0
  | t + 1 => if b 3 t = c ∧ (tp b c t = 0 ∨ b 4 (tp b c t - 1) < b 4 t) then t + 1 else tp b c t
def nd (b : Bx) (t : Nat) : Nat := if b 1 t = 2 then b 2 t + 2 else if b 1 t = 3 then b 2 t / 2 + 1 else b 2 t
def gr (b : Bx) (k : Nat) : Nat := if (b 8 0 + 1 + k) % b 7 0 = 0 then b 6 0 else b 5 0
def cN (b : Bx) (c : Nat) : Nat := ct b c (b 0 0)
def tN (b : Bx) (c : Nat) : Nat := tp b c (b 0 0)
def rl (b : Bx) (c : Nat) : Nat := if 1 < c ∧ cN b (c - 1) + 2 ≤ cN b c then c - 1 else if c < 5 ∧ cN b (c + 1) + 2 ≤ cN b c then c + 1 else c
def fr_ (n : Nat) : Nat → Nat → Nat
  | 0, _ => 0
  | a + 1, h => if h < n then a + 1 else fr_ n a (h - 1)
def ld (b : Bx) (t c g : Nat) : Nat := if g < nd b t then (if 4 ≤ b 1 t then rl b c else c) else if fr_ (nd b t) (c - 1) (g - 1) = 0 then 0 else if b 1 t = 5 ∧ cN b (fr_ (nd b t) (c - 1) (g - 1)) = 0 then 9 else fr_ (nd b t) (c - 1) (g - 1)
def pu (b : Bx) (t c : Nat) : Bx := bup (bup b 4 t (if 1 ≤ c ∧ c ≤ 5 then cN b c else 0)) 3 t c
def pl (b : Bx) (c g : Nat) : Bx := if tN b c = 0 then bup b 8 0 (b 8 0 + 1) else if ld b (tN b c - 1) c g = c then bup b 8 0 (b 8 0 + 1) else pu (bup b 8 0 (b 8 0 + 1)) (tN b c - 1) (ld b (tN b c - 1) c g)
theorem ct_le (b : Bx) (c : Nat) : ∀ t, ct b c t ≤ t
  | 0 => Nat.le_refl 0
  | t + 1 => by
    have := ct_le b c t
    rw [ct]; split <;> omega
theorem tp_le (b : Bx) (c : Nat) : ∀ t, tp b c t ≤ t
  | 0 => Nat.le_refl 0
  | t + 1 => by
    have := tp_le b c t
    rw [tp]; split <;> omega
theorem tp_at (b : Bx) (c : Nat) : ∀ t, tp b c t ≠ 0 → b 3 (tp b c t - 1) = c
  | 0 => fun h => absurd rfl h
  | t + 1 => fun h => by
    rw [tp] at h ⊢
    split
    · rename_i q; exact q.1
    · rename_i q
      rw [if_neg q] at h
      exact tp_at b c t h
theorem ct_cg {b b' : Bx} {c : Nat} : ∀ {t : Nat}, (∀ i, i < t → b' 3 i = b 3 i) → ct b' c t = ct b c t
  | 0, _ => rfl
  | t + 1, h => by rw [ct, ct, ct_cg (fun i hi => h i (by omega)), h t (by omega)]
theorem tp_cg {b b' : Bx} {c : Nat} : ∀ {t : Nat}, (∀ i, i < t → b' 3 i = b 3 i ∧ b' 4 i = b 4 i) → tp b' c t = tp b c t
  | 0, _ => rfl
  | t + 1, h => by
    have ih := tp_cg (c := c) (fun i hi => h i (Nat.lt_succ_of_lt hi))
    rw [tp, tp, ih, (h t (by omega)).1, (h t (by omega)).2]
    by_cases z : tp b c t = 0
    · simp [z]
    · have := tp_le b c t
      rw [(h (tp b c t - 1) (by omega)).2]
theorem fr_le (n : Nat) : ∀ a h, fr_ n a h ≤ a
  | 0, _ => Nat.le_refl 0
  | a + 1, h => by
    rw [fr_]
    split
    · exact Nat.le_refl _
    · have := fr_le n a (h - 1); omega
theorem rl_in {b : Bx} {c : Nat} (h : 1 ≤ c ∧ c ≤ 5) : 1 ≤ rl b c ∧ rl b c ≤ 5 := by
  unfold rl; split
  · omega
  · split <;> omega
theorem ld_in {b : Bx} {t c g : Nat} (h : 1 ≤ c ∧ c ≤ 5) : ld b t c g ≤ 5 ∨ ld b t c g = 9 := by
  unfold ld
  have := fr_le (nd b t) (c - 1) (g - 1)
  have := rl_in (b := b) h
  split
  · split <;> omega
  · split
    · omega
    · split <;> omega
theorem nd_in {b : Bx} {t : Nat} (hV : Vb b) (ht : t < b 0 0) : 1 ≤ nd b t ∧ nd b t ≤ 11 := by
  have := hV.2.2 t ht
  unfold nd; split
  · omega
  · split <;> omega
theorem gr_le {b : Bx} {k : Nat} (hV : Vb b) : gr b k ≤ 9 := by
  have := hV.2.1
  unfold gr; split <;> omega
theorem bup_same {b : Bx} {k t v : Nat} : bup b k t v k t = v := if_pos ⟨rfl, rfl⟩
theorem bup_k {b : Bx} {k t v a i : Nat} (h : a ≠ k) : bup b k t v a i = b a i := if_neg (fun q => h q.1)
theorem bup_t {b : Bx} {k t v i : Nat} (h : i ≠ t) : bup b k t v k i = b k i := if_neg (fun q => h q.2)
theorem pu_0 {b : Bx} {t c : Nat} {a i : Nat} (h : a ≠ 3) (h2 : a ≠ 4) : pu b t c a i = b a i := by unfold pu; rw [bup_k h, bup_k h2]
theorem pu_t {b : Bx} {t c : Nat} {a i : Nat} (h : i ≠ t) : pu b t c a i = b a i := by
  unfold pu bup
  rw [if_neg (fun q => h q.2), if_neg (fun q => h q.2)]
theorem pu_3 {b : Bx} {t c : Nat} : pu b t c 3 t = c := by unfold pu; rw [bup_same]
theorem pu_4 {b : Bx} {t c : Nat} : pu b t c 4 t = if 1 ≤ c ∧ c ≤ 5 then cN b c else 0 := by unfold pu; rw [bup_k (by decide), bup_same]
theorem pl_0 {b : Bx} {c g : Nat} {a i : Nat} (h : a ≠ 3) (h2 : a ≠ 4) (h8 : a ≠ 8) : pl b c g a i = b a i := by
  unfold pl; split
  · rw [bup_k h8]
  · split
    · rw [bup_k h8]
    · rw [pu_0 h h2, bup_k h8]
theorem pl_8 {b : Bx} {c g : Nat} : pl b c g 8 0 = b 8 0 + 1 := by
  unfold pl; split
  · rw [bup_same]
  · split
    · rw [bup_same]
    · rw [pu_0 (by decide) (by decide), bup_same]
theorem cN_bup8 {b : Bx} {v c : Nat} : cN (bup b 8 0 v) c = cN b c := by
  unfold cN
  rw [bup_k (by decide)]
  exact ct_cg (fun i _ => bup_k (by decide))
theorem cN_le {b : Bx} (hV : Vb b) (c : Nat) : cN b c ≤ 7 := Nat.le_trans (ct_le b c _) hV.1.2
theorem Vb_pu {b : Bx} {t c : Nat} (hV : Vb b) (hc : c ≤ 5 ∨ c = 9) : Vb (pu b t c) := by
  obtain ⟨h1, h2, h3⟩ := hV
  refine ⟨by rw [pu_0 (by decide) (by decide)]; exact h1, ?_, ?_⟩
  · rw [pu_0 (by decide) (by decide), pu_0 (by decide) (by decide), pu_0 (by decide) (by decide), pu_0 (by decide) (by decide)]; exact h2
  · intro i hi
    rw [pu_0 (by decide) (by decide)] at hi
    have := h3 i hi
    rw [pu_0 (a := 1) (by decide) (by decide), pu_0 (a := 2) (by decide) (by decide)]
    refine ⟨this.1, this.2.1, ?_⟩
    by_cases z : i = t
    · subst z
      rw [pu_3, pu_4]
      refine ⟨hc, ?_⟩
      have := cN_le (b := b) ⟨h1, h2, h3⟩ c
      split <;> omega
    · rw [pu_t z, pu_t z]; exact this.2.2
theorem Vb_8 {b : Bx} {v : Nat} (hV : Vb b) (hv : v ≤ 20000) : Vb (bup b 8 0 v) := by
  obtain ⟨h1, h2, h3⟩ := hV
  refine ⟨by rw [bup_k (by decide)]; exact h1, ⟨?_, ?_, ?_, ?_, ?_⟩, fun i hi => ?_⟩
  · rw [bup_k (by decide)]; exact h2.1
  · rw [bup_k (by decide)]; exact h2.2.1
  · rw [bup_k (by decide)]; exact h2.2.2.1
  · rw [bup_k (by decide)]; exact h2.2.2.2.1
  · rw [bup_same]; exact hv
  · rw [bup_k (by decide)] at hi
    rw [bup_k (by decide), bup_k (by decide), bup_k (by decide), bup_k (by decide)]
    exact h3 i hi
theorem Vb_pl {b : Bx} {c g : Nat} (hV : Vb b) (hc : 1 ≤ c ∧ c ≤ 5) (h8 : b 8 0 < 20000) : Vb (pl b c g) := by
  unfold pl; split
  · exact Vb_8 hV (by omega)
  · split
    · exact Vb_8 hV (by omega)
    · exact Vb_pu (Vb_8 hV (by omega)) (ld_in hc)
/-! THE CLASS' Box, the reference's row: the same numbers -/
theorem VbP {b : Bx} (hV : Vb b) {t : Nat} (ht : t < b 0 0) : b 1 t < 1000 ∧ b 2 t < 1000 ∧ b 3 t < 1000 ∧ b 4 t < 1000 := by
  have := hV.2.2 t ht; omega
theorem s3_howMany {Q : Int32 → Mm → Prop} {g : Mm} {j : Nat} {b : Bx} {c : Nat} (hB : BoxIs g j b) (hV : Vb b) (hc : c < 1000) (h : Q (nI (cN b c)) g) : o_X3_howMany Q j g (nI c) := by
  have h7 := hV.1.2
  have key : ∀ (k t : Nat), t + k = b 0 0 → o_X3_howMany_4 Q j (k + 1) g (nI c) (nI (ct b c t)) (nI t) := by
    intro k
    induction k with
    | zero =>
      intro t ht
      refine ⟨fun _ => ?_, fun q => absurd ?_ q⟩
      · rw [show t = b 0 0 by omega]; exact h
      · rw [hB.1.1]; exact (nI_leI (by omega) (by omega)).mpr (by omega)
    | succ k ih =>
      intro t ht
      have hp := VbP hV (show t < b 0 0 by omega)
      refine ⟨fun q => ?_, fun _ => ⟨vt h7 (show t < b 0 0 by omega), fun q => ?_, fun q => ?_⟩⟩
      · rw [hB.1.1] at q
        exact absurd ((nI_leI (by omega) (by omega)).mp q) (by omega)
      · intro x ex
        rw [nI_1] at ex; subst ex
        rw [cl (by omega), (hB.2 t (by omega)).2.2.1] at q
        have := ih (t + 1) (by omega)
        rw [show ct b c (t + 1) = ct b c t by rw [ct, if_neg (fun z => q (by rw [z])), Nat.add_zero]] at this
        exact this
      · intro y ey x ex
        rw [nI_1] at ex ey; subst ex; subst ey
        rw [cl (by omega), (hB.2 t (by omega)).2.2.1] at q
        have := ih (t + 1) (by omega)
        rw [show ct b c (t + 1) = ct b c t + 1 by rw [ct, if_pos ((nI_eq (by omega) (by omega)).mp q)]] at this
        exact this
  exact ⟨b 0 0 + 1, key (b 0 0) 0 (by omega)⟩
theorem s8_lyingIn {Q : Int32 → Mm → Prop} {g : Mm} {a : Nat} {b : Bx} {c : Nat} (hB : RowIs (g.1 a) b) (hV : Vb b) (hc : c < 1000) (h : Q (nI (cN b c)) g) : o_X8_lyingIn Q a g (nI c) := by
  have h7 := hV.1.2
  have e0 : g.1 a (0 : Int32).toNatClampNeg = nI (b 0 0) := hB.1.1
  have key : ∀ (k t : Nat), t + k = b 0 0 → o_X8_lyingIn_4 Q a (k + 1) g (nI c) (nI (ct b c t)) (nI t) := by
    intro k
    induction k with
    | zero =>
      intro t ht
      refine ⟨vlit 0 (by omega) (by omega), fun _ => ?_, fun q => absurd ?_ q⟩
      · rw [show t = b 0 0 by omega]; exact h
      · rw [e0]; exact (nI_leI (by omega) (by omega)).mpr (by omega)
    | succ k ih =>
      intro t ht
      have hp := VbP hV (show t < b 0 0 by omega)
      refine ⟨vlit 0 (by omega) (by omega), fun q => ?_, fun _ => ⟨v19 (by omega), fun q => ?_, fun q => ?_⟩⟩
      · rw [e0] at q
        exact absurd ((nI_leI (by omega) (by omega)).mp q) (by omega)
      · intro y ey x ex
        rw [nI_1] at ex; subst ex
        rw [show nI (ct b c t) + (0 : Int32) = nI (ct b c t) from Int32.add_zero _] at ey
        subst ey
        rw [c19 (by omega), (hB.2 t (by omega)).2.2.1] at q
        have := ih (t + 1) (by omega)
        rw [show ct b c (t + 1) = ct b c t by rw [ct, if_neg (fun z => q (by rw [z])), Nat.add_zero]] at this
        exact this
      · intro y ey x ex
        rw [nI_1] at ex ey; subst ex; subst ey
        rw [c19 (by omega), (hB.2 t (by omega)).2.2.1] at q
        have := ih (t + 1) (by omega)
        rw [show ct b c (t + 1) = ct b c t + 1 by rw [ct, if_pos ((nI_eq (by omega) (by omega)).mp q)]] at this
        exact this
  exact ⟨b 0 0 + 1, key (b 0 0) 0 (by omega)⟩
def t7I (p : Nat) : Int32 := if p = 0 then -1000000 else nI (p - 1)
def t8I (p : Nat) : Int32 := if p = 0 then -1 else nI (p - 1)
theorem nI_none {n : Nat} (h : n < 1000) : ¬ nI n = -1000000 := fun q => by
  have := congrArg Int32.toInt q
  rw [nIi (by omega)] at this
  have z : (-1000000 : Int32).toInt = -1000000 := by decide
  rw [z] at this
  omega
theorem s3_uppermost {Q : Int32 → Mm → Prop} {g : Mm} {j : Nat} {b : Bx} {c : Nat} (hB : BoxIs g j b) (hV : Vb b) (hc : c < 1000) (h : Q (t7I (tN b c)) g) : o_X3_uppermost Q j g (nI c) := by
  have h7 := hV.1.2
  have key : ∀ (k t : Nat), t + k = b 0 0 → o_X3_uppermost_5 Q j (k + 1) g (nI c) (t7I (tp b c t)) (nI t) := by
    intro k
    induction k with
    | zero =>
      intro t ht
      refine ⟨fun _ => ?_, fun q => absurd ?_ q⟩
      · rw [show t = b 0 0 by omega]; exact h
      · rw [hB.1.1]; exact (nI_leI (by omega) (by omega)).mpr (by omega)
    | succ k ih =>
      intro t ht
      have hp := VbP hV (show t < b 0 0 by omega)
      have hle := tp_le b c t
      have ih1 := ih (t + 1) (by omega)
      have hv := vt h7 (show t < b 0 0 by omega)
      have take : (b 3 t = c ∧ (tp b c t = 0 ∨ b 4 (tp b c t - 1) < b 4 t)) → o_X3_uppermost_44 Q (o_X3_uppermost_5 Q j (k + 1)) j g (nI c) (nI t) := by
        intro w x ex
        rw [nI_1] at ex; subst ex
        rw [show tp b c (t + 1) = t + 1 by rw [tp, if_pos w]] at ih1
        exact ih1
      have skip : ¬ (b 3 t = c ∧ (tp b c t = 0 ∨ b 4 (tp b c t - 1) < b 4 t)) → o_X3_uppermost_46 Q (o_X3_uppermost_5 Q j (k + 1)) j g (nI c) (t7I (tp b c t)) (nI t) := by
        intro w x ex
        rw [nI_1] at ex; subst ex
        rw [show tp b c (t + 1) = tp b c t by rw [tp, if_neg w]] at ih1
        exact ih1
      refine ⟨fun q => ?_, fun _ => ⟨hv, fun q => skip ?_, fun q => ?_⟩⟩
      · rw [hB.1.1] at q
        exact absurd ((nI_leI (by omega) (by omega)).mp q) (by omega)
      · rw [cl (by omega), (hB.2 t (by omega)).2.2.1] at q
        exact fun z => q (by rw [z.1])
      · rw [cl (by omega), (hB.2 t (by omega)).2.2.1] at q
        have hz : b 3 t = c := (nI_eq (by omega) (by omega)).mp q
        by_cases z : tp b c t = 0
        · rw [z]
          exact ⟨fun _ => take ⟨hz, Or.inl z⟩, fun w => absurd rfl w⟩
        · have e7 : t7I (tp b c t) = nI (tp b c t - 1) := if_neg z
          rw [e7]
          refine ⟨fun w => absurd w (nI_none (by omega)), fun _ => ⟨hv, vt h7 (show tp b c t - 1 < b 0 0 by omega), fun w => ?_, fun w => take ⟨hz, Or.inr ?_⟩⟩⟩
          · rw [cl (by omega), cl (by omega), (hB.2 t (by omega)).2.2.2, (hB.2 (tp b c t - 1) (by omega)).2.2.2] at w
            have hp2 := VbP hV (show tp b c t - 1 < b 0 0 by omega)
            have := (nI_leI (by omega) (by omega)).mp w
            rw [← e7]
            exact skip (fun y => by have := y.2; omega)
          · rw [cl (by omega), cl (by omega), (hB.2 t (by omega)).2.2.2, (hB.2 (tp b c t - 1) (by omega)).2.2.2] at w
            have hp2 := VbP hV (show tp b c t - 1 < b 0 0 by omega)
            have : ¬ b 4 t ≤ b 4 (tp b c t - 1) := fun y => w ((nI_leI (by omega) (by omega)).mpr y)
            omega
  exact ⟨b 0 0 + 1, key (b 0 0) 0 (by omega)⟩
theorem s8_topOf {Q : Int32 → Mm → Prop} {g : Mm} {a : Nat} {b : Bx} {c : Nat} (hB : RowIs (g.1 a) b) (hV : Vb b) (hc : c < 1000) (h : Q (t8I (tN b c)) g) : o_X8_topOf Q a g (nI c) := by
  have h7 := hV.1.2
  have e0 : g.1 a (0 : Int32).toNatClampNeg = nI (b 0 0) := hB.1.1
  have key : ∀ (k t : Nat), t + k = b 0 0 → o_X8_topOf_4 Q a (k + 1) g (nI c) (t8I (tp b c t)) (nI t) := by
    intro k
    induction k with
    | zero =>
      intro t ht
      refine ⟨vlit 0 (by omega) (by omega), fun _ => ?_, fun q => absurd ?_ q⟩
      · rw [show t = b 0 0 by omega]; exact h
      · rw [e0]; exact (nI_leI (by omega) (by omega)).mpr (by omega)
    | succ k ih =>
      intro t ht
      have hp := VbP hV (show t < b 0 0 by omega)
      have hle := tp_le b c t
      have ih1 := ih (t + 1) (by omega)
      have take : (b 3 t = c ∧ (tp b c t = 0 ∨ b 4 (tp b c t - 1) < b 4 t)) → o_X8_topOf_40 Q (o_X8_topOf_4 Q a (k + 1)) a g (nI c) (nI t) := by
        intro w x ex
        rw [nI_1] at ex; subst ex
        rw [show tp b c (t + 1) = t + 1 by rw [tp, if_pos w]] at ih1
        exact ih1
      have skip : ¬ (b 3 t = c ∧ (tp b c t = 0 ∨ b 4 (tp b c t - 1) < b 4 t)) → o_X8_topOf_42 Q (o_X8_topOf_4 Q a (k + 1)) a g (nI c) (t8I (tp b c t)) (nI t) := by
        intro w x ex
        rw [nI_1] at ex; subst ex
        rw [show tp b c (t + 1) = tp b c t by rw [tp, if_neg w]] at ih1
        exact ih1
      refine ⟨vlit 0 (by omega) (by omega), fun q => ?_, fun _ => ⟨v19 (by omega), fun q => skip ?_, fun q => ?_⟩⟩
      · rw [e0] at q
        exact absurd ((nI_leI (by omega) (by omega)).mp q) (by omega)
      · rw [c19 (by omega), (hB.2 t (by omega)).2.2.1] at q
        exact fun z => q (by rw [z.1])
      · rw [c19 (by omega), (hB.2 t (by omega)).2.2.1] at q
        have hz : b 3 t = c := (nI_eq (by omega) (by omega)).mp q
        by_cases z : tp b c t = 0
        · rw [z]
          exact ⟨fun _ => take ⟨hz, Or.inl z⟩, fun w => absurd (by decide) w⟩
        · have e7 : t8I (tp b c t) = nI (tp b c t - 1) := if_neg z
          rw [e7]
          refine ⟨fun w => absurd w (nI_pos (by omega)), fun _ => ⟨v26 (by omega), v26 (by omega), fun w => ?_, fun w => take ⟨hz, Or.inr ?_⟩⟩⟩
          · rw [c26 (by omega), c26 (by omega), (hB.2 t (by omega)).2.2.2, (hB.2 (tp b c t - 1) (by omega)).2.2.2] at w
            have hp2 := VbP hV (show tp b c t - 1 < b 0 0 by omega)
            have := (nI_leI (by omega) (by omega)).mp w
            rw [← e7]
            exact skip (fun y => by have := y.2; omega)
          · rw [c26 (by omega), c26 (by omega), (hB.2 t (by omega)).2.2.2, (hB.2 (tp b c t - 1) (by omega)).2.2.2] at w
            have hp2 := VbP hV (show tp b c t - 1 < b 0 0 by omega)
            have : ¬ b 4 t ≤ b 4 (tp b c t - 1) := fun y => w ((nI_leI (by omega) (by omega)).mpr y)
            omega
  exact ⟨b 0 0 + 1, key (b 0 0) 0 (by omega)⟩
theorem need_of {Q : Int32 → Mm → Prop} {g : Mm} {k w : Nat} (hk : k < 1000) (hw : w < 1000) {n : Nat} (hn : n = if k = 2 then w + 2 else if k = 3 then w / 2 + 1 else w) (h : Q (nI n) g) : (nI k = 2 → Q (nI w + 2) g) ∧ (nI k = 3 → Q (nI w / 2 + 1) g) ∧ ((¬ nI k = 2 ∧ ¬ nI k = 3) → Q (nI w) g) := by
  have E : ∀ c : Nat, c < 1000 → (nI k = nI c ↔ k = c) := fun c hc => nI_eq (by omega) (by omega)
  refine ⟨fun q => ?_, fun q => ?_, fun q => ?_⟩
  · have := (E 2 (by omega)).mp q
    rw [if_pos this] at hn
    rw [show nI w + (2 : Int32) = nI (w + 2) from nI_add w 2, ← hn]; exact h
  · have := (E 3 (by omega)).mp q
    rw [if_neg (by omega), if_pos this] at hn
    rw [show nI w / (2 : Int32) = nI (w / 2) from pk_div (d := 2) (by omega) (by omega) (by omega), show nI (w / 2) + (1 : Int32) = nI (w / 2 + 1) from nI_add (w / 2) 1, ← hn]; exact h
  · have h1 : ¬ k = 2 := fun z => q.1 ((E 2 (by omega)).mpr z)
    have h2 : ¬ k = 3 := fun z => q.2 ((E 3 (by omega)).mpr z)
    rw [if_neg h1, if_neg h2] at hn
    rw [← hn]; exact h
theorem s3_need {Q : Int32 → Mm → Prop} {g : Mm} {j : Nat} {b : Bx} {t : Nat} (hB : BoxIs g j b) (hV : Vb b) (ht : t < b 0 0) (h : Q (nI (nd b t)) g) : o_X3_need Q j g (nI t) := by
  have hv := vt hV.1.2 ht
  have hp := VbP hV ht
  have h7 := hV.1.2
  unfold o_X3_need
  rw [cl (by omega), (hB.2 t ht).1, (hB.2 t ht).2.1]
  have := need_of (Q := Q) (g := g) hp.1 hp.2.1 (n := nd b t) rfl h
  exact ⟨hv, fun q => ⟨hv, this.1 q⟩, fun q => ⟨hv, by decide, this.2.1 q⟩, fun q => ⟨hv, this.2.2 q⟩⟩
theorem s8_needOf {Q : Int32 → Mm → Prop} {g : Mm} {a : Nat} {b : Bx} {t : Nat} (hB : RowIs (g.1 a) b) (hV : Vb b) (ht : t < b 0 0) (h : Q (nI (nd b t)) g) : o_X8_needOf Q a g (nI t) := by
  have h7 := hV.1.2
  have hp := VbP hV ht
  refine ⟨v1 (by omega), v8 (by omega), ?_⟩
  rw [ca1 (by omega), c8 (by omega), (hB.2 t ht).1, (hB.2 t ht).2.1]
  have := need_of (Q := Q) (g := g) hp.1 hp.2.1 (n := nd b t) rfl h
  exact ⟨fun q => ⟨fun p => this.2.2 ⟨q, p⟩, fun p => ⟨by decide, this.2.1 p⟩⟩, fun q => this.1 q⟩
theorem s3_grip {Q : Int32 → Mm → Prop} {g : Mm} {j : Nat} {b : Bx} {k : Nat} (hB : BoxIs g j b) (hV : Vb b) (hk : k ≤ 1000) (h : Q (nI (gr b k)) g) : o_X3_gripAhead Q j g (nI k) := by
  have h2 := hV.2.1
  have e : nI (b 8 0) + 1 + nI k = nI (b 8 0 + 1 + k) := by rw [nI_1, nI_add]
  unfold o_X3_gripAhead
  rw [hB.1.2.2.2.1, hB.1.2.2.2.2, hB.1.2.1, hB.1.2.2.1, e, pk_rem (by omega) (by omega) (by omega)]
  refine ⟨fun q => absurd ((nI_leI (b := 0) (by omega) (by omega)).mp q) (by omega), fun _ => ⟨fun q => absurd ((nI_eq (b := 0) (by omega) (by omega)).mp q) (by omega), fun q => ?_, fun q => ?_⟩⟩
  · have : ¬ (b 8 0 + 1 + k) % b 7 0 = 0 := fun z => q (by rw [z]; rfl)
    unfold gr at h; rw [if_neg this] at h; exact h
  · have hm : (b 8 0 + 1 + k) % b 7 0 < b 7 0 := Nat.mod_lt _ (by omega)
    have := (nI_eq (b := 0) (by omega) (by omega)).mp q
    unfold gr at h; rw [if_pos this] at h; exact h
theorem s8_grip {Q : Int32 → Mm → Prop} {g : Mm} {a : Nat} {b : Bx} {k : Nat} (hB : RowIs (g.1 a) b) (hV : Vb b) (hk : k ≤ 1000) {x : Int32} (hx : x = nI (b 8 0 + 1 + k)) (h : Q (nI (gr b k)) g) : o_X8_gripOf Q a g x := by
  have h2 := hV.2.1
  subst hx
  have e18 : g.1 a (18 : Int32).toNatClampNeg = nI (b 7 0) := hB.1.2.2.2.1
  have e16 : g.1 a (16 : Int32).toNatClampNeg = nI (b 5 0) := hB.1.2.1
  have e17 : g.1 a (17 : Int32).toNatClampNeg = nI (b 6 0) := hB.1.2.2.1
  unfold o_X8_gripOf
  rw [e18, e16, e17, pk_rem (by omega) (by omega) (by omega)]
  refine ⟨vlit 18 (by omega) (by omega), fun q => absurd ((nI_eq (b := 0) (by omega) (by omega)).mp q) (by omega), fun q => ⟨vlit 16 (by omega) (by omega), ?_⟩, fun q => ⟨vlit 17 (by omega) (by omega), ?_⟩⟩
  · have : ¬ (b 8 0 + 1 + k) % b 7 0 = 0 := fun z => q (by rw [z]; rfl)
    unfold gr at h; rw [if_neg this] at h; exact h
  · have hm : (b 8 0 + 1 + k) % b 7 0 < b 7 0 := Nat.mod_lt _ (by omega)
    have := (nI_eq (b := 0) (by omega) (by omega)).mp q
    unfold gr at h; rw [if_pos this] at h; exact h
