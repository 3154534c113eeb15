/-! count -/
/-- the toys at a place, as a set of bits, of the first t -/
def tb (b : Bx) (c : Nat) : Nat → Int32
  | 0 => 0
  | t + 1 => if b 3 t = c then tb b c t ||| ((1 : Int32) <<< (nI t &&& 31)) else tb b c t
theorem s3_toysAt {Q : Int32 → Mm → Prop} {g : Mm} {j : Nat} {b : Bx} {c : Nat} (hB : BoxIs g j b) (h7 : b 0 0 ≤ 7) (hp : ∀ t, t < b 0 0 → b 3 t < 1000) (hc : c < 1000) (h : Q (tb b c (b 0 0)) g) : o_X3_toysAt Q j g (nI c) := by
  have key : ∀ (k t : Nat), t + k = b 0 0 → o_X3_toysAt_4 Q j (k + 1) g (nI c) (tb b c t) (nI t) := by
    intro k
    induction k with
    | zero =>
      intro t ht
      refine ⟨fun _ => ?_, fun q => absurd ?_ q⟩
      · rw [show t = b 0 0 by omega]; exact h
      · rw [hB.1.1]; exact (nI_leI (by omega) (by omega)).mpr (by omega)
    | succ k ih =>
      intro t ht
      refine ⟨fun q => ?_, fun _ => ⟨vt h7 (show t < b 0 0 by omega), fun q => ?_, fun q => ?_⟩⟩
      · rw [hB.1.1] at q
        exact absurd ((nI_leI (by omega) (by omega)).mp q) (by omega)
      · intro x ex
        rw [nI_1] at ex; subst ex
        rw [cl (by omega), (hB.2 t (by omega)).2.2.1] at q
        have := ih (t + 1) (by omega)
        rw [show tb b c (t + 1) = tb b c t from if_neg (fun z => q (by rw [z]))] at this
        exact this
      · intro y ey x ex
        rw [nI_1] at ex; subst ex; subst ey
        rw [cl (by omega), (hB.2 t (by omega)).2.2.1] at q
        have := ih (t + 1) (by omega)
        have hz : b 3 t = c := (nI_eq (by have := hp t (by omega); omega) (by omega)).mp q
        rw [show tb b c (t + 1) = tb b c t ||| ((1 : Int32) <<< (nI t &&& 31)) from if_pos hz] at this
        exact this
  exact ⟨b 0 0 + 1, key (b 0 0) 0 (by omega)⟩
theorem s8_setIn {Q : Int32 → Mm → Prop} {g : Mm} {b : Bx} {c : Nat} (hB : RowIs (g.1 87) b) (h7 : b 0 0 ≤ 7) (hp : ∀ t, t < b 0 0 → b 3 t < 1000) (hc : c < 1000) (h : Q (tb b c (b 0 0)) g) : o_X8_setIn Q g (nI c) := by
  have key : ∀ (k t : Nat), t + k = b 0 0 → o_X8_setIn_4 Q (k + 1) g (nI c) (tb b c t) (nI t) := by
    intro k
    induction k with
    | zero =>
      intro t ht
      refine b8_toys hB.1.1 ⟨fun _ => ?_, fun q => absurd ?_ q⟩
      · rw [show t = b 0 0 by omega]; exact h
      · exact (nI_leI (by omega) (by omega)).mpr (by omega)
    | succ k ih =>
      intro t ht
      refine b8_toys hB.1.1 ⟨fun q => ?_, fun _ => ⟨v19 (by omega), fun q => ?_, fun q => ?_⟩⟩
      · exact absurd ((nI_leI (by omega) (by omega)).mp q) (by omega)
      · intro y ey x ex
        rw [nI_1] at ex; subst ex; subst ey
        rw [c19 (by omega), (hB.2 t (by omega)).2.2.1] at q
        have := ih (t + 1) (by omega)
        rw [show tb b c (t + 1) = tb b c t from if_neg (fun z => q (by rw [z]))] at this
        rw [show tb b c t ||| (0 : Int32) = tb b c t from Int32.or_zero]
        exact this
      · intro y ey x ex
        rw [nI_1] at ex; subst ex; subst ey
        rw [c19 (by omega), (hB.2 t (by omega)).2.2.1] at q
        have := ih (t + 1) (by omega)
        have hz : b 3 t = c := (nI_eq (by have := hp t (by omega); omega) (by omega)).mp q
        rw [show tb b c (t + 1) = tb b c t ||| ((1 : Int32) <<< (nI t &&& 31)) from if_pos hz] at this
        exact this
  exact ⟨b 0 0 + 1, key (b 0 0) 0 (by omega)⟩
theorem pl_small {b : Bx} (h : b 0 0 = 0 ∨ Vb b) : ∀ t, t < b 0 0 → b 3 t < 1000 := by
  intro t ht
  rcases h with q | q
  · omega
  · have := (q.2.2 t ht).2.2.1; omega
/-- how many rows are there, of the first r -/
def rw_n (g : Mm) : Nat → Nat
  | 0 => 0
  | r + 1 => rw_n g r + (if g.1 (60 + 2 * r) 1 = 0 then 1 else 0)
theorem rw_n_le (g : Mm) : ∀ r, rw_n g r ≤ r
  | 0 => Nat.le_refl 0
  | r + 1 => by
    have := rw_n_le g r
    unfold rw_n
    split <;> omega
theorem s7_rowsThere {Q : Int32 → Mm → Prop} {g : Mm} (h : Q (nI (rw_n g 8)) g) : o_X7_rowsThere Q g := by
  have key : ∀ (k r : Nat), r + k = 8 → o_X7_rowsThere_4 Q (k + 1) g (nI (rw_n g r)) (nI r) := by
    intro k
    induction k with
    | zero =>
      intro r hr
      refine ⟨fun _ => by rw [show r = 8 by omega]; exact h, fun q => absurd ((nI_leI (a := 8) (by omega) (by omega)).mpr (by omega)) q⟩
    | succ k ih =>
      intro r hr
      refine ⟨fun q => absurd ((nI_leI (a := 8) (by omega) (by omega)).mp q) (by omega), fun _ => ⟨vin r rfl (by omega) (by omega), fun q => ?_, fun q => ?_⟩⟩
      · intro x ex
        rw [nI_1] at ex; subst ex
        rw [cl (by omega)] at q
        have := ih (r + 1) (by omega)
        rw [show rw_n g (r + 1) = rw_n g r by rw [rw_n, if_neg q, Nat.add_zero]] at this
        exact this
      · intro y ey x ex
        rw [nI_1] at ex ey; subst ex; subst ey
        rw [cl (by omega)] at q
        have := ih (r + 1) (by omega)
        rw [show rw_n g (r + 1) = rw_n g r + 1 by rw [rw_n, if_pos q]] at this
        exact this
  exact ⟨9, key 8 0 (by omega)⟩
theorem s8_manyRows {Q : Int32 → Mm → Prop} {g : Mm} (hR : RowsR g) (h : Q (nI (rw_n g 8)) g) : o_X8_manyRows Q g := by
  have key : ∀ (k r : Nat), r + k = 8 → o_X8_manyRows_4 Q (k + 1) g (nI (rw_n g r)) (nI r) := by
    intro k
    induction k with
    | zero =>
      intro r hr
      refine ⟨fun _ => by rw [show r = 8 by omega]; exact h, fun q => absurd ((nI_leI (a := 8) (by omega) (by omega)).mpr (by omega)) q⟩
    | succ k ih =>
      intro r hr
      have h6 := row_br (hR r (by omega)).1
      refine ⟨fun q => absurd ((nI_leI (a := 8) (by omega) (by omega)).mp q) (by omega), fun _ => ⟨vin r rfl (by omega) (by omega), fun q => ?_, fun q => ?_⟩⟩
      · intro y ey x ex
        rw [cl (by omega)] at q
        rw [show nI (rw_n g r) + (0 : Int32) = nI (rw_n g r) from Int32.add_zero _] at ey
        rw [nI_1] at ex; subst ex; subst ey
        have := ih (r + 1) (by omega)
        rw [show rw_n g (r + 1) = rw_n g r by rw [rw_n, if_neg (h6.mp q), Nat.add_zero]] at this
        exact this
      · intro y ey x ex
        rw [cl (by omega)] at q
        rw [nI_1] at ex ey; subst ex; subst ey
        have := ih (r + 1) (by omega)
        rw [show rw_n g (r + 1) = rw_n g r + 1 by rw [rw_n, if_pos (Decidable.byContradiction fun z => q (h6.mpr z))]] at this
        exact this
  exact ⟨9, key 8 0 (by omega)⟩
theorem vlit {n : Nat} (k : Nat) (h : k < n) (hn : n < 2147483648) : vp_in (nI k) n := vin k rfl h hn
theorem cmd_count {g : Mm} (hR : Rel g) (x1 : Int32) : o_X7_count (fun r g1 => o_X8_count (fun r2 g2 => r = r2 ∧ Rel g2) g1 x1) g x1 := by
  obtain ⟨b, hB, hW, hV, hA, hP⟩ := hR.2.2.2.2.1
  have h7 := toys7 hV
  have hp := pl_small hV
  obtain ⟨n, f, bs, -, ha, -, -⟩ := hA
  have ht := hR.2.1.1
  -- the reference at a number k that is told
  have pick : ∀ (P : Int32 → Mm → Prop) (k : Nat), x1 = nI k → (k = 0 → o_X8_manyRows P g) → (k = 1 → P (g.1 87 0) g) → (k = 2 → P (g.1 87 15) g) → (k = 3 → P (g.1 87 16) g) → (k = 4 → P (g.1 87 17) g) → (k = 5 → P (g.1 87 18) g) → (k = 6 → o_X8_setIn P g 0) → (k = 7 → o_X8_setIn P g 9) → (k = 8 → P (g.1 86 4) g) → (k = 9 → P (g.1 86 12) g) → k ≤ 9 → o_X8_count P g x1 := by
    intro P k hk p0 p1 p2 p3 p4 p5 p6 p7 p8 p9 k9
    subst hk
    have E : ∀ c : Nat, c < 2147483648 → (nI k = nI c → k = c) := fun c hc q => (nI_eq (by omega) hc).mp q
    refine ⟨fun q => p0 (E 0 (by omega) q), fun q => s8_toys (p1 (E 1 (by omega) q)), fun q => ⟨vlit 15 (by omega) (by omega), p2 (E 2 (by omega) q)⟩, fun q => ⟨vlit 16 (by omega) (by omega), p3 (E 3 (by omega) q)⟩, fun q => ⟨vlit 17 (by omega) (by omega), p4 (E 4 (by omega) q)⟩, fun q => ⟨vlit 18 (by omega) (by omega), p5 (E 5 (by omega) q)⟩, fun q => p6 (E 6 (by omega) q), fun q => p7 (E 7 (by omega) q), fun q => p8 (E 8 (by omega) q), fun q => p9 (E 9 (by omega) q), fun q => ?_⟩
    obtain ⟨q0, q1, q2, q3, q4, q5, q6, q7, q8, q9⟩ := q
    have hk : k = 0 ∨ k = 1 ∨ k = 2 ∨ k = 3 ∨ k = 4 ∨ k = 5 ∨ k = 6 ∨ k = 7 ∨ k = 8 ∨ k = 9 := by omega
    rcases hk with rfl | rfl | rfl | rfl | rfl | rfl | rfl | rfl | rfl | rfl
    · exact absurd rfl q0
    · exact absurd rfl q1
    · exact absurd rfl q2
    · exact absurd rfl q3
    · exact absurd rfl q4
    · exact absurd rfl q5
    · exact absurd rfl q6
    · exact absurd rfl q7
    · exact absurd rfl q8
    · exact absurd rfl q9
  refine ⟨fun q => s7_rowsThere ?_, fun q => ?_, fun q => ?_, fun q => ?_, fun q => ?_, fun q => ?_, fun q => s3_toysAt (c := 0) hB h7 hp (by omega) ?_, fun q => s3_toysAt (c := 9) hB h7 hp (by omega) ?_, fun q => ?_, fun q => ?_, fun q => ?_⟩
  · refine pick _ 0 q (fun _ => s8_manyRows hR.1 ⟨rfl, hR⟩) ?_ ?_ ?_ ?_ ?_ ?_ ?_ ?_ ?_ (by omega) <;> (intro z; omega)
  · refine pick _ 1 q ?_ (fun _ => ⟨by rw [hB.1.1, hW.1.1], hR⟩) ?_ ?_ ?_ ?_ ?_ ?_ ?_ ?_ (by omega) <;> (intro z; omega)
  · refine pick _ 2 q ?_ ?_ (fun _ => ⟨by rw [hB.1.2.2.2.2, hW.1.2.2.2.2], hR⟩) ?_ ?_ ?_ ?_ ?_ ?_ ?_ (by omega) <;> (intro z; omega)
  · refine pick _ 3 q ?_ ?_ ?_ (fun _ => ⟨by rw [hB.1.2.1, hW.1.2.1], hR⟩) ?_ ?_ ?_ ?_ ?_ ?_ (by omega) <;> (intro z; omega)
  · refine pick _ 4 q ?_ ?_ ?_ ?_ (fun _ => ⟨by rw [hB.1.2.2.1, hW.1.2.2.1], hR⟩) ?_ ?_ ?_ ?_ ?_ (by omega) <;> (intro z; omega)
  · refine pick _ 5 q ?_ ?_ ?_ ?_ ?_ (fun _ => ⟨by rw [hB.1.2.2.2.1, hW.1.2.2.2.1], hR⟩) ?_ ?_ ?_ ?_ (by omega) <;> (intro z; omega)
  · refine pick _ 6 q ?_ ?_ ?_ ?_ ?_ ?_ (fun _ => s8_setIn (c := 0) hW h7 hp (by omega) ⟨rfl, hR⟩) ?_ ?_ ?_ (by omega) <;> (intro z; omega)
  · refine pick _ 7 q ?_ ?_ ?_ ?_ ?_ ?_ ?_ (fun _ => s8_setIn (c := 9) hW h7 hp (by omega) ⟨rfl, hR⟩) ?_ ?_ (by omega) <;> (intro z; omega)
  · refine pick _ 8 q ?_ ?_ ?_ ?_ ?_ ?_ ?_ ?_ (fun _ => ⟨by rw [ha.1, ha.2.1], hR⟩) ?_ (by omega) <;> (intro z; omega)
  · refine pick _ 9 q ?_ ?_ ?_ ?_ ?_ ?_ ?_ ?_ ?_ (fun _ => ⟨ht.symm, hR⟩) (by omega) <;> (intro z; omega)
  · obtain ⟨q0, q1, q2, q3, q4, q5, q6, q7, q8, q9⟩ := q
    exact ⟨fun z => absurd z q0, fun z => absurd z q1, fun z => absurd z q2, fun z => absurd z q3, fun z => absurd z q4, fun z => absurd z q5, fun z => absurd z q6, fun z => absurd z q7, fun z => absurd z q8, fun z => absurd z q9, fun _ => ⟨rfl, hR⟩⟩
/-! ask -/
def T7 (g0 : Mm) (l : List Int32) (g : Mm) : Prop := g.1 58 1 = nI l.length ∧ (∀ i, i < l.length → g.1 59 i = l.getD i 0) ∧ Fr (fun j k => (j = 58 ∧ k = 1) ∨ j = 59) g0 g
def T8 (g0 : Mm) (l : List Int32) (g : Mm) : Prop := g.1 86 23 = nI l.length ∧ (∀ i, i < l.length → g.1 99 i = l.getD i 0) ∧ Fr (fun j k => (j = 86 ∧ k = 23) ∨ j = 99) g0 g
theorem getD_lt {l : List Int32} {v : Int32} {i : Nat} (h : i < l.length) : (l ++ [v]).getD i 0 = l.getD i 0 := by
  rw [List.getD_eq_getElem?_getD, List.getD_eq_getElem?_getD, List.getElem?_append_left h]
theorem getD_eq {l : List Int32} {v : Int32} : (l ++ [v]).getD l.length 0 = v := by
  rw [List.getD_eq_getElem?_getD, List.getElem?_append_right (Nat.le_refl _), Nat.sub_self]; rfl
theorem T8.leave {Q : Mm → Prop} {g0 g : Mm} {l : List Int32} {v : Int32} (T : T8 g0 l g) (hl : l.length < 16) (h : ∀ g', T8 g0 (l ++ [v]) g' → Q g') : o_X8_leave Q g v := by
  obtain ⟨h1, h2, h3⟩ := T
  unfold o_X8_leave
  rw [h1]
  refine ⟨fun q => absurd ((nI_leI (a := 16) (by omega) (by omega)).mp q) (by omega), fun _ => ⟨vin _ rfl hl (by omega), fun g1 e1 g2 e2 => h g2 ?_⟩⟩
  rw [cl (by omega)] at e1
  subst e1
  rw [mset_at, if_neg (by omega), h1, nI_1] at e2
  subst e2
  refine ⟨by simp [mset_at], fun i hi => ?_, (h3.set (Or.inr rfl)).set (Or.inl ⟨rfl, rfl⟩)⟩
  rw [List.length_append] at hi
  simp only [List.length_cons, List.length_nil] at hi
  rw [mset_at, if_neg (by omega), mset_at]
  by_cases z : i = l.length
  · subst z; rw [if_pos ⟨rfl, rfl⟩, getD_eq]
  · rw [if_neg (by omega), getD_lt (by omega)]; exact h2 i (by omega)
theorem g_step {n : Nat} {Q : Int32 → Mm → Prop} {g0 g : Mm} {l : List Int32} {x2 v : Int32} {d : Nat} (T : T7 g0 l g) (hl : l.length < 16) (hd : d < 16) (h : ∀ g', T7 g0 (l ++ [v]) g' → o_X1_give_38 Q (o_X1_give n) 9 g' x2 v (nI d)) : o_X1_give (n + 1) Q 9 g x2 v (nI d) := by
  obtain ⟨h1, h2, h3⟩ := T
  show o_X1_give_0 (o_X1_give n) Q 9 g x2 v (nI d)
  unfold o_X1_give_0
  rw [h1]
  refine ⟨fun _ => ⟨fun q => absurd ((nI_leI (a := 16) (by omega) (by omega)).mp q) (by omega), fun _ => ⟨vin _ rfl hl (by omega), fun g1 e1 g2 e2 => h g2 ?_⟩⟩, fun q => absurd ((nI_ltI (b := 16) (by omega) (by omega)).mpr hd) q⟩
  rw [cl (by omega)] at e1
  subst e1
  rw [mset_at, if_neg (by omega), h1, nI_1] at e2
  subst e2
  refine ⟨by simp [mset_at], fun i hi => ?_, (h3.set (Or.inr rfl)).set (Or.inl ⟨rfl, rfl⟩)⟩
  rw [List.length_append] at hi
  simp only [List.length_cons, List.length_nil] at hi
  rw [mset_at, if_neg (by omega), mset_at]
  by_cases z : i = l.length
  · subst z; rw [if_pos ⟨rfl, rfl⟩, getD_eq]
  · rw [if_neg (by omega), getD_lt (by omega)]; exact h2 i (by omega)
