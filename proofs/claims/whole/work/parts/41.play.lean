/-! rolling, landing, laying, plays: the class and the reference -/
theorem rl_of {b : Bx} {c : Nat} {Q : Int32 → Mm → Prop} {g : Mm} (h : Q (nI (rl b c)) g) :
    ((1 < c ∧ cN b (c - 1) + 2 ≤ cN b c) → Q (nI (c - 1)) g) ∧ (¬ (1 < c ∧ cN b (c - 1) + 2 ≤ cN b c) → (c < 5 ∧ cN b (c + 1) + 2 ≤ cN b c) → Q (nI (c + 1)) g) ∧ (¬ (1 < c ∧ cN b (c - 1) + 2 ≤ cN b c) → ¬ (c < 5 ∧ cN b (c + 1) + 2 ≤ cN b c) → Q (nI c) g) := by
  unfold rl at h
  refine ⟨fun q => ?_, fun q p => ?_, fun q p => ?_⟩
  · rw [if_pos q] at h; exact h
  · rw [if_neg q, if_pos p] at h; exact h
  · rw [if_neg q, if_neg p] at h; exact h
theorem m2_lt {x y : Nat} (hx : x < 1000) (hy : y < 1000) : (nI x - 2 < nI y) ↔ ¬ (y + 2 ≤ x) := by
  rw [lt_i, show (nI x - 2).toInt = (x : Int) - 2 from pk_sub_toInt (b := 2) (by omega) (by omega), nIi (by omega)]
  omega
theorem s3_rolling {Q : Int32 → Mm → Prop} {g : Mm} {j : Nat} {b : Bx} {c : Nat} (hB : BoxIs g j b) (hV : Vb b) (hc : 1 ≤ c ∧ c ≤ 5) (h : Q (nI (rl b c)) g) : o_X3_rolling Q j g (nI c) := by
  obtain ⟨r1, r2, r3⟩ := rl_of h
  have L := fun c => cN_le hV c
  have e28 : ¬ (1 < c ∧ cN b (c - 1) + 2 ≤ cN b c) → o_X3_rolling_28 Q j g (nI c) (nI (cN b c) - 2) := by
    intro q
    refine ⟨fun d => r3 q (fun z => ?_), fun d => ?_⟩
    · have := (nI_leI (a := 5) (by omega) (by omega)).mp d; omega
    · rw [nI_1]
      refine s3_howMany hB hV (by omega) ⟨fun f => ?_, fun f => ?_⟩
      · rw [m2_lt (by have := L c; omega) (by have := L (c + 1); omega)] at f
        exact r3 q (fun z => f z.2)
      · rw [m2_lt (by have := L c; omega) (by have := L (c + 1); omega)] at f
        refine r2 q ⟨?_, Decidable.byContradiction fun z => f z⟩
        have : ¬ 5 ≤ c := fun z => d ((nI_leI (a := 5) (by omega) (by omega)).mpr z)
        omega
  refine s3_howMany hB hV (by omega) ?_
  intro x ex
  subst ex
  refine ⟨fun d => e28 (fun z => ?_), fun d => ?_⟩
  · have := (nI_leI (b := 1) (by omega) (by omega)).mp d; omega
  · have hc1 : 1 < c := by
      have : ¬ c ≤ 1 := fun z => d ((nI_leI (b := 1) (by omega) (by omega)).mpr z)
      omega
    rw [show nI c - 1 = nI (c - 1) from pk_sub (b := 1) (by omega)]
    refine s3_howMany hB hV (by omega) ⟨fun f => e28 (fun z => ?_), fun f => ?_⟩
    · rw [m2_lt (by have := L c; omega) (by have := L (c - 1); omega)] at f
      exact f z.2
    · rw [m2_lt (by have := L c; omega) (by have := L (c - 1); omega)] at f
      exact r1 ⟨hc1, Decidable.byContradiction fun z => f z⟩
theorem s8_rolls {Q : Int32 → Mm → Prop} {g : Mm} {a : Nat} {b : Bx} {c : Nat} (hB : RowIs (g.1 a) b) (hV : Vb b) (hc : 1 ≤ c ∧ c ≤ 5) (h : Q (nI (rl b c)) g) : o_X8_rolls Q a g (nI c) := by
  obtain ⟨r1, r2, r3⟩ := rl_of h
  have L := fun c => cN_le hV c
  have e28 : ¬ (1 < c ∧ cN b (c - 1) + 2 ≤ cN b c) → o_X8_rolls_28 Q a g (nI c) (nI (cN b c)) := by
    intro q
    refine ⟨fun d => r3 q (fun z => ?_), fun d => ?_⟩
    · have := (nI_leI (a := 5) (by omega) (by omega)).mp d; omega
    · rw [nI_1]
      refine s8_lyingIn hB hV (by omega) ⟨fun f => ?_, fun f => ?_⟩
      · rw [m2_lt (by have := L c; omega) (by have := L (c + 1); omega)] at f
        exact r3 q (fun z => f z.2)
      · rw [m2_lt (by have := L c; omega) (by have := L (c + 1); omega)] at f
        refine r2 q ⟨?_, Decidable.byContradiction fun z => f z⟩
        have : ¬ 5 ≤ c := fun z => d ((nI_leI (a := 5) (by omega) (by omega)).mpr z)
        omega
  refine s8_lyingIn hB hV (by omega) ⟨fun d => e28 (fun z => ?_), fun d => ?_⟩
  · have := (nI_leI (b := 1) (by omega) (by omega)).mp d; omega
  · have hc1 : 1 < c := by
      have : ¬ c ≤ 1 := fun z => d ((nI_leI (b := 1) (by omega) (by omega)).mpr z)
      omega
    rw [show nI c - 1 = nI (c - 1) from pk_sub (b := 1) (by omega)]
    refine s8_lyingIn hB hV (by omega) ⟨fun f => e28 (fun z => ?_), fun f => ?_⟩
    · rw [m2_lt (by have := L c; omega) (by have := L (c - 1); omega)] at f
      exact f z.2
    · rw [m2_lt (by have := L c; omega) (by have := L (c - 1); omega)] at f
      exact r1 ⟨hc1, Decidable.byContradiction fun z => f z⟩
theorem s3_fall {Q : Int32 → Mm → Prop} {K : Mm → Int32 → Int32 → Prop} {g : Mm} {j n : Nat} {x1 : Int32} (hn : 1 ≤ n ∧ n ≤ 100) : ∀ (o l : Nat), o ≤ 5 → n ≤ l → l ≤ 1000 → (fr_ n o (l - 1) = 0 → Q 0 g) → (fr_ n o (l - 1) ≠ 0 → K g x1 (nI (fr_ n o (l - 1)))) → o_X3_landing_44 Q K j (o + 1) g x1 (nI n) (nI l) (nI o) := by
  intro o
  induction o with
  | zero =>
    intro l _ _ _ h0 _
    exact ⟨fun _ => h0 rfl, fun q => absurd (by decide) q⟩
  | succ o ih =>
    intro l ho hl hl2 h0 h1
    refine ⟨fun q => absurd ((nI_ltI (b := 1) (by omega) (by omega)).mp q) (by omega), fun _ => ?_⟩
    intro x ex
    rw [show nI l + (-1) = nI (l - 1) by rw [show l = (l - 1) + 1 by omega, pk_m1]; rfl] at ex
    subst ex
    refine ⟨fun q => ?_, fun q => ?_⟩
    · have hq := (nI_leI (by omega) (by omega)).mp q
      intro y ey
      rw [pk_m1] at ey
      subst ey
      have e : fr_ n (o + 1) (l - 1) = fr_ n o (l - 1 - 1) := by rw [fr_, if_neg (by omega)]
      rw [e] at h0 h1
      exact ih (l - 1) (by omega) hq (by omega) h0 h1
    · have hq : ¬ n ≤ l - 1 := fun z => q ((nI_leI (by omega) (by omega)).mpr z)
      have e : fr_ n (o + 1) (l - 1) = o + 1 := by rw [fr_, if_pos (by omega)]
      rw [e] at h1
      exact h1 (by omega)
theorem s8_fall {Q : Int32 → Mm → Prop} {K : Mm → Int32 → Int32 → Prop} {g : Mm} {a n : Nat} {x3 : Int32} (hn : 1 ≤ n ∧ n ≤ 100) : ∀ (o l : Nat), o ≤ 5 → l ≤ 1000 → K g x3 (nI (fr_ n o l)) → o_X8_goPlay_74 Q K a (o + 1) g x3 (nI n) (nI l) (nI o) := by
  intro o
  induction o with
  | zero =>
    intro l _ _ h0
    exact ⟨fun _ => h0, fun q => absurd (by decide) q⟩
  | succ o ih =>
    intro l ho hl h0
    refine ⟨fun q => absurd ((nI_ltI (b := 1) (by omega) (by omega)).mp q) (by omega), fun _ => ⟨fun q => ?_, fun q => ?_⟩⟩
    · have hq := (nI_ltI (by omega) (by omega)).mp q
      rw [fr_, if_pos hq] at h0
      exact h0
    · have hq : ¬ l < n := fun z => q ((nI_ltI (by omega) (by omega)).mpr z)
      intro x ex y ey
      rw [pk_m1] at ex
      rw [show nI l + (-1) = nI (l - 1) by rw [show l = (l - 1) + 1 by omega, pk_m1]; rfl] at ey
      subst ex; subst ey
      rw [fr_, if_neg hq] at h0
      exact ih (l - 1) (by omega) (by omega) h0
theorem s3_landing {Q : Int32 → Mm → Prop} {g : Mm} {j : Nat} {b : Bx} {t c gp : Nat} (hB : BoxIs g j b) (hV : Vb b) (ht : t < b 0 0) (hc : 1 ≤ c ∧ c ≤ 5) (hg : gp ≤ 1000) (h : Q (nI (ld b t c gp)) g) : o_X3_landing Q j g (nI t) (nI c) (nI gp) := by
  have hn := nd_in hV ht
  have hv := vt hV.1.2 ht
  have hp := VbP hV ht
  have h7 := hV.1.2
  have hk := (hV.2.2 t ht).1
  refine s3_need hB hV ht ⟨fun q => ?_, fun q => ⟨hv, ?_⟩⟩
  · have hq := (nI_leI (by omega) (by omega)).mp q
    unfold ld at h
    rw [if_neg (by omega)] at h
    intro x ex
    rw [show nI c - 1 = nI (c - 1) from pk_sub (b := 1) (by omega)] at ex
    subst ex
    refine ⟨c, ?_⟩
    have := s3_fall (Q := Q) (K := fun (g : Mm) (x1 : Int32) (x6 : Int32) => vp_in x1 7 ∧ (((¬ (g.1 (j + 1) x1.toNatClampNeg) = 5) → Q x6 g) ∧ (((g.1 (j + 1) x1.toNatClampNeg) = 5) → o_X3_howMany (fun (r_7 : Int32) (g_6 : Mm) => ((¬ r_7 = 0) → Q x6 g_6) ∧ ((r_7 = 0) → Q 9 g_6)) j g x6))) (g := g) (j := j) (x1 := nI t) ⟨hn.1, by omega⟩ (c - 1) gp (by omega) hq hg
    rw [show c - 1 + 1 = c by omega] at this
    refine this (fun z => ?_) (fun z => ⟨hv, ?_⟩)
    · rw [if_pos z] at h; exact h
    · rw [if_neg z] at h
      have hfr := fr_le (nd b t) (c - 1) (gp - 1)
      rw [cl (by omega), (hB.2 t ht).1]
      refine ⟨fun w => ?_, fun w => s3_howMany hB hV (by omega) ⟨fun y => ?_, fun y => ?_⟩⟩
      · rw [if_neg (fun y => w (by rw [y.1]; rfl))] at h; exact h
      · rw [if_neg (fun p => y (by rw [p.2]; rfl))] at h; exact h
      · have hcn := cN_le hV (fr_ (nd b t) (c - 1) (gp - 1))
        rw [if_pos ⟨(nI_eq (b := 5) (by omega) (by omega)).mp w, (nI_eq (b := 0) (by omega) (by omega)).mp y⟩] at h; exact h
  · have hq : gp < nd b t := by
      have : ¬ nd b t ≤ gp := fun z => q ((nI_leI (by omega) (by omega)).mpr z)
      omega
    unfold ld at h
    rw [if_pos hq] at h
    rw [cl (by omega), (hB.2 t ht).1]
    refine s7_isOfKind (w := 4) hk (by omega) (bI_br (fun w => ?_) (fun w => ?_))
    · rw [if_neg (by omega)] at h; exact h
    · rw [if_pos (by omega)] at h
      exact s3_rolling hB hV hc h
/-- laying: what it leaves -/
theorem BoxIs.pu {g g' : Mm} {j : Nat} {b : Bx} {t c : Nat} (hB : BoxIs g j b) (e : ∀ q k, j ≤ q → q ≤ j + 4 → g'.1 q k = if q = j + 3 ∧ k = t then nI c else if q = j + 4 ∧ k = t then nI (if 1 ≤ c ∧ c ≤ 5 then cN b c else 0) else g.1 q k) : BoxIs g' j (pu b t c) := by
  obtain ⟨⟨h1, h2, h3, h4, h5⟩, h6⟩ := hB
  have z : ∀ k, g'.1 j k = g.1 j k := fun k => by rw [e j k (by omega) (by omega), if_neg (by omega), if_neg (by omega)]
  refine ⟨⟨?_, ?_, ?_, ?_, ?_⟩, fun i hi => ?_⟩
  · rw [z, pu_0 (by decide) (by decide)]; exact h1
  · rw [z, pu_0 (by decide) (by decide)]; exact h2
  · rw [z, pu_0 (by decide) (by decide)]; exact h3
  · rw [z, pu_0 (by decide) (by decide)]; exact h4
  · rw [z, pu_0 (by decide) (by decide)]; exact h5
  · rw [pu_0 (by decide) (by decide)] at hi
    have hq := h6 i hi
    rw [pu_0 (a := 1) (by decide) (by decide), pu_0 (a := 2) (by decide) (by decide), e (j + 1) i (by omega) (by omega), e (j + 2) i (by omega) (by omega), e (j + 3) i (by omega) (by omega), e (j + 4) i (by omega) (by omega)]
    refine ⟨by rw [if_neg (by omega), if_neg (by omega)]; exact hq.1, by rw [if_neg (by omega), if_neg (by omega)]; exact hq.2.1, ?_⟩
    by_cases w : i = t
    · subst w
      rw [if_pos ⟨rfl, rfl⟩, if_neg (by omega), if_pos ⟨rfl, rfl⟩, pu_3, pu_4]
      exact ⟨rfl, rfl⟩
    · rw [if_neg (by omega), if_neg (by omega), if_neg (by omega), if_neg (by omega), pu_t w, pu_t w]
      exact hq.2.2
theorem s3_lay {Q : Mm → Prop} {g : Mm} {j : Nat} {b : Bx} {t c : Nat} (hB : BoxIs g j b) (hV : Vb b) (ht : t < b 0 0) (hc : c < 1000) (h : ∀ g', BoxIs g' j (pu b t c) → Fr (fun q k => q = j + 3 ∨ q = j + 4) g g' → Q g') : o_X3_lay Q j g (nI t) (nI c) := by
  have hv := vt hV.1.2 ht
  have h7 := hV.1.2
  have fin : ∀ v : Nat, v = (if 1 ≤ c ∧ c ≤ 5 then cN b c else 0) → o_X3_lay_21 Q j g (nI t) (nI c) (nI t) (nI v) := by
    intro v hvv
    refine ⟨hv, fun g3 e3 => ⟨hv, fun g4 e4 => ?_⟩⟩
    rw [cl (by omega)] at e3 e4
    subst e3; subst e4
    refine h _ (hB.pu (fun q k _ _ => ?_)) ((Fr.rfl.set (Or.inr rfl)).set (Or.inl rfl))
    rw [mset_at, mset_at, hvv]
  refine s7_isColumn (bI_br (fun q => ?_) (fun q => ?_))
  · refine fin 0 ?_
    rw [if_neg]
    intro z
    exact q ⟨(nI_leI (a := 1) (by omega) (by omega)).mpr z.1, (nI_leI (b := 5) (by omega) (by omega)).mpr z.2⟩
  · have q1 := (nI_leI (a := 1) (by omega) (by omega)).mp q.1
    have q2 := (nI_leI (b := 5) (by omega) (by omega)).mp q.2
    refine s3_howMany hB hV (by omega) (fin _ ?_)
    rw [if_pos ⟨q1, q2⟩]
theorem RowIs.pu {f f' : Nat → Int32} {b : Bx} {t c : Nat} (hB : RowIs f b) (h7 : b 0 0 ≤ 7) (ht : t < b 0 0) (e : ∀ k, f' k = if k = 19 + t then nI c else if k = 26 + t then nI (if 1 ≤ c ∧ c ≤ 5 then cN b c else 0) else f k) : RowIs f' (pu b t c) := by
  obtain ⟨⟨h1, h2, h3, h4, h5⟩, h6⟩ := hB
  refine ⟨⟨?_, ?_, ?_, ?_, ?_⟩, fun i hi => ?_⟩
  · rw [e, if_neg (by omega), if_neg (by omega), pu_0 (by decide) (by decide)]; exact h1
  · rw [e, if_neg (by omega), if_neg (by omega), pu_0 (by decide) (by decide)]; exact h2
  · rw [e, if_neg (by omega), if_neg (by omega), pu_0 (by decide) (by decide)]; exact h3
  · rw [e, if_neg (by omega), if_neg (by omega), pu_0 (by decide) (by decide)]; exact h4
  · rw [e, if_neg (by omega), if_neg (by omega), pu_0 (by decide) (by decide)]; exact h5
  · rw [pu_0 (by decide) (by decide)] at hi
    have hq := h6 i hi
    rw [pu_0 (a := 1) (by decide) (by decide), pu_0 (a := 2) (by decide) (by decide), e (1 + i), e (8 + i), e (19 + i), e (26 + i)]
    refine ⟨by rw [if_neg (by omega), if_neg (by omega)]; exact hq.1, by rw [if_neg (by omega), if_neg (by omega)]; exact hq.2.1, ?_⟩
    by_cases w : i = t
    · subst w
      rw [if_pos rfl, if_neg (by omega), if_pos rfl, pu_3, pu_4]
      exact ⟨rfl, rfl⟩
    · rw [if_neg (by omega), if_neg (by omega), if_neg (by omega), if_neg (by omega), pu_t w, pu_t w]
      exact hq.2.2
theorem s8_lay {Q : Mm → Prop} {g : Mm} {a : Nat} {b : Bx} {t c : Nat} (hB : RowIs (g.1 a) b) (hV : Vb b) (ht : t < b 0 0) (hc : 1 ≤ c ∧ c ≤ 5) (h : ∀ g', RowIs (g'.1 a) (pu b t c) → Fr (fun q k => q = a) g g' → Q g') : o_X8_lay Q a g (nI t) (nI c) := by
  have h7 := hV.1.2
  refine s8_lyingIn hB hV (by omega) ⟨v26 (by omega), fun g3 e3 => ⟨v19 (by omega), fun g4 e4 => ?_⟩⟩
  rw [c26 (by omega)] at e3
  rw [c19 (by omega)] at e4
  subst e3; subst e4
  refine h _ (hB.pu h7 ht (fun k => ?_)) (Fr.set (T := fun q k => q = a) (Fr.set (T := fun q k => q = a) Fr.rfl rfl) rfl)
  rw [mset_at, mset_at, if_pos hc]
  simp only [true_and]
theorem s8_take {Q : Mm → Prop} {g : Mm} {a : Nat} {b : Bx} {t c : Nat} (hB : RowIs (g.1 a) b) (hV : Vb b) (ht : t < b 0 0) (hc : ¬ (1 ≤ c ∧ c ≤ 5)) (h : ∀ g', RowIs (g'.1 a) (pu b t c) → Fr (fun q k => q = a) g g' → Q g') : o_X8_take Q a g (nI t) (nI c) := by
  have h7 := hV.1.2
  refine ⟨v19 (by omega), fun g3 e3 => ⟨v26 (by omega), fun g4 e4 => ?_⟩⟩
  rw [c19 (by omega)] at e3
  rw [c26 (by omega)] at e4
  subst e3; subst e4
  refine h _ (hB.pu h7 ht (fun k => ?_)) (Fr.set (T := fun q k => q = a) (Fr.set (T := fun q k => q = a) Fr.rfl rfl) rfl)
  rw [mset_at, mset_at, if_neg hc]
  simp only [true_and]
  by_cases w : k = 19 + t
  · rw [if_pos w, if_neg (by omega), if_pos w]
  · rw [if_neg w, if_neg w]; rfl
theorem BoxIs.b8 {g g' : Mm} {j : Nat} {b : Bx} {v : Nat} (hB : BoxIs g j b) (e : ∀ q k, j ≤ q → q ≤ j + 4 → g'.1 q k = if q = j ∧ k = 8 then nI v else g.1 q k) : BoxIs g' j (bup b 8 0 v) := by
  obtain ⟨⟨h1, h2, h3, h4, h5⟩, h6⟩ := hB
  refine ⟨⟨?_, ?_, ?_, ?_, ?_⟩, fun i hi => ?_⟩
  · rw [e _ _ (by omega) (by omega), if_neg (by omega), bup_k (by decide)]; exact h1
  · rw [e _ _ (by omega) (by omega), if_neg (by omega), bup_k (by decide)]; exact h2
  · rw [e _ _ (by omega) (by omega), if_neg (by omega), bup_k (by decide)]; exact h3
  · rw [e _ _ (by omega) (by omega), if_neg (by omega), bup_k (by decide)]; exact h4
  · rw [e _ _ (by omega) (by omega), if_pos ⟨rfl, rfl⟩, bup_same]
  · rw [bup_k (by decide)] at hi
    rw [bup_k (by decide), bup_k (by decide), bup_k (by decide), bup_k (by decide), e (j + 1) i (by omega) (by omega), e (j + 2) i (by omega) (by omega), e (j + 3) i (by omega) (by omega), e (j + 4) i (by omega) (by omega), if_neg (by omega), if_neg (by omega), if_neg (by omega), if_neg (by omega)]
    exact h6 i hi
theorem RowIs.b8 {f f' : Nat → Int32} {b : Bx} {v : Nat} (hB : RowIs f b) (h7 : b 0 0 ≤ 7) (e : ∀ k, f' k = if k = 15 then nI v else f k) : RowIs f' (bup b 8 0 v) := by
  obtain ⟨⟨h1, h2, h3, h4, h5⟩, h6⟩ := hB
  refine ⟨⟨?_, ?_, ?_, ?_, ?_⟩, fun i hi => ?_⟩
  · rw [e, if_neg (by omega), bup_k (by decide)]; exact h1
  · rw [e, if_neg (by omega), bup_k (by decide)]; exact h2
  · rw [e, if_neg (by omega), bup_k (by decide)]; exact h3
  · rw [e, if_neg (by omega), bup_k (by decide)]; exact h4
  · rw [e, if_pos rfl, bup_same]
  · rw [bup_k (by decide)] at hi
    rw [bup_k (by decide), bup_k (by decide), bup_k (by decide), bup_k (by decide), e (1 + i), e (8 + i), e (19 + i), e (26 + i), if_neg (by omega), if_neg (by omega), if_neg (by omega), if_neg (by omega)]
    exact h6 i hi
theorem nd_bup8 {b : Bx} {v t : Nat} : nd (bup b 8 0 v) t = nd b t := by unfold nd; rw [bup_k (by decide), bup_k (by decide)]
theorem rl_bup8 {b : Bx} {v c : Nat} : rl (bup b 8 0 v) c = rl b c := by unfold rl; rw [cN_bup8, cN_bup8, cN_bup8]
theorem ld_bup8 {b : Bx} {v t c g : Nat} : ld (bup b 8 0 v) t c g = ld b t c g := by unfold ld; rw [nd_bup8, rl_bup8, cN_bup8, bup_k (by decide)]
/-- the reference's play -/
theorem s8_goPlay {Q : Int32 → Mm → Prop} {g : Mm} {a : Nat} {b : Bx} {c gp : Nat} (hB : RowIs (g.1 a) b) (hV : Vb b) (h8 : b 8 0 < 20000) (hc : 1 ≤ c ∧ c ≤ 5) (hg : gp ≤ 1000) (h : ∀ g', RowIs (g'.1 a) (pl b c gp) → Fr (fun q k => q = a) g g' → Q (t8I (tN b c)) g') : o_X8_goPlay Q a g (nI c) (nI gp) := by
  have h7 := hV.1.2
  have e15 : g.1 a (15 : Int32).toNatClampNeg = nI (b 8 0) := hB.1.2.2.2.2
  refine s8_topOf hB hV (by omega) ⟨vlit 15 (by omega) (by omega), vlit 15 (by omega) (by omega), fun g3 e3 => ?_⟩
  rw [e15, nI_1] at e3
  have hB3 : RowIs (g3.1 a) (bup b 8 0 (b 8 0 + 1)) := hB.b8 h7 (fun k => by rw [e3, show (15 : Int32).toNatClampNeg = 15 from rfl, mset_at]; simp only [true_and])
  have hV3 : Vb (bup b 8 0 (b 8 0 + 1)) := Vb_8 hV (by omega)
  have hF3 : Fr (fun q k => q = a) g g3 := by rw [e3]; exact Fr.rfl.set rfl
  have n3 : (bup b 8 0 (b 8 0 + 1)) 0 0 = b 0 0 := bup_k (by decide)
  have htl : tN b c ≤ b 0 0 := tp_le b c _
  refine ⟨fun q => ?_, fun q => ?_⟩
  · have hz : tN b c ≠ 0 := fun z => by rw [z] at q; exact absurd q (by decide)
    have et : t8I (tN b c) = nI (tN b c - 1) := if_neg hz
    have ht : tN b c - 1 < b 0 0 := by omega
    have ht3 : tN b c - 1 < (bup b 8 0 (b 8 0 + 1)) 0 0 := by rw [n3]; exact ht
    have hk := (hV.2.2 _ ht).1
    have hn := nd_in hV ht
    rw [et] at h ⊢
    have done : ∀ g', Fr (fun q k => q = a) g3 g' → RowIs (g'.1 a) (pl b c gp) → Q (nI (tN b c - 1)) g' := fun g' f r => h g' r (hF3.trans f)
    have stay : ld b (tN b c - 1) c gp = c → Q (nI (tN b c - 1)) g3 := fun w => done g3 Fr.rfl (by unfold pl; rw [if_neg hz, if_pos w]; exact hB3)
    have mv : ld b (tN b c - 1) c gp ≠ c → ∀ g', RowIs (g'.1 a) (pu (bup b 8 0 (b 8 0 + 1)) (tN b c - 1) (ld b (tN b c - 1) c gp)) → Fr (fun q k => q = a) g3 g' → Q (nI (tN b c - 1)) g' := fun w g' r f => done g' f (by unfold pl; rw [if_neg hz, if_neg w]; exact r)
    have go51 : ∀ d : Nat, d = ld b (tN b c - 1) c gp → 1 ≤ d ∧ d ≤ 5 → o_X8_goPlay_51 Q a g3 (nI c) (nI (tN b c - 1)) (nI d) := by
      intro d hd hd2
      refine ⟨fun w => stay ?_, fun w => s8_lay hB3 hV3 ht3 hd2 ?_⟩
      · rw [← hd]; exact (nI_eq (by omega) (by omega)).mp w
      · rw [hd]; exact mv (fun z => w (by rw [hd, z]))
    refine s8_needOf hB3 hV3 ht3 ?_
    rw [nd_bup8]
    have e1 : g3.1 a (1 + nI (tN b c - 1)).toNatClampNeg = nI (b 1 (tN b c - 1)) := by rw [ca1 (by omega), (hB3.2 _ ht3).1, bup_k (by decide)]
    refine ⟨fun w => ⟨c + 1, s8_fall ⟨hn.1, by omega⟩ c gp (by omega) hg ?_⟩, fun w => ⟨v1 (by omega), ?_⟩⟩
    · have hw := (nI_leI (by omega) (by omega)).mp w
      have ef : fr_ (nd b (tN b c - 1)) c gp = fr_ (nd b (tN b c - 1)) (c - 1) (gp - 1) := by
        obtain ⟨c', rfl⟩ : ∃ c', c = c' + 1 := ⟨c - 1, by omega⟩
        rw [fr_, if_neg (by omega)]; rfl
      have hfr := fr_le (nd b (tN b c - 1)) (c - 1) (gp - 1)
      rw [ef]
      have hld : ld b (tN b c - 1) c gp = if fr_ (nd b (tN b c - 1)) (c - 1) (gp - 1) = 0 then 0 else if b 1 (tN b c - 1) = 5 ∧ cN b (fr_ (nd b (tN b c - 1)) (c - 1) (gp - 1)) = 0 then 9 else fr_ (nd b (tN b c - 1)) (c - 1) (gp - 1) := by unfold ld; rw [if_neg (by omega)]
      generalize fr_ (nd b (tN b c - 1)) (c - 1) (gp - 1) = at_ at hld hfr ⊢
      refine ⟨fun y => ⟨v1 (by omega), ?_⟩, fun y => ?_⟩
      · have hy := (nI_leI (a := 1) (by omega) (by omega)).mp y
        rw [if_neg (by omega)] at hld
        rw [e1]
        have lay139 : ¬ (b 1 (tN b c - 1) = 5 ∧ cN b at_ = 0) → o_X8_goPlay_139 Q a g3 (nI (tN b c - 1)) (nI at_) := by
          intro p
          rw [if_neg p] at hld
          have := mv (by omega)
          rw [hld] at this
          exact s8_lay hB3 hV3 ht3 ⟨hy, by omega⟩ this
        refine ⟨fun p => lay139 (fun o => p (by rw [o.1]; rfl)), fun p => s8_lyingIn hB3 hV3 (by omega) ⟨fun o => lay139 (fun z => o ?_), fun o => ?_⟩⟩
        · rw [cN_bup8, z.2]; rfl
        · rw [cN_bup8] at o
          have hcn := cN_le hV at_
          rw [if_pos ⟨(nI_eq (b := 5) (by omega) (by omega)).mp p, (nI_eq (b := 0) (by omega) (by omega)).mp o⟩] at hld
          have := mv (by omega)
          rw [hld] at this
          exact s8_take (c := 9) hB3 hV3 ht3 (by omega) this
      · have hy : at_ = 0 := by
          have : ¬ 1 ≤ at_ := fun z => y ((nI_leI (a := 1) (by omega) (by omega)).mpr z)
          omega
        rw [if_pos hy] at hld
        have := mv (by omega)
        rw [hld] at this
        exact s8_take (c := 0) hB3 hV3 ht3 (by omega) this
    · have hw : gp < nd b (tN b c - 1) := by
        have : ¬ nd b (tN b c - 1) ≤ gp := fun z => w ((nI_leI (by omega) (by omega)).mpr z)
        omega
      rw [e1]
      have hld : ld b (tN b c - 1) c gp = if 4 ≤ b 1 (tN b c - 1) then rl b c else c := by unfold ld; rw [if_pos hw]
      refine ⟨fun y => go51 c ?_ hc, fun y => s8_rolls hB3 hV3 hc ?_⟩
      · have := (nI_ltI (b := 4) (by omega) (by omega)).mp y
        rw [hld, if_neg (by omega)]
      · have : ¬ b 1 (tN b c - 1) < 4 := fun z => y ((nI_ltI (b := 4) (by omega) (by omega)).mpr z)
        rw [rl_bup8]
        exact go51 _ (by rw [hld, if_pos (by omega)]) (rl_in hc)
  · have hz : tN b c = 0 := by
      by_cases z : tN b c = 0
      · exact z
      · refine absurd ?_ q
        rw [show t8I (tN b c) = nI (tN b c - 1) from if_neg z]
        exact nI_pos' (by omega)
    exact h g3 (by unfold pl; rw [if_pos hz]; exact hB3) hF3
theorem s8_goNext {Q : Int32 → Mm → Prop} {g : Mm} {a : Nat} {b : Bx} {c : Nat} (hB : RowIs (g.1 a) b) (hV : Vb b) (h8 : b 8 0 < 20000) (hc : 1 ≤ c ∧ c ≤ 5) (h : ∀ g', RowIs (g'.1 a) (pl b c (gr b 0)) → Fr (fun q k => q = a) g g' → Q (t8I (tN b c)) g') : o_X8_goNext Q a g (nI c) := by
  have e15 : g.1 a (15 : Int32).toNatClampNeg = nI (b 8 0) := hB.1.2.2.2.2
  have := gr_le (k := 0) hV
  refine ⟨vlit 15 (by omega) (by omega), s8_grip hB hV (by omega) (by rw [e15, nI_1]) (s8_goPlay hB hV h8 hc (by omega) h)⟩
