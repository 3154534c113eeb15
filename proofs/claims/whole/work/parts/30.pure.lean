/-! PURE: numbers, truth values, memories -/
def bI (p : Prop) [Decidable p] : Int32 := if p then 1 else 0
theorem bI_t {p : Prop} [Decidable p] (h : p) : bI p = 1 := if_pos h
theorem bI_f {p : Prop} [Decidable p] (h : ¬ p) : bI p = 0 := if_neg h
theorem bI_nar {p : Prop} [Decidable p] : narrow .boolean (.int (bI p)) = .int (bI p) := by unfold bI; split <;> rfl
theorem bI_br {p A B : Prop} [Decidable p] (f : ¬ p → A) (t : p → B) : (bI p = 0 → A) ∧ (¬ bI p = 0 → B) := by
  by_cases h : p
  · rw [bI_t h]; exact ⟨fun q => absurd q (by decide), fun _ => t h⟩
  · rw [bI_f h]; exact ⟨fun _ => f h, fun q => absurd rfl q⟩
theorem bI_rb {p A B : Prop} [Decidable p] (f : ¬ p → A) (t : p → B) : (¬ bI p = 0 → B) ∧ (bI p = 0 → A) := ⟨(bI_br f t).2, (bI_br f t).1⟩
theorem lg_lt (x y : Int64) : lg_cmp x y < 0 ↔ x < y := by
  unfold lg_cmp
  by_cases h : x > y
  · rw [if_pos h]; exact ⟨fun q => absurd q (by decide), fun q => absurd q (Int64.lt_asymm h)⟩
  · rw [if_neg h]
    by_cases h2 : x = y
    · rw [if_pos h2]; subst h2; exact ⟨fun q => absurd q (by decide), fun q => absurd q (Int64.lt_irrefl)⟩
    · rw [if_neg h2]; exact ⟨fun _ => Int64.lt_of_le_of_ne (Int64.not_lt.mp h) h2, fun _ => by decide⟩
theorem lg_gt (x y : Int64) : 0 < lg_cmp x y ↔ y < x := by
  unfold lg_cmp
  by_cases h : x > y
  · rw [if_pos h]; exact ⟨fun _ => h, fun _ => by decide⟩
  · rw [if_neg h]
    by_cases h2 : x = y
    · rw [if_pos h2]; exact ⟨fun q => absurd q (by decide), fun q => absurd q h⟩
    · rw [if_neg h2]; exact ⟨fun q => absurd q (by decide), fun q => absurd q h⟩
theorem lg_le (x y : Int64) : lg_cmp x y ≤ 0 ↔ x ≤ y := lg_cmp_le x y
theorem w_lt (a b : Int32) : a.toInt64 < b.toInt64 ↔ a < b := by
  rw [Int64.lt_iff_toInt_lt, Int32.lt_iff_toInt_lt, Int32.toInt_toInt64, Int32.toInt_toInt64]
theorem s7_within {Q : Int32 → Mm → Prop} {g : Mm} {x a b : Int32} (h : Q (bI (a ≤ x ∧ x ≤ b)) g) : o_X7_within Q g x a b := by
  unfold o_X7_within
  refine ⟨fun c => ?_, fun c => ⟨fun d => ?_, fun d => ?_⟩⟩
  · rw [bI_f (fun q => absurd c (Int32.not_lt.mpr q.1))] at h; exact h
  · rw [bI_f (fun q => absurd d (Int32.not_lt.mpr q.2))] at h; exact h
  · rw [bI_t ⟨Int32.not_lt.mp c, Int32.not_lt.mp d⟩] at h; exact h
theorem s8_in {Q : Int32 → Mm → Prop} {g : Mm} {x : Int32} {a' b' : Int64} (a b : Int32) (ha : a' = a.toInt64) (hb : b' = b.toInt64) (h : Q (bI (a ≤ x ∧ x ≤ b)) g) : o_X8_in Q g x.toInt64 a' b' := by
  subst ha; subst hb
  unfold o_X8_in
  rw [lg_lt, lg_gt, w_lt, w_lt]
  refine ⟨fun c => ?_, fun c => ⟨fun d => ?_, fun d => ?_⟩⟩
  · rw [bI_f (fun q => absurd c (Int32.not_lt.mpr q.1))] at h; exact h
  · rw [bI_f (fun q => absurd d (Int32.not_lt.mpr q.2))] at h; exact h
  · rw [bI_t ⟨Int32.not_lt.mp c, Int32.not_lt.mp d⟩] at h; exact h
theorem s7_isRow {Q : Int32 → Mm → Prop} {g : Mm} {x : Int32} (h : Q (bI (0 ≤ x ∧ x ≤ 7)) g) : o_X7_isRow Q g x := s7_within ⟨bI_nar, h⟩
theorem s8_isRow {Q : Int32 → Mm → Prop} {g : Mm} {x : Int32} (h : Q (bI (0 ≤ x ∧ x ≤ 7)) g) : o_X8_isRow Q g x := s8_in 0 7 rfl rfl ⟨bI_nar, h⟩
theorem s7_isColumn {Q : Int32 → Mm → Prop} {g : Mm} {x : Int32} (h : Q (bI (1 ≤ x ∧ x ≤ 5)) g) : o_X7_isColumn Q g x := s7_within ⟨bI_nar, h⟩
theorem s8_isColumn {Q : Int32 → Mm → Prop} {g : Mm} {x : Int32} (h : Q (bI (1 ≤ x ∧ x ≤ 5)) g) : o_X8_isColumn Q g x := s8_in 1 5 rfl rfl ⟨bI_nar, h⟩
theorem s7_isToy {Q : Int32 → Mm → Prop} {g : Mm} {x : Int32} (h : Q (bI (0 ≤ x ∧ x ≤ g.1 9 4 - 1)) g) : o_X7_isToy Q g x := s7_within ⟨bI_nar, h⟩
theorem vin {x : Int32} {n : Nat} (k : Nat) (hx : x = nI k) (h : k < n) (hn : n < 2147483648) : vp_in x n := by rw [hx]; exact vp_in_nI h hn
theorem s8_toys {Q : Int32 → Mm → Prop} {g : Mm} (h : Q (g.1 87 0) g) : o_X8_toys Q g := ⟨vin 0 rfl (by decide) (by decide), h⟩
theorem s8_isToy {Q : Int32 → Mm → Prop} {g : Mm} {x : Int32} (h : Q (bI (0 ≤ x ∧ x ≤ g.1 87 0 - 1)) g) : o_X8_isToy Q g x := s8_toys (s8_in 0 (g.1 87 0 - 1) rfl rfl ⟨bI_nar, h⟩)
theorem s7_noCase {Q : Int32 → Mm → Prop} {g : Mm} (h : Q (bI (g.1 9 4 = 0)) g) : o_X7_noCase Q g := ⟨fun c => by rw [bI_f c] at h; exact h, fun c => by rw [bI_t c] at h; exact h⟩
/-- reading a memory that was written -/
theorem mset_at (g : Mm) (j k : Nat) (v : Int32) (a b : Nat) : (mset g j k v).1 a b = if a = j ∧ b = k then v else g.1 a b := by
  show va_up g.1 j (upd (g.1 j) k v) a b = _
  unfold va_up upd
  by_cases h : a = j
  · subst h
    by_cases h2 : b = k
    · simp [h2]
    · simp [h2]
  · simp [h]
theorem mset_2 (g : Mm) (j k : Nat) (v : Int32) : (mset g j k v).2 = g.2 := rfl
theorem mcpy_at (g : Mm) (a i b j n : Nat) (q k : Nat) : (mcpy g a i b j n).1 q k = if q = b ∧ j ≤ k ∧ k < j + n then g.1 a (i + (k - j)) else g.1 q k := by
  show va_up g.1 b (va_cpy (g.1 a) (g.1 b) i j n) q k = _
  unfold va_up va_cpy
  by_cases h : q = b
  · subst h
    by_cases h2 : j ≤ k ∧ k < j + n
    · simp [h2]
    · simp [h2]
  · simp [h]
/-- T: the places that may have changed -/
def Fr (T : Nat → Nat → Prop) (g g' : Mm) : Prop := ∀ j k, ¬ T j k → g'.1 j k = g.1 j k
theorem Fr.rfl {T : Nat → Nat → Prop} {g : Mm} : Fr T g g := fun _ _ _ => Eq.refl _
theorem Fr.trans {T : Nat → Nat → Prop} {g g1 g2 : Mm} (h : Fr T g g1) (h2 : Fr T g1 g2) : Fr T g g2 := fun j k n => (h2 j k n).trans (h j k n)
theorem Fr.set {T : Nat → Nat → Prop} {g g1 : Mm} {j k : Nat} {v : Int32} (h : Fr T g g1) (ht : T j k) : Fr T g (mset g1 j k v) := fun a b n => by
  rw [mset_at, if_neg (fun q => n (by rw [q.1, q.2]; exact ht))]
  exact h a b n
theorem Fr.cpy {T : Nat → Nat → Prop} {g g1 : Mm} {a i b j n : Nat} (h : Fr T g g1) (ht : ∀ k, j ≤ k → k < j + n → T b k) : Fr T g (mcpy g1 a i b j n) := fun q k z => by
  rw [mcpy_at, if_neg (fun w => z (by rw [w.1]; exact ht k w.2.1 w.2.2))]
  exact h q k z
theorem Fr.mono {T T' : Nat → Nat → Prop} {g g' : Mm} (h : Fr T g g') (ht : ∀ j k, T j k → T' j k) : Fr T' g g' := fun j k n => h j k (fun q => n (ht j k q))
/-! THE RELATION between the class' memory (cells 0 to 85) and the reference's (86 to 99) -/
def RowsR (g : Mm) : Prop := ∀ r, r < 8 → ((g.1 93 r = 1 ∧ g.1 (60 + 2 * r) 1 = 0) ∨ (g.1 93 r = 0 ∧ g.1 (60 + 2 * r) 1 = 1)) ∧ g.1 91 r = g.1 (60 + 2 * r) 2 ∧ g.1 92 r = g.1 (60 + 2 * r) 3 ∧ (∃ n : Nat, n ≤ 40 ∧ g.1 (60 + 2 * r) 3 = nI n) ∧ ∀ i, i < 40 → g.1 94 (40 * r + i) = g.1 (60 + 2 * r + 1) i
def TapeR (g : Mm) : Prop := g.1 86 12 = g.1 2 2 ∧ ∃ n : Nat, n ≤ 70 ∧ g.1 2 2 = nI n ∧ ∀ i, i < n → g.1 96 i = g.1 3 i ∧ ∃ b : Nat, b ≤ 255 ∧ g.1 3 i = nI b
def FaultR (g : Mm) : Prop := g.1 86 13 = g.1 0 7
def FindR (g : Mm) : Prop := g.1 86 5 = g.1 0 8
abbrev Bx : Type := Nat → Nat → Nat
def BoxIs (g : Mm) (j : Nat) (b : Bx) : Prop := (g.1 j 4 = nI (b 0 0) ∧ g.1 j 5 = nI (b 5 0) ∧ g.1 j 6 = nI (b 6 0) ∧ g.1 j 7 = nI (b 7 0) ∧ g.1 j 8 = nI (b 8 0)) ∧ ∀ t, t < b 0 0 → g.1 (j + 1) t = nI (b 1 t) ∧ g.1 (j + 2) t = nI (b 2 t) ∧ g.1 (j + 3) t = nI (b 3 t) ∧ g.1 (j + 4) t = nI (b 4 t)
def RowIs (f : Nat → Int32) (b : Bx) : Prop := (f 0 = nI (b 0 0) ∧ f 16 = nI (b 5 0) ∧ f 17 = nI (b 6 0) ∧ f 18 = nI (b 7 0) ∧ f 15 = nI (b 8 0)) ∧ ∀ t, t < b 0 0 → f (1 + t) = nI (b 1 t) ∧ f (8 + t) = nI (b 2 t) ∧ f (19 + t) = nI (b 3 t) ∧ f (26 + t) = nI (b 4 t)
def Vb (b : Bx) : Prop := (1 ≤ b 0 0 ∧ b 0 0 ≤ 7) ∧ (b 5 0 ≤ 9 ∧ b 6 0 ≤ 9 ∧ 1 ≤ b 7 0 ∧ b 7 0 ≤ 9 ∧ b 8 0 ≤ 20000) ∧ ∀ t, t < b 0 0 → (1 ≤ b 1 t ∧ b 1 t ≤ 5) ∧ (1 ≤ b 2 t ∧ b 2 t ≤ 9) ∧ (b 3 t ≤ 5 ∨ b 3 t = 9) ∧ b 4 t ≤ 7
/-- the Before at cell i takes b' back to b -/
def Und (g : Mm) (i : Nat) (b b' : Bx) : Prop := (g.1 i 0 = nI (b 8 0) ∧ g.1 i 1 = nI (b 5 0) ∧ g.1 i 2 = nI (b 6 0)) ∧ (b' 0 0 = b 0 0 ∧ b' 7 0 = b 7 0 ∧ ∀ t, t < b 0 0 → b' 1 t = b 1 t ∧ b' 2 t = b 2 t) ∧ ((g.1 i 3 = -1000000 ∧ ∀ t, t < b 0 0 → b' 3 t = b 3 t ∧ b' 4 t = b 4 t) ∨ ∃ u, u < b 0 0 ∧ g.1 i 3 = nI u ∧ g.1 i 4 = nI (b 3 u) ∧ g.1 i 5 = nI (b 4 u) ∧ ∀ t, t < b 0 0 → t ≠ u → b' 3 t = b 3 t ∧ b' 4 t = b 4 t)
def ActsR (g : Mm) (b : Bx) : Prop := ∃ (n f : Nat) (bs : Nat → Bx), (n ≤ 24 ∧ f < 24) ∧ (g.1 14 2 = nI n ∧ g.1 86 4 = nI n ∧ g.1 14 1 = nI f) ∧ bs n = b ∧ ∀ k, k < n → RowIs (fun i => g.1 90 (33 * k + i)) (bs k) ∧ (Vb (bs k) ∧ bs k 8 0 ≤ 9999) ∧ Und g (16 + (f + 24 - n + k) % 24) (bs k) (bs (k + 1))
def CaseR (g : Mm) : Prop := ∃ b : Bx, BoxIs g 9 b ∧ RowIs (g.1 87) b ∧ (b 0 0 = 0 ∨ Vb b) ∧ ActsR g b ∧ b 8 0 ≤ 9999
def ImgR (g : Mm) : Prop := ∀ k, k < 2 → (g.1 89 k = 0 ∧ g.1 (76 + 5 * k) 4 = 0) ∨ (g.1 89 k = 1 ∧ ∃ b : Bx, Vb b ∧ b 8 0 ≤ 9999 ∧ BoxIs g (76 + 5 * k) b ∧ RowIs (fun i => g.1 88 (33 * k + i)) b)
def AskR (g : Mm) : Prop := ∃ n : Nat, n ≤ 16 ∧ g.1 58 1 = nI n ∧ g.1 86 23 = nI n ∧ ∀ i, i < n → g.1 59 i = g.1 99 i
def Rel (g : Mm) : Prop := RowsR g ∧ TapeR g ∧ FaultR g ∧ FindR g ∧ CaseR g ∧ ImgR g ∧ AskR g
/-! each part is kept where its places are -/
theorem RowsR.fr {T : Nat → Nat → Prop} {g g' : Mm} (h : RowsR g) (hf : Fr T g g') (ht : ∀ j k, T j k → ¬ ((60 ≤ j ∧ j < 76) ∨ (91 ≤ j ∧ j ≤ 94))) : RowsR g' := by
  intro r hr
  have e : ∀ j k, ((60 ≤ j ∧ j < 76) ∨ (91 ≤ j ∧ j ≤ 94)) → g'.1 j k = g.1 j k := fun j k q => hf j k (fun z => ht j k z q)
  have h1 := h r hr
  rw [e 93 r (by omega), e 91 r (by omega), e 92 r (by omega), e (60 + 2 * r) 1 (by omega), e (60 + 2 * r) 2 (by omega), e (60 + 2 * r) 3 (by omega)]
  refine ⟨h1.1, h1.2.1, h1.2.2.1, h1.2.2.2.1, fun i hi => ?_⟩
  rw [e 94 _ (by omega), e (60 + 2 * r + 1) i (by omega)]
  exact h1.2.2.2.2 i hi
theorem TapeR.fr {T : Nat → Nat → Prop} {g g' : Mm} (h : TapeR g) (hf : Fr T g g') (ht : ∀ j k, T j k → ¬ ((j = 2 ∧ k = 2) ∨ j = 3 ∨ (j = 86 ∧ k = 12) ∨ j = 96)) : TapeR g' := by
  have e : ∀ j k, ((j = 2 ∧ k = 2) ∨ j = 3 ∨ (j = 86 ∧ k = 12) ∨ j = 96) → g'.1 j k = g.1 j k := fun j k q => hf j k (fun z => ht j k z q)
  obtain ⟨h1, n, hn, h2, h3⟩ := h
  refine ⟨by rw [e 86 12 (by omega), e 2 2 (by omega)]; exact h1, n, hn, by rw [e 2 2 (by omega)]; exact h2, fun i hi => ?_⟩
  rw [e 96 i (by omega), e 3 i (by omega)]
  exact h3 i hi
theorem FaultR.fr {T : Nat → Nat → Prop} {g g' : Mm} (h : FaultR g) (hf : Fr T g g') (ht : ∀ j k, T j k → ¬ ((j = 86 ∧ k = 13) ∨ (j = 0 ∧ k = 7))) : FaultR g' := by
  have e : ∀ j k, ((j = 86 ∧ k = 13) ∨ (j = 0 ∧ k = 7)) → g'.1 j k = g.1 j k := fun j k q => hf j k (fun z => ht j k z q)
  show g'.1 86 13 = g'.1 0 7
  rw [e 86 13 (by omega), e 0 7 (by omega)]
  exact h
theorem FindR.fr {T : Nat → Nat → Prop} {g g' : Mm} (h : FindR g) (hf : Fr T g g') (ht : ∀ j k, T j k → ¬ ((j = 86 ∧ k = 5) ∨ (j = 0 ∧ k = 8))) : FindR g' := by
  have e : ∀ j k, ((j = 86 ∧ k = 5) ∨ (j = 0 ∧ k = 8)) → g'.1 j k = g.1 j k := fun j k q => hf j k (fun z => ht j k z q)
  show g'.1 86 5 = g'.1 0 8
  rw [e 86 5 (by omega), e 0 8 (by omega)]
  exact h
theorem BoxIs.eq {g g' : Mm} {j : Nat} {b : Bx} (h : BoxIs g j b) (e : ∀ q k, j ≤ q → q ≤ j + 4 → g'.1 q k = g.1 q k) : BoxIs g' j b := by
  obtain ⟨⟨h1, h2, h3, h4, h5⟩, h6⟩ := h
  refine ⟨⟨?_, ?_, ?_, ?_, ?_⟩, fun t ht => ?_⟩
  · rw [e _ _ (by omega) (by omega)]; exact h1
  · rw [e _ _ (by omega) (by omega)]; exact h2
  · rw [e _ _ (by omega) (by omega)]; exact h3
  · rw [e _ _ (by omega) (by omega)]; exact h4
  · rw [e _ _ (by omega) (by omega)]; exact h5
  · have h7 := h6 t ht
    rw [e (j + 1) _ (by omega) (by omega), e (j + 2) _ (by omega) (by omega), e (j + 3) _ (by omega) (by omega), e (j + 4) _ (by omega) (by omega)]
    exact h7
theorem RowIs.eq {f f' : Nat → Int32} {b : Bx} (h : RowIs f b) (e : ∀ i, f' i = f i) : RowIs f' b := by
  have : f' = f := funext e
  rw [this]; exact h
theorem Und.eq {g g' : Mm} {i : Nat} {b b' : Bx} (h : Und g i b b') (e : ∀ k, g'.1 i k = g.1 i k) : Und g' i b b' := by
  unfold Und
  rw [e 0, e 1, e 2, e 3, e 4, e 5]
  exact h
theorem ActsR.fr {g g' : Mm} {b : Bx} (h : ActsR g b) (e : ∀ j k, ((14 ≤ j ∧ j < 40) ∨ (j = 86 ∧ k = 4) ∨ j = 90) → g'.1 j k = g.1 j k) : ActsR g' b := by
  obtain ⟨n, f, bs, h1, h2, h3, h4⟩ := h
  refine ⟨n, f, bs, h1, ?_, h3, fun k hk => ?_⟩
  · rw [e 14 2 (by omega), e 86 4 (by omega), e 14 1 (by omega)]; exact h2
  · obtain ⟨a, c, d⟩ := h4 k hk
    refine ⟨a.eq (fun i => e _ _ (by omega)), c, d.eq (fun q => e _ _ (Or.inl ⟨?_, ?_⟩))⟩
    · omega
    · have := Nat.mod_lt (f + 24 - n + k) (show 0 < 24 by decide)
      omega
theorem CaseR.fr {T : Nat → Nat → Prop} {g g' : Mm} (h : CaseR g) (hf : Fr T g g') (ht : ∀ j k, T j k → ¬ ((9 ≤ j ∧ j < 40) ∨ (j = 86 ∧ k = 4) ∨ j = 87 ∨ j = 90)) : CaseR g' := by
  have e : ∀ j k, ((9 ≤ j ∧ j < 40) ∨ (j = 86 ∧ k = 4) ∨ j = 87 ∨ j = 90) → g'.1 j k = g.1 j k := fun j k q => hf j k (fun z => ht j k z q)
  obtain ⟨b, h1, h2, h3, h4, h5⟩ := h
  exact ⟨b, h1.eq (fun q k _ _ => e q k (by omega)), h2.eq (fun i => e _ _ (by omega)), h3, h4.fr (fun j k q => e j k (by omega)), h5⟩
theorem ImgR.fr {T : Nat → Nat → Prop} {g g' : Mm} (h : ImgR g) (hf : Fr T g g') (ht : ∀ j k, T j k → ¬ ((76 ≤ j ∧ j < 86) ∨ j = 88 ∨ j = 89)) : ImgR g' := by
  have e : ∀ j k, ((76 ≤ j ∧ j < 86) ∨ j = 88 ∨ j = 89) → g'.1 j k = g.1 j k := fun j k q => hf j k (fun z => ht j k z q)
  intro k hk
  rw [e 89 k (by omega), e (76 + 5 * k) 4 (by omega)]
  rcases h k hk with q | ⟨q, b, h1, h2, h3, h4⟩
  · exact Or.inl q
  · exact Or.inr ⟨q, b, h1, h2, h3.eq (fun q k _ _ => e q k (by omega)), h4.eq (fun i => e _ _ (by omega))⟩
theorem AskR.fr {T : Nat → Nat → Prop} {g g' : Mm} (h : AskR g) (hf : Fr T g g') (ht : ∀ j k, T j k → ¬ ((j = 58 ∧ k = 1) ∨ j = 59 ∨ (j = 86 ∧ k = 23) ∨ j = 99)) : AskR g' := by
  have e : ∀ j k, ((j = 58 ∧ k = 1) ∨ j = 59 ∨ (j = 86 ∧ k = 23) ∨ j = 99) → g'.1 j k = g.1 j k := fun j k q => hf j k (fun z => ht j k z q)
  obtain ⟨n, hn, h1, h2, h3⟩ := h
  refine ⟨n, hn, by rw [e 58 1 (by omega)]; exact h1, by rw [e 86 23 (by omega)]; exact h2, fun i hi => ?_⟩
  rw [e 59 i (by omega), e 99 i (by omega)]
  exact h3 i hi
