/-! the two lexers -/
abbrev fg (v : Nat) : Prop := 48 ≤ v ∧ v ≤ 57
theorem bI_iff {p q : Prop} [Decidable p] [Decidable q] (h : p ↔ q) : bI p = bI q := by
  unfold bI
  by_cases z : p
  · rw [if_pos z, if_pos (h.mp z)]
  · rw [if_neg z, if_neg (fun y => z (h.mpr y))]
theorem rngI {a b v : Nat} (ha : a < 1000) (hb : b < 1000) (hv : v < 1000) : (nI a ≤ nI v ∧ nI v ≤ nI b) ↔ (a ≤ v ∧ v ≤ b) := by
  rw [nI_leI (by omega) (by omega), nI_leI (by omega) (by omega)]
theorem s5_fig {Q : Int32 → Mm → Prop} {g : Mm} {v : Nat} (hv : v < 1000) (h : Q (bI (fg v)) g) : o_X5_isFigure Q g (nI v) := by
  refine ⟨fun q => ?_, fun q => ⟨fun q2 => ?_, fun q2 => ?_⟩⟩
  · have := (nI_ltI (b := 48) (by omega) (by omega)).mp q
    rw [bI_f (by omega)] at h; exact h
  · have := (nI_ltI (a := 57) (by omega) (by omega)).mp q2
    rw [bI_f (by omega)] at h; exact h
  · have a1 : ¬ v < 48 := fun z => q ((nI_ltI (b := 48) (by omega) (by omega)).mpr z)
    have a2 : ¬ 57 < v := fun z => q2 ((nI_ltI (a := 57) (by omega) (by omega)).mpr z)
    rw [bI_t (by omega)] at h; exact h
theorem s8_fig {Q : Int32 → Mm → Prop} {g : Mm} {v : Nat} (hv : v < 1000) (h : Q (bI (fg v)) g) : o_X8_isFigure Q g (nI v) := by
  refine s8_in 48 57 rfl rfl ⟨bI_nar, ?_⟩
  have e : bI ((48 : Int32) ≤ nI v ∧ nI v ≤ 57) = bI (fg v) := bI_iff (rngI (a := 48) (b := 57) (by omega) (by omega) hv)
  rw [e]; exact h
def gl (T : Nat → Nat) (n p : Nat) : Nat → Nat → Nat
  | 0, j => j
  | m + 1, j => if p + j < n ∧ fg (T (p + j)) then gl T n p m (j + 1) else j
def dv (T : Nat → Nat) (p : Nat) : Nat → Nat
  | 0 => 0
  | j + 1 => dv T p j * 10 + (T (p + j) - 48)
def lz (T : Nat → Nat) (n p : Nat) : Nat := if p < n ∧ fg (T p) then gl T n p 3 0 else 1
def vl (T : Nat → Nat) (n p : Nat) : Nat := dv T p (lz T n p)
abbrev kn (v : Nat) : Prop := (97 ≤ v ∧ v ≤ 122) ∨ v = 44 ∨ v = 59
def tk (T : Nat → Nat) (n p : Nat) : Nat := if n ≤ p then 257 else if fg (T p) then (if lz T n p ≤ 2 then 256 else 258) else if kn (T p) then T p else 258
def kd (T : Nat → Nat) (n p : Nat) : Nat := if n ≤ p then 0 else if fg (T p) then (if lz T n p ≤ 2 then 2 else 4) else if 97 ≤ T p ∧ T p ≤ 122 then 1 else if T p = 44 ∨ T p = 59 then 3 else 4
def Tp7 (T : Nat → Nat) (n : Nat) (g : Mm) : Prop := g.1 2 2 = nI n ∧ ∀ i, i < n → g.1 3 i = nI (T i)
def Tp8 (T : Nat → Nat) (n : Nat) (g : Mm) : Prop := g.1 86 12 = nI n ∧ ∀ i, i < n → g.1 96 i = nI (T i)
def Tv (T : Nat → Nat) (n : Nat) : Prop := n ≤ 70 ∧ ∀ i, i < n → T i ≤ 255
def Tok7 (T : Nat → Nat) (n : Nat) (g : Mm) (p : Nat) : Prop := g.1 2 4 = nI p ∧ g.1 2 5 = nI (tk T n p) ∧ (tk T n p < 257 → g.1 2 6 = nI (p + lz T n p)) ∧ (tk T n p = 256 → g.1 2 7 = nI (vl T n p))
def Tok8 (T : Nat → Nat) (n : Nat) (g : Mm) (p : Nat) : Prop := g.1 86 14 = nI p ∧ g.1 86 16 = nI (kd T n p) ∧ (tk T n p < 257 → g.1 86 15 = nI (lz T n p)) ∧ (tk T n p = 256 → g.1 86 17 = nI (vl T n p))
theorem Tp7.eq {T : Nat → Nat} {n : Nat} {g g' : Mm} (h : Tp7 T n g) (e2 : g'.1 2 2 = g.1 2 2) (e3 : ∀ i, g'.1 3 i = g.1 3 i) : Tp7 T n g' := ⟨by rw [e2]; exact h.1, fun i hi => by rw [e3]; exact h.2 i hi⟩
theorem Tp8.eq {T : Nat → Nat} {n : Nat} {g g' : Mm} (h : Tp8 T n g) (e2 : g'.1 86 12 = g.1 86 12) (e3 : ∀ i, g'.1 96 i = g.1 96 i) : Tp8 T n g' := ⟨by rw [e2]; exact h.1, fun i hi => by rw [e3]; exact h.2 i hi⟩
theorem gl_in {T : Nat → Nat} {n p : Nat} : ∀ m j, p + j ≤ n → j ≤ gl T n p m j ∧ gl T n p m j ≤ j + m ∧ p + gl T n p m j ≤ n
  | 0, j, h => ⟨Nat.le_refl _, Nat.le_refl _, h⟩
  | m + 1, j, h => by
    rw [gl]
    split
    · rename_i z
      have := gl_in (T := T) (n := n) (p := p) m (j + 1) (by omega)
      omega
    · omega
theorem lz_in {T : Nat → Nat} {n p : Nat} (h : p < n) : 1 ≤ lz T n p ∧ lz T n p ≤ 3 ∧ p + lz T n p ≤ n := by
  unfold lz
  split
  · rename_i z
    rw [gl, Nat.add_zero, if_pos z]
    have := gl_in (T := T) (p := p) 2 (0 + 1) (n := n) (by omega)
    omega
  · omega
theorem s5_digits {T : Nat → Nat} {n p : Nat} (hT : Tv T n) {Q : Mm → Prop} {K : Mm → Prop} : ∀ (m j : Nat) (g : Mm), j + m = 3 → p + j ≤ n → Tp7 T n g → g.1 2 4 = nI p → g.1 2 6 = nI (p + j) → g.1 2 7 = nI (dv T p j) → (∀ g', g'.1 2 4 = nI p → g'.1 2 6 = nI (p + gl T n p m j) → g'.1 2 7 = nI (dv T p (gl T n p m j)) → Fr (fun q k => q = 2 ∧ 4 ≤ k ∧ k ≤ 7) g g' → K g') → o_X5_advanceNumber_13 Q K (m + 1) g := by
  have hn := hT.1
  intro m
  induction m with
  | zero =>
    intro j g hj hp ht e4 e6 e7 h
    refine ⟨fun _ => h g e4 e6 e7 Fr.rfl, fun _ => ⟨fun _ => h g e4 e6 e7 Fr.rfl, fun q => absurd ?_ q⟩⟩
    rw [e4, e6, show nI p + 3 = nI (p + 3) from nI_add p 3]
    exact (nI_leI (by omega) (by omega)).mpr (by omega)
  | succ m ih =>
    intro j g hj hp ht e4 e6 e7 h
    refine ⟨fun q => ?_, fun q => ⟨fun q2 => ?_, fun q2 => ?_⟩⟩
    · rw [ht.1, e6] at q
      have := (nI_leI (by omega) (by omega)).mp q
      rw [gl, if_neg (by omega)] at h
      exact h g e4 e6 e7 Fr.rfl
    · rw [e4, e6, show nI p + 3 = nI (p + 3) from nI_add p 3] at q2
      exact absurd ((nI_leI (by omega) (by omega)).mp q2) (by omega)
    · rw [ht.1, e6] at q
      have hl : p + j < n := Nat.not_le.mp (fun z => q ((nI_leI (by omega) (by omega)).mpr z))
      have hv := hT.2 (p + j) hl
      have hv6 : vp_in (g.1 2 6) 70 := by rw [e6]; exact vlit _ (by omega) (by omega)
      refine ⟨hv6, ?_⟩
      have e3 : g.1 3 (g.1 2 6).toNatClampNeg = nI (T (p + j)) := by rw [e6, cl (by omega)]; exact ht.2 _ hl
      rw [e3]
      refine s5_fig (by omega) (bI_br (fun c => ?_) (fun c => ⟨hv6, fun g5 e5 g6 eg6 => ?_⟩))
      · rw [gl, if_neg (fun z => c z.2)] at h
        exact h g e4 e6 e7 Fr.rfl
      · rw [e3, e7, show nI (dv T p j) * 10 = nI (dv T p j * 10) from pk_mul _ 10, nI_add, show nI (dv T p j * 10 + T (p + j)) - 48 = nI (dv T p j * 10 + T (p + j) - 48) from pk_sub (b := 48) (by omega)] at e5
        have F : Fr (fun q k => q = 2 ∧ 4 ≤ k ∧ k ≤ 7) g g6 := by
          rw [eg6, e5]
          exact Fr.set (T := fun q k => q = 2 ∧ 4 ≤ k ∧ k ≤ 7) (Fr.set (T := fun q k => q = 2 ∧ 4 ≤ k ∧ k ≤ 7) Fr.rfl (by omega)) (by omega)
        refine ih (j + 1) g6 (by omega) (by omega) (ht.eq (F _ _ (by omega)) (fun i => F _ _ (by omega))) ?_ ?_ ?_ (fun g' a4 a6 a7 f => ?_)
        · rw [eg6, mset_at, if_neg (by omega), e5, mset_at, if_neg (by omega)]; exact e4
        · rw [eg6, mset_at, if_pos ⟨rfl, rfl⟩, e5, mset_at, if_neg (by omega), e6, nI_1]; rfl
        · rw [eg6, mset_at, if_neg (by omega), e5, mset_at, if_pos ⟨rfl, rfl⟩, dv, Nat.add_sub_assoc (by omega)]
        · rw [gl, if_pos ⟨hl, c⟩] at h
          exact h g' a4 a6 a7 (F.trans f)
theorem s5_advance {T : Nat → Nat} {n p : Nat} (hT : Tv T n) (hp : p ≤ n) {Q : Mm → Prop} {g : Mm} (ht : Tp7 T n g) (h6 : g.1 2 6 = nI p) (h : ∀ g', Tok7 T n g' p → Fr (fun q k => q = 2 ∧ 4 ≤ k ∧ k ≤ 7) g g' → Q g') : o_X5_advance Q g := by
  have hn := hT.1
  intro g1 e1
  have F1 : Fr (fun q k => q = 2 ∧ 4 ≤ k ∧ k ≤ 7) g g1 := by rw [e1]; exact Fr.set (T := fun q k => q = 2 ∧ 4 ≤ k ∧ k ≤ 7) Fr.rfl (by omega)
  have a4 : g1.1 2 4 = nI p := by rw [e1, mset_at, if_pos ⟨rfl, rfl⟩, h6]
  have t1 : Tp7 T n g1 := ht.eq (F1 _ _ (by omega)) (fun i => F1 _ _ (by omega))
  refine ⟨fun q => ?_, fun q g11 e => ?_⟩
  · rw [a4, t1.1] at q
    have hl : p < n := (nI_ltI (by omega) (by omega)).mp q
    have hv := hT.2 p hl
    refine ⟨by rw [a4]; exact vlit _ (by omega) (by omega), fun x ex => ?_⟩
    rw [a4, cl (by omega), t1.2 p hl] at ex
    subst ex
    refine s5_fig (by omega) (bI_br (fun c => ?_) (fun c => ?_))
    · have l1 : lz T n p = 1 := by unfold lz; rw [if_neg (fun z => c z.2)]
      have fin : ∀ s, s = tk T n p → o_X5_advance_90 Q g1 (nI s) := by
        intro s es g7 e7 g8 e8
        have F : Fr (fun q k => q = 2 ∧ 4 ≤ k ∧ k ≤ 7) g g8 := by
          rw [e8, e7]
          exact Fr.set (T := fun q k => q = 2 ∧ 4 ≤ k ∧ k ≤ 7) (Fr.set (T := fun q k => q = 2 ∧ 4 ≤ k ∧ k ≤ 7) F1 (by omega)) (by omega)
        refine h g8 ⟨?_, ?_, fun _ => ?_, fun z => ?_⟩ F
        · rw [e8, mset_at, if_neg (by omega), e7, mset_at, if_neg (by omega)]; exact a4
        · rw [e8, mset_at, if_neg (by omega), e7, mset_at, if_pos ⟨rfl, rfl⟩, es]
        · rw [e8, mset_at, if_pos ⟨rfl, rfl⟩, e7, mset_at, if_neg (by omega), a4, nI_1, l1]
        · unfold tk at z
          rw [if_neg (by omega), if_neg c] at z
          split at z <;> omega
      have f72 : kn (T p) → o_X5_advance_72 Q g1 (nI (T p)) := fun z => ⟨fun y => absurd y (by decide), fun _ => fin _ (by unfold tk; rw [if_neg (by omega), if_neg c, if_pos z])⟩
      refine s7_within (bI_rb (fun d => ⟨fun d2 => f72 ?_, fun d2 => ⟨fun d3 => ⟨fun _ => fin 258 ?_, fun y => absurd rfl y⟩, fun d3 => f72 ?_⟩⟩) (fun d => f72 ?_))
      · exact Or.inr (Or.inl ((nI_eq (b := 44) (by omega) (by omega)).mp d2))
      · have b1 : ¬ (97 ≤ T p ∧ T p ≤ 122) := fun z => d ((rngI (a := 97) (b := 122) (by omega) (by omega) (by omega)).mpr z)
        have b2 : ¬ T p = 44 := fun z => d2 (by rw [z]; rfl)
        have b3 : ¬ T p = 59 := fun z => d3 (by rw [z]; rfl)
        unfold tk
        rw [if_neg (by omega), if_neg c, if_neg (by omega)]
      · exact Or.inr (Or.inr ((nI_eq (b := 59) (by omega) (by omega)).mp d3))
      · exact Or.inl ((rngI (a := 97) (b := 122) (by omega) (by omega) (by omega)).mp d)
    · have l1 : lz T n p = gl T n p 3 0 := by unfold lz; rw [if_pos ⟨hl, c⟩]
      have l2 := lz_in (T := T) hl
      intro g2 e2 g3 e3
      have F3 : Fr (fun q k => q = 2 ∧ 4 ≤ k ∧ k ≤ 7) g g3 := by
        rw [e3, e2]
        exact Fr.set (T := fun q k => q = 2 ∧ 4 ≤ k ∧ k ≤ 7) (Fr.set (T := fun q k => q = 2 ∧ 4 ≤ k ∧ k ≤ 7) F1 (by omega)) (by omega)
      have t3 : Tp7 T n g3 := ht.eq (F3 _ _ (by omega)) (fun i => F3 _ _ (by omega))
      have b4 : g2.1 2 4 = nI p := by rw [e2, mset_at, if_neg (by omega)]; exact a4
      refine ⟨4, s5_digits hT 3 0 g3 (by omega) (by omega) t3 ?_ ?_ ?_ (fun g4 c4 c6 c7 f4 => ?_)⟩
      · rw [e3, mset_at, if_neg (by omega)]; exact b4
      · rw [e3, mset_at, if_pos ⟨rfl, rfl⟩]; exact b4
      · rw [e3, mset_at, if_neg (by omega), e2, mset_at, if_pos ⟨rfl, rfl⟩]; rfl
      · rw [← l1] at c6 c7
        have fin : ∀ s g5, s = tk T n p → g5 = mset g4 2 5 (nI s) → Q g5 := by
          intro s g5 es e5
          have F : Fr (fun q k => q = 2 ∧ 4 ≤ k ∧ k ≤ 7) g g5 := by
            rw [e5]
            exact Fr.set (T := fun q k => q = 2 ∧ 4 ≤ k ∧ k ≤ 7) (F3.trans f4) (by omega)
          refine h g5 ⟨?_, ?_, fun _ => ?_, fun z => ?_⟩ F
          · rw [e5, mset_at, if_neg (by omega)]; exact c4
          · rw [e5, mset_at, if_pos ⟨rfl, rfl⟩, es]
          · rw [e5, mset_at, if_neg (by omega)]; exact c6
          · rw [e5, mset_at, if_neg (by omega)]; exact c7
        have es : g4.1 2 6 - g4.1 2 4 = nI (lz T n p) := by rw [c4, c6, pk_sub (by omega), show p + lz T n p - p = lz T n p by omega]
        refine ⟨fun d g5 e5 => fin 258 g5 ?_ e5, fun d g5 e5 => fin 256 g5 ?_ e5⟩
        · rw [es] at d
          have := (nI_ltI (a := 2) (by omega) (by omega)).mp d
          unfold tk
          rw [if_neg (by omega), if_pos c, if_neg (by omega)]
        · rw [es] at d
          have : ¬ 2 < lz T n p := fun z => d ((nI_ltI (a := 2) (by omega) (by omega)).mpr z)
          unfold tk
          rw [if_neg (by omega), if_pos c, if_pos (by omega)]
  · rw [a4, t1.1] at q
    have hl : ¬ p < n := fun z => q ((nI_ltI (by omega) (by omega)).mpr z)
    have tz : tk T n p = 257 := by unfold tk; rw [if_pos (by omega)]
    refine h g11 ⟨?_, ?_, fun z => by omega, fun z => by omega⟩ (by rw [e]; exact Fr.set (T := fun q k => q = 2 ∧ 4 ≤ k ∧ k ≤ 7) F1 (by omega))
    · rw [e, mset_at, if_neg (by omega)]; exact a4
    · rw [e, mset_at, if_pos ⟨rfl, rfl⟩, tz]; rfl
theorem gl_of {T : Nat → Nat} {n p L : Nat} (h0 : p < n ∧ fg (T p)) (h1 : 1 ≤ L) (h2 : p + L ≤ n) (hd : ∀ j, j < L → fg (T (p + j))) (he : p + L = n ∨ ¬ fg (T (p + L))) : gl T n p 3 0 = if L ≤ 2 then L else 3 := by
  rw [gl, Nat.add_zero, if_pos h0]
  by_cases z1 : L = 1
  · subst z1
    rw [gl, if_neg (fun y => he.elim (fun q => by omega) (fun q => q y.2))]; rfl
  · rw [gl, if_pos ⟨by omega, hd 1 (by omega)⟩]
    by_cases z2 : L = 2
    · subst z2
      rw [gl, if_neg (fun y => he.elim (fun q => by omega) (fun q => q y.2))]; rfl
    · rw [gl, if_pos ⟨by omega, hd 2 (by omega)⟩, gl, if_neg (by omega)]
theorem s8_count {T : Nat → Nat} {n p : Nat} (hT : Tv T n) {Q : Mm → Prop} {K : Mm → Prop} : ∀ (m L : Nat) (g : Mm), p + L + m = n → 1 ≤ L → (∀ j, j < L → fg (T (p + j))) → Tp8 T n g → g.1 86 14 = nI p → g.1 86 15 = nI L → g.1 86 16 = 2 → (∀ g' L, 1 ≤ L → p + L ≤ n → (∀ j, j < L → fg (T (p + j))) → (p + L = n ∨ ¬ fg (T (p + L))) → g'.1 86 15 = nI L → Fr (fun q k => q = 86 ∧ k = 15) g g' → K g') → ∃ f, o_X8_look_92 Q K f g := by
  have hn := hT.1
  intro m
  induction m with
  | zero =>
    intro L g e h1 hd ht e4 e5 e6 h
    refine ⟨1, fun q => absurd e6 q, fun _ => ⟨fun _ => h g L h1 (by omega) hd (Or.inl (by omega)) e5 Fr.rfl, fun q => absurd ?_ q⟩⟩
    rw [ht.1, e4, e5, nI_add]
    exact (nI_leI (by omega) (by omega)).mpr (by omega)
  | succ m ih =>
    intro L g e h1 hd ht e4 e5 e6 h
    have ea : g.1 86 14 + g.1 86 15 = nI (p + L) := by rw [e4, e5, nI_add]
    have hv := hT.2 (p + L) (by omega)
    by_cases c : fg (T (p + L))
    · have F : Fr (fun q k => q = 86 ∧ k = 15) g (mset g 86 15 (nI (L + 1))) := Fr.set (T := fun q k => q = 86 ∧ k = 15) Fr.rfl (by omega)
      obtain ⟨f, hf⟩ := ih (L + 1) (mset g 86 15 (nI (L + 1))) (by omega) (by omega) (fun j hj => by
        by_cases z : j = L
        · rw [z]; exact c
        · exact hd j (by omega)) (ht.eq (F _ _ (by omega)) (fun i => F _ _ (by omega))) (by rw [F _ _ (by omega)]; exact e4) (by rw [mset_at, if_pos ⟨rfl, rfl⟩]) (by rw [F _ _ (by omega)]; exact e6) (fun g' L' b1 b2 b3 b4 b5 f' => h g' L' b1 b2 b3 b4 b5 (F.trans f'))
      refine ⟨f + 1, fun q => absurd e6 q, fun _ => ⟨fun q => ?_, fun q => ⟨by rw [ea]; exact vlit _ (by omega) (by omega), ?_⟩⟩⟩
      · rw [ht.1, ea] at q
        exact absurd ((nI_leI (by omega) (by omega)).mp q) (by omega)
      · rw [ea, cl (by omega), ht.2 _ (by omega)]
        refine s8_fig (by omega) (bI_br (fun d => absurd c d) (fun _ g13 e13 => ?_))
        rw [e5, nI_1] at e13
        rw [e13]; exact hf
    · refine ⟨1, fun q => absurd e6 q, fun _ => ⟨fun q => ?_, fun q => ⟨by rw [ea]; exact vlit _ (by omega) (by omega), ?_⟩⟩⟩
      · rw [ht.1, ea] at q
        exact absurd ((nI_leI (by omega) (by omega)).mp q) (by omega)
      · rw [ea, cl (by omega), ht.2 _ (by omega)]
        exact s8_fig (by omega) (bI_br (fun _ => h g L h1 (by omega) hd (Or.inr c) e5 Fr.rfl) (fun d => absurd d c))
theorem s8_value {T : Nat → Nat} {n p L : Nat} (hT : Tv T n) {Q : Mm → Prop} {K : Mm → Prop} (h2 : p + L ≤ n) (hd : ∀ j, j < L → fg (T (p + j))) : ∀ (m k : Nat) (g : Mm), k + m = (if L ≤ 2 then L else 2) → Tp8 T n g → g.1 86 14 = nI p → g.1 86 15 = nI L → g.1 86 16 = 2 → g.1 86 17 = nI (dv T p k) → (∀ g', g'.1 86 17 = nI (dv T p (if L ≤ 2 then L else 2)) → Fr (fun q k => q = 86 ∧ k = 17) g g' → K g') → o_X8_look_151 Q K (m + 1) g (nI k) := by
  have hn := hT.1
  have hM : (if L ≤ 2 then L else 2) ≤ L ∧ (if L ≤ 2 then L else 2) ≤ 2 := by split <;> omega
  intro m
  induction m with
  | zero =>
    intro k g e ht e4 e5 e6 e7 h
    have ex : K g := h g (by rw [← e]; exact e7) Fr.rfl
    refine ⟨fun _ => ex, fun q => ⟨fun _ => ex, fun q2 => absurd ?_ q2⟩⟩
    rw [e5] at q
    have a1 : ¬ L ≤ k := fun z => q ((nI_leI (by omega) (by omega)).mpr z)
    have : 2 ≤ k := by
      by_cases z : L ≤ 2
      · rw [if_pos z] at e; omega
      · rw [if_neg z] at e; omega
    exact (nI_leI (a := 2) (by omega) (by omega)).mpr this
  | succ m ih =>
    intro k g e ht e4 e5 e6 e7 h
    have ea : g.1 86 14 + nI k = nI (p + k) := by rw [e4, nI_add]
    have hv := hT.2 (p + k) (by omega)
    have hk := hd k (by omega)
    refine ⟨fun q => ?_, fun q => ⟨fun q2 => absurd ((nI_leI (a := 2) (by omega) (by omega)).mp q2) (by omega), fun _ => ⟨fun q3 => absurd e6 q3, fun _ => ⟨by rw [ea]; exact vlit _ (by omega) (by omega), fun g14 eg x ex => ?_⟩⟩⟩⟩
    · rw [e5] at q
      exact absurd ((nI_leI (by omega) (by omega)).mp q) (by omega)
    · rw [nI_1] at ex; subst ex
      rw [ea, cl (by omega), ht.2 _ (by omega), e7, show (10 : Int32) * nI (dv T p k) = nI (10 * dv T p k) from pk_mul 10 _, nI_add, show nI (10 * dv T p k + T (p + k)) - 48 = nI (10 * dv T p k + T (p + k) - 48) from pk_sub (b := 48) (by omega)] at eg
      have F : Fr (fun q k => q = 86 ∧ k = 17) g g14 := by rw [eg]; exact Fr.set (T := fun q k => q = 86 ∧ k = 17) Fr.rfl (by omega)
      refine ih (k + 1) g14 (by omega) (ht.eq (F _ _ (by omega)) (fun i => F _ _ (by omega))) (by rw [F _ _ (by omega)]; exact e4) (by rw [F _ _ (by omega)]; exact e5) (by rw [F _ _ (by omega)]; exact e6) ?_ (fun g' a f => h g' a (F.trans f))
      rw [eg, mset_at, if_pos ⟨rfl, rfl⟩, dv, Nat.add_sub_assoc (by omega), Nat.mul_comm]
theorem s8_look {T : Nat → Nat} {n p : Nat} (hT : Tv T n) (hp : p ≤ n) {Q : Mm → Prop} {g : Mm} (ht : Tp8 T n g) (h : ∀ g', Tok8 T n g' p → Fr (fun q k => q = 86 ∧ 14 ≤ k ∧ k ≤ 17) g g' → Q g') : o_X8_look Q g (nI p) := by
  have hn := hT.1
  intro g1 e1 g2 e2 g3 e3 g4 e4
  have F4 : Fr (fun q k => q = 86 ∧ 14 ≤ k ∧ k ≤ 17) g g4 := by
    rw [e4, e3, e2, e1]
    exact Fr.set (T := fun q k => q = 86 ∧ 14 ≤ k ∧ k ≤ 17) (Fr.set (T := fun q k => q = 86 ∧ 14 ≤ k ∧ k ≤ 17) (Fr.set (T := fun q k => q = 86 ∧ 14 ≤ k ∧ k ≤ 17) (Fr.set (T := fun q k => q = 86 ∧ 14 ≤ k ∧ k ≤ 17) Fr.rfl (by omega)) (by omega)) (by omega)) (by omega)
  have a14 : g4.1 86 14 = nI p := by rw [e4, mset_at, if_neg (by omega), e3, mset_at, if_neg (by omega), e2, mset_at, if_neg (by omega), e1, mset_at, if_pos ⟨rfl, rfl⟩]
  have a15 : g4.1 86 15 = nI 1 := by rw [e4, mset_at, if_neg (by omega), e3, mset_at, if_neg (by omega), e2, mset_at, if_pos ⟨rfl, rfl⟩]; rfl
  have a17 : g4.1 86 17 = nI 0 := by rw [e4, mset_at, if_neg (by omega), e3, mset_at, if_pos ⟨rfl, rfl⟩]; rfl
  have a16 : g4.1 86 16 = 0 := by rw [e4, mset_at, if_pos ⟨rfl, rfl⟩]
  have t4 : Tp8 T n g4 := ht.eq (F4 _ _ (by omega)) (fun i => F4 _ _ (by omega))
  clear e1 e2 e3 e4
  refine ⟨fun q => ?_, fun q => ?_⟩
  · rw [a14, t4.1] at q
    have hl : p < n := by
      have : ¬ p = n := fun z => q (by rw [z])
      omega
    have hv := hT.2 p hl
    refine ⟨by rw [a14]; exact vlit _ (by omega) (by omega), fun x ex => ?_⟩
    rw [a14, cl (by omega), t4.2 p hl] at ex
    subst ex
    have other : ∀ s, s = kd T n p → s ≠ 2 → s < 5 → ¬ fg (T p) → o_X8_look_89 Q g4 (nI s) := by
      intro s es s2 s5 c g10 e10
      have l1 : lz T n p = 1 := by unfold lz; rw [if_neg (fun z => c z.2)]
      have n2 : ¬ nI s = 2 := fun z => s2 ((nI_eq (b := 2) (by omega) (by omega)).mp z)
      have b16 : g10.1 86 16 = nI s := by rw [e10, mset_at, if_pos ⟨rfl, rfl⟩]
      have b15 : g10.1 86 15 = nI 1 := by rw [e10, mset_at, if_neg (by omega)]; exact a15
      have n3 : ¬ g10.1 86 16 = 2 := by rw [b16]; exact n2
      refine ⟨1, fun _ => ⟨1, fun q => ?_, fun _ => ⟨fun q => absurd q (by decide), fun _ => ⟨fun _ => ⟨fun _ g16 e16 => ?_, fun q => absurd q n3⟩, fun q => absurd q n3⟩⟩⟩, fun q => absurd q n3⟩
      · rw [b15] at q
        exact absurd q (by decide)
      · have F : Fr (fun q k => q = 86 ∧ 14 ≤ k ∧ k ≤ 17) g g16 := by
          rw [e16, e10]
          exact Fr.set (T := fun q k => q = 86 ∧ 14 ≤ k ∧ k ≤ 17) (Fr.set (T := fun q k => q = 86 ∧ 14 ≤ k ∧ k ≤ 17) F4 (by omega)) (by omega)
        refine h g16 ⟨?_, ?_, fun _ => ?_, fun z => ?_⟩ F
        · rw [e16, mset_at, if_neg (by omega), e10, mset_at, if_neg (by omega)]; exact a14
        · rw [e16, mset_at, if_pos ⟨rfl, rfl⟩, b16, es]
        · rw [e16, mset_at, if_neg (by omega), b15, l1]
        · unfold tk at z
          rw [if_neg (by omega), if_neg c] at z
          split at z <;> omega
    refine s8_in 97 122 rfl rfl (bI_br (fun d => s8_fig (by omega) (bI_br (fun c => ⟨fun d2 => ?_, fun d2 => ⟨fun d3 => ?_, fun d3 => ?_⟩⟩) (fun c => ?_))) (fun d => ?_))
    · have b1 : ¬ (97 ≤ T p ∧ T p ≤ 122) := fun z => d ((rngI (a := 97) (b := 122) (by omega) (by omega) (by omega)).mpr z)
      have b2 := (nI_eq (b := 44) (by omega) (by omega)).mp d2
      exact other 3 (by unfold kd; rw [if_neg (by omega), if_neg c, if_neg b1, if_pos (Or.inl b2)]) (by decide) (by decide) c
    · have b1 : ¬ (97 ≤ T p ∧ T p ≤ 122) := fun z => d ((rngI (a := 97) (b := 122) (by omega) (by omega) (by omega)).mpr z)
      have b2 : ¬ T p = 44 := fun z => d2 (by rw [z]; rfl)
      have b3 : ¬ T p = 59 := fun z => d3 (by rw [z]; rfl)
      exact other 4 (by unfold kd; rw [if_neg (by omega), if_neg c, if_neg b1, if_neg (by omega)]) (by decide) (by decide) c
    · have b1 : ¬ (97 ≤ T p ∧ T p ≤ 122) := fun z => d ((rngI (a := 97) (b := 122) (by omega) (by omega) (by omega)).mpr z)
      have b2 := (nI_eq (b := 59) (by omega) (by omega)).mp d3
      exact other 3 (by unfold kd; rw [if_neg (by omega), if_neg c, if_neg b1, if_pos (Or.inr b2)]) (by decide) (by decide) c
    · intro g10 e10
      have F10 : Fr (fun q k => q = 86 ∧ 14 ≤ k ∧ k ≤ 17) g g10 := by
        rw [e10]
        exact Fr.set (T := fun q k => q = 86 ∧ 14 ≤ k ∧ k ≤ 17) F4 (by omega)
      have t10 : Tp8 T n g10 := ht.eq (F10 _ _ (by omega)) (fun i => F10 _ _ (by omega))
      have b16 : g10.1 86 16 = 2 := by rw [e10, mset_at, if_pos ⟨rfl, rfl⟩]
      have b14 : g10.1 86 14 = nI p := by rw [e10, mset_at, if_neg (by omega)]; exact a14
      have b15 : g10.1 86 15 = nI 1 := by rw [e10, mset_at, if_neg (by omega)]; exact a15
      have b17 : g10.1 86 17 = nI 0 := by rw [e10, mset_at, if_neg (by omega)]; exact a17
      refine s8_count hT (n - p - 1) 1 g10 (by omega) (by omega) (fun j hj => by rw [show j = 0 by omega]; exact c) t10 b14 b15 b16 (fun g11 L h1 h2 hd he c15 f11 => ?_)
      have F11 : Fr (fun q k => q = 86 ∧ 14 ≤ k ∧ k ≤ 17) g g11 := F10.trans (f11.mono (fun q k z => by omega))
      have c16 : g11.1 86 16 = 2 := by rw [f11 _ _ (by omega)]; exact b16
      have c14 : g11.1 86 14 = nI p := by rw [f11 _ _ (by omega)]; exact b14
      refine ⟨(if L ≤ 2 then L else 2) + 1, s8_value hT h2 hd _ 0 g11 (by omega) (ht.eq (F11 _ _ (by omega)) (fun i => F11 _ _ (by omega))) c14 c15 c16 (by rw [f11 _ _ (by omega)]; exact b17) (fun g12 d17 f12 => ?_)⟩
      have F12 : Fr (fun q k => q = 86 ∧ 14 ≤ k ∧ k ≤ 17) g g12 := F11.trans (f12.mono (fun q k z => by omega))
      have d16 : g12.1 86 16 = 2 := by rw [f12 _ _ (by omega)]; exact c16
      have d15 : g12.1 86 15 = nI L := by rw [f12 _ _ (by omega)]; exact c15
      have d14 : g12.1 86 14 = nI p := by rw [f12 _ _ (by omega)]; exact c14
      have lz1 : lz T n p = if L ≤ 2 then L else 3 := by
        unfold lz
        rw [if_pos ⟨hl, c⟩]
        exact gl_of ⟨hl, c⟩ h1 h2 hd he
      refine ⟨fun q => absurd d16 q, fun _ => ⟨fun q => ?_, fun q => ?_⟩⟩
      · rw [d15] at q
        have L2 := (nI_leI (b := 2) (by omega) (by omega)).mp q
        rw [if_pos L2] at lz1 d17
        intro g16 e16
        have kz : kd T n p = 2 := by unfold kd; rw [if_neg (by omega), if_pos c, if_pos (by omega)]
        refine h g16 ⟨?_, ?_, fun _ => ?_, fun _ => ?_⟩ (by rw [e16]; exact Fr.set (T := fun q k => q = 86 ∧ 14 ≤ k ∧ k ≤ 17) F12 (by omega))
        · rw [e16, mset_at, if_neg (by omega)]; exact d14
        · rw [e16, mset_at, if_pos ⟨rfl, rfl⟩, d16, kz]; rfl
        · rw [e16, mset_at, if_neg (by omega), d15, lz1]
        · rw [e16, mset_at, if_neg (by omega), d17]; unfold vl; rw [lz1]
      · rw [d15] at q
        have L2 : ¬ L ≤ 2 := fun z => q ((nI_leI (b := 2) (by omega) (by omega)).mpr z)
        rw [if_neg L2] at lz1
        intro g16 e16
        have kz : kd T n p = 4 := by unfold kd; rw [if_neg (by omega), if_pos c, if_neg (by omega)]
        have tz : tk T n p = 258 := by unfold tk; rw [if_neg (by omega), if_pos c, if_neg (by omega)]
        refine h g16 ⟨?_, ?_, fun z => by omega, fun z => by omega⟩ (by rw [e16]; exact Fr.set (T := fun q k => q = 86 ∧ 14 ≤ k ∧ k ≤ 17) F12 (by omega))
        · rw [e16, mset_at, if_neg (by omega)]; exact d14
        · rw [e16, mset_at, if_pos ⟨rfl, rfl⟩, kz]; rfl
    · have b1 := (rngI (a := 97) (b := 122) (by omega) (by omega) (by omega)).mp d
      have c : ¬ fg (T p) := by omega
      exact other 1 (by unfold kd; rw [if_neg (by omega), if_neg c, if_pos b1]) (by decide) (by decide) c
  · rw [a14, t4.1] at q
    have hl : p = n := (nI_eq (by omega) (by omega)).mp q
    have tz : tk T n p = 257 := by unfold tk; rw [if_pos (by omega)]
    have kz : kd T n p = 0 := by unfold kd; rw [if_pos (by omega)]
    exact h g4 ⟨a14, by rw [a16, kz]; rfl, fun z => by omega, fun z => by omega⟩ F4
