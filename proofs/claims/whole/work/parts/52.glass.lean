/-! glass -/
def Wb (b : Bx) : Prop := b 0 0 ≤ 7 ∧ (b 5 0 ≤ 9 ∧ b 6 0 ≤ 9 ∧ 1 ≤ b 7 0 ∧ b 7 0 ≤ 9 ∧ b 8 0 ≤ 20000) ∧ ∀ t, t < b 0 0 → (1 ≤ b 1 t ∧ b 1 t ≤ 5) ∧ (1 ≤ b 2 t ∧ b 2 t ≤ 9) ∧ (b 3 t ≤ 5 ∨ b 3 t = 9) ∧ b 4 t ≤ 7
def rn (T : Nat → Nat) (n lo hi sg p : Nat) : Nat × Nat × Nat := if tk T n p = 256 then (if lo ≤ vl T n p ∧ vl T n p ≤ hi then (if tk T n (p + lz T n p) = sg then (0, p + lz T n p + 1, vl T n p) else (1, p + lz T n p, vl T n p)) else (2, p, 0)) else (1, p, 0)
def kf (v : Nat) : Nat := if v = 98 then 1 else if v = 115 then 2 else if v = 108 then 3 else if v = 111 then 4 else if v = 101 then 5 else 0
def ad (b : Bx) (k w c : Nat) : Bx := fun a i => if a = 0 ∧ i = 0 then b 0 0 + 1 else if i = b 0 0 then (if a = 1 then k else if a = 2 then w else if a = 3 then c else if a = 4 then cN b c else b a i) else b a i
def bz (lo hi ev : Nat) : Bx := fun a _ => if a = 5 then lo else if a = 6 then hi else if a = 7 then ev else 0
def rt (T : Nat → Nat) (n p : Nat) (b : Bx) : Nat × Nat × Bx :=
  if kf (tk T n p) = 0 then (1, p, b) else if b 0 0 = 7 then (3, p, b) else
  if (rn T n 1 9 44 (p + 1)).1 = 0 then (if (rn T n 1 5 59 (rn T n 1 9 44 (p + 1)).2.1).1 = 0 then (0, (rn T n 1 5 59 (rn T n 1 9 44 (p + 1)).2.1).2.1, ad b (kf (tk T n p)) (rn T n 1 9 44 (p + 1)).2.2 (rn T n 1 5 59 (rn T n 1 9 44 (p + 1)).2.1).2.2) else ((rn T n 1 5 59 (rn T n 1 9 44 (p + 1)).2.1).1, (rn T n 1 5 59 (rn T n 1 9 44 (p + 1)).2.1).2.1, b)) else ((rn T n 1 9 44 (p + 1)).1, (rn T n 1 9 44 (p + 1)).2.1, b)
def law_ (T : Nat → Nat) (n : Nat) : Nat × Nat × Bx :=
  if tk T n 0 = 103 then
    if (rn T n 0 9 44 1).1 = 0 then
      if (rn T n 0 9 44 (rn T n 0 9 44 1).2.1).1 = 0 then
        if (rn T n 1 9 59 (rn T n 0 9 44 (rn T n 0 9 44 1).2.1).2.1).1 = 0 then
          (0, (rn T n 1 9 59 (rn T n 0 9 44 (rn T n 0 9 44 1).2.1).2.1).2.1, bz (rn T n 0 9 44 1).2.2 (rn T n 0 9 44 (rn T n 0 9 44 1).2.1).2.2 (rn T n 1 9 59 (rn T n 0 9 44 (rn T n 0 9 44 1).2.1).2.1).2.2)
        else ((rn T n 1 9 59 (rn T n 0 9 44 (rn T n 0 9 44 1).2.1).2.1).1, (rn T n 1 9 59 (rn T n 0 9 44 (rn T n 0 9 44 1).2.1).2.1).2.1, bz 0 0 0)
      else ((rn T n 0 9 44 (rn T n 0 9 44 1).2.1).1, (rn T n 0 9 44 (rn T n 0 9 44 1).2.1).2.1, bz 0 0 0)
    else ((rn T n 0 9 44 1).1, (rn T n 0 9 44 1).2.1, bz 0 0 0)
  else (1, 0, bz 0 0 0)
def lp (T : Nat → Nat) (n : Nat) : Nat → Nat → Bx → Nat × Nat × Bx
  | 0, p, b => (0, p, b)
  | m + 1, p, b => if (rt T n p b).1 = 0 ∧ tk T n (rt T n p b).2.1 ≠ 257 then lp T n m (rt T n p b).2.1 (rt T n p b).2.2 else rt T n p b
def prs (T : Nat → Nat) (n : Nat) : Nat × Nat × Bx := if (law_ T n).1 = 0 then lp T n 8 (law_ T n).2.1 (law_ T n).2.2 else law_ T n
theorem tk_let {T : Nat → Nat} {n p : Nat} (h : tk T n p < 256) : p < n ∧ ¬ fg (T p) ∧ kn (T p) ∧ tk T n p = T p ∧ lz T n p = 1 := by
  have h2 := h
  unfold tk at h ⊢
  split at h
  · omega
  · rename_i a
    split at h
    · split at h <;> omega
    · rename_i b
      split at h
      · rename_i c
        rw [if_neg a, if_neg b, if_pos c]
        exact ⟨by omega, b, c, rfl, by unfold lz; rw [if_neg (fun z => b z.2)]⟩
      · omega
theorem tk_num {T : Nat → Nat} {n p : Nat} (h : tk T n p = 256) : p < n := by
  unfold tk at h
  split at h
  · omega
  · omega
theorem kd_of {T : Nat → Nat} {n p : Nat} : (kd T n p = 0 ↔ tk T n p = 257) ∧ (kd T n p = 2 ↔ tk T n p = 256) ∧ (kd T n p = 1 ↔ (97 ≤ tk T n p ∧ tk T n p ≤ 122)) ∧ (kd T n p = 3 ↔ (tk T n p = 44 ∨ tk T n p = 59)) ∧ kd T n p ≤ 4 ∧ tk T n p ≤ 258 := by
  unfold kd tk
  by_cases a : n ≤ p
  · rw [if_pos a, if_pos a]; omega
  · rw [if_neg a, if_neg a]
    by_cases b : fg (T p)
    · rw [if_pos b, if_pos b]
      by_cases c : lz T n p ≤ 2
      · rw [if_pos c, if_pos c]; omega
      · rw [if_neg c, if_neg c]; omega
    · rw [if_neg b, if_neg b]
      by_cases c : 97 ≤ T p ∧ T p ≤ 122
      · rw [if_pos c, if_pos (Or.inl c)]; omega
      · rw [if_neg c]
        by_cases d : T p = 44 ∨ T p = 59
        · rw [if_pos d, if_pos (Or.inr d)]; omega
        · rw [if_neg d, if_neg (by omega)]; omega
theorem rn_ok {T : Nat → Nat} {n lo hi sg p : Nat} (hs : sg < 256) (h : (rn T n lo hi sg p).1 = 0) : (lo ≤ (rn T n lo hi sg p).2.2 ∧ (rn T n lo hi sg p).2.2 ≤ hi) ∧ (rn T n lo hi sg p).2.1 ≤ n := by
  unfold rn at h ⊢
  split at h
  · rename_i a
    rw [if_pos a]
    split at h
    · rename_i b
      rw [if_pos b]
      split at h
      · rename_i c
        rw [if_pos c]
        have := (tk_let (T := T) (n := n) (p := p + lz T n p) (by omega)).1
        exact ⟨b, this⟩
      · exact absurd h (by show ¬ (1 : Nat) = 0; omega)
    · exact absurd h (by show ¬ (2 : Nat) = 0; omega)
  · exact absurd h (by show ¬ (1 : Nat) = 0; omega)
theorem rn_e {T : Nat → Nat} {n lo hi sg p : Nat} (hp : p ≤ n) : (rn T n lo hi sg p).1 ≤ 2 ∧ (rn T n lo hi sg p).2.1 ≤ n + 1 := by
  unfold rn
  split
  · rename_i a
    have := lz_in (T := T) (tk_num a)
    split
    · split
      · show (0 : Nat) ≤ 2 ∧ p + lz T n p + 1 ≤ n + 1; omega
      · show (1 : Nat) ≤ 2 ∧ p + lz T n p ≤ n + 1; omega
    · show (2 : Nat) ≤ 2 ∧ p ≤ n + 1; omega
  · show (1 : Nat) ≤ 2 ∧ p ≤ n + 1; omega
abbrev F7 (q k : Nat) : Prop := q = 2 ∧ 3 ≤ k ∧ k ≤ 7
theorem Tp7.fr7 {T : Nat → Nat} {n : Nat} {g g' : Mm} (h : Tp7 T n g) (f : Fr F7 g g') : Tp7 T n g' := h.eq (f _ _ (by omega)) (fun i => f _ _ (by omega))
theorem s5_skipE {Q : Mm → Prop} {g : Mm} {x : Int32} (hw : ¬ g.1 2 3 = 0) (h : Q g) : o_X5_expect Q g x := ⟨fun q => absurd q hw, fun _ => h⟩
theorem s5_skip {Q : Int32 → Mm → Prop} {g : Mm} {lo hi sg : Int32} (hw : ¬ g.1 2 3 = 0) (h : Q 0 g) : o_X5_expectNumber (fun r g1 => o_X5_expect (fun g2 => Q r g2) g1 sg) g lo hi := ⟨fun q => absurd q hw, fun _ => s5_skipE hw h⟩
theorem s5_expect {T : Nat → Nat} {n p x : Nat} (hT : Tv T n) {Q : Mm → Prop} {g : Mm} (hx : x < 256) (ht : Tp7 T n g) (hk : Tok7 T n g p) (hw : g.1 2 3 = 0) (h1 : tk T n p ≠ x → ∀ g' : Mm, g'.1 2 3 = nI 1 → g'.1 2 4 = nI p → Fr F7 g g' → Q g') (h0 : tk T n p = x → ∀ g' : Mm, g'.1 2 3 = 0 → Tok7 T n g' (p + 1) → Fr F7 g g' → Q g') : o_X5_expect Q g (nI x) := by
  have hb := (kd_of (T := T) (n := n) (p := p)).2.2.2.2.2
  refine ⟨fun _ => ⟨fun q g1 e1 => ?_, fun q => ⟨fun _ => ?_, fun q2 => absurd ((nI_eq (b := 258) (by omega) (by omega)).mp q2) (by omega)⟩⟩, fun q => absurd hw q⟩
  · refine h1 (fun z => q (by rw [hk.2.1, z])) g1 ?_ ?_ (by rw [e1]; exact Fr.set (T := F7) Fr.rfl (by omega))
    · rw [e1, mset_at, if_pos ⟨rfl, rfl⟩]; rfl
    · rw [e1, mset_at, if_neg (by omega)]; exact hk.1
  · rw [hk.2.1] at q
    have e : tk T n p = x := (nI_eq (by omega) (by omega)).mp q
    have tl := tk_let (T := T) (n := n) (p := p) (by omega)
    refine s5_advance hT (p := p + 1) (by omega) ht ?_ (fun g' k' f' => h0 e g' (by rw [f' _ _ (by omega)]; exact hw) k' (f'.mono (fun q k z => by omega)))
    rw [hk.2.2.1 (by omega), tl.2.2.2.2]
theorem s5_num {T : Nat → Nat} {n p lo hi sg : Nat} (hT : Tv T n) {Q : Int32 → Mm → Prop} {g : Mm} (hs : sg < 256) (hl : lo < 1000) (hh : hi < 1000) (hp : p ≤ n) (ht : Tp7 T n g) (hk : Tok7 T n g p) (hw : g.1 2 3 = 0) (h1 : (rn T n lo hi sg p).1 ≠ 0 → ∀ (r : Int32) (g' : Mm), g'.1 2 3 = nI (rn T n lo hi sg p).1 → g'.1 2 4 = nI (rn T n lo hi sg p).2.1 → Fr F7 g g' → Q r g') (h0 : (rn T n lo hi sg p).1 = 0 → ∀ g' : Mm, g'.1 2 3 = 0 → Tok7 T n g' (rn T n lo hi sg p).2.1 → Fr F7 g g' → Q (nI (rn T n lo hi sg p).2.2) g') : o_X5_expectNumber (fun r g1 => o_X5_expect (fun g2 => Q r g2) g1 (nI sg)) g (nI lo) (nI hi) := by
  have hn := hT.1
  have hb := (kd_of (T := T) (n := n) (p := p)).2.2.2.2.2
  refine ⟨fun _ => ⟨fun q => ?_, fun q g7 e7 => ?_⟩, fun q => absurd hw q⟩
  · rw [hk.2.1] at q
    have e : tk T n p = 256 := (nI_eq (b := 256) (by omega) (by omega)).mp q
    have hv := hk.2.2.2 e
    have lt := tk_num e
    have lzi := lz_in (T := T) lt
    have vb : vl T n p < 100000 := by
      unfold vl
      have hd : ∀ j, p + j < n → T (p + j) - 48 ≤ 207 := fun j hj => by have := hT.2 (p + j) hj; omega
      have d0 := hd 0 (by omega)
      rcases (by omega : lz T n p = 1 ∨ lz T n p = 2 ∨ lz T n p = 3) with z | z | z
      · rw [z]
        show dv T p 0 * 10 + (T (p + 0) - 48) < 100000
        have : dv T p 0 = 0 := rfl
        omega
      · have d1 := hd 1 (by omega)
        rw [z]
        show (dv T p 0 * 10 + (T (p + 0) - 48)) * 10 + (T (p + 1) - 48) < 100000
        have : dv T p 0 = 0 := rfl
        omega
      · have d1 := hd 1 (by omega)
        have d2 := hd 2 (by omega)
        rw [z]
        show ((dv T p 0 * 10 + (T (p + 0) - 48)) * 10 + (T (p + 1) - 48)) * 10 + (T (p + 2) - 48) < 100000
        have : dv T p 0 = 0 := rfl
        omega
    rw [hv]
    have rr : (nI lo ≤ nI (vl T n p) ∧ nI (vl T n p) ≤ nI hi) ↔ (lo ≤ vl T n p ∧ vl T n p ≤ hi) := by
      rw [nI_leI (by omega) (by omega), nI_leI (by omega) (by omega)]
    refine s7_within (bI_rb (fun d g6 e6 => ?_) (fun d x ex => ?_))
    · have er : rn T n lo hi sg p = (2, p, 0) := by unfold rn; rw [if_pos e, if_neg (fun z => d (rr.mpr z))]
      rw [er] at h1
      have w6 : g6.1 2 3 = nI 2 := by rw [e6, mset_at, if_pos ⟨rfl, rfl⟩]; rfl
      refine s5_skipE (by rw [w6]; decide) (h1 (Nat.succ_ne_zero _) 0 g6 w6 ?_ (by rw [e6]; exact Fr.set (T := F7) Fr.rfl (by omega)))
      rw [e6, mset_at, if_neg (by omega)]; exact hk.1
    · rw [hv] at ex; subst ex
      refine s5_advance hT (p := p + lz T n p) (by omega) ht (hk.2.2.1 (by omega)) (fun g4 k4 f4 => ?_)
      have f4' : Fr F7 g g4 := f4.mono (fun q k z => by omega)
      refine s5_expect hT hs (ht.fr7 f4') k4 (by rw [f4 _ _ (by omega)]; exact hw) (fun c g5 a3 a4 f5 => ?_) (fun c g5 a3 k5 f5 => ?_)
      · have er : rn T n lo hi sg p = (1, p + lz T n p, vl T n p) := by unfold rn; rw [if_pos e, if_pos (rr.mp d), if_neg c]
        rw [er] at h1
        exact h1 (Nat.succ_ne_zero _) _ g5 a3 a4 (f4'.trans f5)
      · have er : rn T n lo hi sg p = (0, p + lz T n p + 1, vl T n p) := by unfold rn; rw [if_pos e, if_pos (rr.mp d), if_pos c]
        rw [er] at h0
        exact h0 rfl g5 a3 k5 (f4'.trans f5)
  · have er : rn T n lo hi sg p = (1, p, 0) := by unfold rn; rw [if_neg (fun z => q (by rw [hk.2.1, z]; rfl))]
    rw [er] at h1
    have w6 : g7.1 2 3 = nI 1 := by rw [e7, mset_at, if_pos ⟨rfl, rfl⟩]; rfl
    refine s5_skipE (by rw [w6]; decide) (h1 (Nat.succ_ne_zero _) 0 g7 w6 ?_ (by rw [e7]; exact Fr.set (T := F7) Fr.rfl (by omega)))
    rw [e7, mset_at, if_neg (by omega)]; exact hk.1
theorem s3_begin {Q : Mm → Prop} {g : Mm} {x1 x2 x3 : Int32} (h : ∀ g' : Mm, g'.1 4 4 = 0 → g'.1 4 5 = x1 → g'.1 4 6 = x2 → g'.1 4 7 = x3 → g'.1 4 8 = 0 → Fr (fun q k => q = 4) g g' → Q g') : o_X3_begin Q 4 g x1 x2 x3 := by
  intro g1 e1 g2 e2 g3 e3 g4 e4 g5 e5
  refine h g5 ?_ ?_ ?_ ?_ ?_ ?_
  · rw [e5, mset_at, if_neg (by omega), e4, mset_at, if_neg (by omega), e3, mset_at, if_neg (by omega), e2, mset_at, if_neg (by omega), e1, mset_at, if_pos ⟨rfl, rfl⟩]
  · rw [e5, mset_at, if_neg (by omega), e4, mset_at, if_neg (by omega), e3, mset_at, if_pos ⟨rfl, rfl⟩]
  · rw [e5, mset_at, if_neg (by omega), e4, mset_at, if_pos ⟨rfl, rfl⟩]
  · rw [e5, mset_at, if_pos ⟨rfl, rfl⟩]
  · rw [e5, mset_at, if_neg (by omega), e4, mset_at, if_neg (by omega), e3, mset_at, if_neg (by omega), e2, mset_at, if_pos ⟨rfl, rfl⟩]
  · intro j k z
    rw [e5, mset_at, if_neg (by omega), e4, mset_at, if_neg (by omega), e3, mset_at, if_neg (by omega), e2, mset_at, if_neg (by omega), e1, mset_at, if_neg (by omega)]
def G7 (q k : Nat) : Prop := (q = 2 ∧ 3 ≤ k ∧ k ≤ 7) ∨ (4 ≤ q ∧ q ≤ 8)
theorem Tp7.frG {T : Nat → Nat} {n : Nat} {g g' : Mm} (h : Tp7 T n g) (f : Fr G7 g g') : Tp7 T n g' := h.eq (f _ _ (by unfold G7; omega)) (fun i => f _ _ (by unfold G7; omega))
theorem Tok7.eq {T : Nat → Nat} {n p : Nat} {g g' : Mm} (h : Tok7 T n g p) (e : ∀ k, g'.1 2 k = g.1 2 k) : Tok7 T n g' p := by
  unfold Tok7
  rw [e, e, e, e]; exact h
theorem nz {n : Nat} (h : n ≠ 0) (h2 : n ≤ 1000) : ¬ nI n = 0 := fun q => h ((nI_eq (b := 0) (by omega) (by omega)).mp q)
theorem s5_law {T : Nat → Nat} {n : Nat} (hT : Tv T n) {Q : Mm → Prop} {g : Mm} (ht : Tp7 T n g) (hk : Tok7 T n g 0) (hw : g.1 2 3 = 0) (h1 : (law_ T n).1 ≠ 0 → ∀ g' : Mm, g'.1 2 3 = nI (law_ T n).1 → g'.1 2 4 = nI (law_ T n).2.1 → Fr G7 g g' → Q g') (h0 : (law_ T n).1 = 0 → ∀ g' : Mm, g'.1 2 3 = 0 → Tok7 T n g' (law_ T n).2.1 → BoxIs g' 4 (law_ T n).2.2 → Fr G7 g g' → Q g') : o_X5_readLaw Q g := by
  have hn := hT.1
  have m7 : ∀ {a b : Mm}, Fr F7 a b → Fr G7 a b := fun f => f.mono (fun q k z => by unfold G7; omega)
  have bad : ∀ (g1 : Mm) (e p : Nat) (x1 x2 x3 : Int32), e ≠ 0 → (law_ T n).1 = e → (law_ T n).2.1 = p → g1.1 2 3 = nI e → g1.1 2 4 = nI p → Fr G7 g g1 → o_X3_begin (fun g_15 => Q g_15) 4 g1 x1 x2 x3 := by
    intro g1 e p x1 x2 x3 he l1 l2 a3 a4 f
    subst l1; subst l2
    refine s3_begin (fun g2 _ _ _ _ _ f2 => h1 he g2 ?_ ?_ (f.trans (f2.mono (fun q k z => by unfold G7; omega))))
    · rw [f2 _ _ (by omega)]; exact a3
    · rw [f2 _ _ (by omega)]; exact a4
  refine s5_expect (x := 103) hT (by omega) ht hk hw (fun c g1 a3 a4 f1 => ?_) (fun c g1 a3 k1 f1 => ?_)
  · have w : ¬ g1.1 2 3 = 0 := by rw [a3]; decide
    have l : law_ T n = (1, 0, bz 0 0 0) := by unfold law_; rw [if_neg c]
    exact s5_skip w (s5_skip w (s5_skip w (bad g1 1 0 _ _ _ (by decide) (by rw [l]) (by rw [l]) a3 a4 (m7 f1))))
  · have p0 := (tk_let (T := T) (n := n) (p := 0) (by omega)).1
    refine s5_num (lo := 0) (hi := 9) (sg := 44) hT (by omega) (by omega) (by omega) (by omega) (ht.fr7 f1) k1 a3 (fun c1 r g2 a3 a4 f2 => ?_) (fun c1 g2 a3 k2 f2 => ?_)
    · have w : ¬ g2.1 2 3 = 0 := by rw [a3]; exact nz c1 (by have := (rn_e (T := T) (n := n) (lo := 0) (hi := 9) (sg := 44) (p := 0 + 1) (by omega)).1; omega)
      have l : law_ T n = ((rn T n 0 9 44 1).1, (rn T n 0 9 44 1).2.1, bz 0 0 0) := by unfold law_; rw [if_pos c, if_neg c1]
      exact s5_skip w (s5_skip w (bad g2 _ _ _ _ _ c1 (by rw [l]) (by rw [l]) a3 a4 (m7 (f1.trans f2))))
    · have r1 := rn_ok (by omega) c1
      refine s5_num (lo := 0) (hi := 9) (sg := 44) hT (by omega) (by omega) (by omega) r1.2 ((ht.fr7 f1).fr7 f2) k2 a3 (fun c2 r g3 a3 a4 f3 => ?_) (fun c2 g3 a3 k3 f3 => ?_)
      · have w : ¬ g3.1 2 3 = 0 := by rw [a3]; exact nz c2 (by have := (rn_e (T := T) (n := n) (lo := 0) (hi := 9) (sg := 44) r1.2).1; omega)
        have l : law_ T n = ((rn T n 0 9 44 (rn T n 0 9 44 1).2.1).1, (rn T n 0 9 44 (rn T n 0 9 44 1).2.1).2.1, bz 0 0 0) := by unfold law_; rw [if_pos c, if_pos c1, if_neg c2]
        exact s5_skip w (bad g3 _ _ _ _ _ c2 (by rw [l]) (by rw [l]) a3 a4 (m7 (f1.trans (f2.trans f3))))
      · have r2 := rn_ok (by omega) c2
        refine s5_num (lo := 1) (hi := 9) (sg := 59) hT (by omega) (by omega) (by omega) r2.2 (((ht.fr7 f1).fr7 f2).fr7 f3) k3 a3 (fun c3 r g4 a3 a4 f4 => ?_) (fun c3 g4 a3 k4 f4 => ?_)
        · have l : law_ T n = ((rn T n 1 9 59 (rn T n 0 9 44 (rn T n 0 9 44 1).2.1).2.1).1, (rn T n 1 9 59 (rn T n 0 9 44 (rn T n 0 9 44 1).2.1).2.1).2.1, bz 0 0 0) := by unfold law_; rw [if_pos c, if_pos c1, if_pos c2, if_neg c3]
          exact bad g4 _ _ _ _ _ c3 (by rw [l]) (by rw [l]) a3 a4 (m7 (f1.trans (f2.trans (f3.trans f4))))
        · have l : law_ T n = (0, (rn T n 1 9 59 (rn T n 0 9 44 (rn T n 0 9 44 1).2.1).2.1).2.1, bz (rn T n 0 9 44 1).2.2 (rn T n 0 9 44 (rn T n 0 9 44 1).2.1).2.2 (rn T n 1 9 59 (rn T n 0 9 44 (rn T n 0 9 44 1).2.1).2.1).2.2) := by unfold law_; rw [if_pos c, if_pos c1, if_pos c2, if_pos c3]
          rw [l] at h0
          refine s3_begin (fun g5 b4 b5 b6 b7 b8 f5 => h0 rfl g5 ?_ (k4.eq (fun k => f5 _ _ (by omega))) ⟨⟨b4, b5, b6, b7, b8⟩, fun t ht => absurd ht (Nat.not_lt_zero t)⟩ ((m7 (f1.trans (f2.trans (f3.trans f4)))).trans (f5.mono (fun q k z => by unfold G7; omega))))
          rw [f5 _ _ (by omega)]; exact a3
theorem Wb_P {b : Bx} (hV : Wb b) {t : Nat} (ht : t < b 0 0) : b 1 t < 1000 ∧ b 2 t < 1000 ∧ b 3 t < 1000 ∧ b 4 t < 1000 := by
  have := hV.2.2 t ht; omega
theorem s3_howManyW {Q : Int32 → Mm → Prop} {g : Mm} {j : Nat} {b : Bx} {c : Nat} (e0 : g.1 j 4 = nI (b 0 0)) (e3 : ∀ t, t < b 0 0 → g.1 (j + 3) t = nI (b 3 t)) (hV : Wb b) (hc : c < 1000) (h : Q (nI (cN b c)) g) : o_X3_howMany Q j g (nI c) := by
  have h7 := hV.1
  have key : ∀ (k t : Nat), t + k = b 0 0 → o_X3_howMany_4 Q j (k + 1) g (nI c) (nI (ct b c t)) (nI t) := by
    intro k
    induction k with
    | zero =>
      intro t ht
      refine ⟨fun _ => ?_, fun q => absurd ?_ q⟩
      · rw [show t = b 0 0 by omega]; exact h
      · rw [e0]; exact (nI_leI (by omega) (by omega)).mpr (by omega)
    | succ k ih =>
      intro t ht
      have hp := Wb_P hV (show t < b 0 0 by omega)
      refine ⟨fun q => ?_, fun _ => ⟨vt h7 (show t < b 0 0 by omega), fun q => ?_, fun q => ?_⟩⟩
      · rw [e0] at q
        exact absurd ((nI_leI (by omega) (by omega)).mp q) (by omega)
      · intro x ex
        rw [nI_1] at ex; subst ex
        rw [cl (by omega), e3 t (by omega)] at q
        have := ih (t + 1) (by omega)
        rw [show ct b c (t + 1) = ct b c t by rw [ct, if_neg (fun z => q (by rw [z])), Nat.add_zero]] at this
        exact this
      · intro y ey x ex
        rw [nI_1] at ex ey; subst ex; subst ey
        rw [cl (by omega), e3 t (by omega)] at q
        have := ih (t + 1) (by omega)
        rw [show ct b c (t + 1) = ct b c t + 1 by rw [ct, if_pos ((nI_eq (by omega) (by omega)).mp q)]] at this
        exact this
  exact ⟨b 0 0 + 1, key (b 0 0) 0 (by omega)⟩
theorem ad_0 {b : Bx} {k w c : Nat} : ad b k w c 0 0 = b 0 0 + 1 := if_pos ⟨rfl, rfl⟩
theorem ad_k {b : Bx} {k w c a : Nat} (h : 5 ≤ a) : ad b k w c a 0 = b a 0 := by
  unfold ad
  rw [if_neg (by omega)]
  split
  · rw [if_neg (by omega), if_neg (by omega), if_neg (by omega), if_neg (by omega)]
  · rfl
theorem ad_o {b : Bx} {k w c a t : Nat} (h : 1 ≤ a) (ht : t ≠ b 0 0) : ad b k w c a t = b a t := by
  unfold ad
  rw [if_neg (by omega), if_neg ht]
theorem ad_1 {b : Bx} {k w c : Nat} : ad b k w c 1 (b 0 0) = k := by
  unfold ad
  rw [if_neg (by omega), if_pos rfl, if_pos rfl]
theorem ad_2 {b : Bx} {k w c : Nat} : ad b k w c 2 (b 0 0) = w := by
  unfold ad
  rw [if_neg (by omega), if_pos rfl, if_neg (by omega), if_pos rfl]
theorem ad_3 {b : Bx} {k w c : Nat} : ad b k w c 3 (b 0 0) = c := by
  unfold ad
  rw [if_neg (by omega), if_pos rfl, if_neg (by omega), if_neg (by omega), if_pos rfl]
theorem ad_4 {b : Bx} {k w c : Nat} : ad b k w c 4 (b 0 0) = cN b c := by
  unfold ad
  rw [if_neg (by omega), if_pos rfl, if_neg (by omega), if_neg (by omega), if_neg (by omega), if_pos rfl]
theorem Wb_ad {b : Bx} {k w c : Nat} (hV : Wb b) (h7 : b 0 0 < 7) (hk : 1 ≤ k ∧ k ≤ 5) (hw : 1 ≤ w ∧ w ≤ 9) (hc : 1 ≤ c ∧ c ≤ 5) : Wb (ad b k w c) := by
  refine ⟨by rw [ad_0]; omega, by rw [ad_k (by omega), ad_k (by omega), ad_k (by omega), ad_k (by omega)]; exact hV.2.1, fun t ht => ?_⟩
  rw [ad_0] at ht
  by_cases z : t = b 0 0
  · subst z
    rw [ad_1, ad_2, ad_3, ad_4]
    have := ct_le b c (b 0 0)
    have : cN b c ≤ 7 := by unfold cN; omega
    omega
  · rw [ad_o (by omega) z, ad_o (by omega) z, ad_o (by omega) z, ad_o (by omega) z]
    exact hV.2.2 t (by omega)
theorem BoxIs.ad {g g' : Mm} {j : Nat} {b : Bx} {k w c : Nat} (hB : BoxIs g j b) (e0 : g'.1 j 4 = nI (b 0 0 + 1)) (e : ∀ i, 5 ≤ i → g'.1 j i = g.1 j i) (n1 : g'.1 (j + 1) (b 0 0) = nI k) (n2 : g'.1 (j + 2) (b 0 0) = nI w) (n3 : g'.1 (j + 3) (b 0 0) = nI c) (n4 : g'.1 (j + 4) (b 0 0) = nI (cN b c)) (o : ∀ q t, j < q → q ≤ j + 4 → t ≠ b 0 0 → g'.1 q t = g.1 q t) : BoxIs g' j (ad b k w c) := by
  refine ⟨⟨by rw [ad_0]; exact e0, ?_, ?_, ?_, ?_⟩, fun t ht => ?_⟩
  · rw [ad_k (by omega), e 5 (by omega)]; exact hB.1.2.1
  · rw [ad_k (by omega), e 6 (by omega)]; exact hB.1.2.2.1
  · rw [ad_k (by omega), e 7 (by omega)]; exact hB.1.2.2.2.1
  · rw [ad_k (by omega), e 8 (by omega)]; exact hB.1.2.2.2.2
  · rw [ad_0] at ht
    by_cases z : t = b 0 0
    · subst z
      rw [ad_1, ad_2, ad_3, ad_4]
      exact ⟨n1, n2, n3, n4⟩
    · rw [ad_o (by omega) z, ad_o (by omega) z, ad_o (by omega) z, ad_o (by omega) z, o _ t (by omega) (by omega) z, o _ t (by omega) (by omega) z, o _ t (by omega) (by omega) z, o _ t (by omega) (by omega) z]
      exact hB.2 t (by omega)
theorem RowIs.ad {f f' : Nat → Int32} {b : Bx} {k w c : Nat} (h7 : b 0 0 < 7) (hB : RowIs f b) (e0 : f' 0 = nI (b 0 0 + 1)) (n1 : f' (1 + b 0 0) = nI k) (n2 : f' (8 + b 0 0) = nI w) (n3 : f' (19 + b 0 0) = nI c) (n4 : f' (26 + b 0 0) = nI (cN b c)) (o : ∀ i, i ≠ 0 → i ≠ 1 + b 0 0 → i ≠ 8 + b 0 0 → i ≠ 19 + b 0 0 → i ≠ 26 + b 0 0 → f' i = f i) : RowIs f' (ad b k w c) := by
  refine ⟨⟨by rw [ad_0]; exact e0, ?_, ?_, ?_, ?_⟩, fun t ht => ?_⟩
  · rw [ad_k (by omega), o _ (by omega) (by omega) (by omega) (by omega) (by omega)]; exact hB.1.2.1
  · rw [ad_k (by omega), o _ (by omega) (by omega) (by omega) (by omega) (by omega)]; exact hB.1.2.2.1
  · rw [ad_k (by omega), o _ (by omega) (by omega) (by omega) (by omega) (by omega)]; exact hB.1.2.2.2.1
  · rw [ad_k (by omega), o _ (by omega) (by omega) (by omega) (by omega) (by omega)]; exact hB.1.2.2.2.2
  · rw [ad_0] at ht
    by_cases z : t = b 0 0
    · subst z
      rw [ad_1, ad_2, ad_3, ad_4]
      exact ⟨n1, n2, n3, n4⟩
    · rw [ad_o (by omega) z, ad_o (by omega) z, ad_o (by omega) z, ad_o (by omega) z, o (1 + t) (by omega) (by omega) (by omega) (by omega) (by omega), o (8 + t) (by omega) (by omega) (by omega) (by omega) (by omega), o (19 + t) (by omega) (by omega) (by omega) (by omega) (by omega), o (26 + t) (by omega) (by omega) (by omega) (by omega) (by omega)]
      exact hB.2 t (by omega)
theorem s3_add {Q : Mm → Prop} {g : Mm} {b : Bx} {k w c : Nat} (hB : BoxIs g 4 b) (hV : Wb b) (h7 : b 0 0 < 7) (hc : 1 ≤ c ∧ c ≤ 5) (h : ∀ g', BoxIs g' 4 (ad b k w c) → Fr (fun q k => 4 ≤ q ∧ q ≤ 8) g g' → Q g') : o_X3_add Q 4 g (nI k) (nI w) (nI c) := by
  have vb : vp_in (nI (b 0 0)) 7 := vlit _ (by omega) (by omega)
  refine ⟨by rw [hB.1.1]; exact vb, fun g1 e1 => ?_⟩
  rw [hB.1.1, cl (by omega)] at e1
  have a1 : g1.1 4 4 = nI (b 0 0) := by rw [e1, mset_at, if_neg (by omega)]; exact hB.1.1
  refine ⟨by rw [a1]; exact vb, fun g2 e2 => ?_⟩
  rw [a1, cl (by omega)] at e2
  have a2 : g2.1 4 4 = nI (b 0 0) := by rw [e2, mset_at, if_neg (by omega)]; exact a1
  rw [a2]
  have a3 : ∀ t, t < b 0 0 → g2.1 (4 + 3) t = nI (b 3 t) := fun t ht => by
    rw [e2, mset_at, if_neg (by omega), e1, mset_at, if_neg (by omega)]; exact (hB.2 t ht).2.2.1
  refine s7_isColumn (bI_br (fun d => absurd ((colI (by omega)).mpr hc) d) (fun _ => s3_howManyW a2 a3 hV (by omega) ⟨vb, fun g3 e3 => ⟨vb, fun g4 e4 g5 e5 => ?_⟩⟩))
  rw [cl (by omega)] at e3 e4
  have a4 : g4.1 4 4 = nI (b 0 0) := by rw [e4, mset_at, if_neg (by omega), e3, mset_at, if_neg (by omega)]; exact a2
  rw [a4, nI_1] at e5
  have E : ∀ q i, g5.1 q i = if q = 4 ∧ i = 4 then nI (b 0 0 + 1) else if q = 4 + 3 ∧ i = b 0 0 then nI c else if q = 4 + 4 ∧ i = b 0 0 then nI (cN b c) else if q = 4 + 2 ∧ i = b 0 0 then nI w else if q = 4 + 1 ∧ i = b 0 0 then nI k else g.1 q i := by
    intro q i
    rw [e5, mset_at, e4, mset_at, e3, mset_at, e2, mset_at, e1, mset_at]
  refine h g5 (hB.ad ?_ ?_ ?_ ?_ ?_ ?_ ?_) ?_
  · rw [E, if_pos ⟨rfl, rfl⟩]
  · intro i hi; rw [E, if_neg (by omega), if_neg (by omega), if_neg (by omega), if_neg (by omega), if_neg (by omega)]
  · rw [E, if_neg (by omega), if_neg (by omega), if_neg (by omega), if_neg (by omega), if_pos ⟨rfl, rfl⟩]
  · rw [E, if_neg (by omega), if_neg (by omega), if_neg (by omega), if_pos ⟨rfl, rfl⟩]
  · rw [E, if_neg (by omega), if_pos ⟨rfl, rfl⟩]
  · rw [E, if_neg (by omega), if_neg (by omega), if_pos ⟨rfl, rfl⟩]
  · intro q t h1 h2 h3; rw [E, if_neg (by omega), if_neg (by omega), if_neg (by omega), if_neg (by omega), if_neg (by omega)]
  · intro q t z; rw [E, if_neg (by omega), if_neg (by omega), if_neg (by omega), if_neg (by omega), if_neg (by omega)]
theorem kf_le (v : Nat) : kf v ≤ 5 := by
  unfold kf
  repeat' split
  all_goals omega
theorem kf_let {v : Nat} (h : kf v ≠ 0) : 97 ≤ v ∧ v ≤ 122 := by
  unfold kf at h
  repeat' split at h
  all_goals omega
theorem s5_kind {Q : Int32 → Mm → Prop} {g : Mm} {v : Nat} (hv : v < 1000) (h : Q (nI (kf v)) g) : o_X5_kindOf Q g (nI v) := by
  have E : ∀ d, d < 1000 → (nI v = nI d ↔ v = d) := fun d hd => nI_eq (by omega) (by omega)
  unfold kf at h
  refine ⟨fun q => ?_, fun q => ?_, fun q => ?_, fun q => ?_, fun q => ?_, fun q => ?_⟩
  · have := (E 98 (by omega)).mp q
    subst this; exact h
  · have := (E 101 (by omega)).mp q
    subst this; exact h
  · have := (E 108 (by omega)).mp q
    subst this; exact h
  · have := (E 111 (by omega)).mp q
    subst this; exact h
  · have := (E 115 (by omega)).mp q
    subst this; exact h
  · rw [if_neg (fun z => q.1 ((E 98 (by omega)).mpr z)), if_neg (fun z => q.2.2.2.2 ((E 115 (by omega)).mpr z)), if_neg (fun z => q.2.2.1 ((E 108 (by omega)).mpr z)), if_neg (fun z => q.2.2.2.1 ((E 111 (by omega)).mpr z)), if_neg (fun z => q.2.1 ((E 101 (by omega)).mpr z))] at h
    exact h
theorem s8_sort {Q : Int32 → Mm → Prop} {g : Mm} {v : Nat} (hv : v < 1000) (h : Q (nI (kf v)) g) : o_X8_sortBy Q g (nI v) := by
  have E : ∀ d, d < 1000 → (nI v = nI d ↔ v = d) := fun d hd => nI_eq (by omega) (by omega)
  unfold kf at h
  refine ⟨fun a => ⟨fun b => ⟨fun c => ⟨fun d => ⟨fun e => ?_, fun q => ?_⟩, fun q => ?_⟩, fun q => ?_⟩, fun q => ?_⟩, fun q => ?_⟩
  · rw [if_neg (fun z => a ((E 98 (by omega)).mpr z)), if_neg (fun z => b ((E 115 (by omega)).mpr z)), if_neg (fun z => c ((E 108 (by omega)).mpr z)), if_neg (fun z => d ((E 111 (by omega)).mpr z)), if_neg (fun z => e ((E 101 (by omega)).mpr z))] at h
    exact h
  · have := (E 101 (by omega)).mp q
    subst this; exact h
  · have := (E 111 (by omega)).mp q
    subst this; exact h
  · have := (E 108 (by omega)).mp q
    subst this; exact h
  · have := (E 115 (by omega)).mp q
    subst this; exact h
  · have := (E 98 (by omega)).mp q
    subst this; exact h
theorem s5_toy {T : Nat → Nat} {n p : Nat} (hT : Tv T n) {Q : Mm → Prop} {g : Mm} {b : Bx} (ht : Tp7 T n g) (hk : Tok7 T n g p) (hw : g.1 2 3 = 0) (hB : BoxIs g 4 b) (hV : Wb b) (h1 : (rt T n p b).1 ≠ 0 → ∀ g' : Mm, g'.1 2 3 = nI (rt T n p b).1 → g'.1 2 4 = nI (rt T n p b).2.1 → Fr G7 g g' → Q g') (h0 : (rt T n p b).1 = 0 → ∀ g' : Mm, g'.1 2 3 = 0 → Tok7 T n g' (rt T n p b).2.1 → BoxIs g' 4 (rt T n p b).2.2 → Fr G7 g g' → Q g') : o_X5_readToy Q g := by
  have hn := hT.1
  have hb := (kd_of (T := T) (n := n) (p := p)).2.2.2.2.2
  have m7 : ∀ {a b : Mm}, Fr F7 a b → Fr G7 a b := fun f => f.mono (fun q k z => by unfold G7; omega)
  have k5 := kf_le (tk T n p)
  unfold o_X5_readToy
  rw [hk.2.1]
  refine s5_kind (by omega) ⟨fun q => absurd hw q, fun _ => ⟨fun c => ⟨fun q => absurd c q, fun _ => ?_⟩, fun c => ⟨fun c7 => ⟨fun _ => ?_, fun q => absurd q c⟩, fun c7 g15 e15 => ⟨fun _ => ?_, fun q => absurd q c⟩⟩⟩⟩
  · have k0 : kf (tk T n p) = 0 := (nI_eq (b := 0) (by omega) (by omega)).mp c
    have er : rt T n p b = (1, p, b) := by unfold rt; rw [if_pos k0]
    rw [er] at h1
    have e23 : o_X5_expect_23 (fun g_3 => o_X5_expectNumber (fun (r_6 : Int32) (g_5 : Mm) => o_X5_expect (fun (g_7 : Mm) => o_X5_expectNumber (fun (r_10 : Int32) (g_9 : Mm) => o_X5_expect (fun (g_11 : Mm) => ((¬ (g_11.1 2 3) = 0) → Q g_11) ∧ (((g_11.1 2 3) = 0) → o_X3_add (fun (g_13 : Mm) => Q g_13) 4 g_11 (nI (kf (tk T n p))) r_6 r_10)) g_9 59) g_7 1 5) g_5 44) g_3 1 9) g := by
      intro g1 e1
      have w6 : g1.1 2 3 = nI 1 := by rw [e1, mset_at, if_pos ⟨rfl, rfl⟩]; rfl
      have w : ¬ g1.1 2 3 = 0 := by rw [w6]; decide
      refine s5_skip w (s5_skip w ⟨fun _ => h1 (Nat.succ_ne_zero _) g1 w6 ?_ (by rw [e1]; exact m7 (Fr.set (T := F7) Fr.rfl (by omega))), fun q => absurd q w⟩)
      rw [e1, mset_at, if_neg (by omega)]; exact hk.1
    exact ⟨fun _ => ⟨fun _ => e23, fun _ => ⟨fun q => absurd rfl q, fun _ => e23⟩⟩, fun q => absurd hw q⟩
  · have k0 : kf (tk T n p) ≠ 0 := fun z => c (by rw [z]; rfl)
    have kl := kf_let k0
    rw [hB.1.1] at c7
    have b7 : b 0 0 < 7 := (nI_ltI (b := 7) (by have := hV.1; omega) (by omega)).mp c7
    rw [hk.2.1]
    have tl := tk_let (T := T) (n := n) (p := p) (by omega)
    refine s5_expect hT (by omega) ht hk hw (fun q => absurd rfl q) (fun _ g1 a3 k1 f1 => ?_)
    refine s5_num (lo := 1) (hi := 9) (sg := 44) hT (by omega) (by omega) (by omega) (by omega) (ht.fr7 f1) k1 a3 (fun c1 r g2 a3 a4 f2 => ?_) (fun c1 g2 a3 k2 f2 => ?_)
    · have w : ¬ g2.1 2 3 = 0 := by rw [a3]; exact nz c1 (by have := (rn_e (T := T) (n := n) (lo := 1) (hi := 9) (sg := 44) (p := p + 1) (by omega)).1; omega)
      have er : rt T n p b = ((rn T n 1 9 44 (p + 1)).1, (rn T n 1 9 44 (p + 1)).2.1, b) := by unfold rt; rw [if_neg k0, if_neg (by omega), if_neg c1]
      rw [er] at h1
      exact s5_skip w ⟨fun _ => h1 c1 g2 a3 a4 (m7 (f1.trans f2)), fun q => absurd q w⟩
    · have r1 := rn_ok (by omega) c1
      refine s5_num (lo := 1) (hi := 5) (sg := 59) hT (by omega) (by omega) (by omega) r1.2 ((ht.fr7 f1).fr7 f2) k2 a3 (fun c2 r g3 a3 a4 f3 => ?_) (fun c2 g3 a3 k3 f3 => ?_)
      · have w : ¬ g3.1 2 3 = 0 := by rw [a3]; exact nz c2 (by have := (rn_e (T := T) (n := n) (lo := 1) (hi := 5) (sg := 59) r1.2).1; omega)
        have er : rt T n p b = ((rn T n 1 5 59 (rn T n 1 9 44 (p + 1)).2.1).1, (rn T n 1 5 59 (rn T n 1 9 44 (p + 1)).2.1).2.1, b) := by unfold rt; rw [if_neg k0, if_neg (by omega), if_pos c1, if_neg c2]
        rw [er] at h1
        exact ⟨fun _ => h1 c2 g3 a3 a4 (m7 (f1.trans (f2.trans f3))), fun q => absurd q w⟩
      · have r2 := rn_ok (by omega) c2
        have er : rt T n p b = (0, (rn T n 1 5 59 (rn T n 1 9 44 (p + 1)).2.1).2.1, ad b (kf (tk T n p)) (rn T n 1 9 44 (p + 1)).2.2 (rn T n 1 5 59 (rn T n 1 9 44 (p + 1)).2.1).2.2) := by unfold rt; rw [if_neg k0, if_neg (by omega), if_pos c1, if_pos c2]
        rw [er] at h0
        have F := f1.trans (f2.trans f3)
        refine ⟨fun q => absurd a3 q, fun _ => s3_add (hB.eq (fun q i z1 z2 => F _ _ (by omega))) hV b7 r2.1 (fun g5 b5 f5 => h0 rfl g5 ?_ (k3.eq (fun k => f5 _ _ (by omega))) b5 ((m7 F).trans (f5.mono (fun q k z => by unfold G7; omega))))⟩
        rw [f5 _ _ (by omega)]; exact a3
  · have k0 : kf (tk T n p) ≠ 0 := fun z => c (by rw [z]; rfl)
    rw [hB.1.1] at c7
    have b7 : b 0 0 = 7 := by
      have : ¬ b 0 0 < 7 := fun z => c7 ((nI_ltI (b := 7) (by omega) (by omega)).mpr z)
      have := hV.1
      omega
    have er : rt T n p b = (3, p, b) := by unfold rt; rw [if_neg k0, if_pos b7]
    rw [er] at h1
    have w6 : g15.1 2 3 = nI 3 := by rw [e15, mset_at, if_pos ⟨rfl, rfl⟩]; rfl
    have w : ¬ g15.1 2 3 = 0 := by rw [w6]; decide
    refine s5_skipE w (s5_skip w (s5_skip w ⟨fun _ => h1 (Nat.succ_ne_zero _) g15 w6 ?_ (by rw [e15]; exact m7 (Fr.set (T := F7) Fr.rfl (by omega))), fun q => absurd q w⟩))
    rw [e15, mset_at, if_neg (by omega)]; exact hk.1
