/-! glass: the loops, the reference's reader -/
theorem s5_exit {Q : Int32 → Mm → Prop} {K : Mm → Prop} {g : Mm} {x1 x2 : Int32} {f : Nat} (h : K g) (hz : ¬ g.1 2 3 = 0 ∨ x1 = 0) : o_X5_readTape_22 Q K (f + 1) g x1 x2 :=
  ⟨fun _ => h, fun _ => ⟨fun _ => h, fun q => ⟨fun _ => h, fun q2 => hz.elim (fun z => absurd q z) (fun z => absurd z q2)⟩⟩⟩
theorem rt_ok {T : Nat → Nat} {n p : Nat} {b : Bx} (hV : Wb b) (h : (rt T n p b).1 = 0) : Wb (rt T n p b).2.2 ∧ (rt T n p b).2.2 0 0 = b 0 0 + 1 ∧ (rt T n p b).2.1 ≤ n ∧ (rt T n p b).2.2 8 0 = b 8 0 := by
  unfold rt at h ⊢
  split at h
  · exact absurd h (Nat.succ_ne_zero _)
  · rename_i a
    rw [if_neg a]
    split at h
    · exact absurd h (Nat.succ_ne_zero _)
    · rename_i a7
      rw [if_neg a7]
      split at h
      · rename_i c1
        rw [if_pos c1]
        split at h
        · rename_i c2
          rw [if_pos c2]
          have r1 := rn_ok (by omega) c1
          have r2 := rn_ok (by omega) c2
          have k5 := kf_le (tk T n p)
          exact ⟨Wb_ad hV (by have := hV.1; omega) (by omega) r1.1 r2.1, ad_0 (b := b) (k := kf (tk T n p)) (w := (rn T n 1 9 44 (p + 1)).2.2) (c := (rn T n 1 5 59 (rn T n 1 9 44 (p + 1)).2.1).2.2), r2.2, ad_k (a := 8) (b := b) (k := kf (tk T n p)) (w := (rn T n 1 9 44 (p + 1)).2.2) (c := (rn T n 1 5 59 (rn T n 1 9 44 (p + 1)).2.1).2.2) (by omega)⟩
        · rename_i c2
          exact absurd h c2
      · rename_i c1
        exact absurd h c1
theorem rt_7 {T : Nat → Nat} {n p : Nat} {b : Bx} (h : b 0 0 = 7) : (rt T n p b).1 ≠ 0 := by
  unfold rt
  split
  · exact Nat.succ_ne_zero _
  · exact Nat.succ_ne_zero _
theorem rt_e {T : Nat → Nat} {n p : Nat} {b : Bx} (hp : p ≤ n) : (rt T n p b).1 ≤ 3 := by
  unfold rt
  split
  · show 1 ≤ 3; omega
  · rename_i a
    have tl := tk_let (T := T) (n := n) (p := p) (by have := kf_let a; omega)
    split
    · show 3 ≤ 3; omega
    · split
      · rename_i c1
        have r1 := rn_ok (by omega) c1
        split
        · show 0 ≤ 3; omega
        · have := (rn_e (T := T) (n := n) (lo := 1) (hi := 5) (sg := 59) r1.2).1
          show (rn T n 1 5 59 (rn T n 1 9 44 (p + 1)).2.1).1 ≤ 3
          omega
      · have := (rn_e (T := T) (n := n) (lo := 1) (hi := 9) (sg := 44) (p := p + 1) (by omega)).1
        show (rn T n 1 9 44 (p + 1)).1 ≤ 3
        omega
theorem lp_ok {T : Nat → Nat} {n : Nat} : ∀ (m p : Nat) (b : Bx), m + b 0 0 = 8 → Wb b → (lp T n m p b).1 = 0 → Wb (lp T n m p b).2.2 ∧ 1 ≤ (lp T n m p b).2.2 0 0 ∧ (lp T n m p b).2.2 8 0 = b 8 0 := by
  intro m
  induction m with
  | zero => intro p b e hV h; have := hV.1; omega
  | succ m ih =>
    intro p b e hV h
    rw [lp] at h ⊢
    split at h
    · rename_i c
      rw [if_pos c]
      have := rt_ok hV c.1
      have i := ih _ _ (by omega) this.1 h
      exact ⟨i.1, i.2.1, by omega⟩
    · rename_i c
      rw [if_neg c]
      have := rt_ok hV h
      exact ⟨this.1, by omega, this.2.2.2⟩
theorem s5_loop {T : Nat → Nat} {n : Nat} (hT : Tv T n) {Q : Int32 → Mm → Prop} {K : Mm → Prop} : ∀ (m p : Nat) (b : Bx) (g : Mm), m + b 0 0 = 8 → p ≤ n → Wb b → Tp7 T n g → Tok7 T n g p → g.1 2 3 = 0 → BoxIs g 4 b → ((lp T n m p b).1 ≠ 0 → ∀ g' : Mm, g'.1 2 3 = nI (lp T n m p b).1 → g'.1 2 4 = nI (lp T n m p b).2.1 → Fr G7 g g' → K g') → ((lp T n m p b).1 = 0 → ∀ g' : Mm, g'.1 2 3 = 0 → BoxIs g' 4 (lp T n m p b).2.2 → Fr G7 g g' → K g') → o_X5_readTape_22 Q K (m + 1) g 1 (nI (b 0 0)) := by
  intro m
  induction m with
  | zero => intro p b g e hp hV ht hk hw hB h1 h0; have := hV.1; omega
  | succ m ih =>
    intro p b g e hp hV ht hk hw hB h1 h0
    have h7 := hV.1
    refine ⟨fun q => absurd ((nI_ltI (a := 7) (by omega) (by omega)).mp q) (by omega), fun _ => ⟨fun q => absurd hw q, fun _ => ⟨fun q => absurd q (by decide), fun _ => ?_⟩⟩⟩
    rw [lp] at h1 h0
    refine s5_toy hT ht hk hw hB hV (fun c g1 a3 a4 f1 => ?_) (fun c g1 a3 k1 b1 f1 => ?_)
    · rw [if_neg (fun z => c z.1)] at h1
      have w : ¬ g1.1 2 3 = 0 := by rw [a3]; exact nz c (by have := rt_e (T := T) (b := b) hp; omega)
      have hh := h1 c g1 a3 a4 f1
      have m1 : ∃ m', m = m' + 1 ∨ m = 0 := ⟨m - 1, by omega⟩
      by_cases z : m = 0
      · subst z
        refine ⟨fun _ x ex => ?_, fun _ x ex => ?_⟩
        · rw [nI_1] at ex; subst ex; exact s5_exit hh (Or.inl w)
        · rw [nI_1] at ex; subst ex; exact s5_exit hh (Or.inl w)
      · exact ⟨fun _ x ex => s5_exit hh (Or.inl w), fun _ x ex => s5_exit hh (Or.inl w)⟩
    · have ro := rt_ok hV c
      have b7 : b 0 0 ≠ 7 := fun z => rt_7 z c
      refine ⟨fun q => ?_, fun q x ex => ?_⟩
      · rw [k1.2.1] at q
        have tz : tk T n (rt T n p b).2.1 = 257 := (nI_eq (b := 257) (by have := (kd_of (T := T) (n := n) (p := (rt T n p b).2.1)).2.2.2.2.2; omega) (by omega)).mp q
        rw [if_neg (fun z => z.2 tz)] at h0
        exact fun x ex => s5_exit (h0 c g1 a3 b1 f1) (Or.inr rfl)
      · rw [k1.2.1] at q
        have tz : tk T n (rt T n p b).2.1 ≠ 257 := fun z => q (by rw [z]; rfl)
        rw [if_pos ⟨c, tz⟩] at h0 h1
        rw [nI_1] at ex; subst ex
        rw [← ro.2.1]
        exact ih _ _ g1 (by omega) ro.2.2.1 ro.1 (ht.frG f1) k1 a3 b1 (fun z g' x3 x4 f' => h1 z g' x3 x4 (f1.trans f')) (fun z g' x3 xb f' => h0 z g' x3 xb (f1.trans f'))
theorem Wb_bz {lo hi ev : Nat} (h1 : lo ≤ 9) (h2 : hi ≤ 9) (h3 : 1 ≤ ev ∧ ev ≤ 9) : Wb (bz lo hi ev) := by
  refine ⟨by show 0 ≤ 7; omega, ⟨h1, h2, h3.1, h3.2, by show 0 ≤ 20000; omega⟩, fun t ht => absurd ht (Nat.not_lt_zero t)⟩
theorem law_ok {T : Nat → Nat} {n : Nat} (h : (law_ T n).1 = 0) : Wb (law_ T n).2.2 ∧ (law_ T n).2.2 0 0 = 0 ∧ (law_ T n).2.1 ≤ n ∧ (law_ T n).2.2 8 0 = 0 := by
  unfold law_ at h ⊢
  split at h
  · rename_i c
    rw [if_pos c]
    split at h
    · rename_i c1
      rw [if_pos c1]
      split at h
      · rename_i c2
        rw [if_pos c2]
        split at h
        · rename_i c3
          rw [if_pos c3]
          have r1 := rn_ok (by omega) c1
          have r2 := rn_ok (by omega) c2
          have r3 := rn_ok (by omega) c3
          exact ⟨Wb_bz r1.1.2 r2.1.2 r3.1, rfl, r3.2, rfl⟩
        · rename_i c3; exact absurd h c3
      · rename_i c2; exact absurd h c2
    · rename_i c1; exact absurd h c1
  · exact absurd h (Nat.succ_ne_zero _)
theorem law_e {T : Nat → Nat} {n : Nat} : (law_ T n).1 ≤ 3 := by
  unfold law_
  split
  · rename_i c
    have p0 := (tk_let (T := T) (n := n) (p := 0) (by omega)).1
    have e1 := (rn_e (T := T) (n := n) (lo := 0) (hi := 9) (sg := 44) (p := 1) (by omega)).1
    split
    · rename_i c1
      have r1 := rn_ok (by omega) c1
      have e2 := (rn_e (T := T) (n := n) (lo := 0) (hi := 9) (sg := 44) r1.2).1
      split
      · rename_i c2
        have r2 := rn_ok (by omega) c2
        have e3 := (rn_e (T := T) (n := n) (lo := 1) (hi := 9) (sg := 59) r2.2).1
        split
        · show 0 ≤ 3; omega
        · exact Nat.le_trans e3 (by omega)
      · exact Nat.le_trans e2 (by omega)
    · exact Nat.le_trans e1 (by omega)
  · show 1 ≤ 3; omega
theorem lp_e {T : Nat → Nat} {n : Nat} : ∀ (m p : Nat) (b : Bx), p ≤ n → Wb b → (lp T n m p b).1 ≤ 3 := by
  intro m
  induction m with
  | zero => intro p b hp hV; show 0 ≤ 3; omega
  | succ m ih =>
    intro p b hp hV
    rw [lp]
    split
    · rename_i c
      have := rt_ok hV c.1
      exact ih _ _ this.2.2.1 this.1
    · exact rt_e hp
theorem prs_e {T : Nat → Nat} {n : Nat} : (prs T n).1 ≤ 3 := by
  unfold prs
  split
  · rename_i c
    have := law_ok c
    exact lp_e _ _ _ this.2.2.1 this.1
  · exact law_e
theorem prs_ok {T : Nat → Nat} {n : Nat} (h : (prs T n).1 = 0) : Vb (prs T n).2.2 ∧ (prs T n).2.2 8 0 = 0 := by
  unfold prs at h ⊢
  split at h
  · rename_i c
    rw [if_pos c]
    have l := law_ok c
    have := lp_ok 8 _ _ (by omega) l.1 h
    exact ⟨⟨⟨this.2.1, this.1.1⟩, this.1.2.1, this.1.2.2⟩, by omega⟩
  · rename_i c; exact absurd h c
def G7e (q k : Nat) : Prop := (q = 2 ∧ 2 ≤ k ∧ k ≤ 7) ∨ (4 ≤ q ∧ q ≤ 8) ∨ (q = 0 ∧ k = 7)
def G7o (q k : Nat) : Prop := (q = 2 ∧ 2 ≤ k ∧ k ≤ 7) ∨ (4 ≤ q ∧ q ≤ 13) ∨ (q = 14 ∧ k = 2)
theorem s7_glass {T : Nat → Nat} {n : Nat} (hT : Tv T n) {Q : Int32 → Mm → Prop} {g : Mm} (ht : Tp7 T n g) (h1 : (prs T n).1 ≠ 0 → ∀ g' : Mm, g'.1 0 7 = nI (prs T n).1 → g'.1 2 2 = 0 → Fr G7e g g' → Q (-1000100 - nI (prs T n).2.1) g') (h0 : (prs T n).1 = 0 → ∀ g' : Mm, BoxIs g' 9 (prs T n).2.2 → g'.1 14 2 = 0 → g'.1 2 2 = 0 → Fr G7o g g' → Q (nI ((prs T n).2.2 0 0)) g') : o_X7_glass Q g := by
  intro g1 e1 g2 e2
  have F2 : Fr F7 g g2 := by
    rw [e2, e1]
    exact Fr.set (T := F7) (Fr.set (T := F7) Fr.rfl (by omega)) (by omega)
  have a3 : g2.1 2 3 = 0 := by rw [e2, mset_at, if_neg (by omega), e1, mset_at, if_pos ⟨rfl, rfl⟩]
  have a6 : g2.1 2 6 = nI 0 := by rw [e2, mset_at, if_pos ⟨rfl, rfl⟩]; rfl
  have e3 := prs_e (T := T) (n := n)
  refine s5_advance hT (p := 0) (by omega) (ht.fr7 F2) a6 (fun g3 k3 f3 => ?_)
  have F3 : Fr G7 g g3 := (F2.mono (fun q k z => by unfold G7; omega)).trans (f3.mono (fun q k z => by unfold G7; omega))
  have b3 : g3.1 2 3 = 0 := by rw [f3 _ _ (by omega)]; exact a3
  have bad : ∀ g4 : Mm, (prs T n).1 ≠ 0 → g4.1 2 3 = nI (prs T n).1 → g4.1 2 4 = nI (prs T n).2.1 → Fr G7 g g4 → o_X5_readTape_65 (fun (r_2 : Int32) (g_1 : Mm) => ((¬ r_2 = 0) → o_X3_become (fun (g_3 : Mm) => o_X0_forget (fun (g_5 : Mm) => Q (g_5.1 9 4) g_5) g_3) 9 4 g_1) ∧ ((r_2 = 0) → ∀ g_7 : Mm, g_7 = mset g_1 0 7 (g_1.1 2 3) → (Q ((-1000100) - (g_7.1 2 4)) g_7))) g4 := by
    intro g4 hz c3 c4 f4 g5 e5
    have d3 : g5.1 2 3 = nI (prs T n).1 := by rw [e5, mset_at, if_neg (by omega)]; exact c3
    refine ⟨fun _ => ⟨fun q => absurd rfl q, fun _ g7 e7 => ?_⟩, fun q => absurd q (by rw [d3]; exact nz hz (by omega))⟩
    have d4 : g7.1 2 4 = nI (prs T n).2.1 := by rw [e7, mset_at, if_neg (by omega), e5, mset_at, if_neg (by omega)]; exact c4
    rw [d4]
    refine h1 hz g7 ?_ ?_ ?_
    · rw [e7, mset_at, if_pos ⟨rfl, rfl⟩]; exact d3
    · rw [e7, mset_at, if_neg (by omega), e5, mset_at, if_pos ⟨rfl, rfl⟩]
    · rw [e7, e5]
      refine Fr.set (T := G7e) (Fr.set (T := G7e) (f4.mono (fun q k z => by unfold G7 at z; unfold G7e; omega)) ?_) ?_
      · unfold G7e; omega
      · unfold G7e; omega
  refine s5_law hT (ht.frG F3) k3 b3 (fun c g4 c3 c4 f4 => ?_) (fun c g4 c3 k4 bb f4 => ?_)
  · have ep : prs T n = law_ T n := by unfold prs; rw [if_neg c]
    refine ⟨1, s5_exit ?_ (Or.inl (by rw [c3]; exact nz c (by rw [← ep]; omega)))⟩
    exact bad g4 (by rw [ep]; exact c) (by rw [ep]; exact c3) (by rw [ep]; exact c4) (F3.trans f4)
  · have ep : prs T n = lp T n 8 (law_ T n).2.1 (law_ T n).2.2 := by unfold prs; rw [if_pos c]
    have lo := law_ok c
    have := s5_loop hT (Q := fun (r_2 : Int32) (g_1 : Mm) => ((¬ r_2 = 0) → o_X3_become (fun (g_3 : Mm) => o_X0_forget (fun (g_5 : Mm) => Q (g_5.1 9 4) g_5) g_3) 9 4 g_1) ∧ ((r_2 = 0) → ∀ g_7 : Mm, g_7 = mset g_1 0 7 (g_1.1 2 3) → (Q ((-1000100) - (g_7.1 2 4)) g_7))) (K := fun g => o_X5_readTape_65 (fun (r_2 : Int32) (g_1 : Mm) => ((¬ r_2 = 0) → o_X3_become (fun (g_3 : Mm) => o_X0_forget (fun (g_5 : Mm) => Q (g_5.1 9 4) g_5) g_3) 9 4 g_1) ∧ ((r_2 = 0) → ∀ g_7 : Mm, g_7 = mset g_1 0 7 (g_1.1 2 3) → (Q ((-1000100) - (g_7.1 2 4)) g_7))) g) 8 (law_ T n).2.1 (law_ T n).2.2 g4 (by omega) lo.2.2.1 lo.1 ((ht.frG F3).frG f4) k4 c3 bb (fun z g5 d3 d4 f5 => ?_) (fun z g5 d3 b5 f5 => ?_)
    · rw [lo.2.1] at this
      exact ⟨9, this⟩
    · rw [← ep] at z d3 d4
      exact bad g5 z d3 d4 (F3.trans (f4.trans f5))
    · rw [← ep] at z b5
      have ok := prs_ok z
      intro g6 e6
      refine ⟨fun q => absurd (by rw [e6, mset_at, if_neg (by omega)]; exact d3) q, fun _ => ⟨fun _ => ?_, fun q => absurd q (by decide)⟩⟩
      have b6 : BoxIs g6 4 (prs T n).2.2 := b5.eq (fun q k z1 z2 => by rw [e6, mset_at, if_neg (by omega)])
      refine s3_become b6 ok.1.1.2 (Or.inl (by omega)) (fun g7 b7 _ f7 g8 e8 => ?_)
      have b8 : BoxIs g8 9 (prs T n).2.2 := b7.eq (fun q k z1 z2 => by rw [e8, mset_at, if_neg (by omega)])
      show Q (g8.1 9 4) g8
      rw [b8.1.1]
      refine h0 z g8 b8 ?_ ?_ ?_
      · rw [e8, mset_at, if_pos ⟨rfl, rfl⟩]
      · rw [e8, mset_at, if_neg (by omega), f7 _ _ (by omega), e6, mset_at, if_pos ⟨rfl, rfl⟩]
      · rw [e8]
        refine Fr.set (T := G7o) (Fr.trans (g1 := g6) ?_ (f7.mono (fun q k z => by unfold G7o; omega))) ?_
        · rw [e6]
          refine Fr.set (T := G7o) ((F3.trans (f4.trans f5)).mono (fun q k z => by unfold G7 at z; unfold G7o; omega)) ?_
          unfold G7o; omega
        · unfold G7o; omega
