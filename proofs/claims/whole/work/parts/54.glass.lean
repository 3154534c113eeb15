/-! glass: the reference's reader -/
abbrev F8 (q k : Nat) : Prop := q = 86 ∧ 14 ≤ k ∧ k ≤ 17
def G8 (q k : Nat) : Prop := (q = 86 ∧ 14 ≤ k ∧ k ≤ 17) ∨ q = 97
theorem Tp8.frG {T : Nat → Nat} {n : Nat} {g g' : Mm} (h : Tp8 T n g) (f : Fr G8 g g') : Tp8 T n g' := h.eq (f _ _ (by unfold G8; omega)) (fun i => f _ _ (by unfold G8; omega))
theorem mG {g g' : Mm} (f : Fr F8 g g') : Fr G8 g g' := f.mono (fun q k z => by unfold G8; omega)
def N8 (to q k : Nat) : Prop := (q = 86 ∧ 14 ≤ k ∧ k ≤ 17) ∨ (q = 97 ∧ k = to)
theorem nG {to : Nat} {g g' : Mm} (f : Fr (N8 to) g g') : Fr G8 g g' := f.mono (fun q k z => by unfold N8 at z; unfold G8; omega)
theorem fN {to : Nat} {g g' : Mm} (f : Fr F8 g g') : Fr (N8 to) g g' := f.mono (fun q k z => by unfold N8; omega)
theorem tk_lt {T : Nat → Nat} {n p : Nat} (h : tk T n p < 257) : p < n := by
  unfold tk at h
  split at h <;> omega
theorem vl_lt {T : Nat → Nat} {n p : Nat} (hT : Tv T n) (e : tk T n p = 256) : vl T n p < 100000 := by
  have lt := tk_num e
  have lzi := lz_in (T := T) lt
  unfold vl
  have hd : ∀ j, p + j < n → T (p + j) - 48 ≤ 207 := fun j hj => by have := hT.2 (p + j) hj; omega
  have d0 := hd 0 (by omega)
  rcases (by omega : lz T n p = 1 ∨ lz T n p = 2 ∨ lz T n p = 3) with z | z | z
  · rw [z]
    show dv T p 0 * 10 + (T (p + 0) - 48) < 100000
    have : dv T p 0 = 0 := rfl
    omega
  · have d1 := hd 1 (by omega)
    rw [z]
    show (dv T p 0 * 10 + (T (p + 0) - 48)) * 10 + (T (p + 1) - 48) < 100000
    have : dv T p 0 = 0 := rfl
    omega
  · have d1 := hd 1 (by omega)
    have d2 := hd 2 (by omega)
    rw [z]
    show ((dv T p 0 * 10 + (T (p + 0) - 48)) * 10 + (T (p + 1) - 48)) * 10 + (T (p + 2) - 48) < 100000
    have : dv T p 0 = 0 := rfl
    omega
theorem s8_goOn {T : Nat → Nat} {n p : Nat} (hT : Tv T n) {Q : Mm → Prop} {g : Mm} (ht : Tp8 T n g) (hk : Tok8 T n g p) (hl : tk T n p < 257) (h : ∀ g', Tok8 T n g' (p + lz T n p) → Fr F8 g g' → Q g') : o_X8_goOn Q g := by
  have := lz_in (T := T) (tk_lt hl)
  unfold o_X8_goOn
  rw [hk.1, hk.2.2.1 hl, nI_add]
  exact s8_look hT (by omega) ht h
theorem s8_byte {T : Nat → Nat} {n p K x : Nat} (hT : Tv T n) {Q : Int32 → Mm → Prop} {g : Mm} (hK : (K = 1 ∧ 97 ≤ x ∧ x ≤ 122) ∨ (K = 3 ∧ (x = 44 ∨ x = 59))) (ht : Tp8 T n g) (hk : Tok8 T n g p) (h1 : tk T n p = x → Q 1 g) (h0 : tk T n p ≠ x → Q 0 g) : o_X8_isByte Q g (nI K) (nI x) := by
  have hn := hT.1
  have k := kd_of (T := T) (n := n) (p := p)
  refine ⟨fun q => h0 (fun z => q ?_), fun q => ?_⟩
  · rw [hk.2.1]
    congr 1
    omega
  · rw [hk.2.1] at q
    have e := (nI_eq (by omega) (by omega)).mp q
    have tl := tk_let (T := T) (n := n) (p := p) (by omega)
    have hv := hT.2 p tl.1
    refine ⟨by rw [hk.1]; exact vlit _ (by omega) (by omega), ?_⟩
    rw [hk.1, cl (by omega), ht.2 p tl.1]
    refine ⟨fun d => h0 (fun z => d ?_), fun d => h1 ?_⟩
    · rw [← tl.2.2.2.1, z]
    · rw [tl.2.2.2.1]; exact (nI_eq (by omega) (by omega)).mp d
theorem s8_num {T : Nat → Nat} {n p to lo hi sg : Nat} (hT : Tv T n) {Q : Int32 → Mm → Prop} {g : Mm} (hto : to < 33) (hs : sg = 44 ∨ sg = 59) (hl : lo < 1000) (hh : hi < 1000) (ht : Tp8 T n g) (hk : Tok8 T n g p) (h1 : (rn T n lo hi sg p).1 ≠ 0 → ∀ (g' : Mm), g'.1 86 14 = nI (rn T n lo hi sg p).2.1 → Fr G8 g g' → Q (nI (rn T n lo hi sg p).1) g') (h0 : (rn T n lo hi sg p).1 = 0 → ∀ g' : Mm, Tok8 T n g' (rn T n lo hi sg p).2.1 → g'.1 97 to = nI (rn T n lo hi sg p).2.2 → Fr (N8 to) g g' → Q (nI 0) g') : o_X8_readNumber Q g (nI to) (nI lo) (nI hi) (nI sg) := by
  have hn := hT.1
  have k := kd_of (T := T) (n := n) (p := p)
  refine ⟨fun q => ?_, fun q => ?_⟩
  · rw [hk.2.1] at q
    have e : tk T n p = 256 := k.2.1.mp ((nI_eq (b := 2) (by omega) (by omega)).mp q)
    have hv := hk.2.2.2 e
    have vb := vl_lt hT e
    have lt := tk_num e
    have lzi := lz_in (T := T) lt
    rw [hv]
    have rr : (nI lo ≤ nI (vl T n p) ∧ nI (vl T n p) ≤ nI hi) ↔ (lo ≤ vl T n p ∧ vl T n p ≤ hi) := by
      rw [nI_leI (by omega) (by omega), nI_leI (by omega) (by omega)]
    refine s8_in (nI lo) (nI hi) rfl rfl (bI_rb (fun d => ?_) (fun d => ⟨vlit _ hto (by omega), fun g3 e3 => ?_⟩))
    · have er : rn T n lo hi sg p = (2, p, 0) := by unfold rn; rw [if_pos e, if_neg (fun z => d (rr.mpr z))]
      rw [er] at h1
      exact h1 (Nat.succ_ne_zero _) g hk.1 Fr.rfl
    · rw [hv, cl (by omega)] at e3
      have F3 : Fr (N8 to) g g3 := by
        rw [e3]
        refine Fr.set (T := N8 to) Fr.rfl ?_
        unfold N8; omega
      have k3 : Tok8 T n g3 p := by
        unfold Tok8
        rw [e3, mset_at, mset_at, mset_at, mset_at, if_neg (by omega), if_neg (by omega), if_neg (by omega), if_neg (by omega)]
        exact hk
      refine s8_goOn hT (ht.frG (nG F3)) k3 (by omega) (fun g4 k4 f4 => ?_)
      have F4 : Fr (N8 to) g g4 := F3.trans (fN f4)
      refine s8_byte hT (K := 3) (Or.inr ⟨rfl, hs⟩) (ht.frG (nG F4)) k4 (fun c => ⟨fun _ => ?_, fun q => absurd q (by decide)⟩) (fun c => ⟨fun q => absurd rfl q, fun _ => ?_⟩)
      · have er : rn T n lo hi sg p = (0, p + lz T n p + 1, vl T n p) := by unfold rn; rw [if_pos e, if_pos (rr.mp d), if_pos c]
        have tl := tk_let (T := T) (n := n) (p := p + lz T n p) (by omega)
        rw [er] at h0
        refine s8_goOn hT (ht.frG (nG F4)) k4 (by omega) (fun g5 k5 f5 => h0 rfl g5 ?_ ?_ (F4.trans (fN f5)))
        · rw [tl.2.2.2.2] at k5; exact k5
        · rw [f5 _ _ (by omega), f4 _ _ (by omega), e3, mset_at, if_pos ⟨rfl, rfl⟩]
      · have er : rn T n lo hi sg p = (1, p + lz T n p, vl T n p) := by unfold rn; rw [if_pos e, if_pos (rr.mp d), if_neg c]
        rw [er] at h1
        exact h1 (Nat.succ_ne_zero _) g4 k4.1 (nG F4)
  · have er : rn T n lo hi sg p = (1, p, 0) := by unfold rn; rw [if_neg (fun z => q (by rw [hk.2.1, k.2.1.mpr z]; rfl))]
    rw [er] at h1
    exact h1 (Nat.succ_ne_zero _) g hk.1 Fr.rfl
theorem s8_law {T : Nat → Nat} {n : Nat} (hT : Tv T n) {Q : Int32 → Mm → Prop} {g : Mm} (ht : Tp8 T n g) (hk : Tok8 T n g 0) (hz : ∀ k, k < 33 → g.1 97 k = 0) (h1 : (law_ T n).1 ≠ 0 → ∀ g' : Mm, g'.1 86 14 = nI (law_ T n).2.1 → Fr G8 g g' → Q (nI (law_ T n).1) g') (h0 : (law_ T n).1 = 0 → ∀ g' : Mm, Tok8 T n g' (law_ T n).2.1 → RowIs (g'.1 97) (law_ T n).2.2 → Fr G8 g g' → Q (nI 0) g') : o_X8_readLaw Q g := by
  have hn := hT.1
  refine s8_byte (K := 1) (x := 103) hT (Or.inl ⟨rfl, by omega⟩) ht hk (fun c => ⟨fun _ => ?_, fun q => absurd q (by decide)⟩) (fun c => ⟨fun q => absurd rfl q, fun _ => ?_⟩)
  · have tl := tk_let (T := T) (n := n) (p := 0) (by omega)
    refine s8_goOn hT ht hk (by omega) (fun g1 k1 f1 => ?_)
    rw [tl.2.2.2.2] at k1
    have F1 : Fr G8 g g1 := mG f1
    refine s8_num (to := 16) (lo := 0) (hi := 9) (sg := 44) hT (by omega) (by omega) (by omega) (by omega) (ht.frG F1) k1 (fun c1 g2 a4 f2 => ⟨fun _ => ?_, fun q => absurd q ?_⟩) (fun c1 g2 k2 a2 f2 => ⟨fun q => absurd rfl q, fun _ => ?_⟩)
    · have l : law_ T n = ((rn T n 0 9 44 1).1, (rn T n 0 9 44 1).2.1, bz 0 0 0) := by unfold law_; rw [if_pos c, if_neg c1]
      rw [l] at h1
      have w := nz c1 (by have := (rn_e (T := T) (n := n) (lo := 0) (hi := 9) (sg := 44) (p := 0 + 1) (by omega)).1; omega)
      exact ⟨fun _ => h1 c1 g2 a4 (F1.trans f2), fun q => absurd q w⟩
    · exact nz c1 (by have := (rn_e (T := T) (n := n) (lo := 0) (hi := 9) (sg := 44) (p := 0 + 1) (by omega)).1; omega)
    · have r1 := rn_ok (by omega) c1
      have F2 : Fr G8 g g2 := F1.trans (nG f2)
      refine s8_num (to := 17) (lo := 0) (hi := 9) (sg := 44) hT (by omega) (by omega) (by omega) (by omega) (ht.frG F2) k2 (fun c2 g3 a4 f3 => ⟨fun _ => ?_, fun q => absurd q ?_⟩) (fun c2 g3 k3 a3 f3 => ⟨fun q => absurd rfl q, fun _ => ?_⟩)
      · have l : law_ T n = ((rn T n 0 9 44 (rn T n 0 9 44 1).2.1).1, (rn T n 0 9 44 (rn T n 0 9 44 1).2.1).2.1, bz 0 0 0) := by unfold law_; rw [if_pos c, if_pos c1, if_neg c2]
        rw [l] at h1
        exact h1 c2 g3 a4 (F2.trans f3)
      · exact nz c2 (by have := (rn_e (T := T) (n := n) (lo := 0) (hi := 9) (sg := 44) r1.2).1; omega)
      · have r2 := rn_ok (by omega) c2
        have F3 : Fr G8 g g3 := F2.trans (nG f3)
        refine s8_num (to := 18) (lo := 1) (hi := 9) (sg := 59) hT (by omega) (by omega) (by omega) (by omega) (ht.frG F3) k3 (fun c3 g4 a4 f4 => ?_) (fun c3 g4 k4 a4 f4 => ?_)
        · have l : law_ T n = ((rn T n 1 9 59 (rn T n 0 9 44 (rn T n 0 9 44 1).2.1).2.1).1, (rn T n 1 9 59 (rn T n 0 9 44 (rn T n 0 9 44 1).2.1).2.1).2.1, bz 0 0 0) := by unfold law_; rw [if_pos c, if_pos c1, if_pos c2, if_neg c3]
          rw [l] at h1
          exact h1 c3 g4 a4 (F3.trans f4)
        · have l : law_ T n = (0, (rn T n 1 9 59 (rn T n 0 9 44 (rn T n 0 9 44 1).2.1).2.1).2.1, bz (rn T n 0 9 44 1).2.2 (rn T n 0 9 44 (rn T n 0 9 44 1).2.1).2.2 (rn T n 1 9 59 (rn T n 0 9 44 (rn T n 0 9 44 1).2.1).2.1).2.2) := by unfold law_; rw [if_pos c, if_pos c1, if_pos c2, if_pos c3]
          rw [l] at h0
          refine h0 rfl g4 k4 ⟨⟨?_, ?_, ?_, ?_, ?_⟩, fun t ht => absurd ht (Nat.not_lt_zero t)⟩ (F3.trans (nG f4))
          · rw [f4 _ _ (by unfold N8; omega), f3 _ _ (by unfold N8; omega), f2 _ _ (by unfold N8; omega), f1 _ _ (by omega)]; exact hz 0 (by omega)
          · rw [f4 _ _ (by unfold N8; omega), f3 _ _ (by unfold N8; omega)]; exact a2
          · rw [f4 _ _ (by unfold N8; omega)]; exact a3
          · exact a4
          · rw [f4 _ _ (by unfold N8; omega), f3 _ _ (by unfold N8; omega), f2 _ _ (by unfold N8; omega), f1 _ _ (by omega)]; exact hz 15 (by omega)
  · have l : law_ T n = (1, 0, bz 0 0 0) := by unfold law_; rw [if_neg c]
    rw [l] at h1
    exact h1 (Nat.succ_ne_zero _) g hk.1 Fr.rfl
theorem s8_under {Q : Int32 → Mm → Prop} {K : Mm → Int32 → Int32 → Int32 → Prop} {g : Mm} {b : Bx} {c : Nat} {x3 : Int32} (hV : Wb b) (h7 : b 0 0 < 7) (hc : c < 1000) (e3 : ∀ t, t < b 0 0 → g.1 97 (19 + t) = nI (b 3 t)) (e4 : g.1 97 (19 + b 0 0) = nI c) (h : K g (nI (b 0 0)) x3 (nI (cN b c))) : ∀ m t, t + m = b 0 0 → o_X8_readToy_105 Q K (m + 1) g (nI (b 0 0)) x3 (nI (ct b c t)) (nI t) := by
  intro m
  induction m with
  | zero =>
    intro t e
    refine ⟨fun _ => ?_, fun q => absurd ((nI_leI (by omega) (by omega)).mpr (by omega)) q⟩
    rw [show t = b 0 0 by omega]; exact h
  | succ m ih =>
    intro t e
    have hp := Wb_P hV (show t < b 0 0 by omega)
    refine ⟨fun q => absurd ((nI_leI (by omega) (by omega)).mp q) (by omega), fun _ => ⟨v19 (by omega), v19 (by omega), ?_⟩⟩
    rw [c19 (by omega), c19 (by omega), e3 t (by omega), e4]
    have go : ∀ z, ct b c (t + 1) = ct b c t + z → o_X8_readToy_140 Q (o_X8_readToy_105 Q K (m + 1)) K g (nI (b 0 0)) x3 (nI t) (nI (ct b c t)) (nI z) := by
      intro z ez x e1 y e2
      rw [nI_1] at e2; subst e2
      rw [nI_add, ← ez] at e1; subst e1
      exact ih (t + 1) (by omega)
    refine ⟨fun q => go 0 ?_, fun q => go 1 ?_⟩
    · rw [ct, if_neg (fun z => q (by rw [z]))]
    · rw [ct, if_pos ((nI_eq (by omega) (by omega)).mp q)]
theorem s8_toyR {T : Nat → Nat} {n p : Nat} (hT : Tv T n) {Q : Int32 → Mm → Prop} {g : Mm} {b : Bx} (hp : p ≤ n) (ht : Tp8 T n g) (hk : Tok8 T n g p) (hB : RowIs (g.1 97) b) (hV : Wb b) (h1 : (rt T n p b).1 ≠ 0 → ∀ g' : Mm, g'.1 86 14 = nI (rt T n p b).2.1 → Fr G8 g g' → Q (nI (rt T n p b).1) g') (h0 : (rt T n p b).1 = 0 → ∀ g' : Mm, Tok8 T n g' (rt T n p b).2.1 → RowIs (g'.1 97) (rt T n p b).2.2 → Fr G8 g g' → Q (nI 0) g') : o_X8_readToy Q g := by
  have hn := hT.1
  have h7 := hV.1
  have k := kd_of (T := T) (n := n) (p := p)
  have k5 := kf_le (tk T n p)
  refine ⟨vlit 0 (by omega) (by omega), fun x1 e1 => ?_⟩
  rw [show (0 : Int32).toNatClampNeg = 0 from rfl, hB.1.1] at e1
  subst e1
  have main : o_X8_readToy_32 Q g (nI (b 0 0)) (nI (kf (tk T n p))) := by
    refine ⟨fun c => ⟨fun c7 => ⟨v1 (t := b 0 0) (by
      have : ¬ b 0 0 = 7 := fun z => c7 (by rw [z]; rfl)
      omega), fun g2 e2 => ?_⟩, fun c7 => ?_⟩, fun c => ?_⟩
    · have k0 : kf (tk T n p) ≠ 0 := fun z => c (by rw [z]; rfl)
      have b7 : b 0 0 < 7 := by
        have : ¬ b 0 0 = 7 := fun z => c7 (by rw [z]; rfl)
        omega
      have kl := kf_let k0
      have tl := tk_let (T := T) (n := n) (p := p) (by omega)
      rw [ca1 (by omega)] at e2
      have F2 : Fr G8 g g2 := by
        rw [e2]
        refine Fr.set (T := G8) Fr.rfl ?_
        unfold G8; omega
      have k2 : Tok8 T n g2 p := by
        unfold Tok8
        rw [e2, mset_at, mset_at, mset_at, mset_at, if_neg (by omega), if_neg (by omega), if_neg (by omega), if_neg (by omega)]
        exact hk
      refine s8_goOn hT (ht.frG F2) k2 (by omega) (fun g3 k3 f3 => ?_)
      rw [tl.2.2.2.2] at k3
      have F3 : Fr G8 g g3 := F2.trans (mG f3)
      rw [show (8 : Int32) + nI (b 0 0) = nI (8 + b 0 0) from nI_add 8 _, show (19 : Int32) + nI (b 0 0) = nI (19 + b 0 0) from nI_add 19 _]
      refine s8_num (to := 8 + b 0 0) (lo := 1) (hi := 9) (sg := 44) hT (by omega) (by omega) (by omega) (by omega) (ht.frG F3) k3 (fun c1 g4 a4 f4 => ⟨fun _ => ?_, fun q => absurd q ?_⟩) (fun c1 g4 k4 a4 f4 => ⟨fun q => absurd rfl q, fun _ => ?_⟩)
      · have w := nz c1 (by have := (rn_e (T := T) (n := n) (lo := 1) (hi := 9) (sg := 44) (p := p + 1) (by omega)).1; omega)
        have er : rt T n p b = ((rn T n 1 9 44 (p + 1)).1, (rn T n 1 9 44 (p + 1)).2.1, b) := by unfold rt; rw [if_neg k0, if_neg (by omega), if_neg c1]
        rw [er] at h1
        exact ⟨fun _ => h1 c1 g4 a4 (F3.trans f4), fun q => absurd q w⟩
      · exact nz c1 (by have := (rn_e (T := T) (n := n) (lo := 1) (hi := 9) (sg := 44) (p := p + 1) (by omega)).1; omega)
      · have r1 := rn_ok (by omega) c1
        have F4 : Fr G8 g g4 := F3.trans (nG f4)
        refine s8_num (to := 19 + b 0 0) (lo := 1) (hi := 5) (sg := 59) hT (by omega) (by omega) (by omega) (by omega) (ht.frG F4) k4 (fun c2 g5 a5 f5 => ?_) (fun c2 g5 k5 a5 f5 => ?_)
        · have w := nz c2 (by have := (rn_e (T := T) (n := n) (lo := 1) (hi := 5) (sg := 59) r1.2).1; omega)
          have er : rt T n p b = ((rn T n 1 5 59 (rn T n 1 9 44 (p + 1)).2.1).1, (rn T n 1 5 59 (rn T n 1 9 44 (p + 1)).2.1).2.1, b) := by unfold rt; rw [if_neg k0, if_neg (by omega), if_pos c1, if_neg c2]
          rw [er] at h1
          exact ⟨fun _ => h1 c2 g5 a5 (F4.trans f5), fun q => absurd q w⟩
        · have r2 := rn_ok (by omega) c2
          have er : rt T n p b = (0, (rn T n 1 5 59 (rn T n 1 9 44 (p + 1)).2.1).2.1, ad b (kf (tk T n p)) (rn T n 1 9 44 (p + 1)).2.2 (rn T n 1 5 59 (rn T n 1 9 44 (p + 1)).2.1).2.2) := by unfold rt; rw [if_neg k0, if_neg (by omega), if_pos c1, if_pos c2]
          rw [er] at h0
          have F5 : Fr G8 g g5 := F4.trans (nG f5)
          have O5 : ∀ i, i ≠ 1 + b 0 0 → i ≠ 8 + b 0 0 → i ≠ 19 + b 0 0 → g5.1 97 i = g.1 97 i := fun i i1 i2 i3 => by
            rw [f5 _ _ (by unfold N8; omega), f4 _ _ (by unfold N8; omega), f3 _ _ (by omega), e2, mset_at, if_neg (by omega)]
          refine ⟨fun q => absurd rfl q, fun _ => ⟨b 0 0 + 1, s8_under (c := (rn T n 1 5 59 (rn T n 1 9 44 (p + 1)).2.1).2.2) hV b7 (by omega) (fun t ht => ?_) a5 ?_ (b 0 0) 0 (by omega)⟩⟩
          · rw [O5 _ (by omega) (by omega) (by omega)]; exact (hB.2 t ht).2.2.1
          · refine ⟨v26 (by omega), fun g9 e9 => ⟨vlit 0 (by omega) (by omega), vlit 0 (by omega) (by omega), fun g10 e10 => ?_⟩⟩
            rw [c26 (by omega)] at e9
            rw [show (0 : Int32).toNatClampNeg = 0 from rfl] at e10
            have E : ∀ i, g10.1 97 i = if i = 0 then nI (b 0 0 + 1) else if i = 26 + b 0 0 then nI (cN b (rn T n 1 5 59 (rn T n 1 9 44 (p + 1)).2.1).2.2) else g5.1 97 i := by
              intro i
              have z0 : g9.1 97 0 = nI (b 0 0) := by rw [e9, mset_at, if_neg (by omega), O5 _ (by omega) (by omega) (by omega)]; exact hB.1.1
              rw [z0, nI_1] at e10
              rw [e10, mset_at, e9, mset_at]
              by_cases z : i = 0
              · rw [if_pos ⟨rfl, z⟩, if_pos z]
              · rw [if_neg (by omega), if_neg z]
                by_cases y : i = 26 + b 0 0
                · rw [if_pos ⟨rfl, y⟩, if_pos y]
                · rw [if_neg (by omega), if_neg y]
            refine h0 rfl g10 ?_ (hB.ad b7 ?_ ?_ ?_ ?_ ?_ ?_) ?_
            · unfold Tok8
              rw [e10, mset_at, mset_at, mset_at, mset_at, if_neg (by omega), if_neg (by omega), if_neg (by omega), if_neg (by omega), e9, mset_at, mset_at, mset_at, mset_at, if_neg (by omega), if_neg (by omega), if_neg (by omega), if_neg (by omega)]
              exact k5
            · rw [E, if_pos rfl]
            · rw [E, if_neg (by omega), if_neg (by omega), f5 _ _ (by unfold N8; omega), f4 _ _ (by unfold N8; omega), f3 _ _ (by omega), e2, mset_at, if_pos ⟨rfl, rfl⟩]
            · rw [E, if_neg (by omega), if_neg (by omega), f5 _ _ (by unfold N8; omega)]; exact a4
            · rw [E, if_neg (by omega), if_neg (by omega)]; exact a5
            · rw [E, if_neg (by omega), if_pos rfl]
            · intro i i0 i1 i2 i3 i4
              rw [E, if_neg i0, if_neg i4]; exact O5 i i1 i2 i3
            · rw [e10, e9]
              refine Fr.set (T := G8) (Fr.set (T := G8) F5 ?_) ?_
              · unfold G8; omega
              · unfold G8; omega
    · have k0 : kf (tk T n p) ≠ 0 := fun z => c (by rw [z]; rfl)
      have b7 : b 0 0 = 7 := (nI_eq (b := 7) (by omega) (by omega)).mp c7
      have er : rt T n p b = (3, p, b) := by unfold rt; rw [if_neg k0, if_pos b7]
      rw [er] at h1
      exact h1 (Nat.succ_ne_zero _) g hk.1 Fr.rfl
    · have k0 : kf (tk T n p) = 0 := (nI_eq (b := 0) (by omega) (by omega)).mp c
      have er : rt T n p b = (1, p, b) := by unfold rt; rw [if_pos k0]
      rw [er] at h1
      exact h1 (Nat.succ_ne_zero _) g hk.1 Fr.rfl
  refine ⟨fun q => ?_, fun q => ?_⟩
  · rw [hk.2.1] at q
    have k0 : kf (tk T n p) = 0 := Decidable.byContradiction fun z => q (by rw [k.2.2.1.mpr (kf_let z)]; rfl)
    rw [k0] at main; exact main
  · rw [hk.2.1] at q
    have e := k.2.2.1.mp ((nI_eq (b := 1) (by omega) (by omega)).mp q)
    have tl := tk_let (T := T) (n := n) (p := p) (by omega)
    refine ⟨by rw [hk.1]; exact vlit _ (by omega) (by omega), ?_⟩
    rw [hk.1, cl (by omega), ht.2 p tl.1, ← tl.2.2.2.1]
    exact s8_sort (by omega) main
theorem s8_loop {T : Nat → Nat} {n : Nat} (hT : Tv T n) {Q : Int32 → Mm → Prop} {K : Mm → Int32 → Prop} : ∀ (m p : Nat) (b : Bx) (g : Mm), m + b 0 0 = 8 → p ≤ n → Wb b → Tp8 T n g → Tok8 T n g p → RowIs (g.1 97) b → (b 0 0 = 0 ∨ tk T n p ≠ 257) → ((lp T n m p b).1 ≠ 0 → ∀ g' : Mm, g'.1 86 14 = nI (lp T n m p b).2.1 → Fr G8 g g' → K g' (nI (lp T n m p b).1)) → ((lp T n m p b).1 = 0 → ∀ g' : Mm, RowIs (g'.1 97) (lp T n m p b).2.2 → Fr G8 g g' → K g' (nI 0)) → o_X8_glass_31 Q K (m + 1) g (nI 0) := by
  intro m
  induction m with
  | zero => intro p b g e hp hV; have := hV.1; omega
  | succ m ih =>
    intro p b g e hp hV ht hk hB hin h1 h0
    have h7 := hV.1
    have kz := kd_of (T := T) (n := n) (p := p)
    rw [lp] at h1 h0
    have body : o_X8_glass_51 Q (o_X8_glass_31 Q K (m + 1)) K g := by
      refine s8_toyR hT hp ht hk hB hV (fun c g1 a4 f1 => ?_) (fun c g1 k1 b1 f1 => ?_)
      · rw [if_neg (fun z => c z.1)] at h1
        exact ⟨fun _ => h1 c g1 a4 f1, fun q => absurd q (nz c (by have := rt_e (T := T) (b := b) hp; omega))⟩
      · have ro := rt_ok hV c
        have b7 : b 0 0 ≠ 7 := fun z => rt_7 z c
        by_cases tz : tk T n (rt T n p b).2.1 = 257
        · rw [if_neg (fun z => z.2 tz)] at h0
          have kk := kd_of (T := T) (n := n) (p := (rt T n p b).2.1)
          refine ⟨fun q => absurd rfl q, fun _ => ⟨fun q => absurd (by rw [k1.2.1, kk.1.mpr tz]; rfl) q, fun _ => ⟨vlit 0 (by omega) (by omega), fun _ => h0 c g1 b1 f1, fun q => ?_⟩⟩⟩
          rw [show (0 : Int32).toNatClampNeg = 0 from rfl, b1.1.1, ro.2.1] at q
          exact absurd ((nI_eq (b := 0) (by omega) (by omega)).mp q) (by omega)
        · rw [if_pos ⟨c, tz⟩] at h0 h1
          exact ih _ _ g1 (by omega) ro.2.2.1 ro.1 (ht.frG f1) k1 b1 (Or.inr tz) (fun z g' x4 f' => h1 z g' x4 (f1.trans f')) (fun z g' xb f' => h0 z g' xb (f1.trans f'))
    refine ⟨fun q => absurd rfl q, fun _ => ⟨fun _ => body, fun q => ⟨vlit 0 (by omega) (by omega), fun q2 => ?_, fun _ => body⟩⟩⟩
    rw [hk.2.1] at q
    have tz := kz.1.mp ((nI_eq (b := 0) (by omega) (by omega)).mp q)
    rw [show (0 : Int32).toNatClampNeg = 0 from rfl, hB.1.1] at q2
    exact hin.elim (fun z => absurd (by rw [z]; rfl) q2) (fun z => absurd tz z)
theorem s8_zero {Q : Int32 → Mm → Prop} {K : Mm → Prop} {g : Mm} (h : ∀ g' : Mm, (∀ i, i < 33 → g'.1 97 i = 0) → Fr (fun q k => q = 97) g g' → K g') : ∃ f, o_X8_glass_2 Q K f g 0 := by
  have loop : ∀ m i (g1 : Mm), i + m = 33 → (∀ j, j < i → g1.1 97 j = 0) → Fr (fun q k => q = 97) g g1 → o_X8_glass_2 Q K (m + 1) g1 (nI i) := by
    intro m
    induction m with
    | zero =>
      intro i g1 e hz f
      exact ⟨fun _ => h g1 (fun j hj => hz j (by omega)) f, fun q => absurd ((nI_leI (a := 33) (by omega) (by omega)).mpr (by omega)) q⟩
    | succ m ih =>
      intro i g1 e hz f
      refine ⟨fun q => absurd ((nI_leI (a := 33) (by omega) (by omega)).mp q) (by omega), fun _ => ⟨vlit _ (by omega) (by omega), fun g2 e2 x ex => ?_⟩⟩
      rw [nI_1] at ex; subst ex
      rw [cl (by omega)] at e2
      refine ih (i + 1) g2 (by omega) (fun j hj => ?_) (by rw [e2]; exact Fr.set (T := fun q k => q = 97) f rfl)
      rw [e2, mset_at]
      by_cases z : j = i
      · rw [if_pos ⟨rfl, z⟩]
      · rw [if_neg (by omega)]; exact hz j (by omega)
  exact ⟨34, loop 33 0 g (by omega) (fun j hj => absurd hj (Nat.not_lt_zero j)) Fr.rfl⟩
theorem s8_take33 {Q : Int32 → Mm → Prop} {K : Mm → Prop} {g : Mm} (h : ∀ g' : Mm, (∀ i, i < 33 → g'.1 87 i = g.1 97 i) → Fr (fun q k => q = 87) g g' → K g') : ∃ f, o_X8_glass_83 Q K f g 0 := by
  have loop : ∀ m i (g1 : Mm), i + m = 33 → (∀ j, j < i → g1.1 87 j = g.1 97 j) → Fr (fun q k => q = 87) g g1 → o_X8_glass_83 Q K (m + 1) g1 (nI i) := by
    intro m
    induction m with
    | zero =>
      intro i g1 e hz f
      exact ⟨fun _ => h g1 (fun j hj => hz j (by omega)) f, fun q => absurd ((nI_leI (a := 33) (by omega) (by omega)).mpr (by omega)) q⟩
    | succ m ih =>
      intro i g1 e hz f
      refine ⟨fun q => absurd ((nI_leI (a := 33) (by omega) (by omega)).mp q) (by omega), fun _ => ⟨vlit _ (by omega) (by omega), vlit _ (by omega) (by omega), fun g2 e2 x ex => ?_⟩⟩
      rw [nI_1] at ex; subst ex
      rw [cl (by omega), f _ _ (by omega)] at e2
      refine ih (i + 1) g2 (by omega) (fun j hj => ?_) (by rw [e2]; exact Fr.set (T := fun q k => q = 87) f rfl)
      rw [e2, mset_at]
      by_cases z : j = i
      · rw [if_pos ⟨rfl, z⟩, z]
      · rw [if_neg (by omega)]; exact hz j (by omega)
  exact ⟨34, loop 33 0 g (by omega) (fun j hj => absurd hj (Nat.not_lt_zero j)) Fr.rfl⟩
def G8e (q k : Nat) : Prop := (q = 86 ∧ 12 ≤ k ∧ k ≤ 17) ∨ q = 97
def G8o (q k : Nat) : Prop := (q = 86 ∧ (k = 4 ∨ k = 12 ∨ (14 ≤ k ∧ k ≤ 17))) ∨ q = 97 ∨ q = 87
theorem s8_glass {T : Nat → Nat} {n : Nat} (hT : Tv T n) {Q : Int32 → Mm → Prop} {g : Mm} (ht : Tp8 T n g) (h1 : (prs T n).1 ≠ 0 → ∀ g' : Mm, g'.1 86 13 = nI (prs T n).1 → g'.1 86 12 = 0 → Fr G8e g g' → Q (-1000100 - nI (prs T n).2.1) g') (h0 : (prs T n).1 = 0 → ∀ g' : Mm, RowIs (g'.1 87) (prs T n).2.2 → g'.1 86 4 = 0 → g'.1 86 12 = 0 → Fr G8o g g' → Q (nI ((prs T n).2.2 0 0)) g') : o_X8_glass Q g := by
  have e3 := prs_e (T := T) (n := n)
  refine s8_zero (fun g1 z1 f1 => ?_)
  have F1 : Fr G8 g g1 := f1.mono (fun q k z => by unfold G8; omega)
  refine s8_look (p := 0) hT (by omega) (ht.frG F1) (fun g2 k2 f2 => ?_)
  have F2 : Fr G8 g g2 := F1.trans (mG f2)
  have bad : ∀ g3 : Mm, (prs T n).1 ≠ 0 → g3.1 86 14 = nI (prs T n).2.1 → Fr G8 g g3 → o_X8_glass_59 Q g3 (nI (prs T n).1) := by
    intro g3 hz a4 f3 g9 e9
    refine ⟨fun q => absurd q (nz hz (by omega)), fun _ g13 e13 => ?_⟩
    have d4 : g13.1 86 14 = nI (prs T n).2.1 := by rw [e13, mset_at, if_neg (by omega), e9, mset_at, if_neg (by omega)]; exact a4
    rw [d4]
    refine h1 hz g13 ?_ ?_ ?_
    · rw [e13, mset_at, if_pos ⟨rfl, rfl⟩]
    · rw [e13, mset_at, if_neg (by omega), e9, mset_at, if_pos ⟨rfl, rfl⟩]
    · rw [e13, e9]
      refine Fr.set (T := G8e) (Fr.set (T := G8e) (f3.mono (fun q k z => by unfold G8 at z; unfold G8e; omega)) ?_) ?_
      · unfold G8e; omega
      · unfold G8e; omega
  refine s8_law hT (ht.frG F2) k2 (fun k hk => by rw [f2 _ _ (by omega)]; exact z1 k hk) (fun c g3 a4 f3 => ?_) (fun c g3 k3 b3 f3 => ?_)
  · have ep : prs T n = law_ T n := by unfold prs; rw [if_neg c]
    refine ⟨1, fun _ => ?_, fun q => absurd q (nz c (by rw [← ep]; omega))⟩
    have := bad g3 (by rw [ep]; exact c) (by rw [ep]; exact a4) (F2.trans f3)
    rw [ep] at this; exact this
  · have ep : prs T n = lp T n 8 (law_ T n).2.1 (law_ T n).2.2 := by unfold prs; rw [if_pos c]
    have lo := law_ok c
    refine ⟨9, s8_loop hT 8 (law_ T n).2.1 (law_ T n).2.2 g3 (by omega) lo.2.2.1 lo.1 ((ht.frG F2).frG f3) k3 b3 (Or.inl lo.2.1) (fun z g4 a4 f4 => ?_) (fun z g4 b4 f4 => ?_)⟩
    · rw [← ep] at z a4 ⊢
      exact bad g4 z a4 (F2.trans (f3.trans f4))
    · rw [← ep] at z b4
      have ok := prs_ok z
      intro g9 e9
      refine ⟨fun _ => s8_take33 (fun g10 r10 f10 g12 e12 => ⟨vlit 0 (by omega) (by omega), ?_⟩), fun q => absurd rfl q⟩
      have b10 : RowIs (g10.1 87) (prs T n).2.2 := b4.of33 ok.1.1.2 (fun k hk => by rw [r10 k hk, e9, mset_at, if_neg (by omega)])
      have b12 : RowIs (g12.1 87) (prs T n).2.2 := b10.eq (fun i => by rw [e12, mset_at, if_neg (by omega)])
      rw [show (0 : Int32).toNatClampNeg = 0 from rfl, b12.1.1]
      refine h0 z g12 b12 ?_ ?_ ?_
      · rw [e12, mset_at, if_pos ⟨rfl, rfl⟩]
      · rw [e12, mset_at, if_neg (by omega), f10 _ _ (by omega), e9, mset_at, if_pos ⟨rfl, rfl⟩]
      · rw [e12]
        refine Fr.set (T := G8o) (Fr.trans (g1 := g9) ?_ (f10.mono (fun q k z => by unfold G8o; omega))) ?_
        · rw [e9]
          refine Fr.set (T := G8o) ((F2.trans (f3.trans f4)).mono (fun q k z => by unfold G8 at z; unfold G8o; omega)) ?_
          unfold G8o; omega
        · unfold G8o; omega
def Tge (q k : Nat) : Prop := (q = 2 ∧ 2 ≤ k ∧ k ≤ 7) ∨ (4 ≤ q ∧ q ≤ 8) ∨ (q = 0 ∧ k = 7) ∨ (q = 86 ∧ 12 ≤ k ∧ k ≤ 17) ∨ q = 97
def Tgo (q k : Nat) : Prop := (q = 2 ∧ 2 ≤ k ∧ k ≤ 7) ∨ (4 ≤ q ∧ q ≤ 13) ∨ (q = 14 ∧ k = 2) ∨ (q = 86 ∧ (k = 4 ∨ k = 12 ∨ (14 ≤ k ∧ k ≤ 17))) ∨ q = 97 ∨ q = 87
theorem cmd_glass {g : Mm} (hR : Rel g) : o_X7_glass (fun r g1 => o_X8_glass (fun r2 g2 => r = r2 ∧ Rel g2) g1) g := by
  obtain ⟨t0, n, hn, t1, t2⟩ := hR.2.1
  have tv : ∀ i, i < n → g.1 3 i = nI ((g.1 3 i).toNatClampNeg) ∧ (g.1 3 i).toNatClampNeg ≤ 255 := fun i hi => by
    obtain ⟨b, hb, e⟩ := (t2 i hi).2
    have : (g.1 3 i).toNatClampNeg = b := by rw [e, cl (by omega)]
    rw [this]; exact ⟨e, hb⟩
  have hT : Tv (fun i => (g.1 3 i).toNatClampNeg) n := ⟨hn, fun i hi => (tv i hi).2⟩
  have p7 : Tp7 (fun i => (g.1 3 i).toNatClampNeg) n g := ⟨t1, fun i hi => (tv i hi).1⟩
  have p8 : Tp8 (fun i => (g.1 3 i).toNatClampNeg) n g := ⟨t0.trans t1, fun i hi => ((t2 i hi).1).trans (tv i hi).1⟩
  generalize (fun i => (g.1 3 i).toNatClampNeg) = T at hT p7 p8
  refine s7_glass hT p7 (fun c g1 a7 a2 f1 => ?_) (fun c g1 b1 a14 a2 f1 => ?_)
  · refine s8_glass hT (p8.eq (f1 _ _ (by unfold G7e; omega)) (fun i => f1 _ _ (by unfold G7e; omega))) (fun _ g2 d13 d12 f2 => ⟨rfl, ?_⟩) (fun z => absurd z c)
    have hf : Fr Tge g g2 := (f1.mono (fun q k z => by unfold G7e at z; unfold Tge; omega)).trans (f2.mono (fun q k z => by unfold G8e at z; unfold Tge; omega))
    refine ⟨hR.1.fr hf (by intro j k ht; unfold Tge at ht; omega), ?_, ?_, hR.2.2.2.1.fr hf (by intro j k ht; unfold Tge at ht; omega), hR.2.2.2.2.1.fr hf (by intro j k ht; unfold Tge at ht; omega), hR.2.2.2.2.2.1.fr hf (by intro j k ht; unfold Tge at ht; omega), hR.2.2.2.2.2.2.fr hf (by intro j k ht; unfold Tge at ht; omega)⟩
    · refine ⟨?_, 0, by omega, ?_, fun i hi => absurd hi (Nat.not_lt_zero i)⟩
      · rw [d12, f2 _ _ (by unfold G8e; omega), a2]
      · rw [f2 _ _ (by unfold G8e; omega), a2]; rfl
    · show g2.1 86 13 = g2.1 0 7
      rw [d13, f2 _ _ (by unfold G8e; omega), a7]
  · refine s8_glass hT (p8.eq (f1 _ _ (by unfold G7o; omega)) (fun i => f1 _ _ (by unfold G7o; omega))) (fun z => absurd c z) (fun _ g2 b2 d4 d12 f2 => ⟨rfl, ?_⟩)
    have ok := prs_ok c
    have hf : Fr Tgo g g2 := (f1.mono (fun q k z => by unfold G7o at z; unfold Tgo; omega)).trans (f2.mono (fun q k z => by unfold G8o at z; unfold Tgo; omega))
    obtain ⟨_, _, _, _, ⟨m, f, bs, hnf, ⟨_, _, e3⟩, _, _⟩, _⟩ := hR.2.2.2.2.1
    refine ⟨hR.1.fr hf (by intro j k ht; unfold Tgo at ht; omega), ?_, hR.2.2.1.fr hf (by intro j k ht; unfold Tgo at ht; omega), hR.2.2.2.1.fr hf (by intro j k ht; unfold Tgo at ht; omega), ?_, hR.2.2.2.2.2.1.fr hf (by intro j k ht; unfold Tgo at ht; omega), hR.2.2.2.2.2.2.fr hf (by intro j k ht; unfold Tgo at ht; omega)⟩
    · refine ⟨?_, 0, by omega, ?_, fun i hi => absurd hi (Nat.not_lt_zero i)⟩
      · rw [d12, f2 _ _ (by unfold G8o; omega), a2]
      · rw [f2 _ _ (by unfold G8o; omega), a2]; rfl
    · refine ⟨(prs T n).2.2, b1.eq (fun q k z1 z2 => f2 _ _ (by unfold G8o; omega)), b2, Or.inr ok.1, ⟨0, f, fun _ => (prs T n).2.2, ⟨by omega, hnf.2⟩, ⟨?_, d4, ?_⟩, rfl, fun k hk => absurd hk (Nat.not_lt_zero k)⟩, by omega⟩
      · rw [f2 _ _ (by unfold G8o; omega), a14]; rfl
      · rw [f2 _ _ (by unfold G8o; omega), f1 _ _ (by unfold G7o; omega)]; exact e3
