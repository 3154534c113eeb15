/-! drawn -/
def nx (x : Nat) : Nat := x * 16807 % 2147483647
def dl (b : Bx) (y : Nat) : Bx := if 1 ≤ b 3 (y % b 0 0) ∧ b 3 (y % b 0 0) ≤ 5 then b else pu b (y % b 0 0) (y % 5 + 1)
def dp (b : Bx) (y : Nat) : Bx := pn (dl b y) (y / 2 % 5 + 1)
def hit (b : Bx) (y : Nat) : Nat := if r7I (dl b y) (y / 2 % 5 + 1) (gr (dl b y) 0) = 0 then 1 else 0
def dr : Nat → Nat → Bx → Bx
  | 0, _, b => b
  | m + 1, x, b => dr m (nx x) (dp b (nx x))
def dw : Nat → Nat → Bx → Nat → Nat
  | 0, _, _, w => w
  | m + 1, x, b, w => dw m (nx x) (dp b (nx x)) (w + hit b (nx x))
theorem nx_lt {x : Nat} : nx x < 2147483647 := Nat.mod_lt _ (by decide)
theorem Vb_dl {b : Bx} {y : Nat} (hV : Vb b) : Vb (dl b y) := by
  unfold dl; split
  · exact hV
  · exact Vb_pu hV (by omega)
theorem dl_0 {b : Bx} {y : Nat} {a i : Nat} (h : a ≠ 3) (h2 : a ≠ 4) : dl b y a i = b a i := by
  unfold dl; split
  · rfl
  · exact pu_0 h h2
theorem c52 {y : Nat} : 1 ≤ y / 2 % 5 + 1 ∧ y / 2 % 5 + 1 ≤ 5 := by omega
theorem Vb_dp {b : Bx} {y : Nat} (hV : Vb b) (h8 : b 8 0 < 20000) : Vb (dp b y) := Vb_pn (Vb_dl hV) c52 (by rw [dl_0 (by decide) (by decide)]; exact h8)
theorem dp_0 {b : Bx} {y : Nat} {a i : Nat} (h : a ≠ 3) (h2 : a ≠ 4) (h8 : a ≠ 8) : dp b y a i = b a i := by unfold dp; rw [pn_0 h h2 h8, dl_0 h h2]
theorem dp_8 {b : Bx} {y : Nat} : dp b y 8 0 = b 8 0 + 1 := by unfold dp; rw [pn_8, dl_0 (by decide) (by decide)]
theorem dr_ok : ∀ (m x : Nat) (b : Bx), Vb b → b 8 0 + m ≤ 20000 → Vb (dr m x b) ∧ dr m x b 0 0 = b 0 0 := by
  intro m
  induction m with
  | zero => intro x b hV h; exact ⟨hV, rfl⟩
  | succ m ih =>
    intro x b hV h
    have := ih (nx x) (dp b (nx x)) (Vb_dp hV (by omega)) (by rw [dp_8]; omega)
    rw [dp_0 (by decide) (by decide) (by decide)] at this
    exact this
theorem dw_le : ∀ (m x : Nat) (b : Bx) (w : Nat), dw m x b w ≤ w + m := by
  intro m
  induction m with
  | zero => intro x b w; exact Nat.le_refl _
  | succ m ih =>
    intro x b w
    have := ih (nx x) (dp b (nx x)) (w + hit b (nx x))
    have : hit b (nx x) ≤ 1 := by unfold hit; split <;> omega
    unfold dw; omega
theorem e_nx {x : Nat} (h : x < 2147483647) : (lN x * 16807) - (lN x * 16807) / 2147483647 * 2147483647 = lN (nx x) := by
  rw [show (16807 : Int64) = lN 16807 from rfl, lN_mul]
  exact pk_lRem (b := 2147483647) (by omega) (by omega) (by omega)
theorem e_rem {y n : Nat} (h : y < 2147483647) (h0 : 0 < n) (hn : n < 1000) : (lN y - lN y / lN n * lN n : Int64).toInt32 = nI (y % n) := by
  rw [pk_lRem (by omega) h0 (by omega), lN_i]
theorem e_r5 {y : Nat} (h : y < 2147483647) : (lN y - lN y / 5 * 5 : Int64).toInt32 + 1 = nI (y % 5 + 1) := by
  rw [show (lN y - lN y / 5 * 5 : Int64).toInt32 = nI (y % 5) from e_rem (n := 5) h (by omega) (by omega), nI_1]
theorem e_h5 {y : Nat} (h : y < 2147483647) : ((lN y / 2) - (lN y / 2) / 5 * 5 : Int64).toInt32 + 1 = nI (y / 2 % 5 + 1) := by
  rw [show lN y / 2 = lN (y / 2) from pk_lDiv (b := 2) (by omega) (by omega) (by omega)]
  exact e_r5 (by omega)
theorem mx1 {n : Nat} (h : 1 ≤ n ∧ n ≤ 7) : (if (1 : Int32) < nI n then nI n else 1) = nI n := by
  by_cases z : n = 1
  · rw [z]; rfl
  · exact if_pos ((nI_ltI (a := 1) (by omega) (by omega)).mpr (by omega))
theorem lne {n : Nat} (h : 1 ≤ n ∧ n ≤ 7) : ¬ lN n = 0 := fun q => absurd ((lN_eq (b := 0) (by omega) (by omega)).mp q) (by omega)
def Tdr (q k : Nat) : Prop := (42 ≤ q ∧ q ≤ 46) ∨ q = 50
theorem s4_drawn {n : Nat} (hn : n ≤ 60) : ∀ (m k w x : Nat) (b : Bx) (g : Mm) (Q : Int32 → Mm → Prop), k + m = n → BoxIs g 42 b → Vb b → b 8 0 + m ≤ 20000 → x < 2147483647 → (∀ g', BoxIs g' 42 (dr m x b) → Fr Tdr g g' → Q (nI (dw m x b w)) g') → o_X4_winsByDraws_18 Q 9 (m + 1) g (nI n) (nI w) (lN x) (nI k) := by
  intro m
  induction m with
  | zero =>
    intro k w x b g Q hk hB hV h8 hx h
    exact ⟨fun _ => h g hB Fr.rfl, fun q => absurd ((nI_leI (by omega) (by omega)).mpr (by omega)) q⟩
  | succ m ih =>
    intro k w x b g Q hk hB hV h8 hx h
    have h7 := hV.1
    refine ⟨fun q => absurd ((nI_leI (by omega) (by omega)).mp q) (by omega), fun _ => ⟨by decide, fun y ey => ?_⟩⟩
    rw [e_nx hx] at ey
    subst ey
    have hy := nx_lt (x := x)
    have ht : nx x % b 0 0 < b 0 0 := Nat.mod_lt _ (by omega)
    rw [hB.1.1, mx1 h7, nI_l (by omega)]
    refine ⟨lne h7, fun x5 e5 => ?_⟩
    rw [e_rem hy (by omega) (by omega)] at e5
    subst e5
    refine ⟨vt h7.2 ht, ?_⟩
    have h3 := (VbP hV ht).2.2.1
    rw [cl (by omega), (hB.2 _ ht).2.2.1]
    have go : ∀ g1, BoxIs g1 42 (dl b (nx x)) → Fr Tdr g g1 → o_X4_winsByDraws_88 Q (o_X4_winsByDraws_18 Q 9 (m + 1)) 9 g1 (nI n) (nI w) (lN (nx x)) (nI k) := by
      intro g1 hB1 f1
      have hV1 : Vb (dl b (nx x)) := Vb_dl hV
      have hg := gr_le (k := 0) hV1
      have e8 : dl b (nx x) 8 0 = b 8 0 := dl_0 (by decide) (by decide)
      refine ⟨by decide, by decide, fun x8 e => ?_⟩
      rw [e_h5 hy] at e
      subst e
      refine s3_grip (k := 0) hB1 hV1 (by omega) ⟨vlit 0 (by omega) (by omega), ?_⟩
      rw [show 49 + 1 + (0 : Int32).toNatClampNeg = 50 from rfl]
      refine s3_playAt hB1 hV1 (by omega) (Or.inr (by omega)) c52 (by omega) (fun g2 p1 p2 p3 => ?_)
      have hF : Fr Tdr g g2 := f1.trans (p3.mono (fun q k z => by unfold Tdr; omega))
      have nxt : ∀ w2, w2 = w + hit b (nx x) → o_X4_winsByDraws_132 Q (o_X4_winsByDraws_18 Q 9 (m + 1)) 9 g2 (nI n) (nI w2) (lN (nx x)) (nI k) := by
        intro w2 e x14 e14
        rw [nI_1] at e14; subst e14; subst e
        exact ih (k + 1) _ (nx x) (dp b (nx x)) g2 Q (by omega) p1 (Vb_dp hV (by omega)) (by rw [dp_8]; omega) hy (fun g' b' f' => h g' b' (hF.trans f'))
      refine ⟨fun q => nxt w (by unfold hit; rw [if_neg q]; rfl), fun q x15 e => ?_⟩
      rw [nI_1] at e; subst e
      exact nxt (w + 1) (by unfold hit; rw [if_pos q])
    refine s7_isColumn (bI_rb (fun c => ⟨by decide, ?_⟩) (fun c => go g ?_ Fr.rfl))
    · rw [e_r5 hy]
      refine s3_lay hB hV ht (by omega) (fun g' b' f' => go g' ?_ (f'.mono (fun q k z => by unfold Tdr; omega)))
      unfold dl
      rw [if_neg (fun z => c ((colI h3).mpr z))]
      exact b'
    · unfold dl
      rw [if_pos ((colI h3).mp c)]
      exact hB
theorem s8_drawn {n : Nat} {x3 : Int32} (hn : n ≤ 60) {Q : Int32 → Mm → Prop} {K : Mm → Int32 → Int32 → Prop} : ∀ (m k w x : Nat) (b : Bx) (g : Mm), k + m = n → RowIs (g.1 98) b → g.1 87 0 = nI (b 0 0) → Vb b → b 8 0 + m ≤ 20000 → x < 2147483647 → (∀ g', RowIs (g'.1 98) (dr m x b) → Fr (fun q k => q = 98) g g' → K g' x3 (nI (dw m x b w))) → o_X8_drawn_61 Q K (m + 1) g (nI n) x3 (lN x) (nI w) (nI k) := by
  intro m
  induction m with
  | zero =>
    intro k w x b g hk hB he hV h8 hx h
    exact ⟨fun _ => h g hB Fr.rfl, fun q => absurd ((nI_leI (by omega) (by omega)).mpr (by omega)) q⟩
  | succ m ih =>
    intro k w x b g hk hB he hV h8 hx h
    have h7 := hV.1
    refine ⟨fun q => absurd ((nI_leI (by omega) (by omega)).mp q) (by omega), fun _ => ⟨by decide, fun y ey => ?_⟩⟩
    rw [e_nx hx] at ey
    subst ey
    have hy := nx_lt (x := x)
    have ht : nx x % b 0 0 < b 0 0 := Nat.mod_lt _ (by omega)
    refine b8_toys he ?_
    rw [nI_l (by omega)]
    refine ⟨lne h7, fun x5 e5 => ?_⟩
    rw [e_rem hy (by omega) (by omega)] at e5
    subst e5
    refine ⟨v19 (by omega), ?_⟩
    have h3 := (VbP hV ht).2.2.1
    rw [c19 (by omega), (hB.2 _ ht).2.2.1]
    have go : ∀ g1, RowIs (g1.1 98) (dl b (nx x)) → Fr (fun q k => q = 98) g g1 → o_X8_drawn_124 Q (o_X8_drawn_61 Q K (m + 1)) K g1 (nI n) x3 (lN (nx x)) (nI w) (nI k) := by
      intro g1 hB1 f1
      have hV1 : Vb (dl b (nx x)) := Vb_dl hV
      have e8 : dl b (nx x) 8 0 = b 8 0 := dl_0 (by decide) (by decide)
      refine ⟨by decide, by decide, ?_⟩
      rw [e_h5 hy]
      refine s8_goNext hB1 hV1 (by omega) c52 (fun g2 p1 p3 => ?_)
      have hF : Fr (fun q k => q = 98) g g2 := f1.trans p3
      have nxt : ∀ w2, w2 = hit b (nx x) → o_X8_drawn_171 Q (o_X8_drawn_61 Q K (m + 1)) K g2 (nI n) x3 (lN (nx x)) (nI k) (nI w) (nI w2) := by
        intro w2 e x20 e20 x21 e21
        rw [nI_1] at e21; subst e21; subst e
        rw [nI_add] at e20; subst e20
        exact ih (k + 1) _ (nx x) (dp b (nx x)) g2 (by omega) p1 (by rw [hF 87 0 (by omega), he, dp_0 (by decide) (by decide) (by decide)]) (Vb_dp hV (by omega)) (by rw [dp_8]; omega) hy (fun g' b' f' => h g' b' (hF.trans f'))
      have tell := r8_tell (Q := fun r g' => ((¬ r = 0) → o_X8_drawn_170 Q (o_X8_drawn_61 Q K (m + 1)) K g' (nI n) x3 (lN (nx x)) (nI k) (nI w)) ∧ ((r = 0) → o_X8_drawn_171 Q (o_X8_drawn_61 Q K (m + 1)) K g' (nI n) x3 (lN (nx x)) (nI k) (nI w) 1)) hV1 c52 p1 ⟨fun q => nxt 0 (by unfold hit; rw [if_neg q]), fun q => nxt 1 (by unfold hit; rw [if_pos q])⟩
      exact ⟨fun q => (tell.2 (fun z => absurd z (Int32.not_le.mpr q))).1 (by decide), fun q => tell.1 (Int32.not_lt.mp q)⟩
    refine s8_isColumn (bI_rb (fun c => ⟨by decide, ?_⟩) (fun c => go g ?_ Fr.rfl))
    · rw [e_r5 hy]
      refine s8_lay hB hV ht (by omega) (fun g' b' f' => go g' ?_ f')
      unfold dl
      rw [if_neg (fun z => c ((colI h3).mpr z))]
      exact b'
    · unfold dl
      rw [if_pos ((colI h3).mp c)]
      exact hB
theorem s8_broken {b : Bx} {x3 x6 : Int32} {Q : Int32 → Mm → Prop} {K : Mm → Int32 → Int32 → Int32 → Prop} {g : Mm} (hB : RowIs (g.1 98) b) (he : g.1 87 0 = nI (b 0 0)) (hV : Vb b) (h : K g x3 x6 (nI (cN b 9))) : ∀ (m t : Nat), t + m = b 0 0 → o_X8_drawn_186 Q K (m + 1) g x3 x6 (nI (ct b 9 t)) (nI t) := by
  intro m
  have h7 := hV.1
  induction m with
  | zero =>
    intro t e
    refine b8_toys he ⟨fun _ => ?_, fun q => absurd ((nI_leI (by omega) (by omega)).mpr (by omega)) q⟩
    rw [show t = b 0 0 by omega]
    exact h
  | succ m ih =>
    intro t e
    refine b8_toys he ⟨fun q => absurd ((nI_leI (by omega) (by omega)).mp q) (by omega), fun _ => ⟨v19 (by omega), ?_⟩⟩
    rw [c19 (by omega), (hB.2 t (by omega)).2.2.1]
    have h3 := (VbP hV (t := t) (by omega)).2.2.1
    have go : ∀ z, ct b 9 (t + 1) = ct b 9 t + z → o_X8_drawn_217 Q (o_X8_drawn_186 Q K (m + 1)) K g x3 x6 (nI t) (nI (ct b 9 t)) (nI z) := by
      intro z ez x e1 y e2
      rw [nI_1] at e2; subst e2
      rw [nI_add, ← ez] at e1; subst e1
      exact ih (t + 1) (by omega)
    refine ⟨fun q => go 0 ?_, fun q => go 1 ?_⟩
    · have : ¬ b 3 t = 9 := fun z => q (by rw [z]; rfl)
      rw [ct, if_neg this]
    · have : b 3 t = 9 := (nI_eq (b := 9) (by omega) (by omega)).mp q
      rw [ct, if_pos this]
theorem cmd_drawn {g : Mm} (hR : Rel g) (x1 x2 x3 : Int32) : o_X7_drawn (fun r g1 => o_X8_drawn (fun r2 g2 => r = r2 ∧ Rel g2) g1 x1 x2 x3) g x1 x2 x3 := by
  obtain ⟨b, hB, hW, hV, hA, hP⟩ := hR.2.2.2.2.1
  have h7 := toys7 hV
  refine b7_case hB.1.1 h7 (bI_br (fun c0 => ?_) (fun c0 => b8_toys hW.1.1 ⟨fun q => absurd ((n0 h7).mpr c0) q, fun _ => ⟨rfl, hR⟩⟩))
  have k0 : ¬ nI (b 0 0) = 0 := fun q => c0 ((n0 h7).mp q)
  refine s7_within (bI_br (fun c1 => b8_toys hW.1.1 ⟨fun _ => s8_in 0 60 rfl rfl (bI_br (fun _ => ⟨rfl, hR⟩) (fun q => absurd q c1)), fun q => absurd q k0⟩) (fun c1 => ?_))
  refine s7_within (bI_br (fun c2 => b8_toys hW.1.1 ⟨fun _ => s8_in 0 60 rfl rfl (bI_br (fun q => absurd c1 q) (fun _ => s8_in 1 999999 rfl rfl (bI_br (fun _ => ⟨rfl, hR⟩) (fun q => absurd q c2)))), fun q => absurd q k0⟩) (fun c2 => ?_))
  refine s7_within (bI_rb (fun c3 => b8_toys hW.1.1 ⟨fun _ => s8_in 0 60 rfl rfl (bI_br (fun q => absurd c1 q) (fun _ => s8_in 1 999999 rfl rfl (bI_br (fun q => absurd c2 q) (fun _ => s8_in 0 1 rfl rfl (bI_rb (fun _ => ⟨rfl, hR⟩) (fun q => absurd q c3)))))), fun q => absurd q k0⟩) (fun c3 => ?_))
  obtain ⟨n, hn, rfl⟩ := in_of 60 rfl c1
  obtain ⟨s, hs, rfl⟩ := in_of 999999 rfl ⟨Int32.le_trans (by decide) c2.1, c2.2⟩
  have hV := case_of hV c0
  have key : ∀ (P : Int32 → Mm → Prop) (g1 : Mm), Fr Tsea g g1 → (∀ g2, Fr (fun q k => q = 98) g1 g2 → ((¬ x3 = 0) → P (nI (cN (dr n s b) 9)) g2) ∧ ((x3 = 0) → P (nI (dw n s b 0)) g2)) → o_X8_drawn P g1 (nI n) (nI s) x3 := by
    intro P g1 f1 hh
    have e0 : g1.1 87 0 = nI (b 0 0) := (f1 87 0 (by unfold Tsea; omega)).trans hW.1.1
    refine b8_toys e0 ⟨fun _ => s8_in 0 60 rfl rfl (bI_br (fun q => absurd c1 q) (fun _ => s8_in 1 999999 rfl rfl (bI_br (fun q => absurd c2 q) (fun _ => s8_in 0 1 rfl rfl (bI_rb (fun q => absurd c3 q) (fun _ => ?_)))))), fun q => absurd q k0⟩
    intro y ey
    rw [nI_l (by omega)] at ey
    subst ey
    refine s8_layHand (fun g2 e2 f2 => ⟨n + 1, ?_⟩)
    have hW2 : RowIs (g2.1 98) b := hW.of33 h7 (fun k hk => by rw [e2 k hk, f1 87 k (by unfold Tsea; omega)])
    refine s8_drawn hn n 0 0 s b g2 (by omega) hW2 ((f2 87 0 (by omega)).trans e0) hV (by omega) (by omega) (fun g3 b3 f3 => ⟨b 0 0 + 1, ?_⟩)
    have ok := dr_ok n s b hV (by omega)
    refine (congrArg (fun z => o_X8_drawn_186 _ _ (z + 1) _ _ _ _ _) ok.2).mp (s8_broken b3 (by rw [f3 87 0 (by omega), f2 87 0 (by omega), e0, ok.2]) ok.1 ?_ (dr n s b 0 0) 0 (by omega))
    exact hh g3 (f2.trans f3)
  refine s3_become hB h7 (Or.inl (by omega)) (fun g1 b1 _ f1 => ?_)
  intro y ey
  rw [nI_l (by omega)] at ey
  subst ey
  refine ⟨n + 1, s4_drawn hn n 0 0 s b g1 _ (by omega) b1 hV (by omega) (by omega) (fun g2 b2 f2 => ?_)⟩
  have F : Fr Tsea g g2 := (f1.mono (fun q k z => by unfold Tsea; omega)).trans (f2.mono (fun q k z => by unfold Tdr at z; unfold Tsea; omega))
  have ok := dr_ok n s b hV (by omega)
  refine ⟨fun d => s3_howMany (c := 9) b2 ok.1 (by omega) (key _ _ F (fun g3 f3 => ⟨fun _ => ⟨rfl, hR.search F f3⟩, fun q => absurd q d⟩)), fun d => key _ _ F (fun g3 f3 => ⟨fun q => absurd d q, fun _ => ⟨rfl, hR.search F f3⟩⟩)⟩
