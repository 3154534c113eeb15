/-! fits -/
def so (t : Nat) (told : Nat → Int32) : Nat → Nat → Bx → Bool
  | 0, _, _ => true
  | m + 1, k, b => decide (nI (pn b (k % 5 + 1) 3 t) = told k) && so t told m (k + 1) (pn b (k % 5 + 1))
def bB (x : Bool) : Int32 := if x then 1 else 0
theorem bB_nar {x : Bool} : narrow .boolean (.int (bB x)) = .int (bB x) := by unfold bB; cases x <;> rfl
theorem bB_br {A B : Prop} {x : Bool} (f : x = false → A) (t : x = true → B) : (bB x = 0 → A) ∧ (¬ bB x = 0 → B) := by
  cases x
  · exact ⟨fun _ => f rfl, fun q => absurd rfl q⟩
  · exact ⟨fun q => absurd q (by decide), fun _ => t rfl⟩
theorem k5 {k : Nat} : 1 ≤ k % 5 + 1 ∧ k % 5 + 1 ≤ 5 := by omega
theorem e5 {k : Nat} (h : k < 1000) : (nI k - nI k / 5 * 5) + 1 = nI (k % 5 + 1) := by
  rw [show nI k - nI k / 5 * 5 = nI (k % 5) from pk_rem (d := 5) (by omega) (by omega) (by omega), nI_1]
theorem s4_round {t i n r : Nat} {told : Nat → Int32} (hr : r < 8) (hin : i + n ≤ 40) : ∀ (m k : Nat) (b : Bx) (g : Mm) (Q : Int32 → Mm → Prop), k + m = n → BoxIs g 42 b → Vb b → b 8 0 + m ≤ 20000 → t < b 0 0 → (∀ q, q < n → g.1 (60 + 2 * r + 1) (i + q) = told q) → (∀ g', Fr (fun q k => (42 ≤ q ∧ q ≤ 46) ∨ q = 50) g g' → Q (bB (so t told m k b)) g') → o_X4_roundGoes_3 Q (60 + 2 * r) (m + 1) g (nI t) (nI i) (nI n) (nI k) := by
  intro m
  induction m with
  | zero =>
    intro k b g Q hk hB hV h8 ht ht2 h
    exact ⟨fun _ => h g Fr.rfl, fun q => absurd ((nI_leI (by omega) (by omega)).mpr (by omega)) q⟩
  | succ m ih =>
    intro k b g Q hk hB hV h8 ht ht2 h
    have h7 := hV.1.2
    have hg := gr_le (k := 0) hV
    refine ⟨fun q => absurd ((nI_leI (by omega) (by omega)).mp q) (by omega), fun _ => ⟨by decide, s3_grip (k := 0) hB hV (by omega) ⟨vlit 0 (by omega) (by omega), ?_⟩⟩⟩
    rw [e5 (by omega), show 49 + 1 + (0 : Int32).toNatClampNeg = 50 from rfl]
    refine s3_playAt hB hV (by omega) (Or.inr (by omega)) k5 (by omega) (fun g2 p1 p2 p3 => ⟨vt h7 ht, ?_⟩)
    have hF : Fr (fun q k => (42 ≤ q ∧ q ≤ 46) ∨ q = 50) g g2 := p3.mono (fun q k z => by omega)
    have hVn : Vb (pn b (k % 5 + 1)) := Vb_pn hV k5 (by omega)
    have htn : t < pn b (k % 5 + 1) 0 0 := by rw [pn_0 (by decide) (by decide) (by decide)]; exact ht
    have hbn : BoxIs g2 42 (pn b (k % 5 + 1)) := p1
    rw [nI_add]
    refine ⟨vlit _ (by omega) (by omega), ?_⟩
    rw [cl (by omega), cl (by omega), (hbn.2 t htn).2.2.1, hF _ _ (by omega), ht2 k (by omega)]
    refine ⟨fun q x ex => ?_, fun q => ?_⟩
    · rw [nI_1] at ex; subst ex
      refine ih (k + 1) (pn b (k % 5 + 1)) g2 Q (by omega) hbn hVn (by rw [pn_8]; omega) htn (fun q hq => by rw [hF _ _ (by omega)]; exact ht2 q hq) (fun g' f' => ?_)
      have := h g' (hF.trans f')
      rw [so, decide_eq_true q, Bool.true_and] at this
      exact this
    · have := h g2 hF
      rw [so, decide_eq_false q, Bool.false_and] at this
      exact this
theorem s8_so {t i n r : Nat} {told : Nat → Int32} (hr : r < 8) (hin : i + n ≤ 40) : ∀ (m k : Nat) (b : Bx) (g : Mm) (fl : Bool) (Q : Int32 → Mm → Prop), k + m = n → RowIs (g.1 98) b → Vb b → b 8 0 + m ≤ 20000 → t < b 0 0 → (∀ q, q < n → g.1 94 (40 * r + i + q) = told q) → (∀ g', Fr (fun q k => q = 98) g g' → Q (bB (fl && so t told m k b)) g') → o_X8_isSo_6 Q (m + 1) g (nI t) (nI (40 * r + i)) (nI n) (bB fl) (nI k) := by
  intro m
  induction m with
  | zero =>
    intro k b g fl Q hk hB hV h8 ht ht2 h
    refine ⟨fun _ => ⟨bB_nar, ?_⟩, fun q => absurd ((nI_leI (by omega) (by omega)).mpr (by omega)) q⟩
    have := h g Fr.rfl
    rw [so, Bool.and_true] at this
    exact this
  | succ m ih =>
    intro k b g fl Q hk hB hV h8 ht ht2 h
    have h7 := hV.1.2
    refine ⟨fun q => absurd ((nI_leI (by omega) (by omega)).mp q) (by omega), fun _ => ⟨by decide, ?_⟩⟩
    rw [e5 (by omega)]
    refine s8_goNext hB hV (by omega) k5 (fun g2 r2 f2 => ?_)
    have hVn : Vb (pn b (k % 5 + 1)) := Vb_pn hV k5 (by omega)
    have htn : t < pn b (k % 5 + 1) 0 0 := by rw [pn_0 (by decide) (by decide) (by decide)]; exact ht
    have hbn : RowIs (g2.1 98) (pn b (k % 5 + 1)) := r2
    have go : ∀ fl2 : Bool, fl2 = (fl && decide (nI (pn b (k % 5 + 1) 3 t) = told k)) → o_X8_isSo_58 Q (o_X8_isSo_6 Q (m + 1)) g2 (nI t) (nI (40 * r + i)) (nI n) (nI k) (bB fl2) := by
      intro fl2 e x ex
      rw [nI_1] at ex; subst ex
      refine ih (k + 1) (pn b (k % 5 + 1)) g2 fl2 Q (by omega) hbn hVn (by rw [pn_8]; omega) htn (fun q hq => by rw [f2 _ _ (by omega)]; exact ht2 q hq) (fun g' f' => ?_)
      have := h g' (f2.trans f')
      rw [so, ← Bool.and_assoc, ← e] at this
      exact this
    refine bB_br (fun q => go false (by rw [q]; rfl)) (fun q => ⟨v19 (by omega), ?_⟩)
    rw [nI_add]
    refine ⟨vlit _ (by omega) (by omega), ?_⟩
    rw [c19 (by omega), cl (by omega), (hbn.2 t htn).2.2.1, f2 _ _ (by omega), ht2 k (by omega)]
    exact ⟨fun p => go false (by rw [decide_eq_false p, Bool.and_false]), fun p => go true (by rw [q, decide_eq_true p]; rfl)⟩
def sup (b : Bx) (t w v : Nat) : Bx := if w = 0 then bup b 1 t v else if w = 1 then bup b 2 t v else if w = 2 then bup b 5 0 v else bup b 6 0 v
abbrev may (w v : Nat) : Prop := (w = 0 ∧ 1 ≤ v ∧ v ≤ 5) ∨ (w = 1 ∧ 1 ≤ v ∧ v ≤ 9) ∨ (2 ≤ w ∧ w ≤ 3 ∧ v ≤ 9)
theorem Vb_sup {b : Bx} {t w v : Nat} (hV : Vb b) (h : may w v) : Vb (sup b t w v) := by
  obtain ⟨h1, h2, h3⟩ := hV
  unfold sup
  split
  · refine ⟨by rw [bup_k (by decide)]; exact h1, by rw [bup_k (by decide), bup_k (by decide), bup_k (by decide), bup_k (by decide)]; exact h2, fun i hi => ?_⟩
    rw [bup_k (by decide)] at hi
    rw [bup_k (a := 2) (by decide), bup_k (a := 3) (by decide), bup_k (a := 4) (by decide)]
    refine ⟨?_, (h3 i hi).2⟩
    by_cases z : i = t
    · subst z; rw [bup_same]; unfold may at h; omega
    · rw [bup_t z]; exact (h3 i hi).1
  · split
    · refine ⟨by rw [bup_k (by decide)]; exact h1, by rw [bup_k (by decide), bup_k (by decide), bup_k (by decide), bup_k (by decide)]; exact h2, fun i hi => ?_⟩
      rw [bup_k (by decide)] at hi
      rw [bup_k (a := 1) (by decide), bup_k (a := 3) (by decide), bup_k (a := 4) (by decide)]
      refine ⟨(h3 i hi).1, ?_, (h3 i hi).2.2⟩
      by_cases z : i = t
      · subst z; rw [bup_same]; unfold may at h; omega
      · rw [bup_t z]; exact (h3 i hi).2.1
    · split
      · exact Vb_5 ⟨h1, h2, h3⟩ (by unfold may at h; omega)
      · exact Vb_6 ⟨h1, h2, h3⟩ (by unfold may at h; omega)
theorem sup_0 {b : Bx} {t w v : Nat} : sup b t w v 0 0 = b 0 0 := by
  unfold sup
  split
  · exact bup_k (by decide)
  · split
    · exact bup_k (by decide)
    · split <;> exact bup_k (by decide)
theorem sup_8 {b : Bx} {t w v : Nat} : sup b t w v 8 0 = b 8 0 := by
  unfold sup
  split
  · exact bup_k (by decide)
  · split
    · exact bup_k (by decide)
    · split <;> exact bup_k (by decide)
theorem BoxIs.bt {g g' : Mm} {j : Nat} {b : Bx} {K t v : Nat} (hK : K = 1 ∨ K = 2) (hB : BoxIs g j b) (e : ∀ q i, j ≤ q → q ≤ j + 4 → g'.1 q i = if q = j + K ∧ i = t then nI v else g.1 q i) : BoxIs g' j (bup b K t v) := by
  obtain ⟨⟨h1, h2, h3, h4, h5⟩, h6⟩ := hB
  have z : ∀ k, g'.1 j k = g.1 j k := fun k => by rw [e j k (by omega) (by omega), if_neg (by omega)]
  refine ⟨⟨?_, ?_, ?_, ?_, ?_⟩, fun i hi => ?_⟩
  · rw [z, bup_k (by omega)]; exact h1
  · rw [z, bup_k (by omega)]; exact h2
  · rw [z, bup_k (by omega)]; exact h3
  · rw [z, bup_k (by omega)]; exact h4
  · rw [z, bup_k (by omega)]; exact h5
  · rw [bup_k (by omega)] at hi
    have hq := h6 i hi
    rw [e (j + 1) i (by omega) (by omega), e (j + 2) i (by omega) (by omega), e (j + 3) i (by omega) (by omega), e (j + 4) i (by omega) (by omega), bup_k (a := 3) (by omega), bup_k (a := 4) (by omega)]
    refine ⟨?_, ?_, by rw [if_neg (by omega)]; exact hq.2.2.1, by rw [if_neg (by omega)]; exact hq.2.2.2⟩
    · unfold bup
      by_cases y : 1 = K ∧ i = t
      · rw [if_pos y, if_pos ⟨by omega, y.2⟩]
      · rw [if_neg y, if_neg (by omega)]; exact hq.1
    · unfold bup
      by_cases y : 2 = K ∧ i = t
      · rw [if_pos y, if_pos ⟨by omega, y.2⟩]
      · rw [if_neg y, if_neg (by omega)]; exact hq.2.1
theorem RowIs.bt {f f' : Nat → Int32} {b : Bx} {K D t v : Nat} (hK : K = 1 ∧ D = 1 ∨ K = 2 ∧ D = 8) (hB : RowIs f b) (h7 : b 0 0 ≤ 7) (ht : t < b 0 0) (e : ∀ i, f' i = if i = D + t then nI v else f i) : RowIs f' (bup b K t v) := by
  obtain ⟨⟨h1, h2, h3, h4, h5⟩, h6⟩ := hB
  refine ⟨⟨?_, ?_, ?_, ?_, ?_⟩, fun i hi => ?_⟩
  · rw [e, if_neg (by omega), bup_k (by omega)]; exact h1
  · rw [e, if_neg (by omega), bup_k (by omega)]; exact h2
  · rw [e, if_neg (by omega), bup_k (by omega)]; exact h3
  · rw [e, if_neg (by omega), bup_k (by omega)]; exact h4
  · rw [e, if_neg (by omega), bup_k (by omega)]; exact h5
  · rw [bup_k (by omega)] at hi
    have hq := h6 i hi
    rw [e (1 + i), e (8 + i), e (19 + i), e (26 + i), bup_k (a := 3) (by omega), bup_k (a := 4) (by omega)]
    refine ⟨?_, ?_, by rw [if_neg (by omega)]; exact hq.2.2.1, by rw [if_neg (by omega)]; exact hq.2.2.2⟩
    · unfold bup
      by_cases y : 1 = K ∧ i = t
      · rw [if_pos y, if_pos (by omega)]
      · rw [if_neg y, if_neg (by omega)]; exact hq.1
    · unfold bup
      by_cases y : 2 = K ∧ i = t
      · rw [if_pos y, if_pos (by omega)]
      · rw [if_neg y, if_neg (by omega)]; exact hq.2.1
/-- the set of the values that fit, of those below v -/
def fs (b : Bx) (t w n : Nat) (told : Nat → Int32) : Nat → Int32
  | 0 => 0
  | v + 1 => if may w v then (if so t told n 0 (sup b t w v) then fs b t w n told v ||| ((1 : Int32) <<< (nI v &&& 31)) else fs b t w n told v) else fs b t w n told v
theorem fs_no {b : Bx} {t w n : Nat} {told : Nat → Int32} {v : Nat} (h : ¬ may w v) : fs b t w n told (v + 1) = fs b t w n told v := by rw [fs, if_neg h]
theorem s4_suppose {Q : Mm → Prop} {g : Mm} {b : Bx} {t w v : Nat} (hB : BoxIs g 42 b) (h7 : b 0 0 ≤ 7) (ht : t < b 0 0) (hw : w ≤ 3) (h : ∀ g', BoxIs g' 42 (sup b t w v) → Fr (fun q k => 42 ≤ q ∧ q ≤ 46) g g' → Q g') : o_X4_suppose Q g (nI t) (nI w) (nI v) := by
  have E : ∀ c : Nat, c < 1000 → (nI w = nI c ↔ w = c) := fun c hc => nI_eq (by omega) (by omega)
  have hv := vt h7 ht
  refine ⟨fun q => ⟨hv, fun g1 e1 => h g1 ?_ ?_⟩, fun q => ⟨hv, fun g1 e1 => h g1 ?_ ?_⟩, fun q g1 e1 => h g1 ?_ ?_, fun q g1 e1 => h g1 ?_ ?_⟩
  · rw [cl (by omega)] at e1
    unfold sup
    rw [if_pos ((E 0 (by omega)).mp q)]
    exact hB.bt (Or.inl rfl) (fun q i _ _ => by rw [e1, mset_at])
  · rw [e1]; exact Fr.set Fr.rfl ⟨by omega, by omega⟩
  · rw [cl (by omega)] at e1
    have := (E 1 (by omega)).mp q
    unfold sup
    rw [if_neg (by omega), if_pos this]
    exact hB.bt (Or.inr rfl) (fun q i _ _ => by rw [e1, mset_at])
  · rw [e1]; exact Fr.set Fr.rfl ⟨by omega, by omega⟩
  · have := (E 2 (by omega)).mp q
    unfold sup
    rw [if_neg (by omega), if_neg (by omega), if_pos this]
    exact hB.b5 (fun q i _ _ => by rw [e1, mset_at])
  · rw [e1]; exact Fr.set Fr.rfl ⟨by omega, by omega⟩
  · have a0 : ¬ w = 0 := fun z => q.1 ((E 0 (by omega)).mpr z)
    have a1 : ¬ w = 1 := fun z => q.2.1 ((E 1 (by omega)).mpr z)
    have a2 : ¬ w = 2 := fun z => q.2.2 ((E 2 (by omega)).mpr z)
    unfold sup
    rw [if_neg a0, if_neg a1, if_neg a2]
    exact hB.b6 (fun q i _ _ => by rw [e1, mset_at])
  · rw [e1]; exact Fr.set Fr.rfl ⟨by omega, by omega⟩
theorem s4_fitting {Q : Int32 → Mm → Prop} {g : Mm} {b : Bx} {t w r i n : Nat} {told : Nat → Int32} (hB : BoxIs g 9 b) (hV : Vb b) (h8 : b 8 0 ≤ 9999) (ht : t < b 0 0) (hr : r < 8) (hin : i + n ≤ 40) (hn : n ≤ 12) (hw : w ≤ 3) (htold : ∀ q, q < n → g.1 (60 + 2 * r + 1) (i + q) = told q) (h : ∀ g', Fr Tsea g g' → Q (fs b t w n told 10) g') : o_X4_fitting Q 9 (60 + 2 * r) g (nI t) (nI i) (nI n) (nI w) := by
  have h7 := hV.1.2
  have E : ∀ c : Nat, c < 1000 → (nI w = nI c ↔ w = c) := fun c hc => nI_eq (by omega) (by omega)
  have loop : ∀ (k v M : Nat) (g1 : Mm), v + k = M + 1 → M ≤ 9 → (∀ u, v ≤ u → u ≤ M → may w u) → (∀ u, M < u → u < 10 → ¬ may w u) → Fr Tsea g g1 → o_X4_fitting_49 Q 9 (60 + 2 * r) (k + 1) g1 (nI t) (nI i) (nI n) (nI w) (nI M) (fs b t w n told v) (nI v) := by
    intro k
    induction k with
    | zero =>
      intro v M g1 hk hM hm hm2 hF
      refine ⟨fun _ => ?_, fun q => absurd ((nI_ltI (by omega) (by omega)).mpr (by omega)) q⟩
      have : ∀ d, v + d ≤ 10 → fs b t w n told (v + d) = fs b t w n told v := by
        intro d
        induction d with
        | zero => intro _; rfl
        | succ d ihd =>
          intro hd
          rw [show v + (d + 1) = (v + d) + 1 by omega, fs_no (hm2 (v + d) (by omega) (by omega)), ihd (by omega)]
      rw [← this (10 - v) (by omega), show v + (10 - v) = 10 by omega]
      exact h g1 hF
    | succ k ih =>
      intro v M g1 hk hM hm hm2 hF
      have hmay := hm v (Nat.le_refl _) (by omega)
      have hB1 : BoxIs g1 9 b := hB.eq (fun q k _ _ => hF q k (by unfold Tsea; omega))
      refine ⟨fun q => absurd ((nI_ltI (by omega) (by omega)).mp q) (by omega), fun _ => s3_become hB1 h7 (Or.inl (by omega)) (fun g2 p1 p2 p3 => s4_suppose p1 h7 ht hw (fun g3 b3 f3 => ?_))⟩
      have hF3 : Fr Tsea g g3 := (hF.trans (p3.mono (fun q k z => by unfold Tsea; omega))).trans (f3.mono (fun q k z => by unfold Tsea; omega))
      refine ⟨n + 1, s4_round (t := t) (told := told) hr hin n 0 (sup b t w v) g3 _ (by omega) b3 (Vb_sup hV hmay) (by rw [sup_8]; omega) (by rw [sup_0]; exact ht) (fun q hq => by rw [hF3 _ _ (by unfold Tsea; omega)]; exact htold q hq) (fun g4 f4 => ?_)⟩
      have hF4 : Fr Tsea g g4 := hF3.trans (f4.mono (fun q k z => by unfold Tsea; omega))
      have next : ∀ y : Int32, y = fs b t w n told (v + 1) → o_X4_fitting_95 Q (o_X4_fitting_49 Q 9 (60 + 2 * r) (k + 1)) 9 (60 + 2 * r) g4 (nI t) (nI i) (nI n) (nI w) (nI M) y (nI v) := by
        intro y ey x ex
        rw [nI_1] at ex; subst ex; subst ey
        exact ih (v + 1) M g4 (by omega) hM (fun u h1 h2 => hm u (by omega) h2) hm2 hF4
      refine bB_br (fun q => next _ ?_) (fun q x ex => next _ ?_)
      · rw [fs, if_pos hmay, q]; rfl
      · rw [fs, if_pos hmay, q, ex]; rfl
  have go40 : ∀ (L M : Nat), L ≤ M + 1 → M ≤ 9 → (∀ u, u < L → ¬ may w u) → (∀ u, L ≤ u → u ≤ M → may w u) → (∀ u, M < u → u < 10 → ¬ may w u) → o_X4_fitting_40 Q 9 (60 + 2 * r) g (nI t) (nI i) (nI n) (nI w) (nI L) (nI M) := by
    intro L M hL hM a1 a2 a3
    refine ⟨M + 1 - L + 1, ?_⟩
    have e : fs b t w n told L = 0 := by
      have : ∀ d, d ≤ L → fs b t w n told d = 0 := by
        intro d
        induction d with
        | zero => intro _; rfl
        | succ d ihd => intro hd; rw [fs_no (a1 d (by omega)), ihd (by omega)]
      exact this L (Nat.le_refl _)
    have := loop (M + 1 - L) L M g (by omega) hM a2 a3 Fr.rfl
    rw [e] at this
    exact this
  refine ⟨fun q => ?_, fun q => ⟨fun q1 => ?_, fun q1 => ?_⟩⟩
  · have hw0 := (E 0 (by omega)).mp q
    exact ⟨fun z => absurd q z, fun _ => go40 1 5 (by omega) (by omega) (fun u hu => by unfold may; omega) (fun u h1 h2 => by unfold may; omega) (fun u h1 h2 => by unfold may; omega)⟩
  · have a0 : ¬ w = 0 := fun z => q ((E 0 (by omega)).mpr z)
    have a1 : ¬ w = 1 := fun z => q1 ((E 1 (by omega)).mpr z)
    exact ⟨fun _ => ⟨fun _ => go40 0 9 (by omega) (by omega) (fun u hu => by omega) (fun u h1 h2 => by unfold may; omega) (fun u h1 h2 => by omega), fun z => absurd z q1⟩, fun z => absurd z q⟩
  · have hw1 := (E 1 (by omega)).mp q1
    exact ⟨fun _ => ⟨fun z => absurd q1 z, fun _ => go40 1 9 (by omega) (by omega) (fun u hu => by unfold may; omega) (fun u h1 h2 => by unfold may; omega) (fun u h1 h2 => by omega)⟩, fun z => absurd z q⟩
theorem s8_fits_l {Q : Int32 → Mm → Prop} {K : Mm → Int32 → Prop} {g : Mm} {b : Bx} {t w r i n : Nat} {told : Nat → Int32} (hW : RowIs (g.1 87) b) (hV : Vb b) (h8 : b 8 0 ≤ 9999) (ht : t < b 0 0) (hr : r < 8) (hin : i + n ≤ 40) (hn : n ≤ 12) (hw : w ≤ 3) (htold : ∀ q, q < n → g.1 94 (40 * r + i + q) = told q) (h : ∀ g', Fr (fun q k => q = 98) g g' → K g' (fs b t w n told 10)) : ∃ n90, o_X8_fits_90 Q K n90 g (nI t) (nI r) (nI i) (nI n) (nI w) 0 0 := by
  have h7 := hV.1.2
  have E : ∀ c : Nat, c < 1000 → (nI w = nI c ↔ w = c) := fun c hc => nI_eq (by omega) (by omega)
  have ef : (40 : Int32) * nI r + nI i = nI (40 * r + i) := by rw [show (40 : Int32) = nI 40 from rfl, pk_mul, nI_add]
  have loop : ∀ (k v : Nat) (g1 : Mm), v + k = 10 → Fr (fun q k => q = 98) g g1 → o_X8_fits_90 Q K (k + 1) g1 (nI t) (nI r) (nI i) (nI n) (nI w) (fs b t w n told v) (nI v) := by
    intro k
    induction k with
    | zero =>
      intro v g1 hk hF
      have : v = 10 := by omega
      subst this
      exact ⟨fun _ => h g1 hF, fun q => absurd (by decide) q⟩
    | succ k ih =>
      intro v g1 hk hF
      refine ⟨fun q => absurd ((nI_leI (a := 10) (by omega) (by omega)).mp q) (by omega), fun _ => ?_⟩
      have next : ∀ (g4 : Mm) (y : Int32), Fr (fun q k => q = 98) g g4 → y = fs b t w n told (v + 1) → o_X8_fits_209 Q (o_X8_fits_90 Q K (k + 1)) K g4 (nI t) (nI r) (nI i) (nI n) (nI w) y (nI v) := by
        intro g4 y hF4 ey x ex
        rw [nI_1] at ex; subst ex; subst ey
        exact ih (v + 1) g4 (by omega) hF4
      have hW1 : RowIs (g1.1 87) b := hW.eq (fun i => hF 87 i (by omega))
      have at177 : ∀ (g2 : Mm) (D : Nat) (s : Int32), s = nI D → D < 33 → Fr (fun q k => q = 98) g g2 → may w v → (∀ f' : Nat → Int32, (∀ i, f' i = if i = D then nI v else g2.1 98 i) → RowIs f' (sup b t w v)) → o_X8_fits_177 Q (o_X8_fits_90 Q K (k + 1)) K g2 (nI t) (nI r) (nI i) (nI n) (nI w) (fs b t w n told v) (nI v) s := by
        intro g2 D s es hD hF2 hm hrow
        subst es
        refine ⟨vlit D hD (by omega), fun g3 e3 => ?_⟩
        rw [cl (by omega)] at e3
        rw [ef]
        have hF3 : Fr (fun q k => q = 98) g g3 := by rw [e3]; exact Fr.set (T := fun q k => q = 98) hF2 rfl
        have r3 : RowIs (g3.1 98) (sup b t w v) := hrow _ (fun i => by rw [e3, mset_at]; simp only [true_and])
        have := s8_so (t := t) (told := told) hr hin n 0 (sup b t w v) g3 true (fun (r_16 : Int32) (g_15 : Mm) => ((r_16 = 0) → o_X8_fits_206 Q (o_X8_fits_90 Q K (k + 1)) K g_15 (nI t) (nI r) (nI i) (nI n) (nI w) (nI v) (fs b t w n told v) 0) ∧ ((¬ r_16 = 0) → o_X8_fits_206 Q (o_X8_fits_90 Q K (k + 1)) K g_15 (nI t) (nI r) (nI i) (nI n) (nI w) (nI v) (fs b t w n told v) (1 <<< (nI v &&& 31)))) (by omega) r3 (Vb_sup hV hm) (by rw [sup_8]; omega) (by rw [sup_0]; exact ht) (fun q hq => by rw [hF3 _ _ (by omega)]; exact htold q hq) (fun g4 f4 => ?_)
        · exact ⟨n + 1, this⟩
        · rw [Bool.true_and]
          refine bB_br (fun q x ex => next g4 x (hF3.trans f4) ?_) (fun q x ex => next g4 x (hF3.trans f4) ?_)
          · rw [ex, fs, if_pos hm, q, show fs b t w n told v ||| (0 : Int32) = fs b t w n told v from Int32.or_zero]; rfl
          · rw [ex, fs, if_pos hm, q]; rfl
      have at131 : ∀ s0 : Int32, (s0 = 0 → ¬ may w v) → (¬ s0 = 0 → may w v) → o_X8_fits_131 Q (o_X8_fits_90 Q K (k + 1)) K g1 (nI t) (nI r) (nI i) (nI n) (nI w) (fs b t w n told v) (nI v) s0 := by
        intro s0 hs0 hs1
        refine s8_layHand (fun g2 k2 f2 => ?_)
        have hF2 := hF.trans f2
        have hH : RowIs (g2.1 98) b := hW1.of33 h7 k2
        refine ⟨fun q => next g2 _ hF2 (fs_no (hs0 q)).symm, fun q => ⟨fun q0 => ⟨fun q1 => ?_, fun q1 => ?_⟩, fun q0 => ?_⟩⟩
        · have hm := hs1 q
          have a0 : ¬ w = 0 := fun z => q0 ((E 0 (by omega)).mpr z)
          have a1 : ¬ w = 1 := fun z => q1 ((E 1 (by omega)).mpr z)
          have es : (16 : Int32) + nI w - 2 = nI (14 + w) := by
            rw [show (16 : Int32) + nI w = nI (16 + w) from nI_add 16 w, show nI (16 + w) - 2 = nI (16 + w - 2) from pk_sub (b := 2) (by omega), show 16 + w - 2 = 14 + w by omega]
          refine at177 g2 (14 + w) _ es (by omega) hF2 hm (fun f' e => ?_)
          unfold sup
          rw [if_neg a0, if_neg a1]
          by_cases z : w = 2
          · rw [if_pos z]; exact hH.b5 h7 (fun i => by rw [e, z])
          · rw [if_neg z]; exact hH.b6 h7 (fun i => by rw [e, show w = 3 by omega])
        · have hw1 := (E 1 (by omega)).mp q1
          refine at177 g2 (8 + t) _ (nI_add 8 t) (by omega) hF2 (hs1 q) (fun f' e => ?_)
          unfold sup
          rw [if_neg (by omega), if_pos hw1]
          exact hH.bt (Or.inr ⟨rfl, rfl⟩) h7 ht e
        · have hw0 := (E 0 (by omega)).mp q0
          refine at177 g2 (1 + t) _ (nI_add 1 t) (by omega) hF2 (hs1 q) (fun f' e => ?_)
          unfold sup
          rw [if_pos hw0]
          exact hH.bt (Or.inl ⟨rfl, rfl⟩) h7 ht e
      refine ⟨fun q => ⟨fun q1 => at131 1 (fun z => absurd z (by decide)) (fun _ => ?_), fun q1 => ⟨fun q2 => at131 0 (fun _ => ?_) (fun z => absurd rfl z), fun q2 => at131 1 (fun z => absurd z (by decide)) (fun _ => ?_)⟩⟩, fun q => s8_in 1 5 rfl rfl (at131 _ (fun z => ?_) (fun z => ?_))⟩
      · have := (nI_ltI (a := 1) (by omega) (by omega)).mp q1
        unfold may; omega
      · have a0 : ¬ w = 0 := fun z => q ((E 0 (by omega)).mpr z)
        have a1 : ¬ 1 < w := fun z => q1 ((nI_ltI (a := 1) (by omega) (by omega)).mpr z)
        have := (nI_leI (b := 0) (by omega) (by omega)).mp q2
        unfold may; omega
      · have a0 : ¬ w = 0 := fun z => q ((E 0 (by omega)).mpr z)
        have a1 : ¬ 1 < w := fun z => q1 ((nI_ltI (a := 1) (by omega) (by omega)).mpr z)
        have : ¬ v ≤ 0 := fun z => q2 ((nI_leI (b := 0) (by omega) (by omega)).mpr z)
        unfold may; omega
      · have hw0 := (E 0 (by omega)).mp q
        have : ¬ (1 ≤ v ∧ v ≤ 5) := fun y => by
          rw [bI_t ((colI (by omega)).mpr y)] at z
          exact absurd z (by decide)
        unfold may; omega
      · have hw0 := (E 0 (by omega)).mp q
        have : 1 ≤ v ∧ v ≤ 5 := Decidable.byContradiction fun y => by
          rw [bI_f (fun x => y ((colI (by omega)).mp x))] at z
          exact absurd rfl z
        unfold may; omega
  exact ⟨11, loop 10 0 g (by omega) Fr.rfl⟩
def Tfit (q k : Nat) : Prop := (41 ≤ q ∧ q ≤ 57) ∨ q = 98 ∨ (q = 0 ∧ k = 8) ∨ (q = 86 ∧ k = 5)
theorem cmd_fits {g : Mm} (hR : Rel g) (x1 x2 x3 x4 x5 : Int32) : o_X7_fits (fun r g1 => o_X8_fits (fun r2 g2 => r = r2 ∧ Rel g2) g1 x1 x2 x3 x4 x5) g x1 x2 x3 x4 x5 := by
  obtain ⟨b, hB, hW, hV, hA, hP⟩ := hR.2.2.2.2.1
  have h7 := toys7 hV
  refine b7_toy hB.1.1 (bI_br (fun c1 => b8_toy hW.1.1 (bI_br (fun _ => ⟨rfl, hR⟩) (fun q => absurd q c1))) (fun c1 => ?_))
  refine s7_isRow (bI_br (fun c2 => b8_toy hW.1.1 (bI_br (fun q => absurd c1 q) (fun _ => s8_isRow (bI_br (fun _ => ⟨rfl, hR⟩) (fun q => absurd q c2))))) (fun c2 => ?_))
  refine s7_within (bI_br (fun c3 => b8_toy hW.1.1 (bI_br (fun q => absurd c1 q) (fun _ => s8_isRow (bI_br (fun q => absurd c2 q) (fun _ => s8_in 1 12 rfl rfl (bI_br (fun _ => ⟨rfl, hR⟩) (fun q => absurd q c3))))))) (fun c3 => ?_))
  refine s7_within (bI_rb (fun c4 => b8_toy hW.1.1 (bI_br (fun q => absurd c1 q) (fun _ => s8_isRow (bI_br (fun q => absurd c2 q) (fun _ => s8_in 1 12 rfl rfl (bI_br (fun q => absurd c3 q) (fun _ => s8_in 0 3 rfl rfl (bI_rb (fun _ => ⟨rfl, hR⟩) (fun q => absurd q c4))))))))) (fun c4 => ?_))
  obtain ⟨t, ht, rfl⟩ := toy_of h7 c1
  obtain ⟨r, hr, rfl⟩ := in_of 7 rfl c2
  obtain ⟨n, hn, rfl⟩ := in_of 12 rfl ⟨Int32.le_trans (by decide) c3.1, c3.2⟩
  have hn1 : 1 ≤ n := (nI_leI (a := 1) (by omega) (by omega)).mp c3.1
  obtain ⟨w, hw, rfl⟩ := in_of 3 rfl c4
  have hV := case_of hV (by omega)
  have hv : vp_in (nI r) 8 := vlit r (by omega) (by omega)
  obtain ⟨h1, h2, h3, ⟨sz, hsz, h4⟩, h5⟩ := hR.1 r (by omega)
  have h6 := row_br h1
  have key : ∀ (P : Int32 → Mm → Prop) (g1 : Mm), (∀ j k, (j = 87 ∨ j = 92 ∨ j = 93) → g1.1 j k = g.1 j k) → ((¬ g.1 (60 + 2 * r) 1 = 0 → o_X8_found P g1 1) ∧ (g.1 (60 + 2 * r) 1 = 0 → (¬ spn sz x3 (nI n) → o_X8_found P g1 2) ∧ (spn sz x3 (nI n) → ∃ n90, o_X8_fits_90 P (fun (g : Mm) (x6 : Int32) => o_X8_well (fun (r_21 : Int32) (g_20 : Mm) => P r_21 g_20) g x6) n90 g1 (nI t) (nI r) x3 (nI n) (nI w) 0 0))) → o_X8_fits P g1 (nI t) (nI r) x3 (nI n) (nI w) := by
    intro P g1 e hh
    refine b8_toy ((e 87 0 (by omega)).trans hW.1.1) (bI_br (fun q => absurd c1 q) (fun _ => s8_isRow (bI_br (fun q => absurd c2 q) (fun _ => s8_in 1 12 rfl rfl (bI_br (fun q => absurd c3 q) (fun _ => s8_in 0 3 rfl rfl (bI_rb (fun q => absurd c4 q) (fun _ => ⟨hv, ?_⟩))))))))
    rw [cl (by omega), e 93 r (by omega), e 92 r (by omega), h3, h4]
    refine ⟨fun q => ⟨hv, s8_in 0 (nI sz - nI n) rfl rfl (bI_rb (fun y => ?_) (fun y => ?_))⟩, fun q => hh.1 (h6.mp q)⟩
    · refine (hh.2 (Decidable.byContradiction fun z => q (h6.mpr z))).1 (fun z => y ?_)
      rw [le_i, le_i, pk_sub_toInt (by omega) (by omega), show (0 : Int32).toInt = 0 from rfl]
      have := z.2.2
      rw [nIi (by omega)] at this
      exact ⟨z.1, by omega⟩
    · refine (hh.2 (Decidable.byContradiction fun z => q (h6.mpr z))).2 ?_
      rw [le_i, le_i, pk_sub_toInt (by omega) (by omega), show (0 : Int32).toInt = 0 from rfl] at y
      refine ⟨y.1, by rw [nIi (by omega)]; omega, ?_⟩
      rw [nIi (by omega)]; omega
  refine ⟨hv, ?_⟩
  rw [cl (by omega)]
  refine ⟨fun d1 => s6_spans hsz h4 (bI_rb (fun d2 => ?_) (fun d2 => ?_)), fun d1 => ?_⟩
  · exact s7_found (key _ _ (fun j k z => by rw [mset_at, if_neg (by omega)]) ⟨fun q => absurd d1 q, fun _ => ⟨fun _ => s8_found ⟨rfl, hR.find 2⟩, fun q => absurd q d2⟩⟩)
  · obtain ⟨i, hi, rfl⟩ : ∃ i : Nat, i ≤ sz ∧ x3 = nI i := nI_of2 (M := nI sz) (nIi (by omega)) (by rw [lt_i, show (0 : Int32).toInt = 0 from rfl]; have := d2.1; omega) (by rw [le_i, nIi (by omega)]; have := d2.2.1; have := d2.2.2; omega)
    have d3 := d2.2.2
    rw [nIi (by omega), nIi (by omega)] at d3
    refine s4_fitting (told := fun q => g.1 (60 + 2 * r + 1) (i + q)) hB hV hP ht (by omega) (by omega) hn hw (fun q _ => rfl) (fun g1 f1 => s7_fine ?_)
    have F1 : ∀ j k, ¬ (41 ≤ j ∧ j ≤ 57) → ¬ (j = 0 ∧ k = 8) → (mset g1 0 8 0).1 j k = g.1 j k := fun j k z1 z2 => by
      rw [mset_at, if_neg z2]; exact f1 j k z1
    refine key _ _ (fun j k z => F1 j k (by omega) (by omega)) ⟨fun q => absurd d1 q, fun _ => ⟨fun q => absurd d2 q, fun _ => ?_⟩⟩
    refine s8_fits_l (told := fun q => g.1 (60 + 2 * r + 1) (i + q)) (hW.eq (fun k => F1 87 k (by omega) (by omega))) hV hP ht (by omega) (by omega) hn hw (fun q hq => ?_) (fun g2 f2 => s8_well ⟨rfl, ?_⟩)
    · rw [F1 94 _ (by omega) (by omega), show 40 * r + i + q = 40 * r + (i + q) by omega]
      exact h5 (i + q) (by omega)
    · have hf : Fr Tfit g (mset g2 86 5 0) := by
        refine Fr.set (Fr.trans (Fr.set (f1.mono (fun q k z => by unfold Tsea at z; unfold Tfit; omega)) ?_) (f2.mono (fun q k z => by unfold Tfit; omega))) ?_
        · unfold Tfit; omega
        · unfold Tfit; omega
      refine ⟨hR.1.fr hf (by intro j k ht; unfold Tfit at ht; omega), hR.2.1.fr hf (by intro j k ht; unfold Tfit at ht; omega), hR.2.2.1.fr hf (by intro j k ht; unfold Tfit at ht; omega), ?_, hR.2.2.2.2.1.fr hf (by intro j k ht; unfold Tfit at ht; omega), hR.2.2.2.2.2.1.fr hf (by intro j k ht; unfold Tfit at ht; omega), hR.2.2.2.2.2.2.fr hf (by intro j k ht; unfold Tfit at ht; omega)⟩
      show (mset g2 86 5 0).1 86 5 = (mset g2 86 5 0).1 0 8
      rw [mset_at, if_pos ⟨rfl, rfl⟩, mset_at, if_neg (by omega), f2 0 8 (by omega), mset_at, if_pos ⟨rfl, rfl⟩]
  · exact s7_found (key _ _ (fun j k z => by rw [mset_at, if_neg (by omega)]) ⟨fun _ => s8_found ⟨rfl, hR.find 1⟩, fun q => absurd q d1⟩)
