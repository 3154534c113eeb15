/-! fault, status, trace, kind, as, count -/
theorem cmd_fault {g : Mm} (hR : Rel g) : o_X7_fault (fun r g1 => o_X8_fault (fun r2 g2 => r = r2 ∧ Rel g2) g1) g := ⟨hR.2.2.1.symm, hR⟩
theorem cmd_status {g : Mm} (hR : Rel g) : o_X7_status (fun r g1 => o_X8_status (fun r2 g2 => r = r2 ∧ Rel g2) g1) g := ⟨hR.2.2.2.1.symm, hR⟩
theorem cmd_trace {g : Mm} (hR : Rel g) (x1 : Int32) : o_X7_trace (fun r g1 => o_X8_trace (fun r2 g2 => r = r2 ∧ Rel g2) g1 x1) g x1 := by
  obtain ⟨n, hn, h1, h2, h3⟩ := hR.2.2.2.2.2.2
  unfold o_X7_trace
  rw [h1]
  refine s7_within (bI_br (fun c1 => ?_) (fun c1 => ?_))
  · show o_X8_trace _ g _
    unfold o_X8_trace
    rw [h2]
    exact s8_in 0 (nI n - 1) rfl rfl (bI_br (fun _ => ⟨rfl, hR⟩) (fun q => absurd q c1))
  · have e : (nI n - 1).toInt = (n : Int) - 1 := pk_sub_toInt (b := 1) (by omega) (by omega)
    have z0 : (0 : Int32).toInt = 0 := rfl
    have c2 := c1
    rw [le_i, le_i, e, z0] at c2
    obtain ⟨i, hi, rfl⟩ : ∃ i : Nat, i ≤ n ∧ x1 = nI i := nI_of2 (M := nI n) (nIi (by omega)) (by rw [lt_i, z0]; omega) (by rw [le_i, nIi (by omega)]; omega)
    rw [nIi (by omega)] at c2
    have hv : vp_in (nI i) 16 := vin i rfl (by omega) (by omega)
    refine ⟨hv, ?_⟩
    show o_X8_trace _ g _
    unfold o_X8_trace
    rw [h2]
    refine s8_in 0 (nI n - 1) rfl rfl (bI_br (fun q => absurd c1 q) (fun _ => ⟨hv, ?_, hR⟩))
    rw [cl (by omega)]
    exact h3 i (by omega)
theorem toys7 {b : Bx} (h : b 0 0 = 0 ∨ Vb b) : b 0 0 ≤ 7 := h.elim (fun q => by omega) (fun q => q.1.2)
/-- a toy's number, as both see it -/
theorem toy_of {n : Nat} (hn : n ≤ 7) {x : Int32} (h : 0 ≤ x ∧ x ≤ nI n - 1) : ∃ t : Nat, t < n ∧ x = nI t := by
  have e : (nI n - 1).toInt = (n : Int) - 1 := pk_sub_toInt (b := 1) (by omega) (by omega)
  have z0 : (0 : Int32).toInt = 0 := rfl
  rw [le_i, le_i, e, z0] at h
  obtain ⟨i, hi, rfl⟩ : ∃ i : Nat, i ≤ n ∧ x = nI i := nI_of2 (M := nI n) (nIi (by omega)) (by rw [lt_i, z0]; omega) (by rw [le_i, nIi (by omega)]; omega)
  rw [nIi (by omega)] at h
  exact ⟨i, by omega, rfl⟩
theorem vt {n : Nat} (hn : n ≤ 7) {t : Nat} (ht : t < n) : vp_in (nI t) 7 := vin t rfl (by omega) (by omega)
/-- isToy of both, with the memory that the class left in place of g -/
theorem b7_toy {Q : Int32 → Mm → Prop} {g : Mm} {n : Nat} {x : Int32} (e : g.1 9 4 = nI n) (h : Q (bI (0 ≤ x ∧ x ≤ nI n - 1)) g) : o_X7_isToy Q g x := by
  apply s7_isToy; rw [e]; exact h
theorem b8_toy {Q : Int32 → Mm → Prop} {g : Mm} {n : Nat} {x : Int32} (e : g.1 87 0 = nI n) (h : Q (bI (0 ≤ x ∧ x ≤ nI n - 1)) g) : o_X8_isToy Q g x := by
  apply s8_isToy; rw [e]; exact h
theorem b8_toys {Q : Int32 → Mm → Prop} {g : Mm} {n : Nat} (e : g.1 87 0 = nI n) (h : Q (nI n) g) : o_X8_toys Q g := by
  apply s8_toys; rw [e]; exact h
theorem cA {a t : Nat} (h : a + t < 2147483648) : (nI a + nI t).toNatClampNeg = a + t := by rw [nI_add, cl h]
theorem vA {a t n : Nat} (h : a + t < n) (hn : n < 2147483648) : vp_in (nI a + nI t) n := vin (a + t) (nI_add a t) h hn
theorem ca1 {t : Nat} (h : t < 1000) : ((1 : Int32) + nI t).toNatClampNeg = 1 + t := cA (a := 1) (by omega)
theorem c8 {t : Nat} (h : t < 1000) : ((8 : Int32) + nI t).toNatClampNeg = 8 + t := cA (a := 8) (by omega)
theorem c19 {t : Nat} (h : t < 1000) : ((19 : Int32) + nI t).toNatClampNeg = 19 + t := cA (a := 19) (by omega)
theorem c26 {t : Nat} (h : t < 1000) : ((26 : Int32) + nI t).toNatClampNeg = 26 + t := cA (a := 26) (by omega)
theorem v1 {t : Nat} (h : t < 7) : vp_in ((1 : Int32) + nI t) 33 := vA (a := 1) (by omega) (by omega)
theorem v8 {t : Nat} (h : t < 7) : vp_in ((8 : Int32) + nI t) 33 := vA (a := 8) (by omega) (by omega)
theorem v19 {t : Nat} (h : t < 7) : vp_in ((19 : Int32) + nI t) 33 := vA (a := 19) (by omega) (by omega)
theorem v26 {t : Nat} (h : t < 7) : vp_in ((26 : Int32) + nI t) 33 := vA (a := 26) (by omega) (by omega)
theorem cmd_kind {g : Mm} (hR : Rel g) (x1 : Int32) : o_X7_kind (fun r g1 => o_X8_kind (fun r2 g2 => r = r2 ∧ Rel g2) g1 x1) g x1 := by
  obtain ⟨b, hB, hW, hV, hA, hP⟩ := hR.2.2.2.2.1
  have h7 := toys7 hV
  refine b7_toy hB.1.1 (bI_br (fun c1 => b8_toy hW.1.1 (bI_br (fun _ => ⟨rfl, hR⟩) (fun q => absurd q c1))) (fun c1 => ?_))
  obtain ⟨t, ht, rfl⟩ := toy_of h7 c1
  refine ⟨vt h7 ht, b8_toy hW.1.1 (bI_br (fun q => absurd c1 q) (fun _ => ⟨v1 (by omega), ?_, hR⟩))⟩
  rw [cl (by omega), ca1 (by omega), (hB.2 t ht).1, (hW.2 t ht).1]
def wid (k : Nat) : Nat := if k = 2 ∨ k = 3 then 1 else if k = 5 then 4 else 0
theorem tz_wid : ∀ k, k < 6 → 1 ≤ k → tzW k = nI (wid k) := by decide
theorem isk_done {Q : Int32 → Mm → Prop} {K : Mm → Int32 → Int32 → Prop} {n : Nat} {g : Mm} {k w s : Nat} (h : k = 0 ∨ k = w) (hK : K g (nI w) (nI k)) : o_X7_isOfKind_4 Q K (n + 1) g (nI w) (nI k) (nI s) := by
  refine ⟨fun _ => hK, fun _ => ⟨fun _ => hK, fun c => ⟨fun _ => hK, fun d => ?_⟩⟩⟩
  rcases h with rfl | rfl
  · exact absurd (show nI 0 ≤ 0 by decide) c
  · exact absurd rfl d
theorem isk_go {Q : Int32 → Mm → Prop} {K : Mm → Int32 → Int32 → Prop} {n : Nat} {g : Mm} {k w s : Nat} (hk : 1 ≤ k ∧ k ≤ 5) (hw : w ≤ 5) (hs : s < 6) (hn : k ≠ w) (h : o_X7_isOfKind_4 Q K n g (nI w) (nI (wid k)) (nI (s + 1))) : o_X7_isOfKind_4 Q K (n + 1) g (nI w) (nI k) (nI s) := by
  refine ⟨fun q => absurd ((nI_leI (a := 6) (by omega) (by omega)).mp q) (by omega), fun _ => ⟨fun q => absurd ((nI_leI (b := 0) (by omega) (by omega)).mp q) (by omega), fun _ => ⟨fun q => absurd ((nI_eq (by omega) (by omega)).mp q) hn, fun _ => ⟨vin k rfl (by omega) (by omega), ?_⟩⟩⟩⟩
  intro x ex y ey
  rw [cl (by omega), tz_wid k (by omega) hk.1] at ex
  rw [nI_1] at ey
  subst ex; subst ey
  exact h
abbrev ofk (k w : Nat) : Prop := w = 0 ∨ k = w ∨ (w = 1 ∧ k < 4) ∨ (w = 4 ∧ k = 5)
theorem s7_isOfKind {Q : Int32 → Mm → Prop} {g : Mm} {k w : Nat} (hk : 1 ≤ k ∧ k ≤ 5) (hw : w ≤ 5) (h : Q (bI (ofk k w)) g) : o_X7_isOfKind Q g (nI k) (nI w) := by
  have fin : ∀ k', k' ≤ 5 → (k' = w ↔ ofk k w) → o_X7_isOfKind_33 Q g (nI w) (nI k') := by
    intro k' hk' e
    refine ⟨fun q => ?_, fun q => ?_⟩
    · rw [bI_f (fun z => q (by rw [e.mpr z]))] at h; exact h
    · rw [bI_t (e.mp ((nI_eq (by omega) (by omega)).mp q))] at h; exact h
  refine ⟨4, ?_⟩
  show o_X7_isOfKind_4 Q _ 4 g (nI w) (nI k) (nI 0)
  by_cases e1 : k = w
  · exact isk_done (Or.inr e1) (fin k hk.2 ⟨fun _ => Or.inr (Or.inl e1), fun _ => e1⟩)
  · refine isk_go hk hw (by omega) e1 ?_
    by_cases e2 : wid k = 0 ∨ wid k = w
    · refine isk_done e2 (fin _ ?_ ?_)
      · unfold wid; split <;> (try split) <;> omega
      · unfold wid at e2 ⊢
        split at e2 <;> (try split at e2) <;> rename_i z <;> simp only [z] <;> (try rename_i y; simp only [y]) <;> simp <;> omega
    · have hw1 : wid k = 1 ∧ (k = 2 ∨ k = 3) ∨ wid k = 4 ∧ k = 5 := by
        unfold wid at e2 ⊢
        split at e2
        · rename_i z; rw [if_pos z]; exact Or.inl ⟨rfl, z⟩
        · rename_i z
          rw [if_neg z]
          split at e2
          · rename_i y; rw [if_pos y]; exact Or.inr ⟨rfl, y⟩
          · exact absurd (Or.inl rfl) e2
      have hw2 : wid (wid k) = 0 := by rcases hw1 with q | q <;> rw [q.1] <;> rfl
      refine isk_go ?_ hw (by omega) (fun q => e2 (Or.inr q)) ?_
      · rcases hw1 with q | q <;> rw [q.1] <;> omega
      · rw [hw2]
        refine isk_done (Or.inl rfl) (fin 0 (by omega) ?_)
        have := fun q => e2 (Or.inr q)
        rcases hw1 with q | q <;> rw [q.1] at this <;> constructor <;> intro z <;> omega
theorem s8_isOf {Q : Int32 → Mm → Prop} {g : Mm} {k w : Nat} (hk : 1 ≤ k ∧ k ≤ 5) (hw : w ≤ 5) (h : Q (bI (ofk k w)) g) : o_X8_isOf Q g (nI k) (nI w) := by
  have E : ∀ a b : Nat, a < 2147483648 → b < 2147483648 → (nI a = nI b ↔ a = b) := fun a b ha hb => nI_eq ha hb
  have tt : ofk k w → Q 1 g := fun q => by rw [bI_t q] at h; exact h
  have ff : ¬ ofk k w → Q 0 g := fun q => by rw [bI_f q] at h; exact h
  have l19 : w ≠ 0 → k ≠ w → ¬ (w = 1 ∧ k < 4) → o_X8_isOf_19 Q g (nI k) (nI w) := by
    intro a1 a2 a3
    refine ⟨fun q => ff (fun z => ?_), fun q => ⟨fun p => ff (fun z => ?_), fun p => tt ?_⟩⟩
    · have : ¬ w = 4 := fun y => q ((E w 4 (by omega) (by omega)).mpr y)
      omega
    · have : ¬ k = 5 := fun y => p ((E k 5 (by omega) (by omega)).mpr y)
      omega
    · have := (E w 4 (by omega) (by omega)).mp q
      have := (E k 5 (by omega) (by omega)).mp p
      omega
  refine ⟨fun q => tt (Or.inl ((E w 0 (by omega) (by omega)).mp q)), fun q => ⟨fun p => tt (Or.inr (Or.inl ((E k w (by omega) (by omega)).mp p))), fun p => ⟨fun r => l19 (fun y => q ((E w 0 (by omega) (by omega)).mpr y)) (fun y => p ((E k w (by omega) (by omega)).mpr y)) (fun y => r ((E w 1 (by omega) (by omega)).mpr y.1)), fun r => ⟨fun s => tt ?_, fun s => l19 (fun y => q ((E w 0 (by omega) (by omega)).mpr y)) (fun y => p ((E k w (by omega) (by omega)).mpr y)) (fun y => s ((nI_ltI (b := 4) (by omega) (by omega)).mpr y.2))⟩⟩⟩⟩
  exact Or.inr (Or.inr (Or.inl ⟨(E w 1 (by omega) (by omega)).mp r, (nI_ltI (b := 4) (by omega) (by omega)).mp s⟩))
theorem cmd_as {g : Mm} (hR : Rel g) (x1 x2 : Int32) : o_X7_as (fun r g1 => o_X8_as (fun r2 g2 => r = r2 ∧ Rel g2) g1 x1 x2) g x1 x2 := by
  obtain ⟨b, hB, hW, hV, hA, hP⟩ := hR.2.2.2.2.1
  have h7 := toys7 hV
  refine b7_toy hB.1.1 (bI_br (fun c1 => b8_toy hW.1.1 (bI_br (fun _ => ⟨rfl, hR⟩) (fun q => absurd q c1))) (fun c1 => ?_))
  refine s7_within (bI_rb (fun c2 => b8_toy hW.1.1 (bI_br (fun q => absurd c1 q) (fun _ => s8_in 0 5 rfl rfl (bI_rb (fun _ => ⟨rfl, hR⟩) (fun q => absurd q c2))))) (fun c2 => ?_))
  obtain ⟨t, ht, rfl⟩ := toy_of h7 c1
  obtain ⟨w, hw, rfl⟩ := in_of 5 rfl c2
  have hk : 1 ≤ b 1 t ∧ b 1 t ≤ 5 := by
    rcases hV with q | q
    · omega
    · exact (q.2.2 t ht).1
  have key : ∀ (P : Int32 → Mm → Prop) (g1 : Mm), g1.1 87 0 = g.1 87 0 → g1.1 87 (1 + t) = g.1 87 (1 + t) → ((¬ ofk (b 1 t) w → o_X8_found P g1 3) ∧ (ofk (b 1 t) w → o_X8_well P g1 (nI t))) → o_X8_as P g1 (nI t) (nI w) := by
    intro P g1 e1 e2 hh
    refine b8_toy (e1.trans hW.1.1) (bI_br (fun q => absurd c1 q) (fun _ => s8_in 0 5 rfl rfl (bI_rb (fun q => absurd c2 q) (fun _ => ⟨v1 (by omega), ?_⟩))))
    rw [ca1 (by omega), e2, (hW.2 t ht).1]
    exact s8_isOf hk hw (bI_br hh.1 hh.2)
  refine ⟨vt h7 ht, ?_⟩
  rw [cl (by omega), (hB.2 t ht).1]
  refine s7_isOfKind hk hw (bI_br (fun q => s7_found (key _ _ (by rw [mset_at, if_neg (by omega)]) (by rw [mset_at, if_neg (by omega)]) ⟨fun _ => s8_found ⟨rfl, hR.find 3⟩, fun z => absurd z q⟩)) (fun q => s7_fine (key _ _ (by rw [mset_at, if_neg (by omega)]) (by rw [mset_at, if_neg (by omega)]) ⟨fun z => absurd q z, fun _ => s8_well ⟨rfl, hR.find 0⟩⟩)))
