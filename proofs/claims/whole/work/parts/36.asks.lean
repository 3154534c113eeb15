/-! ask: the bodies -/
theorem g38_10 {Q : Int32 → Mm → Prop} {F : (Int32 → Mm → Prop) → Nat → Mm → Int32 → Int32 → Int32 → Prop} {g : Mm} {b : Bx} {t d : Nat} (hB : BoxIs g 9 b) (h7 : b 0 0 ≤ 7) (ht : t < b 0 0) (hk : b 1 t ≤ 5) (h : Q (nI (b 2 t)) g) : o_X1_give_38 Q F 9 g (nI t) 10 (nI d) := by
  intro x1 e1
  rw [nI_1] at e1
  subst e1
  have hv := vt h7 ht
  refine ⟨hv, fun x2 e2 => ?_⟩
  rw [cl (by omega), (hB.2 t ht).1] at e2
  subst e2
  exact ⟨fun _ => ⟨hv, by rw [cl (by omega), (hB.2 t ht).2.1]; exact h⟩, fun q => absurd q (by decide), fun q => absurd q (by decide), fun q => absurd q (by decide), fun q => absurd q (by decide), fun q => absurd q (by decide), fun q => absurd q (by decide), fun q => absurd q (by decide), fun q => absurd q (by decide), fun q => absurd q (by decide), fun q => absurd rfl q.1⟩
theorem g38_11 {Q : Int32 → Mm → Prop} {F : (Int32 → Mm → Prop) → Nat → Mm → Int32 → Int32 → Int32 → Prop} {g : Mm} {b : Bx} {t d : Nat} (hB : BoxIs g 9 b) (h7 : b 0 0 ≤ 7) (ht : t < b 0 0) (hk : b 1 t ≤ 5) (h : F (fun r4 g3 => vp_in (nI (b 1 t)) 6 ∧ F (fun r6 g5 => Q (r4 + r6) g5) 9 g3 (nI t) (tzM (b 1 t)) (nI (d + 1))) 9 g (nI t) 10 (nI (d + 1))) : o_X1_give_38 Q F 9 g (nI t) 11 (nI d) := by
  intro x1 e1
  rw [nI_1] at e1
  subst e1
  have hv := vt h7 ht
  refine ⟨hv, fun x2 e2 => ?_⟩
  rw [cl (by omega), (hB.2 t ht).1] at e2
  subst e2
  rw [cl (show b 1 t < 2147483648 by omega)]
  exact ⟨fun q => absurd q (by decide), fun _ => h, fun q => absurd q (by decide), fun q => absurd q (by decide), fun q => absurd q (by decide), fun q => absurd q (by decide), fun q => absurd q (by decide), fun q => absurd q (by decide), fun q => absurd q (by decide), fun q => absurd q (by decide), fun q => absurd rfl q.2.1⟩
theorem g38_12 {Q : Int32 → Mm → Prop} {F : (Int32 → Mm → Prop) → Nat → Mm → Int32 → Int32 → Int32 → Prop} {g : Mm} {b : Bx} {t d : Nat} (hB : BoxIs g 9 b) (h7 : b 0 0 ≤ 7) (ht : t < b 0 0) (hk : b 1 t ≤ 5) (h : F (fun r8 g7 => Q (-r8) g7) 9 g (nI t) 11 (nI (d + 1))) : o_X1_give_38 Q F 9 g (nI t) 12 (nI d) := by
  intro x1 e1
  rw [nI_1] at e1
  subst e1
  have hv := vt h7 ht
  refine ⟨hv, fun x2 e2 => ?_⟩
  rw [cl (by omega), (hB.2 t ht).1] at e2
  subst e2
  exact ⟨fun q => absurd q (by decide), fun q => absurd q (by decide), fun _ => h, fun q => absurd q (by decide), fun q => absurd q (by decide), fun q => absurd q (by decide), fun q => absurd q (by decide), fun q => absurd q (by decide), fun q => absurd q (by decide), fun q => absurd q (by decide), fun q => absurd rfl q.2.2.1⟩
theorem g38_13 {Q : Int32 → Mm → Prop} {F : (Int32 → Mm → Prop) → Nat → Mm → Int32 → Int32 → Int32 → Prop} {g : Mm} {b : Bx} {t d : Nat} (hB : BoxIs g 9 b) (h7 : b 0 0 ≤ 7) (ht : t < b 0 0) (hk : b 1 t ≤ 5) (h : F (fun r8 g7 => Q (r8 - 100) g7) 9 g (nI t) 10 (nI (d + 1))) : o_X1_give_38 Q F 9 g (nI t) 13 (nI d) := by
  intro x1 e1
  rw [nI_1] at e1
  subst e1
  have hv := vt h7 ht
  refine ⟨hv, fun x2 e2 => ?_⟩
  rw [cl (by omega), (hB.2 t ht).1] at e2
  subst e2
  exact ⟨fun q => absurd q (by decide), fun q => absurd q (by decide), fun q => absurd q (by decide), fun _ => h, fun q => absurd q (by decide), fun q => absurd q (by decide), fun q => absurd q (by decide), fun q => absurd q (by decide), fun q => absurd q (by decide), fun q => absurd q (by decide), fun q => absurd rfl q.2.2.2.1⟩
theorem g38_14 {Q : Int32 → Mm → Prop} {F : (Int32 → Mm → Prop) → Nat → Mm → Int32 → Int32 → Int32 → Prop} {g : Mm} {b : Bx} {t d : Nat} (hB : BoxIs g 9 b) (h7 : b 0 0 ≤ 7) (ht : t < b 0 0) (hk : b 1 t ≤ 5) (h : F (fun r8 g7 => Q (2 * r8) g7) 9 g (nI t) 13 (nI (d + 1))) : o_X1_give_38 Q F 9 g (nI t) 14 (nI d) := by
  intro x1 e1
  rw [nI_1] at e1
  subst e1
  have hv := vt h7 ht
  refine ⟨hv, fun x2 e2 => ?_⟩
  rw [cl (by omega), (hB.2 t ht).1] at e2
  subst e2
  exact ⟨fun q => absurd q (by decide), fun q => absurd q (by decide), fun q => absurd q (by decide), fun q => absurd q (by decide), fun _ => h, fun q => absurd q (by decide), fun q => absurd q (by decide), fun q => absurd q (by decide), fun q => absurd q (by decide), fun q => absurd q (by decide), fun q => absurd rfl q.2.2.2.2.1⟩
theorem g38_20 {Q : Int32 → Mm → Prop} {F : (Int32 → Mm → Prop) → Nat → Mm → Int32 → Int32 → Int32 → Prop} {g : Mm} {b : Bx} {t d : Nat} (hB : BoxIs g 9 b) (h7 : b 0 0 ≤ 7) (ht : t < b 0 0) (hk : b 1 t ≤ 5) (h : Q (nI t) g) : o_X1_give_38 Q F 9 g (nI t) 20 (nI d) := by
  intro x1 e1
  rw [nI_1] at e1
  subst e1
  have hv := vt h7 ht
  refine ⟨hv, fun x2 e2 => ?_⟩
  rw [cl (by omega), (hB.2 t ht).1] at e2
  subst e2
  exact ⟨fun q => absurd q (by decide), fun q => absurd q (by decide), fun q => absurd q (by decide), fun q => absurd q (by decide), fun q => absurd q (by decide), fun _ => h, fun q => absurd q (by decide), fun q => absurd q (by decide), fun q => absurd q (by decide), fun q => absurd q (by decide), fun q => absurd rfl q.2.2.2.2.2.1⟩
theorem g38_21 {Q : Int32 → Mm → Prop} {F : (Int32 → Mm → Prop) → Nat → Mm → Int32 → Int32 → Int32 → Prop} {g : Mm} {b : Bx} {t d : Nat} (hB : BoxIs g 9 b) (h7 : b 0 0 ≤ 7) (ht : t < b 0 0) (hk : b 1 t ≤ 5) (h : F (fun r8 g7 => vp_in (nI t) 7 ∧ Q (r8 + g7.1 12 t) g7) 9 g (nI t) 20 (nI (d + 1))) : o_X1_give_38 Q F 9 g (nI t) 21 (nI d) := by
  intro x1 e1
  rw [nI_1] at e1
  subst e1
  have hv := vt h7 ht
  refine ⟨hv, fun x2 e2 => ?_⟩
  rw [cl (by omega), (hB.2 t ht).1] at e2
  subst e2
  rw [cl (show t < 2147483648 by omega)]
  exact ⟨fun q => absurd q (by decide), fun q => absurd q (by decide), fun q => absurd q (by decide), fun q => absurd q (by decide), fun q => absurd q (by decide), fun q => absurd q (by decide), fun _ => h, fun q => absurd q (by decide), fun q => absurd q (by decide), fun q => absurd q (by decide), fun q => absurd rfl q.2.2.2.2.2.2.1⟩
theorem g38_22 {Q : Int32 → Mm → Prop} {F : (Int32 → Mm → Prop) → Nat → Mm → Int32 → Int32 → Int32 → Prop} {g : Mm} {b : Bx} {t d : Nat} (hB : BoxIs g 9 b) (h7 : b 0 0 ≤ 7) (ht : t < b 0 0) (hk : b 1 t ≤ 5) (h : F (fun r8 g7 => Q (r8 - 1000) g7) 9 g (nI t) 21 (nI (d + 1))) : o_X1_give_38 Q F 9 g (nI t) 22 (nI d) := by
  intro x1 e1
  rw [nI_1] at e1
  subst e1
  have hv := vt h7 ht
  refine ⟨hv, fun x2 e2 => ?_⟩
  rw [cl (by omega), (hB.2 t ht).1] at e2
  subst e2
  exact ⟨fun q => absurd q (by decide), fun q => absurd q (by decide), fun q => absurd q (by decide), fun q => absurd q (by decide), fun q => absurd q (by decide), fun q => absurd q (by decide), fun q => absurd q (by decide), fun _ => h, fun q => absurd q (by decide), fun q => absurd q (by decide), fun q => absurd rfl q.2.2.2.2.2.2.2.1⟩
theorem g38_23 {Q : Int32 → Mm → Prop} {F : (Int32 → Mm → Prop) → Nat → Mm → Int32 → Int32 → Int32 → Prop} {g : Mm} {b : Bx} {t d : Nat} (hB : BoxIs g 9 b) (h7 : b 0 0 ≤ 7) (ht : t < b 0 0) (hk : b 1 t ≤ 5) (h : F (fun r4 g3 => vp_in (nI (b 1 t)) 6 ∧ F (fun r6 g5 => Q (r4 - r6) g5) 9 g3 (nI t) (tzS (b 1 t)) (nI (d + 1))) 9 g (nI t) 20 (nI (d + 1))) : o_X1_give_38 Q F 9 g (nI t) 23 (nI d) := by
  intro x1 e1
  rw [nI_1] at e1
  subst e1
  have hv := vt h7 ht
  refine ⟨hv, fun x2 e2 => ?_⟩
  rw [cl (by omega), (hB.2 t ht).1] at e2
  subst e2
  rw [cl (show b 1 t < 2147483648 by omega)]
  exact ⟨fun q => absurd q (by decide), fun q => absurd q (by decide), fun q => absurd q (by decide), fun q => absurd q (by decide), fun q => absurd q (by decide), fun q => absurd q (by decide), fun q => absurd q (by decide), fun q => absurd q (by decide), fun _ => h, fun q => absurd q (by decide), fun q => absurd rfl q.2.2.2.2.2.2.2.2.1⟩
theorem g38_24 {Q : Int32 → Mm → Prop} {F : (Int32 → Mm → Prop) → Nat → Mm → Int32 → Int32 → Int32 → Prop} {g : Mm} {b : Bx} {t d : Nat} (hB : BoxIs g 9 b) (h7 : b 0 0 ≤ 7) (ht : t < b 0 0) (hk : b 1 t ≤ 5) (h : F (fun r8 g7 => Q (2 * r8) g7) 9 g (nI t) 21 (nI (d + 1))) : o_X1_give_38 Q F 9 g (nI t) 24 (nI d) := by
  intro x1 e1
  rw [nI_1] at e1
  subst e1
  have hv := vt h7 ht
  refine ⟨hv, fun x2 e2 => ?_⟩
  rw [cl (by omega), (hB.2 t ht).1] at e2
  subst e2
  exact ⟨fun q => absurd q (by decide), fun q => absurd q (by decide), fun q => absurd q (by decide), fun q => absurd q (by decide), fun q => absurd q (by decide), fun q => absurd q (by decide), fun q => absurd q (by decide), fun q => absurd q (by decide), fun q => absurd q (by decide), fun _ => h, fun q => absurd rfl q.2.2.2.2.2.2.2.2.2⟩
theorem T7.box {g0 g : Mm} {l : List Int32} {b : Bx} (T : T7 g0 l g) (hB : BoxIs g0 9 b) : BoxIs g 9 b := hB.eq (fun q k h1 h2 => T.2.2 q k (by omega))
theorem T8.row {g0 g : Mm} {l : List Int32} {b : Bx} (T : T8 g0 l g) (hB : RowIs (g0.1 87) b) : RowIs (g.1 87) b := hB.eq (fun i => T.2.2 87 i (by omega))
def AC (g0 : Mm) (b : Bx) (t : Nat) : Prop := BoxIs g0 9 b ∧ b 0 0 ≤ 7 ∧ t < b 0 0 ∧ b 1 t ≤ 5
def AR (g0 : Mm) (b : Bx) (t : Nat) : Prop := RowIs (g0.1 87) b ∧ b 0 0 ≤ 7 ∧ t < b 0 0 ∧ b 1 t ≤ 5
theorem len1 {l : List Int32} {v : Int32} : (l ++ [v]).length = l.length + 1 := by rw [List.length_append]; rfl
theorem q20 {n : Nat} {Q : Int32 → Mm → Prop} {g0 g : Mm} {l : List Int32} {b : Bx} {t d : Nat} (A : AC g0 b t) (T : T7 g0 l g) (hl : l.length + 1 ≤ 16) (hd : d + 1 ≤ 16) (h : ∀ g2, T7 g0 (l ++ [20]) g2 → Q (nI t) g2) : o_X1_give (n + 1) Q 9 g (nI t) 20 (nI d) :=
  g_step T (by omega) (by omega) (fun g1 T1 => g38_20 (T1.box A.1) A.2.1 A.2.2.1 A.2.2.2 (h g1 T1))
theorem q10 {n : Nat} {Q : Int32 → Mm → Prop} {g0 g : Mm} {l : List Int32} {b : Bx} {t d : Nat} (A : AC g0 b t) (T : T7 g0 l g) (hl : l.length + 1 ≤ 16) (hd : d + 1 ≤ 16) (h : ∀ g2, T7 g0 (l ++ [10]) g2 → Q (nI (b 2 t)) g2) : o_X1_give (n + 1) Q 9 g (nI t) 10 (nI d) :=
  g_step T (by omega) (by omega) (fun g1 T1 => g38_10 (T1.box A.1) A.2.1 A.2.2.1 A.2.2.2 (h g1 T1))
theorem q21 {n : Nat} {Q : Int32 → Mm → Prop} {g0 g : Mm} {l : List Int32} {b : Bx} {t d : Nat} (A : AC g0 b t) (T : T7 g0 l g) (hl : l.length + 2 ≤ 16) (hd : d + 2 ≤ 16) (h : ∀ g2, T7 g0 ((l ++ [21]) ++ [20]) g2 → Q (nI t + nI (b 3 t)) g2) : o_X1_give (n + 2) Q 9 g (nI t) 21 (nI d) :=
  g_step T (by omega) (by omega) (fun g1 T1 => g38_21 (T1.box A.1) A.2.1 A.2.2.1 A.2.2.2 (q20 A T1 (by rw [len1]; omega) (by omega) (fun g2 T2 => ⟨vt A.2.1 A.2.2.1, by rw [((T2.box A.1).2 t A.2.2.1).2.2.1]; exact h g2 T2⟩)))
theorem q22 {n : Nat} {Q : Int32 → Mm → Prop} {g0 g : Mm} {l : List Int32} {b : Bx} {t d : Nat} (A : AC g0 b t) (T : T7 g0 l g) (hl : l.length + 3 ≤ 16) (hd : d + 3 ≤ 16) (h : ∀ g2, T7 g0 (((l ++ [22]) ++ [21]) ++ [20]) g2 → Q (nI t + nI (b 3 t) - 1000) g2) : o_X1_give (n + 3) Q 9 g (nI t) 22 (nI d) :=
  g_step T (by omega) (by omega) (fun g1 T1 => g38_22 (T1.box A.1) A.2.1 A.2.2.1 A.2.2.2 (q21 A T1 (by rw [len1]; omega) (by omega) (fun g2 T2 => h g2 T2)))
theorem q24 {n : Nat} {Q : Int32 → Mm → Prop} {g0 g : Mm} {l : List Int32} {b : Bx} {t d : Nat} (A : AC g0 b t) (T : T7 g0 l g) (hl : l.length + 3 ≤ 16) (hd : d + 3 ≤ 16) (h : ∀ g2, T7 g0 (((l ++ [24]) ++ [21]) ++ [20]) g2 → Q (2 * (nI t + nI (b 3 t))) g2) : o_X1_give (n + 3) Q 9 g (nI t) 24 (nI d) :=
  g_step T (by omega) (by omega) (fun g1 T1 => g38_24 (T1.box A.1) A.2.1 A.2.2.1 A.2.2.2 (q21 A T1 (by rw [len1]; omega) (by omega) (fun g2 T2 => h g2 T2)))
theorem q13 {n : Nat} {Q : Int32 → Mm → Prop} {g0 g : Mm} {l : List Int32} {b : Bx} {t d : Nat} (A : AC g0 b t) (T : T7 g0 l g) (hl : l.length + 2 ≤ 16) (hd : d + 2 ≤ 16) (h : ∀ g2, T7 g0 ((l ++ [13]) ++ [10]) g2 → Q (nI (b 2 t) - 100) g2) : o_X1_give (n + 2) Q 9 g (nI t) 13 (nI d) :=
  g_step T (by omega) (by omega) (fun g1 T1 => g38_13 (T1.box A.1) A.2.1 A.2.2.1 A.2.2.2 (q10 A T1 (by rw [len1]; omega) (by omega) (fun g2 T2 => h g2 T2)))
theorem q14 {n : Nat} {Q : Int32 → Mm → Prop} {g0 g : Mm} {l : List Int32} {b : Bx} {t d : Nat} (A : AC g0 b t) (T : T7 g0 l g) (hl : l.length + 3 ≤ 16) (hd : d + 3 ≤ 16) (h : ∀ g2, T7 g0 (((l ++ [14]) ++ [13]) ++ [10]) g2 → Q (2 * (nI (b 2 t) - 100)) g2) : o_X1_give (n + 3) Q 9 g (nI t) 14 (nI d) :=
  g_step T (by omega) (by omega) (fun g1 T1 => g38_14 (T1.box A.1) A.2.1 A.2.2.1 A.2.2.2 (q13 A T1 (by rw [len1]; omega) (by omega) (fun g2 T2 => h g2 T2)))
theorem q11_1 {n : Nat} {Q : Int32 → Mm → Prop} {g0 g : Mm} {l : List Int32} {b : Bx} {t d : Nat} (A : AC g0 b t) (T : T7 g0 l g) (hk : b 1 t = 1) (hl : l.length + 4 ≤ 16) (hd : d + 3 ≤ 16) (h : ∀ g2, T7 g0 ((((l ++ [11]) ++ [10]) ++ [21]) ++ [20]) g2 → Q (nI (b 2 t) + (nI t + nI (b 3 t))) g2) : o_X1_give (n + 3) Q 9 g (nI t) 11 (nI d) :=
  g_step T (by omega) (by omega) (fun g1 T1 => g38_11 (T1.box A.1) A.2.1 A.2.2.1 A.2.2.2 (q10 (n := n + 1) A T1 (by rw [len1]; omega) (by omega) (fun g2 T2 => ⟨(by rw [hk]; exact vlit 1 (by omega) (by omega)), by rw [hk]; exact q21 A T2 (by simp only [len1]; omega) (by omega) h⟩)))
theorem q11_2 {n : Nat} {Q : Int32 → Mm → Prop} {g0 g : Mm} {l : List Int32} {b : Bx} {t d : Nat} (A : AC g0 b t) (T : T7 g0 l g) (hk : b 1 t = 2) (hl : l.length + 5 ≤ 16) (hd : d + 4 ≤ 16) (h : ∀ g2, T7 g0 (((((l ++ [11]) ++ [10]) ++ [24]) ++ [21]) ++ [20]) g2 → Q (nI (b 2 t) + (2 * (nI t + nI (b 3 t)))) g2) : o_X1_give (n + 4) Q 9 g (nI t) 11 (nI d) :=
  g_step T (by omega) (by omega) (fun g1 T1 => g38_11 (T1.box A.1) A.2.1 A.2.2.1 A.2.2.2 (q10 (n := n + 2) A T1 (by rw [len1]; omega) (by omega) (fun g2 T2 => ⟨(by rw [hk]; exact vlit 2 (by omega) (by omega)), by rw [hk]; exact q24 A T2 (by simp only [len1]; omega) (by omega) h⟩)))
theorem q11_3 {n : Nat} {Q : Int32 → Mm → Prop} {g0 g : Mm} {l : List Int32} {b : Bx} {t d : Nat} (A : AC g0 b t) (T : T7 g0 l g) (hk : b 1 t = 3) (hl : l.length + 5 ≤ 16) (hd : d + 4 ≤ 16) (h : ∀ g2, T7 g0 (((((l ++ [11]) ++ [10]) ++ [22]) ++ [21]) ++ [20]) g2 → Q (nI (b 2 t) + (nI t + nI (b 3 t) - 1000)) g2) : o_X1_give (n + 4) Q 9 g (nI t) 11 (nI d) :=
  g_step T (by omega) (by omega) (fun g1 T1 => g38_11 (T1.box A.1) A.2.1 A.2.2.1 A.2.2.2 (q10 (n := n + 2) A T1 (by rw [len1]; omega) (by omega) (fun g2 T2 => ⟨(by rw [hk]; exact vlit 3 (by omega) (by omega)), by rw [hk]; exact q22 A T2 (by simp only [len1]; omega) (by omega) h⟩)))
theorem q12 {n : Nat} {Q : Int32 → Mm → Prop} {g0 g : Mm} {l : List Int32} {b : Bx} {t d : Nat} (A : AC g0 b t) (T : T7 g0 l g) (hk : b 1 t = 2) (hl : l.length + 6 ≤ 16) (hd : d + 5 ≤ 16) (h : ∀ g2, T7 g0 ((((((l ++ [12]) ++ [11]) ++ [10]) ++ [24]) ++ [21]) ++ [20]) g2 → Q (-(nI (b 2 t) + (2 * (nI t + nI (b 3 t))))) g2) : o_X1_give (n + 5) Q 9 g (nI t) 12 (nI d) :=
  g_step T (by omega) (by omega) (fun g1 T1 => g38_12 (T1.box A.1) A.2.1 A.2.2.1 A.2.2.2 (q11_2 A T1 hk (by rw [len1]; omega) (by omega) h))
theorem q23_4 {n : Nat} {Q : Int32 → Mm → Prop} {g0 g : Mm} {l : List Int32} {b : Bx} {t d : Nat} (A : AC g0 b t) (T : T7 g0 l g) (hk : b 1 t = 4) (hl : l.length + 4 ≤ 16) (hd : d + 3 ≤ 16) (h : ∀ g2, T7 g0 ((((l ++ [23]) ++ [20]) ++ [13]) ++ [10]) g2 → Q (nI t - (nI (b 2 t) - 100)) g2) : o_X1_give (n + 3) Q 9 g (nI t) 23 (nI d) :=
  g_step T (by omega) (by omega) (fun g1 T1 => g38_23 (T1.box A.1) A.2.1 A.2.2.1 A.2.2.2 (q20 (n := n + 1) A T1 (by rw [len1]; omega) (by omega) (fun g2 T2 => ⟨(by rw [hk]; exact vlit 4 (by omega) (by omega)), by rw [hk]; exact q13 A T2 (by simp only [len1]; omega) (by omega) h⟩)))
theorem q23_5 {n : Nat} {Q : Int32 → Mm → Prop} {g0 g : Mm} {l : List Int32} {b : Bx} {t d : Nat} (A : AC g0 b t) (T : T7 g0 l g) (hk : b 1 t = 5) (hl : l.length + 5 ≤ 16) (hd : d + 4 ≤ 16) (h : ∀ g2, T7 g0 (((((l ++ [23]) ++ [20]) ++ [14]) ++ [13]) ++ [10]) g2 → Q (nI t - (2 * (nI (b 2 t) - 100))) g2) : o_X1_give (n + 4) Q 9 g (nI t) 23 (nI d) :=
  g_step T (by omega) (by omega) (fun g1 T1 => g38_23 (T1.box A.1) A.2.1 A.2.2.1 A.2.2.2 (q20 (n := n + 2) A T1 (by rw [len1]; omega) (by omega) (fun g2 T2 => ⟨(by rw [hk]; exact vlit 5 (by omega) (by omega)), by rw [hk]; exact q14 A T2 (by simp only [len1]; omega) (by omega) h⟩)))
theorem r_size10 {Q : Int32 → Mm → Prop} {g0 g : Mm} {l : List Int32} {b : Bx} {t : Nat} (A : AR g0 b t) (T : T8 g0 l g) (hl : l.length + 1 ≤ 16) (h : ∀ g2, T8 g0 (l ++ [10]) g2 → Q (nI (b 2 t)) g2) : o_X8_size10 Q g (nI t) := by
  refine T.leave (by omega) (fun g1 T1 => ⟨v8 (by have := A.2.1; have := A.2.2.1; omega), ?_⟩)
  rw [c8 (by have := A.2.1; have := A.2.2.1; omega), ((T1.row A.1).2 t A.2.2.1).2.1]
  exact h g1 T1
theorem r_mark20 {Q : Int32 → Mm → Prop} {g0 g : Mm} {l : List Int32} {b : Bx} {t : Nat} (A : AR g0 b t) (T : T8 g0 l g) (hl : l.length + 1 ≤ 16) (h : ∀ g2, T8 g0 (l ++ [20]) g2 → Q (nI t) g2) : o_X8_mark20 Q g (nI t) := by
  exact T.leave (by omega) (fun g1 T1 => h g1 T1)
theorem r_mark21 {Q : Int32 → Mm → Prop} {g0 g : Mm} {l : List Int32} {b : Bx} {t : Nat} (A : AR g0 b t) (T : T8 g0 l g) (hl : l.length + 2 ≤ 16) (h : ∀ g2, T8 g0 ((l ++ [21]) ++ [20]) g2 → Q (nI t + nI (b 3 t)) g2) : o_X8_mark21 Q g (nI t) := by
  refine T.leave (by omega) (fun g1 T1 => r_mark20 A T1 (by rw [len1]; omega) (fun g2 T2 => ⟨v19 (by have := A.2.1; have := A.2.2.1; omega), ?_⟩))
  rw [c19 (by have := A.2.1; have := A.2.2.1; omega), ((T2.row A.1).2 t A.2.2.1).2.2.1]
  exact h g2 T2
theorem r_size13 {Q : Int32 → Mm → Prop} {g0 g : Mm} {l : List Int32} {b : Bx} {t : Nat} (A : AR g0 b t) (T : T8 g0 l g) (hl : l.length + 2 ≤ 16) (h : ∀ g2, T8 g0 ((l ++ [13]) ++ [10]) g2 → Q (nI (b 2 t) - 100) g2) : o_X8_size13 Q g (nI t) := by
  exact T.leave (by omega) (fun g1 T1 => r_size10 A T1 (by rw [len1]; omega) h)
theorem r_sizeOfRound_4 {Q : Int32 → Mm → Prop} {g0 g : Mm} {l : List Int32} {b : Bx} {t : Nat} (A : AR g0 b t) (T : T8 g0 l g) (hk : b 1 t = 4) (hl : l.length + 2 ≤ 16) (h : ∀ g2, T8 g0 ((l ++ [13]) ++ [10]) g2 → Q (nI (b 2 t) - 100) g2) : o_X8_sizeOfRound Q g (nI t) := by
  have hv : vp_in ((1 : Int32) + nI t) 33 := v1 (by have := A.2.1; have := A.2.2.1; omega)
  have e : g.1 87 ((1 : Int32) + nI t).toNatClampNeg = nI (b 1 t) := by rw [ca1 (by have := A.2.1; have := A.2.2.1; omega)]; exact ((T.row A.1).2 t A.2.2.1).1
  unfold o_X8_sizeOfRound
  rw [e, hk]
  exact ⟨hv, fun q => absurd rfl q, fun _ => r_size13 A T hl h⟩
theorem r_sizeOfRound_5 {Q : Int32 → Mm → Prop} {g0 g : Mm} {l : List Int32} {b : Bx} {t : Nat} (A : AR g0 b t) (T : T8 g0 l g) (hk : b 1 t = 5) (hl : l.length + 3 ≤ 16) (h : ∀ g2, T8 g0 (((l ++ [14]) ++ [13]) ++ [10]) g2 → Q (2 * (nI (b 2 t) - 100)) g2) : o_X8_sizeOfRound Q g (nI t) := by
  have hv : vp_in ((1 : Int32) + nI t) 33 := v1 (by have := A.2.1; have := A.2.2.1; omega)
  have e : g.1 87 ((1 : Int32) + nI t).toNatClampNeg = nI (b 1 t) := by rw [ca1 (by have := A.2.1; have := A.2.2.1; omega)]; exact ((T.row A.1).2 t A.2.2.1).1
  unfold o_X8_sizeOfRound
  rw [e, hk]
  exact ⟨hv, fun _ => T.leave (by omega) (fun g1 T1 => r_size13 A T1 (by rw [len1]; omega) h), fun q => absurd q (by decide)⟩
theorem r_markOf_1 {Q : Int32 → Mm → Prop} {g0 g : Mm} {l : List Int32} {b : Bx} {t : Nat} (A : AR g0 b t) (T : T8 g0 l g) (hk : b 1 t = 1) (hl : l.length + 2 ≤ 16) (h : ∀ g2, T8 g0 ((l ++ [21]) ++ [20]) g2 → Q (nI t + nI (b 3 t)) g2) : o_X8_markOf Q g (nI t) := by
  have hv : vp_in ((1 : Int32) + nI t) 33 := v1 (by have := A.2.1; have := A.2.2.1; omega)
  have e : g.1 87 ((1 : Int32) + nI t).toNatClampNeg = nI (b 1 t) := by rw [ca1 (by have := A.2.1; have := A.2.2.1; omega)]; exact ((T.row A.1).2 t A.2.2.1).1
  unfold o_X8_markOf
  rw [e, hk]
  exact ⟨hv, fun _ => r_mark21 A T hl h, fun q => absurd q (by decide), fun q => absurd q (by decide), fun q => absurd rfl q.1⟩
theorem r_markOf_2 {Q : Int32 → Mm → Prop} {g0 g : Mm} {l : List Int32} {b : Bx} {t : Nat} (A : AR g0 b t) (T : T8 g0 l g) (hk : b 1 t = 2) (hl : l.length + 3 ≤ 16) (h : ∀ g2, T8 g0 (((l ++ [24]) ++ [21]) ++ [20]) g2 → Q (2 * (nI t + nI (b 3 t))) g2) : o_X8_markOf Q g (nI t) := by
  have hv : vp_in ((1 : Int32) + nI t) 33 := v1 (by have := A.2.1; have := A.2.2.1; omega)
  have e : g.1 87 ((1 : Int32) + nI t).toNatClampNeg = nI (b 1 t) := by rw [ca1 (by have := A.2.1; have := A.2.2.1; omega)]; exact ((T.row A.1).2 t A.2.2.1).1
  unfold o_X8_markOf
  rw [e, hk]
  exact ⟨hv, fun q => absurd q (by decide), fun _ => T.leave (by omega) (fun g1 T1 => r_mark21 A T1 (by rw [len1]; omega) h), fun q => absurd q (by decide), fun q => absurd rfl q.2.1⟩
theorem r_markOf_3 {Q : Int32 → Mm → Prop} {g0 g : Mm} {l : List Int32} {b : Bx} {t : Nat} (A : AR g0 b t) (T : T8 g0 l g) (hk : b 1 t = 3) (hl : l.length + 3 ≤ 16) (h : ∀ g2, T8 g0 (((l ++ [22]) ++ [21]) ++ [20]) g2 → Q (nI t + nI (b 3 t) - 1000) g2) : o_X8_markOf Q g (nI t) := by
  have hv : vp_in ((1 : Int32) + nI t) 33 := v1 (by have := A.2.1; have := A.2.2.1; omega)
  have e : g.1 87 ((1 : Int32) + nI t).toNatClampNeg = nI (b 1 t) := by rw [ca1 (by have := A.2.1; have := A.2.2.1; omega)]; exact ((T.row A.1).2 t A.2.2.1).1
  unfold o_X8_markOf
  rw [e, hk]
  exact ⟨hv, fun q => absurd q (by decide), fun q => absurd q (by decide), fun _ => T.leave (by omega) (fun g1 T1 => r_mark21 A T1 (by rw [len1]; omega) h), fun q => absurd rfl q.2.2⟩
theorem r_markOf_4 {Q : Int32 → Mm → Prop} {g0 g : Mm} {l : List Int32} {b : Bx} {t : Nat} (A : AR g0 b t) (T : T8 g0 l g) (hk : b 1 t = 4) (hl : l.length + 4 ≤ 16) (h : ∀ g2, T8 g0 ((((l ++ [23]) ++ [20]) ++ [13]) ++ [10]) g2 → Q (nI t - (nI (b 2 t) - 100)) g2) : o_X8_markOf Q g (nI t) := by
  have hv : vp_in ((1 : Int32) + nI t) 33 := v1 (by have := A.2.1; have := A.2.2.1; omega)
  have e : g.1 87 ((1 : Int32) + nI t).toNatClampNeg = nI (b 1 t) := by rw [ca1 (by have := A.2.1; have := A.2.2.1; omega)]; exact ((T.row A.1).2 t A.2.2.1).1
  unfold o_X8_markOf
  rw [e, hk]
  exact ⟨hv, fun q => absurd q (by decide), fun q => absurd q (by decide), fun q => absurd q (by decide), fun _ => T.leave (by omega) (fun g1 T1 => r_mark20 A T1 (by rw [len1]; omega) (fun g2 T2 => r_sizeOfRound_4 A T2 hk (by simp only [len1]; omega) h))⟩
theorem r_markOf_5 {Q : Int32 → Mm → Prop} {g0 g : Mm} {l : List Int32} {b : Bx} {t : Nat} (A : AR g0 b t) (T : T8 g0 l g) (hk : b 1 t = 5) (hl : l.length + 5 ≤ 16) (h : ∀ g2, T8 g0 (((((l ++ [23]) ++ [20]) ++ [14]) ++ [13]) ++ [10]) g2 → Q (nI t - (2 * (nI (b 2 t) - 100))) g2) : o_X8_markOf Q g (nI t) := by
  have hv : vp_in ((1 : Int32) + nI t) 33 := v1 (by have := A.2.1; have := A.2.2.1; omega)
  have e : g.1 87 ((1 : Int32) + nI t).toNatClampNeg = nI (b 1 t) := by rw [ca1 (by have := A.2.1; have := A.2.2.1; omega)]; exact ((T.row A.1).2 t A.2.2.1).1
  unfold o_X8_markOf
  rw [e, hk]
  exact ⟨hv, fun q => absurd q (by decide), fun q => absurd q (by decide), fun q => absurd q (by decide), fun _ => T.leave (by omega) (fun g1 T1 => r_mark20 A T1 (by rw [len1]; omega) (fun g2 T2 => r_sizeOfRound_5 A T2 hk (by simp only [len1]; omega) h))⟩
theorem r_size11_1 {Q : Int32 → Mm → Prop} {g0 g : Mm} {l : List Int32} {b : Bx} {t : Nat} (A : AR g0 b t) (T : T8 g0 l g) (hk : b 1 t = 1) (hl : l.length + 4 ≤ 16) (h : ∀ g2, T8 g0 ((((l ++ [11]) ++ [10]) ++ [21]) ++ [20]) g2 → Q (nI (b 2 t) + (nI t + nI (b 3 t))) g2) : o_X8_size11 Q g (nI t) := by
  exact T.leave (by omega) (fun g1 T1 => r_size10 A T1 (by rw [len1]; omega) (fun g2 T2 => r_markOf_1 A T2 hk (by simp only [len1]; omega) h))
theorem r_size11_2 {Q : Int32 → Mm → Prop} {g0 g : Mm} {l : List Int32} {b : Bx} {t : Nat} (A : AR g0 b t) (T : T8 g0 l g) (hk : b 1 t = 2) (hl : l.length + 5 ≤ 16) (h : ∀ g2, T8 g0 (((((l ++ [11]) ++ [10]) ++ [24]) ++ [21]) ++ [20]) g2 → Q (nI (b 2 t) + (2 * (nI t + nI (b 3 t)))) g2) : o_X8_size11 Q g (nI t) := by
  exact T.leave (by omega) (fun g1 T1 => r_size10 A T1 (by rw [len1]; omega) (fun g2 T2 => r_markOf_2 A T2 hk (by simp only [len1]; omega) h))
theorem r_size11_3 {Q : Int32 → Mm → Prop} {g0 g : Mm} {l : List Int32} {b : Bx} {t : Nat} (A : AR g0 b t) (T : T8 g0 l g) (hk : b 1 t = 3) (hl : l.length + 5 ≤ 16) (h : ∀ g2, T8 g0 (((((l ++ [11]) ++ [10]) ++ [22]) ++ [21]) ++ [20]) g2 → Q (nI (b 2 t) + (nI t + nI (b 3 t) - 1000)) g2) : o_X8_size11 Q g (nI t) := by
  exact T.leave (by omega) (fun g1 T1 => r_size10 A T1 (by rw [len1]; omega) (fun g2 T2 => r_markOf_3 A T2 hk (by simp only [len1]; omega) h))
theorem r_sizeOf_1 {Q : Int32 → Mm → Prop} {g0 g : Mm} {l : List Int32} {b : Bx} {t : Nat} (A : AR g0 b t) (T : T8 g0 l g) (hk : b 1 t = 1) (hl : l.length + 4 ≤ 16) (h : ∀ g2, T8 g0 ((((l ++ [11]) ++ [10]) ++ [21]) ++ [20]) g2 → Q (nI (b 2 t) + (nI t + nI (b 3 t))) g2) : o_X8_sizeOf Q g (nI t) := by
  have hv : vp_in ((1 : Int32) + nI t) 33 := v1 (by have := A.2.1; have := A.2.2.1; omega)
  have e : g.1 87 ((1 : Int32) + nI t).toNatClampNeg = nI (b 1 t) := by rw [ca1 (by have := A.2.1; have := A.2.2.1; omega)]; exact ((T.row A.1).2 t A.2.2.1).1
  unfold o_X8_sizeOf
  rw [e, hk]
  exact ⟨hv, fun _ => ⟨hv, fun q => absurd q (by decide), fun _ => r_size11_1 A T hk hl h⟩, fun q => absurd (by decide) q⟩
theorem r_sizeOf_2 {Q : Int32 → Mm → Prop} {g0 g : Mm} {l : List Int32} {b : Bx} {t : Nat} (A : AR g0 b t) (T : T8 g0 l g) (hk : b 1 t = 2) (hl : l.length + 6 ≤ 16) (h : ∀ g2, T8 g0 ((((((l ++ [12]) ++ [11]) ++ [10]) ++ [24]) ++ [21]) ++ [20]) g2 → Q (-(nI (b 2 t) + (2 * (nI t + nI (b 3 t))))) g2) : o_X8_sizeOf Q g (nI t) := by
  have hv : vp_in ((1 : Int32) + nI t) 33 := v1 (by have := A.2.1; have := A.2.2.1; omega)
  have e : g.1 87 ((1 : Int32) + nI t).toNatClampNeg = nI (b 1 t) := by rw [ca1 (by have := A.2.1; have := A.2.2.1; omega)]; exact ((T.row A.1).2 t A.2.2.1).1
  unfold o_X8_sizeOf
  rw [e, hk]
  exact ⟨hv, fun _ => ⟨hv, fun _ => T.leave (by omega) (fun g1 T1 => r_size11_2 A T1 hk (by rw [len1]; omega) h), fun q => absurd rfl q⟩, fun q => absurd (by decide) q⟩
theorem r_sizeOf_3 {Q : Int32 → Mm → Prop} {g0 g : Mm} {l : List Int32} {b : Bx} {t : Nat} (A : AR g0 b t) (T : T8 g0 l g) (hk : b 1 t = 3) (hl : l.length + 5 ≤ 16) (h : ∀ g2, T8 g0 (((((l ++ [11]) ++ [10]) ++ [22]) ++ [21]) ++ [20]) g2 → Q (nI (b 2 t) + (nI t + nI (b 3 t) - 1000)) g2) : o_X8_sizeOf Q g (nI t) := by
  have hv : vp_in ((1 : Int32) + nI t) 33 := v1 (by have := A.2.1; have := A.2.2.1; omega)
  have e : g.1 87 ((1 : Int32) + nI t).toNatClampNeg = nI (b 1 t) := by rw [ca1 (by have := A.2.1; have := A.2.2.1; omega)]; exact ((T.row A.1).2 t A.2.2.1).1
  unfold o_X8_sizeOf
  rw [e, hk]
  exact ⟨hv, fun _ => ⟨hv, fun q => absurd q (by decide), fun _ => r_size11_3 A T hk hl h⟩, fun q => absurd (by decide) q⟩
theorem r_sizeOf_4 {Q : Int32 → Mm → Prop} {g0 g : Mm} {l : List Int32} {b : Bx} {t : Nat} (A : AR g0 b t) (T : T8 g0 l g) (hk : b 1 t = 4) (hl : l.length + 2 ≤ 16) (h : ∀ g2, T8 g0 ((l ++ [13]) ++ [10]) g2 → Q (nI (b 2 t) - 100) g2) : o_X8_sizeOf Q g (nI t) := by
  have hv : vp_in ((1 : Int32) + nI t) 33 := v1 (by have := A.2.1; have := A.2.2.1; omega)
  have e : g.1 87 ((1 : Int32) + nI t).toNatClampNeg = nI (b 1 t) := by rw [ca1 (by have := A.2.1; have := A.2.2.1; omega)]; exact ((T.row A.1).2 t A.2.2.1).1
  unfold o_X8_sizeOf
  rw [e, hk]
  exact ⟨hv, fun q => absurd q (by decide), fun _ => r_sizeOfRound_4 A T hk hl h⟩
theorem r_sizeOf_5 {Q : Int32 → Mm → Prop} {g0 g : Mm} {l : List Int32} {b : Bx} {t : Nat} (A : AR g0 b t) (T : T8 g0 l g) (hk : b 1 t = 5) (hl : l.length + 3 ≤ 16) (h : ∀ g2, T8 g0 (((l ++ [14]) ++ [13]) ++ [10]) g2 → Q (2 * (nI (b 2 t) - 100)) g2) : o_X8_sizeOf Q g (nI t) := by
  have hv : vp_in ((1 : Int32) + nI t) 33 := v1 (by have := A.2.1; have := A.2.2.1; omega)
  have e : g.1 87 ((1 : Int32) + nI t).toNatClampNeg = nI (b 1 t) := by rw [ca1 (by have := A.2.1; have := A.2.2.1; omega)]; exact ((T.row A.1).2 t A.2.2.1).1
  unfold o_X8_sizeOf
  rw [e, hk]
  exact ⟨hv, fun q => absurd q (by decide), fun _ => r_sizeOfRound_5 A T hk hl h⟩
def Task (j k : Nat) : Prop := (j = 58 ∧ k = 1) ∨ j = 59 ∨ (j = 86 ∧ k = 23) ∨ j = 99
/-- both have left the same -/
theorem ask_fin {g g1 g2 : Mm} {l : List Int32} (hR : Rel g) (hl : l.length ≤ 16) (T : T7 g l g1) (S : T8 g1 l g2) : Rel g2 := by
  have hf : Fr Task g g2 := Fr.trans (T.2.2.mono (fun j k z => by unfold Task; omega)) (S.2.2.mono (fun j k z => by unfold Task; omega))
  refine ⟨hR.1.fr hf (by intro j k ht; unfold Task at ht; omega), hR.2.1.fr hf (by intro j k ht; unfold Task at ht; omega), hR.2.2.1.fr hf (by intro j k ht; unfold Task at ht; omega), hR.2.2.2.1.fr hf (by intro j k ht; unfold Task at ht; omega), hR.2.2.2.2.1.fr hf (by intro j k ht; unfold Task at ht; omega), hR.2.2.2.2.2.1.fr hf (by intro j k ht; unfold Task at ht; omega), ⟨l.length, hl, ?_, S.1, fun i hi => ?_⟩⟩
  · rw [S.2.2 58 1 (by omega)]; exact T.1
  · rw [S.2.2 59 i (by omega), T.2.1 i hi, S.2.1 i hi]
theorem T7.nil {g : Mm} : T7 g [] (mset g 58 1 0) := ⟨by rw [mset_at, if_pos ⟨rfl, rfl⟩]; rfl, fun i hi => absurd hi (by simp), Fr.set Fr.rfl (Or.inl ⟨rfl, rfl⟩)⟩
theorem T8.nil {g : Mm} : T8 g [] (mset g 86 23 0) := ⟨by rw [mset_at, if_pos ⟨rfl, rfl⟩]; rfl, fun i hi => absurd hi (by simp), Fr.set Fr.rfl (Or.inl ⟨rfl, rfl⟩)⟩
theorem cmd_ask {g : Mm} (hR : Rel g) (x1 x2 : Int32) : o_X7_ask (fun r g1 => o_X8_ask (fun r2 g2 => r = r2 ∧ Rel g2) g1 x1 x2) g x1 x2 := by
  obtain ⟨b, hB, hW, hV, hA, hP⟩ := hR.2.2.2.2.1
  have h7 := toys7 hV
  refine b7_toy hB.1.1 (bI_br (fun c1 => b8_toy hW.1.1 (bI_br (fun _ => ⟨rfl, hR⟩) (fun q => absurd q c1))) (fun c1 => ?_))
  refine s7_within (bI_rb (fun c2 => b8_toy hW.1.1 (bI_br (fun q => absurd c1 q) (fun _ => s8_in 0 1 rfl rfl (bI_rb (fun _ => ⟨rfl, hR⟩) (fun q => absurd q c2))))) (fun c2 => ?_))
  obtain ⟨t, ht, rfl⟩ := toy_of h7 c1
  have hk : 1 ≤ b 1 t ∧ b 1 t ≤ 5 := by
    rcases hV with q | q
    · omega
    · exact (q.2.2 t ht).1
  have A : AC g b t := ⟨hB, h7, ht, hk.2⟩
  -- the reference behind the class' trace
  have ref : ∀ (P : Int32 → Mm → Prop) (l : List Int32) (g1 : Mm), T7 g l g1 → ((¬ x2 = 0 → o_X8_markOf P (mset g1 86 23 0) (nI t)) ∧ (x2 = 0 → o_X8_sizeOf P (mset g1 86 23 0) (nI t))) → o_X8_ask P g1 (nI t) x2 := by
    intro P l g1 T1 hh
    have hW1 : RowIs (g1.1 87) b := hW.eq (fun i => T1.2.2 87 i (by omega))
    refine b8_toy hW1.1.1 (bI_br (fun q => absurd c1 q) (fun _ => s8_in 0 1 rfl rfl (bI_rb (fun q => absurd c2 q) (fun _ => ?_))))
    intro g5 e5
    subst e5
    exact hh
  have AR1 : ∀ (l : List Int32) (g1 : Mm), T7 g l g1 → AR g1 b t := fun l g1 T1 => ⟨hW.eq (fun i => T1.2.2 87 i (by omega)), h7, ht, hk.2⟩
  have hv := vt h7 ht
  have e10 : g.1 10 (nI t).toNatClampNeg = nI (b 1 t) := by rw [cl (by omega)]; exact (hB.2 t ht).1
  rw [e10, cl (by omega)]
  refine ⟨fun d => ⟨hv, vin _ rfl (by omega) (by omega), ?_⟩, fun d => ⟨hv, vin _ rfl (by omega) (by omega), ?_⟩⟩
  · intro g1 e1
    subst e1
    have hkk : b 1 t = 1 ∨ b 1 t = 2 ∨ b 1 t = 3 ∨ b 1 t = 4 ∨ b 1 t = 5 := by omega
    rcases hkk with q | q | q | q | q
    · rw [q]
      exact q21 (n := 15) A T7.nil (by decide) (by decide) (fun g2 T2 => ref _ _ _ T2 ⟨fun _ => r_markOf_1 (AR1 _ _ T2) T8.nil q (by decide) (fun g3 T3 => ⟨rfl, ask_fin hR (by decide) T2 T3⟩), fun z => absurd z d⟩)
    · rw [q]
      exact q24 (n := 14) A T7.nil (by decide) (by decide) (fun g2 T2 => ref _ _ _ T2 ⟨fun _ => r_markOf_2 (AR1 _ _ T2) T8.nil q (by decide) (fun g3 T3 => ⟨rfl, ask_fin hR (by decide) T2 T3⟩), fun z => absurd z d⟩)
    · rw [q]
      exact q22 (n := 14) A T7.nil (by decide) (by decide) (fun g2 T2 => ref _ _ _ T2 ⟨fun _ => r_markOf_3 (AR1 _ _ T2) T8.nil q (by decide) (fun g3 T3 => ⟨rfl, ask_fin hR (by decide) T2 T3⟩), fun z => absurd z d⟩)
    · rw [q]
      exact q23_4 (n := 14) A T7.nil q (by decide) (by decide) (fun g2 T2 => ref _ _ _ T2 ⟨fun _ => r_markOf_4 (AR1 _ _ T2) T8.nil q (by decide) (fun g3 T3 => ⟨rfl, ask_fin hR (by decide) T2 T3⟩), fun z => absurd z d⟩)
    · rw [q]
      exact q23_5 (n := 13) A T7.nil q (by decide) (by decide) (fun g2 T2 => ref _ _ _ T2 ⟨fun _ => r_markOf_5 (AR1 _ _ T2) T8.nil q (by decide) (fun g3 T3 => ⟨rfl, ask_fin hR (by decide) T2 T3⟩), fun z => absurd z d⟩)
  · intro g1 e1
    subst e1
    have hkk : b 1 t = 1 ∨ b 1 t = 2 ∨ b 1 t = 3 ∨ b 1 t = 4 ∨ b 1 t = 5 := by omega
    rcases hkk with q | q | q | q | q
    · rw [q]
      exact q11_1 (n := 14) A T7.nil q (by decide) (by decide) (fun g2 T2 => ref _ _ _ T2 ⟨fun z => absurd d z, fun _ => r_sizeOf_1 (AR1 _ _ T2) T8.nil q (by decide) (fun g3 T3 => ⟨rfl, ask_fin hR (by decide) T2 T3⟩)⟩)
    · rw [q]
      exact q12 (n := 12) A T7.nil q (by decide) (by decide) (fun g2 T2 => ref _ _ _ T2 ⟨fun z => absurd d z, fun _ => r_sizeOf_2 (AR1 _ _ T2) T8.nil q (by decide) (fun g3 T3 => ⟨rfl, ask_fin hR (by decide) T2 T3⟩)⟩)
    · rw [q]
      exact q11_3 (n := 13) A T7.nil q (by decide) (by decide) (fun g2 T2 => ref _ _ _ T2 ⟨fun z => absurd d z, fun _ => r_sizeOf_3 (AR1 _ _ T2) T8.nil q (by decide) (fun g3 T3 => ⟨rfl, ask_fin hR (by decide) T2 T3⟩)⟩)
    · rw [q]
      exact q13 (n := 15) A T7.nil (by decide) (by decide) (fun g2 T2 => ref _ _ _ T2 ⟨fun z => absurd d z, fun _ => r_sizeOf_4 (AR1 _ _ T2) T8.nil q (by decide) (fun g3 T3 => ⟨rfl, ask_fin hR (by decide) T2 T3⟩)⟩)
    · rw [q]
      exact q14 (n := 14) A T7.nil (by decide) (by decide) (fun g2 T2 => ref _ _ _ T2 ⟨fun z => absurd d z, fun _ => r_sizeOf_5 (AR1 _ _ T2) T8.nil q (by decide) (fun g3 T3 => ⟨rfl, ask_fin hR (by decide) T2 T3⟩)⟩)
