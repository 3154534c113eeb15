/-! MEMORY: every cell that the law's two objects own has a number (the order in which the constructors make them); a memory is what each cell's ints are, and the longs. The references never change once made. -/
abbrev Mm : Type := (Nat → Nat → Int32) × (Nat → Int64)
def mrow (g : Mm) (j : Nat) (f : Nat → Int32) : Mm := (va_up g.1 j f, g.2)
def mset (g : Mm) (j k : Nat) (v : Int32) : Mm := mrow g j (upd (g.1 j) k v)
def mlng (g : Mm) (k : Nat) (v : Int64) : Mm := (g.1, vp_updL g.2 k v)
def mcpy (g : Mm) (a i b j n : Nat) : Mm := mrow g b (va_cpy (g.1 a) (g.1 b) i j n)
def lyL : List Nat := [7, 13, 5, 9, 3, 9, 9, 9, 9, 3, 9, 9, 9, 9, 0, 11, 2, 2, 2, 2, 2, 2, 2, 2, 2, 2, 2, 2, 2, 2, 2, 2, 2, 2, 2, 2, 2, 2, 2, 2, 12, 4, 3, 9, 9, 9, 9, 9, 9, 11, 2, 2, 2, 2, 2, 2, 2, 2, 1, 9, 6, 9, 6, 9, 6, 9, 6, 9, 6, 9, 6, 9, 6, 9, 6, 9, 3, 9, 9, 9, 9, 3, 9, 9, 9, 9, 8, 9, 9, 10, 9, 9, 9, 10, 9, 9, 9, 9, 9, 9]
def lnL : List Nat := [0, 8, 0, 70, 0, 7, 7, 7, 7, 0, 7, 7, 7, 7, 0, 24, 0, 0, 0, 0, 0, 0, 0, 0, 0, 0, 0, 0, 0, 0, 0, 0, 0, 0, 0, 0, 0, 0, 0, 0, 2, 0, 0, 7, 7, 7, 7, 4, 4, 8, 0, 0, 0, 0, 0, 0, 0, 0, 0, 16, 0, 40, 0, 40, 0, 40, 0, 40, 0, 40, 0, 40, 0, 40, 0, 40, 0, 7, 7, 7, 7, 0, 7, 7, 7, 7, 0, 33, 66, 2, 792, 8, 8, 8, 320, 40, 70, 33, 33, 16]
def ly (j : Nat) : Nat := lyL.getD j 99
def ln (j : Nat) : Nat := lnL.getD j 0
theorem ly_lt {j k : Nat} (h : ly j = k) (hk : k ≠ 99) : j < 100 := by
  rcases Nat.lt_or_ge j 100 with q | q
  · exact q
  · refine absurd ?_ hk
    rw [← h]
    show lyL.getD j 99 = 99
    rw [List.getD_eq_getElem?_getD, List.getElem?_eq_none (by show 100 ≤ j; exact q)]
    rfl
def cel (cy : Nat → ClassId) (ad : Nat → Nat) (g : Mm) (j : Nat) : va_E := match ly j with
  | 0 => .inr (0, [.ref (ad 15), .int (g.1 j 1), .int (g.1 j 2)])
  | 1 => .inr (1, [.ref (ad 59), .int (g.1 j 1)])
  | 2 => .inr (2, [.int (g.1 j 0), .int (g.1 j 1), .int (g.1 j 2), .int (g.1 j 3), .int (g.1 j 4), .int (g.1 j 5)])
  | 3 => .inr (3, [.ref (ad (j + 1)), .ref (ad (j + 2)), .ref (ad (j + 3)), .ref (ad (j + 4)), .int (g.1 j 4), .int (g.1 j 5), .int (g.1 j 6), .int (g.1 j 7), .int (g.1 j 8)])
  | 4 => .inr (4, [.ref (ad 42), .ref (ad 47), .ref (ad 48), .int (g.1 j 3), .int (g.1 j 4), .ref (ad 49)])
  | 5 => .inr (5, [.ref (ad 3), .ref (ad 4), .int (g.1 j 2), .int (g.1 j 3), .int (g.1 j 4), .int (g.1 j 5), .int (g.1 j 6), .int (g.1 j 7)])
  | 6 => .inr (6, [.ref (ad (j + 1)), .int (g.1 j 1), .int (g.1 j 2), .int (g.1 j 3)])
  | 7 => .inr (7, [.ref (ad 1), .ref (ad 2), .ref (ad 9), .ref (ad 14), .ref (ad 40), .ref (ad 41), .ref (ad 58), .int (g.1 j 7), .int (g.1 j 8)])
  | 8 => .inr (8, [.ref (ad 87), .ref (ad 88), .ref (ad 89), .ref (ad 90), .int (g.1 j 4), .int (g.1 j 5), .ref (ad 91), .ref (ad 92), .ref (ad 93), .ref (ad 94), .ref (ad 95), .ref (ad 96), .int (g.1 j 12), .int (g.1 j 13), .int (g.1 j 14), .int (g.1 j 15), .int (g.1 j 16), .int (g.1 j 17), .ref (ad 97), .ref (ad 98), .long (g.2 0), .long (g.2 1), .ref (ad 99), .int (g.1 j 23)])
  | 9 => .inl (cy 0, ln j, .inl (g.1 j))
  | 10 => .inl (cy 1, ln j, .inl (g.1 j))
  | 11 => .inl (cy 2, ln j, .inr (.inr (.inr (.inr (fun i => some (ad (j + 1 + i)))))))
  | 12 => .inl (cy 3, ln j, .inr (.inr (.inr (.inr (fun i => some (ad (76 + 5 * i)))))))
  | _ => .inl (cy 4, ln j, .inr (.inr (.inr (.inr (fun i => some (ad (60 + 2 * i)))))))
def tys (cy : Nat → ClassId) : List (ClassId × FieldType) := [(cy 0, .int), (cy 1, .boolean), (cy 2, .object RX2), (cy 3, .object RX3), (cy 4, .object RX6)]
def wd (cy : Nat → ClassId) (ad : Nat → Nat) (g : Mm) : va_W := (List.range 100).map (fun j => (ad j, cel cy ad g j))
theorem wd_at {cy : Nat → ClassId} {ad : Nat → Nat} {g : Mm} {j : Nat} (h : j < 100) : (wd cy ad g)[j]? = some (ad j, cel cy ad g j) := by
  show ((List.range 100).map _)[j]? = _
  rw [List.getElem?_map, List.getElem?_range h]
  rfl
theorem wd_no {cy : Nat → ClassId} {ad : Nat → Nat} {g : Mm} {j : Nat} (h : 100 ≤ j) : (wd cy ad g)[j]? = none := by
  show ((List.range 100).map _)[j]? = _
  rw [List.getElem?_map, List.getElem?_eq_none (by rw [List.length_range]; exact h)]
  rfl
theorem wd_of {cy : Nat → ClassId} {ad : Nat → Nat} {g : Mm} {j : Nat} {q : Nat × va_E} (h : (wd cy ad g)[j]? = some q) : j < 100 ∧ q = (ad j, cel cy ad g j) := by
  rcases Nat.lt_or_ge j 100 with a | a
  · rw [wd_at a] at h
    exact ⟨a, (Option.some.inj h).symm⟩
  · rw [wd_no a] at h
    exact absurd h (by simp)
theorem wd_set {cy : Nat → ClassId} {ad : Nat → Nat} {g g' : Mm} {j : Nat} {e : va_E} (h : j < 100) (hj : cel cy ad g' j = e) (ho : ∀ i, i ≠ j → cel cy ad g' i = cel cy ad g i) : (wd cy ad g).set j (ad j, e) = wd cy ad g' := by
  apply List.ext_getElem?
  intro i
  rw [List.getElem?_set]
  have hl : (wd cy ad g).length = 100 := by show ((List.range 100).map _).length = _; rw [List.length_map, List.length_range]
  by_cases hi : j = i
  · subst hi
    rw [if_pos rfl, if_pos (by rw [hl]; exact h), wd_at h, hj]
  · rw [if_neg hi]
    rcases Nat.lt_or_ge i 100 with a | a
    · rw [wd_at a, wd_at a, ho i (fun q => hi q.symm)]
    · rw [wd_no a, wd_no a]
theorem cel_cg {cy : Nat → ClassId} {ad : Nat → Nat} {g g' : Mm} {i : Nat} (h1 : g'.1 i = g.1 i) (h2 : g'.2 = g.2) : cel cy ad g' i = cel cy ad g i := by
  unfold cel
  rw [h1, h2]
theorem mrow_same (g : Mm) (j : Nat) (f : Nat → Int32) : (mrow g j f).1 j = f := by show va_up g.1 j f j = f; unfold va_up; rw [if_pos rfl]
theorem mrow_ne (g : Mm) {i j : Nat} (f : Nat → Int32) (h : i ≠ j) : (mrow g j f).1 i = g.1 i := by show va_up g.1 j f i = g.1 i; unfold va_up; rw [if_neg h]
theorem mset_same (g : Mm) (j k : Nat) (v : Int32) : (mset g j k v).1 j = upd (g.1 j) k v := mrow_same g j _
theorem mcpy_same (g : Mm) (a i b j n : Nat) : (mcpy g a i b j n).1 b = va_cpy (g.1 a) (g.1 b) i j n := mrow_same g b _
theorem mrow_2 (g : Mm) (j : Nat) (f : Nat → Int32) : (mrow g j f).2 = g.2 := rfl
theorem cel_row_ne {cy : Nat → ClassId} {ad : Nat → Nat} {g : Mm} {j : Nat} {f : Nat → Int32} : ∀ i, i ≠ j → cel cy ad (mrow g j f) i = cel cy ad g i := fun i h => cel_cg (mrow_ne g f h) rfl
theorem ly8 : ∀ i, ly i = 8 → i = 86 := by
  intro i h
  have hi := ly_lt h (by decide)
  revert h
  revert i
  decide
theorem cel_lng {cy : Nat → ClassId} {ad : Nat → Nat} {g : Mm} {k : Nat} {v : Int64} : ∀ i, i ≠ 86 → cel cy ad (mlng g k v) i = cel cy ad g i := by
  intro i hi
  unfold cel
  split <;> first | rfl | (exact absurd (ly8 i (by assumption)) hi)
theorem wd_o0 {cy : Nat → ClassId} {ad : Nat → Nat} {g : Mm} {j : Nat} (h : ly j = 0) : (wd cy ad g)[j]? = some (ad j, .inr (0, [.ref (ad 15), .int (g.1 j 1), .int (g.1 j 2)])) := by
  rw [wd_at (ly_lt h (by decide))]
  simp only [cel, h]
theorem wd_o1 {cy : Nat → ClassId} {ad : Nat → Nat} {g : Mm} {j : Nat} (h : ly j = 1) : (wd cy ad g)[j]? = some (ad j, .inr (1, [.ref (ad 59), .int (g.1 j 1)])) := by
  rw [wd_at (ly_lt h (by decide))]
  simp only [cel, h]
theorem wd_o2 {cy : Nat → ClassId} {ad : Nat → Nat} {g : Mm} {j : Nat} (h : ly j = 2) : (wd cy ad g)[j]? = some (ad j, .inr (2, [.int (g.1 j 0), .int (g.1 j 1), .int (g.1 j 2), .int (g.1 j 3), .int (g.1 j 4), .int (g.1 j 5)])) := by
  rw [wd_at (ly_lt h (by decide))]
  simp only [cel, h]
theorem wd_o3 {cy : Nat → ClassId} {ad : Nat → Nat} {g : Mm} {j : Nat} (h : ly j = 3) : (wd cy ad g)[j]? = some (ad j, .inr (3, [.ref (ad (j + 1)), .ref (ad (j + 2)), .ref (ad (j + 3)), .ref (ad (j + 4)), .int (g.1 j 4), .int (g.1 j 5), .int (g.1 j 6), .int (g.1 j 7), .int (g.1 j 8)])) := by
  rw [wd_at (ly_lt h (by decide))]
  simp only [cel, h]
theorem wd_o4 {cy : Nat → ClassId} {ad : Nat → Nat} {g : Mm} {j : Nat} (h : ly j = 4) : (wd cy ad g)[j]? = some (ad j, .inr (4, [.ref (ad 42), .ref (ad 47), .ref (ad 48), .int (g.1 j 3), .int (g.1 j 4), .ref (ad 49)])) := by
  rw [wd_at (ly_lt h (by decide))]
  simp only [cel, h]
theorem wd_o5 {cy : Nat → ClassId} {ad : Nat → Nat} {g : Mm} {j : Nat} (h : ly j = 5) : (wd cy ad g)[j]? = some (ad j, .inr (5, [.ref (ad 3), .ref (ad 4), .int (g.1 j 2), .int (g.1 j 3), .int (g.1 j 4), .int (g.1 j 5), .int (g.1 j 6), .int (g.1 j 7)])) := by
  rw [wd_at (ly_lt h (by decide))]
  simp only [cel, h]
theorem wd_o6 {cy : Nat → ClassId} {ad : Nat → Nat} {g : Mm} {j : Nat} (h : ly j = 6) : (wd cy ad g)[j]? = some (ad j, .inr (6, [.ref (ad (j + 1)), .int (g.1 j 1), .int (g.1 j 2), .int (g.1 j 3)])) := by
  rw [wd_at (ly_lt h (by decide))]
  simp only [cel, h]
theorem wd_o7 {cy : Nat → ClassId} {ad : Nat → Nat} {g : Mm} {j : Nat} (h : ly j = 7) : (wd cy ad g)[j]? = some (ad j, .inr (7, [.ref (ad 1), .ref (ad 2), .ref (ad 9), .ref (ad 14), .ref (ad 40), .ref (ad 41), .ref (ad 58), .int (g.1 j 7), .int (g.1 j 8)])) := by
  rw [wd_at (ly_lt h (by decide))]
  simp only [cel, h]
theorem wd_o8 {cy : Nat → ClassId} {ad : Nat → Nat} {g : Mm} {j : Nat} (h : ly j = 8) : (wd cy ad g)[j]? = some (ad j, .inr (8, [.ref (ad 87), .ref (ad 88), .ref (ad 89), .ref (ad 90), .int (g.1 j 4), .int (g.1 j 5), .ref (ad 91), .ref (ad 92), .ref (ad 93), .ref (ad 94), .ref (ad 95), .ref (ad 96), .int (g.1 j 12), .int (g.1 j 13), .int (g.1 j 14), .int (g.1 j 15), .int (g.1 j 16), .int (g.1 j 17), .ref (ad 97), .ref (ad 98), .long (g.2 0), .long (g.2 1), .ref (ad 99), .int (g.1 j 23)])) := by
  rw [wd_at (ly_lt h (by decide))]
  simp only [cel, h]
theorem wd_ai {cy : Nat → ClassId} {ad : Nat → Nat} {g : Mm} {j : Nat} (h : ly j = 9) : (wd cy ad g)[j]? = some (ad j, .inl (cy 0, ln j, .inl (g.1 j))) := by
  rw [wd_at (ly_lt h (by decide))]
  simp only [cel, h]
theorem wd_az {cy : Nat → ClassId} {ad : Nat → Nat} {g : Mm} {j : Nat} (h : ly j = 10) : (wd cy ad g)[j]? = some (ad j, .inl (cy 1, ln j, .inl (g.1 j))) := by
  rw [wd_at (ly_lt h (by decide))]
  simp only [cel, h]
theorem wd_ab {cy : Nat → ClassId} {ad : Nat → Nat} {g : Mm} {j : Nat} (h : ly j = 11) : (wd cy ad g)[j]? = some (ad j, .inl (cy 2, ln j, .inr (.inr (.inr (.inr (fun i => some (ad (j + 1 + i)))))))) := by
  rw [wd_at (ly_lt h (by decide))]
  simp only [cel, h]
theorem wd_ax {cy : Nat → ClassId} {ad : Nat → Nat} {g : Mm} {j : Nat} (h : ly j = 12) : (wd cy ad g)[j]? = some (ad j, .inl (cy 3, ln j, .inr (.inr (.inr (.inr (fun i => some (ad (76 + 5 * i)))))))) := by
  rw [wd_at (ly_lt h (by decide))]
  simp only [cel, h]
theorem wd_ar {cy : Nat → ClassId} {ad : Nat → Nat} {g : Mm} {j : Nat} (h : ly j = 13) : (wd cy ad g)[j]? = some (ad j, .inl (cy 4, ln j, .inr (.inr (.inr (.inr (fun i => some (ad (60 + 2 * i)))))))) := by
  rw [wd_at (ly_lt h (by decide))]
  simp only [cel, h]
/-- a Box's rows, a Row's items, the elements of the rows of references -/
theorem lyB {j : Nat} (h : ly j = 3) : (ly (j + 1) = 9 ∧ ln (j + 1) = 7) ∧ (ly (j + 2) = 9 ∧ ln (j + 2) = 7) ∧ (ly (j + 3) = 9 ∧ ln (j + 3) = 7) ∧ (ly (j + 4) = 9 ∧ ln (j + 4) = 7) := by
  have hi := ly_lt h (by decide)
  revert h
  revert j
  decide
theorem lyR {j : Nat} (h : ly j = 6) : ly (j + 1) = 9 ∧ ln (j + 1) = 40 := by
  have hi := ly_lt h (by decide)
  revert h
  revert j
  decide
theorem ly_ring : ∀ i, i < 24 → ly (15 + 1 + i) = 2 := by decide
theorem ly_steps : ∀ i, i < 8 → ly (49 + 1 + i) = 2 := by decide
theorem ly_imgs : ∀ i, i < 2 → ly (76 + 5 * i) = 3 := by decide
theorem ly_rows : ∀ i, i < 8 → ly (60 + 2 * i) = 6 := by decide
theorem in_lt {i : Int32} {n : Nat} (h : vp_in i n) : i.toNatClampNeg < n := Nat.not_le.mp fun q => h (Or.inr q)
/-! THE STATICS' ROWS, the links between nest mates, what a method starts with and leaves -/
def tzW (i : Nat) : Int32 := ([-1, 0, 1, 1, 0, 4] : List Int32).getD i 0
def tzS (i : Nat) : Int32 := ([10, 11, 12, 11, 13, 14] : List Int32).getD i 0
def tzM (i : Nat) : Int32 := ([20, 21, 24, 22, 23, 23] : List Int32).getD i 0
def ZS (tz : Nat → Nat) (A : Nat → Prop) (U : State) (H : Heap) : Prop :=
  (va_Z "ClawCase" "WIDER" "[I" (.ref (tz 0)) A U H ∧ va_T .int (tz 0) 6 (fun i => .int (tzW i)) A U H) ∧ (va_Z "ClawCase$Asked" "SIZE" "[I" (.ref (tz 1)) A U H ∧ va_T .int (tz 1) 6 (fun i => .int (tzS i)) A U H) ∧ (va_Z "ClawCase$Asked" "MARK" "[I" (.ref (tz 2)) A U H ∧ va_T .int (tz 2) 6 (fun i => .int (tzM i)) A U H)
theorem ZS.moved {tz : Nat → Nat} {A : Nat → Prop} {u U : State} {H : Heap} (hvm : u.vm.Alike U.vm) (h : ZS tz A u H) : ZS tz A U H := ⟨⟨h.1.1.moved hvm, h.1.2.moved hvm⟩, ⟨h.2.1.1.moved hvm, h.2.1.2.moved hvm⟩, ⟨h.2.2.1.moved hvm, h.2.2.2.moved hvm⟩⟩
theorem ZS.kept {tz : Nat → Nat} {A : Nat → Prop} {U : State} {H H1 : Heap} (h : ZS tz A U H) (hq : ∀ a : Nat, a < H.size → ¬ A a → H1[a]? = H[a]?) : ZS tz A U H1 := ⟨⟨h.1.1.kept hq, h.1.2.kept hq⟩, ⟨h.2.1.1.kept hq, h.2.1.2.kept hq⟩, ⟨h.2.2.1.kept hq, h.2.2.2.kept hq⟩⟩
theorem ZS.narrow {tz : Nat → Nat} {A B : Nat → Prop} {U : State} {H : Heap} (h : ZS tz A U H) (hAB : ∀ q, B q → A q) : ZS tz B U H := ⟨⟨h.1.1.narrow hAB, h.1.2.narrow hAB⟩, ⟨h.2.1.1.narrow hAB, h.2.1.2.narrow hAB⟩, ⟨h.2.2.1.narrow hAB, h.2.2.2.narrow hAB⟩⟩
def nestL : List (String × Nat × MethodName × String) := [(RX6, 32, yX7_within, "ClawCase"), (RX5, 72, yX7_within, "ClawCase"), (RX3, 51, yX7_isColumn, "ClawCase"), (RX3, 75, yX7_isOfKind, "ClawCase"), (RX4, 112, yX7_power, "ClawCase"), (RX4, 128, yX7_isColumn, "ClawCase")]
def NW (U : State) : Prop := ∀ q ∈ nestL, va_Nw (.methodLinkNest q.1 q.2.1 q.2.2.1 q.2.2.2) U
theorem NW.warm {s U : State} (hW : s.WarmedH U.vm) (h : NW s) : NW U := fun q hq => va_Nw.warmM hW (h q hq)
theorem NW.same {u U : State} (e : u.vm = U.vm) (h : NW u) : NW U := fun q hq => va_Nw.same rfl e (h q hq)
def Aw (ad : Nat → Nat) (sz : Nat) : Nat → Prop := fun q => (∃ j, j < 100 ∧ q = ad j) ∨ sz ≤ q
theorem Aw.mono {ad : Nat → Nat} {a b q : Nat} (h : a ≤ b) (hq : Aw ad b q) : Aw ad a q := hq.elim Or.inl (fun z => Or.inr (Nat.le_trans h z))
def rmD (d : Nat) : Room := { frames := d, cells := 0, slots := 0, locals := 64 * d }
def Pr (dC : Nat → ClassId) (dI : Nat → Nat → Nat) (cy : Nat → ClassId) (ad tz : Nat → Nat) (sz : Nat) (g : Mm) (U : State) : Prop :=
  U.heap.size = sz ∧ va_P (dC, dI) vwCl (wd cy ad g) U.heap ∧ va_D (fun _ => True) (wd cy ad g) ∧ va_K (dC, dI) vwCl (tys cy) U ∧ ZS tz (Aw ad sz) U U.heap ∧ NW U
def Po (dC : Nat → ClassId) (dI : Nat → Nat → Nat) (cy : Nat → ClassId) (ad : Nat → Nat) (sz : Nat) (u : Mm) (t : State) : Prop :=
  va_P (dC, dI) vwCl (wd cy ad u) t.heap ∧ va_D (Aw ad sz) (wd cy ad u)
/-- CONTRACTS: from memory g, with the arguments As, the method answers r and leaves the memory u so that 'Q r u'; no cell is made -/
def CI (l : Launch) (dC : Nat → ClassId) (dI : Nat → Nat → Nat) (cy : Nat → ClassId) (ad tz : Nat → Nat) (y : MethodName) (ws : List Cond) (rm : Room) (As : List Value) (g : Mm) (Q : Int32 → Mm → Prop) : Prop :=
  ∀ sz, Met l y ws rm (va_Pc As (Pr dC dI cy ad tz sz g)) (va_Qi Q (Po dC dI cy ad sz) (Aw ad sz)) 0 0 (Aw ad sz)
def CV (l : Launch) (dC : Nat → ClassId) (dI : Nat → Nat → Nat) (cy : Nat → ClassId) (ad tz : Nat → Nat) (y : MethodName) (ws : List Cond) (rm : Room) (As : List Value) (g : Mm) (Q : Mm → Prop) : Prop :=
  ∀ sz, Met l y ws rm (va_Pc As (Pr dC dI cy ad tz sz g)) (va_Qv Q (Po dC dI cy ad sz) (Aw ad sz)) 0 0 (Aw ad sz)
def CR (l : Launch) (dC : Nat → ClassId) (dI : Nat → Nat → Nat) (cy : Nat → ClassId) (ad tz : Nat → Nat) (y : MethodName) (ws : List Cond) (rm : Room) (As : List Value) (g : Mm) (Q : Nat → Mm → Prop) : Prop :=
  ∀ sz, Met l y ws rm (va_Pc As (Pr dC dI cy ad tz sz g)) (va_Qr (fun u : Nat × Mm => Q u.1 u.2) (fun u a t => a = ad u.1 ∧ Po dC dI cy ad sz u.2 t) (Aw ad sz)) 0 0 (Aw ad sz)
def QI (dC : Nat → ClassId) (dI : Nat → Nat → Nat) (cy : Nat → ClassId) (ad : Nat → Nat) (below : List Frame) (args : Array Value) (s : State) (Q : Int32 → Mm → Prop) : State → Prop := MQ below (va_Qi Q (Po dC dI cy ad s.heap.size) (Aw ad s.heap.size)) args s 0 0 (Aw ad s.heap.size)
def QV (dC : Nat → ClassId) (dI : Nat → Nat → Nat) (cy : Nat → ClassId) (ad : Nat → Nat) (below : List Frame) (args : Array Value) (s : State) (Q : Mm → Prop) : State → Prop := MQ below (va_Qv Q (Po dC dI cy ad s.heap.size) (Aw ad s.heap.size)) args s 0 0 (Aw ad s.heap.size)
def QR (dC : Nat → ClassId) (dI : Nat → Nat → Nat) (cy : Nat → ClassId) (ad : Nat → Nat) (below : List Frame) (args : Array Value) (s : State) (Q : Nat → Mm → Prop) : State → Prop := MQ below (va_Qr (fun u : Nat × Mm => Q u.1 u.2) (fun u a t => a = ad u.1 ∧ Po dC dI cy ad s.heap.size u.2 t) (Aw ad s.heap.size)) args s 0 0 (Aw ad s.heap.size)
/-- what stands through a method's walk -/
def CX (p : Program) (s : State) (m : MethodId) (args : Array Value) (meth : Method) (c : Code) (dC : Nat → ClassId) (dI : Nat → Nat → Nat) (cy : Nat → ClassId) (ad tz : Nat → Nat) (cc : ByteArray) (nL : Nat) (ret : Option FieldType) (own : String) (Ts : List Cond) : Prop :=
  CallFix p m c cc nL s args Ts own ∧ va_K (dC, dI) vwCl (tys cy) s ∧ ZS tz (Aw ad s.heap.size) s s.heap ∧ NW s ∧ meth.sig.returnType = ret ∧ meth.locks = false
/-- what stands at a point: the memory g is what the heap H holds -/
def St (dC : Nat → ClassId) (dI : Nat → Nat → Nat) (cy : Nat → ClassId) (ad : Nat → Nat) (s : State) (g : Mm) (H : Heap) (locs : List Loc) : Prop :=
  va_P (dC, dI) vwCl (wd cy ad g) H ∧ va_D (Aw ad s.heap.size) (wd cy ad g) ∧ va_S (Aw ad s.heap.size) s.heap H locs
theorem wd_D {cy : Nat → ClassId} {ad : Nat → Nat} {g g' : Mm} {A : Nat → Prop} (h : va_D A (wd cy ad g)) : va_D A (wd cy ad g') := by
  constructor
  · intro i j p q hp hq e
    obtain ⟨hi, rfl⟩ := wd_of hp
    obtain ⟨hj, rfl⟩ := wd_of hq
    exact h.1 i j _ _ (wd_at hi) (wd_at hj) e
  · intro k q hk
    obtain ⟨hi, rfl⟩ := wd_of hk
    have h9 := h.2 k _ (wd_at (g := g) hi)
    exact h9
theorem wd_Aw {cy : Nat → ClassId} {ad : Nat → Nat} {g : Mm} {A : Nat → Prop} {sz : Nat} (h : va_D A (wd cy ad g)) : va_D (Aw ad sz) (wd cy ad g) := ⟨h.1, fun k q hk => by
  obtain ⟨hi, rfl⟩ := wd_of hk
  exact Or.inl ⟨k, hi, rfl⟩⟩
theorem pr_blind {dC : Nat → ClassId} {dI : Nat → Nat → Nat} {cy : Nat → ClassId} {ad tz : Nat → Nat} {sz : Nat} {g : Mm} {As : List Value} : FrameBlind (va_Pc As (Pr dC dI cy ad tz sz g)) := by
  intro a U f mk h
  obtain ⟨h0, h1, h2, h3, h4, h5, h6⟩ := h
  exact ⟨h0, h1, h2, h3, va_K.moved (u := U) (U := U.calling f mk a) (Vm.Alike.refl U.vm) h4, ZS.moved (u := U) (U := U.calling f mk a) (Vm.Alike.refl U.vm) h5, NW.same (u := U) (U := U.calling f mk a) rfl h6⟩
theorem lk_ne {x y : Int32} {k : Int} (h : ¬ x = y) (hk : y.toInt = k) : ¬ x.toInt = k := fun q => h (Int32.toInt_inj.mp (q.trans hk.symm))
theorem tb_out {x : Int32} (lo hi : Int) (h : ∀ k : Int, lo ≤ k → k ≤ hi → ¬ x.toInt = k) : x.toInt < lo ∨ hi < x.toInt := by
  by_cases h1 : x.toInt < lo
  · exact Or.inl h1
  · by_cases h2 : hi < x.toInt
    · exact Or.inr h2
    · exact absurd rfl (h x.toInt (by omega) (by omega))
section KW
variable {p : Program} {l : Launch} {e : Env} {R : Room} {s : State} {m : MethodId} {args : Array Value} {below : List Frame} {meth : Method} {c : Code} {dC : Nat → ClassId} {dI : Nat → Nat → Nat} {cy : Nat → ClassId} {ad tz : Nat → Nat} {cc : ByteArray} {nL : Nat} {ret : Option FieldType} {own : String} {Ts : List Cond} {g : Mm} {H : Heap} {locs : List Loc} {QW : State → Prop} {pc : Nat} {ls : Array Slot} {rest : List Value}
theorem CX.pre (C : CX p s m args meth c dC dI cy ad tz cc nL ret own Ts) (S : St dC dI cy ad s g H locs) {U : State} (hU : U.heap = H) (hW : s.WarmedH U.vm) : Pr dC dI cy ad tz H.size g U := by
  obtain ⟨C1, C2, C3, C4, C5⟩ := C
  obtain ⟨S1, S2, S3⟩ := S
  refine ⟨by rw [hU], by rw [hU]; exact S1, ⟨S2.1, fun _ _ _ => trivial⟩, va_K.moved hW.alike C2, ?_, NW.warm hW C4⟩
  rw [hU]
  exact ((C3.kept (fun a h1 h2 => S3.2.1 a h1 h2)).narrow (fun q h => Aw.mono S3.1 h)).moved hW.alike
theorem St.back {u : Mm} {t : State} {H1 : Heap} {locs1 : List Loc} (S : St dC dI cy ad s g H locs) (ht : t.heap = H1) (hB : Po dC dI cy ad H.size u t) (hS : va_S (Aw ad s.heap.size) s.heap H1 locs1) : St dC dI cy ad s u H1 locs1 :=
  ⟨by rw [← ht]; exact hB.1, ⟨hB.2.1, fun k q hk => Aw.mono S.2.2.1 (hB.2.2 k q hk)⟩, hS⟩
theorem kV_i {y : MethodName} {ws : List Cond} {rm : Room} {j ci n index maxL : Nat} {bytes : ByteArray} {rt : Option FieldType} {As : List Value} {Q : Int32 → Mm → Prop} {q : vw_C} {fs : List Value} {st : List Value} (C : CX p s m args meth c dC dI cy ad tz cc nL ret own Ts) (S : St dC dI cy ad s g H locs) (hl : ls.size = nL) (hM : CI l dC dI cy ad tz y ws rm (.ref (ad j) :: As) g Q) (hw : (wd cy ad g)[j]? = some (ad j, .inr (ci, fs))) (hc : vwCl[ci]? = some q) (cw : CallW R s args own q.1 index y bytes maxL rt ws rm 0 0 n) (hn : As.length = n) (hst : st = As.reverse ++ .ref (ad j) :: rest) (h8 : (rest.map fun v => v.category).sum ≤ 8) (hd : decode cc pc = .ok (.invokevirtual index, 3))
    (kk : ∀ (r : Int32) (u : Mm) (H : Heap) (locs : List Loc), Q r u → St dC dI cy ad s u H locs → W p l e R s m args below meth c H locs 0 0 QW (F0 m (pc + 3) ls (.int r :: rest))) : W p l e R s m args below meth c H locs 0 0 QW (F0 m pc ls st) := by
  refine va_calli (va_runV (As := As) (rest := rest) C.1 (hM H.size) cw ⟨pr_blind, va_recv C.2.1 S.1 hc hw, fun U hU hW => ⟨rfl, C.pre S hU hW⟩⟩ rfl hn hl hst (lv_room h8) hd ⟨Nat.zero_le _, Nat.zero_le _⟩) S.2.2 (fun q _ h => Aw.mono S.2.2.1 h) (fun q h => Aw.mono S.2.2.1 h) (fun r u t H1 locs1 ht hvm hw hB hz1 hk1 hS => ?_)
  exact kk r u H1 locs1 hw (S.back ht hB hS)
theorem kV_v {y : MethodName} {ws : List Cond} {rm : Room} {j ci n index maxL : Nat} {bytes : ByteArray} {rt : Option FieldType} {As : List Value} {Q : Mm → Prop} {q : vw_C} {fs : List Value} {st : List Value} (C : CX p s m args meth c dC dI cy ad tz cc nL ret own Ts) (S : St dC dI cy ad s g H locs) (hl : ls.size = nL) (hM : CV l dC dI cy ad tz y ws rm (.ref (ad j) :: As) g Q) (hw : (wd cy ad g)[j]? = some (ad j, .inr (ci, fs))) (hc : vwCl[ci]? = some q) (cw : CallW R s args own q.1 index y bytes maxL rt ws rm 0 0 n) (hn : As.length = n) (hst : st = As.reverse ++ .ref (ad j) :: rest) (h8 : (rest.map fun v => v.category).sum ≤ 8) (hd : decode cc pc = .ok (.invokevirtual index, 3))
    (kk : ∀ (u : Mm) (H : Heap) (locs : List Loc), Q u → St dC dI cy ad s u H locs → W p l e R s m args below meth c H locs 0 0 QW (F0 m (pc + 3) ls rest)) : W p l e R s m args below meth c H locs 0 0 QW (F0 m pc ls st) := by
  refine va_callv (va_runV (As := As) (rest := rest) C.1 (hM H.size) cw ⟨pr_blind, va_recv C.2.1 S.1 hc hw, fun U hU hW => ⟨rfl, C.pre S hU hW⟩⟩ rfl hn hl hst (lv_room h8) hd ⟨Nat.zero_le _, Nat.zero_le _⟩) S.2.2 (fun q _ h => Aw.mono S.2.2.1 h) (fun q h => Aw.mono S.2.2.1 h) (fun u t H1 locs1 ht hvm hw hB hz1 hk1 hS => ?_)
  exact kk u H1 locs1 hw (S.back ht hB hS)
theorem kV_r {y : MethodName} {ws : List Cond} {rm : Room} {j ci n index maxL : Nat} {bytes : ByteArray} {rt : Option FieldType} {As : List Value} {Q : Nat → Mm → Prop} {q : vw_C} {fs : List Value} {st : List Value} (C : CX p s m args meth c dC dI cy ad tz cc nL ret own Ts) (S : St dC dI cy ad s g H locs) (hl : ls.size = nL) (hM : CR l dC dI cy ad tz y ws rm (.ref (ad j) :: As) g Q) (hw : (wd cy ad g)[j]? = some (ad j, .inr (ci, fs))) (hc : vwCl[ci]? = some q) (cw : CallW R s args own q.1 index y bytes maxL rt ws rm 0 0 n) (hn : As.length = n) (hst : st = As.reverse ++ .ref (ad j) :: rest) (h8 : (rest.map fun v => v.category).sum ≤ 8) (hd : decode cc pc = .ok (.invokevirtual index, 3))
    (kk : ∀ (r : Nat) (u : Mm) (H : Heap) (locs : List Loc), Q r u → St dC dI cy ad s u H locs → W p l e R s m args below meth c H locs 0 0 QW (F0 m (pc + 3) ls (.ref (ad r) :: rest))) : W p l e R s m args below meth c H locs 0 0 QW (F0 m pc ls st) := by
  refine va_callr (va_runV (As := As) (rest := rest) C.1 (hM H.size) cw ⟨pr_blind, va_recv C.2.1 S.1 hc hw, fun U hU hW => ⟨rfl, C.pre S hU hW⟩⟩ rfl hn hl hst (lv_room h8) hd ⟨Nat.zero_le _, Nat.zero_le _⟩) S.2.2 (fun q _ h => Aw.mono S.2.2.1 h) (fun q h => Aw.mono S.2.2.1 h) (fun u a t H1 locs1 ht hvm hw hB hz1 hk1 hS => ?_)
  obtain ⟨rfl, hB⟩ := hB
  exact kk u.1 u.2 H1 locs1 hw (S.back ht hB hS)
theorem kS_i {y : MethodName} {ws : List Cond} {rm : Room} {n index maxL : Nat} {bytes : ByteArray} {rt : Option FieldType} {As : List Value} {Q : Int32 → Mm → Prop} {st : List Value} (C : CX p s m args meth c dC dI cy ad tz cc nL ret own Ts) (S : St dC dI cy ad s g H locs) (hl : ls.size = nL) (hM : CI l dC dI cy ad tz y ws rm As g Q) (cw : CallB R s args own index y bytes maxL rt ws rm 0 0 n ∧ (Cond.static y).before args s = true) (hn : As.length = n) (hst : st = As.reverse ++ rest) (h8 : (rest.map fun v => v.category).sum ≤ 8) (hd : decode cc pc = .ok (.invokestatic index, 3))
    (kk : ∀ (r : Int32) (u : Mm) (H : Heap) (locs : List Loc), Q r u → St dC dI cy ad s u H locs → W p l e R s m args below meth c H locs 0 0 QW (F0 m (pc + 3) ls (.int r :: rest))) : W p l e R s m args below meth c H locs 0 0 QW (F0 m pc ls st) := by
  refine va_calli (va_runS (As := As) (rest := rest) C.1 (hM H.size) cw ⟨pr_blind, fun U hU hW => ⟨rfl, C.pre S hU hW⟩⟩ rfl hn hl hst (lv_room h8) hd ⟨Nat.zero_le _, Nat.zero_le _⟩) S.2.2 (fun q _ h => Aw.mono S.2.2.1 h) (fun q h => Aw.mono S.2.2.1 h) (fun r u t H1 locs1 ht hvm hw hB hz1 hk1 hS => ?_)
  exact kk r u H1 locs1 hw (S.back ht hB hS)
theorem kS_v {y : MethodName} {ws : List Cond} {rm : Room} {n index maxL : Nat} {bytes : ByteArray} {rt : Option FieldType} {As : List Value} {Q : Mm → Prop} {st : List Value} (C : CX p s m args meth c dC dI cy ad tz cc nL ret own Ts) (S : St dC dI cy ad s g H locs) (hl : ls.size = nL) (hM : CV l dC dI cy ad tz y ws rm As g Q) (cw : CallB R s args own index y bytes maxL rt ws rm 0 0 n ∧ (Cond.static y).before args s = true) (hn : As.length = n) (hst : st = As.reverse ++ rest) (h8 : (rest.map fun v => v.category).sum ≤ 8) (hd : decode cc pc = .ok (.invokestatic index, 3))
    (kk : ∀ (u : Mm) (H : Heap) (locs : List Loc), Q u → St dC dI cy ad s u H locs → W p l e R s m args below meth c H locs 0 0 QW (F0 m (pc + 3) ls rest)) : W p l e R s m args below meth c H locs 0 0 QW (F0 m pc ls st) := by
  refine va_callv (va_runS (As := As) (rest := rest) C.1 (hM H.size) cw ⟨pr_blind, fun U hU hW => ⟨rfl, C.pre S hU hW⟩⟩ rfl hn hl hst (lv_room h8) hd ⟨Nat.zero_le _, Nat.zero_le _⟩) S.2.2 (fun q _ h => Aw.mono S.2.2.1 h) (fun q h => Aw.mono S.2.2.1 h) (fun u t H1 locs1 ht hvm hw hB hz1 hk1 hS => ?_)
  exact kk u H1 locs1 hw (S.back ht hB hS)
theorem kN_i {y : MethodName} {ws : List Cond} {rm : Room} {n index maxL : Nat} {host : String} {bytes : ByteArray} {rt : Option FieldType} {As : List Value} {Q : Int32 → Mm → Prop} {st : List Value} (C : CX p s m args meth c dC dI cy ad tz cc nL ret own Ts) (S : St dC dI cy ad s g H locs) (hl : ls.size = nL) (hM : CI l dC dI cy ad tz y ws rm As g Q) (cw : va_CN R s args own index y host bytes maxL rt ws rm 0 0 n ∧ (Cond.static y).before args s = true ∧ True) (hn : As.length = n) (hst : st = As.reverse ++ rest) (h8 : (rest.map fun v => v.category).sum ≤ 8) (hd : decode cc pc = .ok (.invokestatic index, 3))
    (kk : ∀ (r : Int32) (u : Mm) (H : Heap) (locs : List Loc), Q r u → St dC dI cy ad s u H locs → W p l e R s m args below meth c H locs 0 0 QW (F0 m (pc + 3) ls (.int r :: rest))) : W p l e R s m args below meth c H locs 0 0 QW (F0 m pc ls st) := by
  refine va_calli (va_runSN (As := As) (rest := rest) C.1 (hM H.size) cw ⟨pr_blind, fun U hU hW => ⟨rfl, C.pre S hU hW⟩⟩ rfl hn hl hst (lv_room h8) hd ⟨Nat.zero_le _, Nat.zero_le _⟩) S.2.2 (fun q _ h => Aw.mono S.2.2.1 h) (fun q h => Aw.mono S.2.2.1 h) (fun r u t H1 locs1 ht hvm hw hB hz1 hk1 hS => ?_)
  exact kk r u H1 locs1 hw (S.back ht hB hS)
/-! the ends -/
theorem kRi {Q : Int32 → Mm → Prop} {v : Int32} (C : CX p s m args meth c dC dI cy ad tz cc nL (some .int) own Ts) (S : St dC dI cy ad s g H locs) (h : Q v g) (hd : decode cc pc = .ok (.ireturn, 1)) : W p l e R s m args below meth c H locs 0 0 (QI dC dI cy ad below args s Q) (F0 m pc ls [.int v]) :=
  W.iret C.1.1 C.1.2.1 C.2.2.2.2.1 (fun t ht hW => ⟨⟨v, g, rfl, h, by rw [ht]; exact S.1, S.2.1⟩, S.2.2.F ht⟩) S.2.2.2.2 hd C.2.2.2.2.2
theorem kRz {Q : Int32 → Mm → Prop} {v : Int32} (C : CX p s m args meth c dC dI cy ad tz cc nL (some .boolean) own Ts) (S : St dC dI cy ad s g H locs) (hz : narrow .boolean (.int v) = .int v) (h : Q v g) (hd : decode cc pc = .ok (.ireturn, 1)) : W p l e R s m args below meth c H locs 0 0 (QI dC dI cy ad below args s Q) (F0 m pc ls [.int v]) :=
  W.zret C.1.1 C.1.2.1 C.2.2.2.2.1 hz (fun t ht hW => ⟨⟨v, g, rfl, h, by rw [ht]; exact S.1, S.2.1⟩, S.2.2.F ht⟩) S.2.2.2.2 hd C.2.2.2.2.2
theorem kRv {Q : Mm → Prop} (C : CX p s m args meth c dC dI cy ad tz cc nL none own Ts) (S : St dC dI cy ad s g H locs) (h : Q g) (hd : decode cc pc = .ok (.return_, 1)) : W p l e R s m args below meth c H locs 0 0 (QV dC dI cy ad below args s Q) (F0 m pc ls []) :=
  W.vret C.1.1 C.1.2.1 C.2.2.2.2.1 (fun t ht hW => ⟨⟨g, rfl, h, by rw [ht]; exact S.1, S.2.1⟩, S.2.2.F ht⟩) S.2.2.2.2 hd C.2.2.2.2.2
theorem kRr {Q : Nat → Mm → Prop} {r : Nat} {cn : String} (C : CX p s m args meth c dC dI cy ad tz cc nL (some (.object cn)) own Ts) (S : St dC dI cy ad s g H locs) (h : Q r g) (hd : decode cc pc = .ok (.areturn, 1)) : W p l e R s m args below meth c H locs 0 0 (QR dC dI cy ad below args s Q) (F0 m pc ls [.ref (ad r)]) :=
  W.aret C.1.1 C.1.2.1 C.2.2.2.2.1 (Or.inl ⟨_, rfl⟩) (Or.inr ⟨_, rfl⟩) (fun t ht hW => ⟨⟨(r, g), ad r, rfl, h, rfl, by rw [ht]; exact S.1, S.2.1⟩, S.2.2.F ht⟩) S.2.2.2.2 hd C.2.2.2.2.2
/-! rows -/
theorem St.set {j : Nat} {E : va_E} {g' : Mm} {H1 : Heap} {locs1 : List Loc} (S : St dC dI cy ad s g H locs) (h : j < 100) (hj : cel cy ad g' j = E) (ho : ∀ i, i ≠ j → cel cy ad g' i = cel cy ad g i) (hP : va_P (dC, dI) vwCl ((wd cy ad g).set j (ad j, E)) H1) (hS : va_S (Aw ad s.heap.size) s.heap H1 locs1) : St dC dI cy ad s g' H1 locs1 :=
  ⟨by rw [wd_set h hj ho] at hP; exact hP, wd_D S.2.1, hS⟩
theorem kLi {j n : Nat} {i : Int32} (C : CX p s m args meth c dC dI cy ad tz cc nL ret own Ts) (S : St dC dI cy ad s g H locs) (h9 : ly j = 9) (hn : ln j = n) (hin : vp_in i n) (hd : decode cc pc = .ok (.iaload, 1)) (kk : W p l e R s m args below meth c H locs 0 0 QW (F0 m (pc + 1) ls (.int (g.1 j i.toNatClampNeg) :: rest))) : W p l e R s m args below meth c H locs 0 0 QW (F0 m pc ls (.int i :: .ref (ad j) :: rest)) := by
  subst hn
  exact va_iald C.1.1 C.1.2.1 C.2.1 S.1 j 0 (wd_ai h9) rfl hin hd kk
theorem kLz {j n : Nat} {i : Int32} (C : CX p s m args meth c dC dI cy ad tz cc nL ret own Ts) (S : St dC dI cy ad s g H locs) (h9 : ly j = 10) (hn : ln j = n) (hin : vp_in i n) (hd : decode cc pc = .ok (.baload, 1)) (kk : W p l e R s m args below meth c H locs 0 0 QW (F0 m (pc + 1) ls (.int (g.1 j i.toNatClampNeg) :: rest))) : W p l e R s m args below meth c H locs 0 0 QW (F0 m pc ls (.int i :: .ref (ad j) :: rest)) := by
  subst hn
  exact va_zald C.1.1 C.1.2.1 C.2.1 S.1 j 1 (wd_az h9) rfl hin hd kk
theorem kSi {j n : Nat} {i x : Int32} (C : CX p s m args meth c dC dI cy ad tz cc nL ret own Ts) (S : St dC dI cy ad s g H locs) (h9 : ly j = 9) (hn : ln j = n) (hin : vp_in i n) (hd : decode cc pc = .ok (.iastore, 1)) (kk : ∀ (u : Mm) (H : Heap) (locs : List Loc), u = mset g j i.toNatClampNeg x → St dC dI cy ad s u H locs → W p l e R s m args below meth c H locs 0 0 QW (F0 m (pc + 1) ls rest)) : W p l e R s m args below meth c H locs 0 0 QW (F0 m pc ls (.int x :: .int i :: .ref (ad j) :: rest)) := by
  subst hn
  refine va_iast C.1.1 C.1.2.1 C.2.1 S.1 S.2.1 S.2.2 j 0 (wd_ai h9) rfl hin hd (fun H1 locs1 hP hD hS => kk _ H1 locs1 rfl (S.set (ly_lt h9 (by decide)) ?_ cel_row_ne hP hS))
  simp only [cel, h9]
  rw [mset_same]
theorem kSz {j n : Nat} {i x : Int32} (C : CX p s m args meth c dC dI cy ad tz cc nL ret own Ts) (S : St dC dI cy ad s g H locs) (h9 : ly j = 10) (hn : ln j = n) (hin : vp_in i n) (hd : decode cc pc = .ok (.bastore, 1)) (kk : ∀ (u : Mm) (H : Heap) (locs : List Loc), u = mset g j i.toNatClampNeg (vp_nar .boolean x) → St dC dI cy ad s u H locs → W p l e R s m args below meth c H locs 0 0 QW (F0 m (pc + 1) ls rest)) : W p l e R s m args below meth c H locs 0 0 QW (F0 m pc ls (.int x :: .int i :: .ref (ad j) :: rest)) := by
  subst hn
  refine va_zast C.1.1 C.1.2.1 C.2.1 S.1 S.2.1 S.2.2 j 1 (wd_az h9) rfl hin hd (fun H1 locs1 hP hD hS => kk _ H1 locs1 rfl (S.set (ly_lt h9 (by decide)) ?_ cel_row_ne hP hS))
  simp only [cel, h9]
  rw [mset_same]
theorem kLen {j n : Nat} {v : Int32} (C : CX p s m args meth c dC dI cy ad tz cc nL ret own Ts) (S : St dC dI cy ad s g H locs) (h9 : ly j = 9) (hv : Int32.ofNat (ln j) = v) (hd : decode cc pc = .ok (.arraylength, 1)) (kk : W p l e R s m args below meth c H locs 0 0 QW (F0 m (pc + 1) ls (.int v :: rest))) : W p l e R s m args below meth c H locs 0 0 QW (F0 m pc ls (.ref (ad j) :: rest)) :=
  va_alen C.1.1 C.1.2.1 C.2.1 S.1 j 0 (wd_ai h9) rfl hv hd kk
theorem kAb {j n : Nat} {i : Int32} (C : CX p s m args meth c dC dI cy ad tz cc nL ret own Ts) (S : St dC dI cy ad s g H locs) (h9 : ly j = 11) (hn : ln j = n) (hin : vp_in i n) (hd : decode cc pc = .ok (.aaload, 1)) (kk : W p l e R s m args below meth c H locs 0 0 QW (F0 m (pc + 1) ls (.ref (ad (j + 1 + i.toNatClampNeg)) :: rest))) : W p l e R s m args below meth c H locs 0 0 QW (F0 m pc ls (.int i :: .ref (ad j) :: rest)) := by
  subst hn
  exact va_aldq C.1.1 C.1.2.1 C.2.1 S.1 j 2 (wd_ab h9) rfl hin hd kk
theorem kAx {j n : Nat} {i : Int32} (C : CX p s m args meth c dC dI cy ad tz cc nL ret own Ts) (S : St dC dI cy ad s g H locs) (h9 : ly j = 12) (hn : ln j = n) (hin : vp_in i n) (hd : decode cc pc = .ok (.aaload, 1)) (kk : W p l e R s m args below meth c H locs 0 0 QW (F0 m (pc + 1) ls (.ref (ad (76 + 5 * i.toNatClampNeg)) :: rest))) : W p l e R s m args below meth c H locs 0 0 QW (F0 m pc ls (.int i :: .ref (ad j) :: rest)) := by
  subst hn
  exact va_aldq C.1.1 C.1.2.1 C.2.1 S.1 j 3 (wd_ax h9) rfl hin hd kk
theorem kAr {j n : Nat} {i : Int32} (C : CX p s m args meth c dC dI cy ad tz cc nL ret own Ts) (S : St dC dI cy ad s g H locs) (h9 : ly j = 13) (hn : ln j = n) (hin : vp_in i n) (hd : decode cc pc = .ok (.aaload, 1)) (kk : W p l e R s m args below meth c H locs 0 0 QW (F0 m (pc + 1) ls (.ref (ad (60 + 2 * i.toNatClampNeg)) :: rest))) : W p l e R s m args below meth c H locs 0 0 QW (F0 m pc ls (.int i :: .ref (ad j) :: rest)) := by
  subst hn
  exact va_aldq C.1.1 C.1.2.1 C.2.1 S.1 j 4 (wd_ar h9) rfl hin hd kk
theorem kCpy {a b na nb index : Nat} {sp dp n : Int32} (C : CX p s m args meth c dC dI cy ad tz cc nL ret own Ts) (S : St dC dI cy ad s g H locs) (hl : ls.size = nL) (ha : ly a = 9) (hna : ln a = na) (hb : ly b = 9) (hnb : ln b = nb) (hin : (¬ sp < 0 ∧ ¬ dp < 0 ∧ ¬ n < 0) ∧ sp.toNatClampNeg + n.toNatClampNeg ≤ na ∧ dp.toNatClampNeg + n.toNatClampNeg ≤ nb) (hlink : Cond.methodLink own index arraycopyName ∈ Ts) (hnat : Cond.native arraycopyName ∈ Ts) (hstat : Cond.static arraycopyName ∈ Ts) (hini : Cond.initialized "java/lang/System" ∈ Ts) (hf : 1 ≤ R.frames) (hlo : (rest.map fun v => v.category).sum + (nativeFrameWords "java/lang/System" "arraycopy" 5 + 11) ≤ R.locals) (hd : decode cc pc = .ok (.invokestatic index, 3))
    (kk : ∀ (u : Mm) (H : Heap) (locs : List Loc), u = mcpy g a sp.toNatClampNeg b dp.toNatClampNeg n.toNatClampNeg → St dC dI cy ad s u H locs → W p l e R s m args below meth c H locs 0 0 QW (F0 m (pc + 3) ls rest)) : W p l e R s m args below meth c H locs 0 0 QW (F0 m pc ls (.int n :: .int dp :: .ref (ad b) :: .int sp :: .ref (ad a) :: rest)) := by
  subst hna
  subst hnb
  refine va_copyi C.1.1 C.1.2.1 (C.1.2.2.1.trans hl.symm) C.1.2.2.2.1 (C.1.2.2.2.2 _ hlink) (C.1.2.2.2.2 _ hnat) (C.1.2.2.2.2 _ hstat) (C.1.2.2.2.2 _ hini) C.2.1 S.1 S.2.1 S.2.2 a b 0 0 (ty := .int) (wd_ai ha) (wd_ai hb) rfl rfl rfl hin.1.1 hin.1.2.1 hin.1.2.2 hin.2.1 hin.2.2 (fun i _ => rfl) hf hlo hd (fun H1 locs1 hP hD hS => kk _ H1 locs1 rfl (S.set (ly_lt hb (by decide)) ?_ cel_row_ne hP hS))
  simp only [cel, hb]
  rw [mcpy_same]
theorem kMax {index : Nat} {x y : Int32} (C : CX p s m args meth c dC dI cy ad tz cc nL ret own Ts) (hl : ls.size = nL) (hlink : Cond.methodLink own index Lib.Math.max.name ∈ Ts) (hstat : Cond.static Lib.Math.max.name ∈ Ts) (hini : Cond.initialized "java/lang/Math" ∈ Ts) (hcode : Cond.code Lib.Math.max.name Lib.Math.max.code 2 (some .int) ∈ Ts) (hf : 1 ≤ R.frames) (hlo : (rest.map fun v => v.category).sum + 13 ≤ R.locals) (hd : decode cc pc = .ok (.invokestatic index, 3))
    (kk : W p l e R s m args below meth c H locs 0 0 QW (F0 m (pc + 3) ls (.int (if x < y then y else x) :: rest))) : W p l e R s m args below meth c H locs 0 0 QW (F0 m pc ls (.int y :: .int x :: rest)) :=
  va_mmax C.1.1 C.1.2.1 (C.1.2.2.1.trans hl.symm) C.1.2.2.2.1 (C.1.2.2.2.2 _ hlink) (C.1.2.2.2.2 _ hstat) (C.1.2.2.2.2 _ hini) (C.1.2.2.2.2 _ hcode) hf hlo (Nat.zero_le _) (Nat.zero_le _) hd kk
theorem kMin {index : Nat} {x y : Int32} (C : CX p s m args meth c dC dI cy ad tz cc nL ret own Ts) (hl : ls.size = nL) (hlink : Cond.methodLink own index Lib.Math.min.name ∈ Ts) (hstat : Cond.static Lib.Math.min.name ∈ Ts) (hini : Cond.initialized "java/lang/Math" ∈ Ts) (hcode : Cond.code Lib.Math.min.name Lib.Math.min.code 2 (some .int) ∈ Ts) (hf : 1 ≤ R.frames) (hlo : (rest.map fun v => v.category).sum + 13 ≤ R.locals) (hd : decode cc pc = .ok (.invokestatic index, 3))
    (kk : W p l e R s m args below meth c H locs 0 0 QW (F0 m (pc + 3) ls (.int (if y < x then y else x) :: rest))) : W p l e R s m args below meth c H locs 0 0 QW (F0 m pc ls (.int y :: .int x :: rest)) :=
  va_mmin C.1.1 C.1.2.1 (C.1.2.2.1.trans hl.symm) C.1.2.2.2.1 (C.1.2.2.2.2 _ hlink) (C.1.2.2.2.2 _ hstat) (C.1.2.2.2.2 _ hini) (C.1.2.2.2.2 _ hcode) hf hlo (Nat.zero_le _) (Nat.zero_le _) hd kk
theorem kLdc {index : Nat} {v : Int32} (C : CX p s m args meth c dC dI cy ad tz cc nL ret own Ts) (hc : Cond.constant own index v ∈ Ts) (hd : decode cc pc = .ok (.ldc index, 2)) (kk : W p l e R s m args below meth c H locs 0 0 QW (F0 m (pc + 2) ls (.int v :: rest))) : W p l e R s m args below meth c H locs 0 0 QW (F0 m pc ls rest) :=
  lv_ldc C.1.1 C.1.2.1 C.1.2.2.2.1 (C.1.2.2.2.2 _ hc) hd kk
theorem kLdcw {index : Nat} {v : Int32} (C : CX p s m args meth c dC dI cy ad tz cc nL ret own Ts) (hc : Cond.constant own index v ∈ Ts) (hd : decode cc pc = .ok (.ldc_w index, 3)) (kk : W p l e R s m args below meth c H locs 0 0 QW (F0 m (pc + 3) ls (.int v :: rest))) : W p l e R s m args below meth c H locs 0 0 QW (F0 m pc ls rest) :=
  lv_ldcw C.1.1 C.1.2.1 C.1.2.2.2.1 (C.1.2.2.2.2 _ hc) hd kk
theorem kLdc2 {index : Nat} {v : Int64} (C : CX p s m args meth c dC dI cy ad tz cc nL ret own Ts) (hc : Cond.constantLong own index v ∈ Ts) (hd : decode cc pc = .ok (.ldc2_w index, 3)) (kk : W p l e R s m args below meth c H locs 0 0 QW (F0 m (pc + 3) ls (.long v :: rest))) : W p l e R s m args below meth c H locs 0 0 QW (F0 m pc ls rest) :=
  lv_ldc2 C.1.1 C.1.2.1 C.1.2.2.2.1 (C.1.2.2.2.2 _ hc) hd kk
theorem kGW {index : Nat} (C : CX p s m args meth c dC dI cy ad tz cc nL ret own Ts) (S : St dC dI cy ad s g H locs) (hl : Cond.fieldLink own index "ClawCase" "WIDER" "[I" ∈ Ts) (hd : decode cc pc = .ok (.getstatic index, 3)) (kk : W p l e R s m args below meth c H locs 0 0 QW (F0 m (pc + 3) ls (.ref (tz 0) :: rest))) : W p l e R s m args below meth c H locs 0 0 QW (F0 m pc ls rest) :=
  va_gets C.1.1 C.1.2.1 C.2.2.1.1.1 S.2.2 C.1.2.2.2.1 (C.1.2.2.2.2 _ hl) (fun _ h => h) hd kk
theorem kTW {i : Int32} (C : CX p s m args meth c dC dI cy ad tz cc nL ret own Ts) (S : St dC dI cy ad s g H locs) (hin : vp_in i 6) (hd : decode cc pc = .ok (.iaload, 1)) (kk : W p l e R s m args below meth c H locs 0 0 QW (F0 m (pc + 1) ls (.int (tzW i.toNatClampNeg) :: rest))) : W p l e R s m args below meth c H locs 0 0 QW (F0 m pc ls (.int i :: .ref (tz 0) :: rest)) :=
  va_ti C.1.1 C.1.2.1 C.2.2.1.1.2 S.2.2 hin rfl hd kk
theorem kNW (C : CX p s m args meth c dC dI cy ad tz cc nL ret own Ts) (S : St dC dI cy ad s g H locs) (hd : decode cc pc = .ok (.arraylength, 1)) (kk : W p l e R s m args below meth c H locs 0 0 QW (F0 m (pc + 1) ls (.int 6 :: rest))) : W p l e R s m args below meth c H locs 0 0 QW (F0 m pc ls (.ref (tz 0) :: rest)) :=
  va_tlen C.1.1 C.1.2.1 C.2.2.1.1.2 S.2.2 rfl hd kk
theorem kGS {index : Nat} (C : CX p s m args meth c dC dI cy ad tz cc nL ret own Ts) (S : St dC dI cy ad s g H locs) (hl : Cond.fieldLink own index "ClawCase$Asked" "SIZE" "[I" ∈ Ts) (hd : decode cc pc = .ok (.getstatic index, 3)) (kk : W p l e R s m args below meth c H locs 0 0 QW (F0 m (pc + 3) ls (.ref (tz 1) :: rest))) : W p l e R s m args below meth c H locs 0 0 QW (F0 m pc ls rest) :=
  va_gets C.1.1 C.1.2.1 C.2.2.1.2.1.1 S.2.2 C.1.2.2.2.1 (C.1.2.2.2.2 _ hl) (fun _ h => h) hd kk
theorem kTS {i : Int32} (C : CX p s m args meth c dC dI cy ad tz cc nL ret own Ts) (S : St dC dI cy ad s g H locs) (hin : vp_in i 6) (hd : decode cc pc = .ok (.iaload, 1)) (kk : W p l e R s m args below meth c H locs 0 0 QW (F0 m (pc + 1) ls (.int (tzS i.toNatClampNeg) :: rest))) : W p l e R s m args below meth c H locs 0 0 QW (F0 m pc ls (.int i :: .ref (tz 1) :: rest)) :=
  va_ti C.1.1 C.1.2.1 C.2.2.1.2.1.2 S.2.2 hin rfl hd kk
theorem kNS (C : CX p s m args meth c dC dI cy ad tz cc nL ret own Ts) (S : St dC dI cy ad s g H locs) (hd : decode cc pc = .ok (.arraylength, 1)) (kk : W p l e R s m args below meth c H locs 0 0 QW (F0 m (pc + 1) ls (.int 6 :: rest))) : W p l e R s m args below meth c H locs 0 0 QW (F0 m pc ls (.ref (tz 1) :: rest)) :=
  va_tlen C.1.1 C.1.2.1 C.2.2.1.2.1.2 S.2.2 rfl hd kk
theorem kGM {index : Nat} (C : CX p s m args meth c dC dI cy ad tz cc nL ret own Ts) (S : St dC dI cy ad s g H locs) (hl : Cond.fieldLink own index "ClawCase$Asked" "MARK" "[I" ∈ Ts) (hd : decode cc pc = .ok (.getstatic index, 3)) (kk : W p l e R s m args below meth c H locs 0 0 QW (F0 m (pc + 3) ls (.ref (tz 2) :: rest))) : W p l e R s m args below meth c H locs 0 0 QW (F0 m pc ls rest) :=
  va_gets C.1.1 C.1.2.1 C.2.2.1.2.2.1 S.2.2 C.1.2.2.2.1 (C.1.2.2.2.2 _ hl) (fun _ h => h) hd kk
theorem kTM {i : Int32} (C : CX p s m args meth c dC dI cy ad tz cc nL ret own Ts) (S : St dC dI cy ad s g H locs) (hin : vp_in i 6) (hd : decode cc pc = .ok (.iaload, 1)) (kk : W p l e R s m args below meth c H locs 0 0 QW (F0 m (pc + 1) ls (.int (tzM i.toNatClampNeg) :: rest))) : W p l e R s m args below meth c H locs 0 0 QW (F0 m pc ls (.int i :: .ref (tz 2) :: rest)) :=
  va_ti C.1.1 C.1.2.1 C.2.2.1.2.2.2 S.2.2 hin rfl hd kk
theorem kNM (C : CX p s m args meth c dC dI cy ad tz cc nL ret own Ts) (S : St dC dI cy ad s g H locs) (hd : decode cc pc = .ok (.arraylength, 1)) (kk : W p l e R s m args below meth c H locs 0 0 QW (F0 m (pc + 1) ls (.int 6 :: rest))) : W p l e R s m args below meth c H locs 0 0 QW (F0 m pc ls (.ref (tz 2) :: rest)) :=
  va_tlen C.1.1 C.1.2.1 C.2.2.1.2.2.2 S.2.2 rfl hd kk
theorem kg0 {j index k : Nat} {v : Value} (C : CX p s m args meth c dC dI cy ad tz cc nL ret own Ts) (S : St dC dI cy ad s g H locs) (hj : ly j = 0) (hk : k < 3) (hi : ∀ w ∈ wsX00, w ∈ Ts) (hl : Cond.fieldLink own index (TX0 k).1 (TX0 k).2.1 (TX0 k).2.2.1 ∈ Ts) (hv : ([.ref (ad 15), .int (g.1 j 1), .int (g.1 j 2)] : List Value)[k]? = some v) (hd : decode cc pc = .ok (.getfield index, 3)) (kk : W p l e R s m args below meth c H locs 0 0 QW (F0 m (pc + 3) ls (v :: rest))) : W p l e R s m args below meth c H locs 0 0 QW (F0 m pc ls (.ref (ad j) :: rest)) :=
  va_get C.1.1 C.1.2.1 C.1.2.2.2.2 hi C.1.2.2.2.1 C.2.1 S.1 j (wd_o0 hj) rfl k hk (C.1.2.2.2.2 _ hl) (fun _ h => h) hv hd kk
theorem kp0_1 {j index : Nat} {x : Int32} (C : CX p s m args meth c dC dI cy ad tz cc nL ret own Ts) (S : St dC dI cy ad s g H locs) (hj : ly j = 0) (hi : ∀ w ∈ wsX00, w ∈ Ts) (hl : Cond.fieldLink own index "ClawCase$Acts" "free" "I" ∈ Ts) (hd : decode cc pc = .ok (.putfield index, 3)) (kk : ∀ (u : Mm) (H : Heap) (locs : List Loc), u = mset g j 1 x → St dC dI cy ad s u H locs → W p l e R s m args below meth c H locs 0 0 QW (F0 m (pc + 3) ls rest)) : W p l e R s m args below meth c H locs 0 0 QW (F0 m pc ls (.int x :: .ref (ad j) :: rest)) := by
  refine va_put C.1.1 C.1.2.1 C.1.2.2.2.2 hi tyX0 tyX0_ok nmX0 C.1.2.2.2.1 C.2.1 S.1 S.2.1 S.2.2 j (wd_o0 hj) rfl 1 (by decide) (C.1.2.2.2.2 _ hl) (fun _ h => h) rfl (ty := .int) (by decide +kernel) rfl rfl (Nat.le_of_ble_eq_true rfl) hd (fun H1 locs1 hP hD hS => kk _ H1 locs1 rfl (S.set (ly_lt hj (by decide)) ?_ cel_row_ne hP hS))
  simp only [cel, hj]
  rw [mset_same]
  rfl
theorem kp0_2 {j index : Nat} {x : Int32} (C : CX p s m args meth c dC dI cy ad tz cc nL ret own Ts) (S : St dC dI cy ad s g H locs) (hj : ly j = 0) (hi : ∀ w ∈ wsX00, w ∈ Ts) (hl : Cond.fieldLink own index "ClawCase$Acts" "kept" "I" ∈ Ts) (hd : decode cc pc = .ok (.putfield index, 3)) (kk : ∀ (u : Mm) (H : Heap) (locs : List Loc), u = mset g j 2 x → St dC dI cy ad s u H locs → W p l e R s m args below meth c H locs 0 0 QW (F0 m (pc + 3) ls rest)) : W p l e R s m args below meth c H locs 0 0 QW (F0 m pc ls (.int x :: .ref (ad j) :: rest)) := by
  refine va_put C.1.1 C.1.2.1 C.1.2.2.2.2 hi tyX0 tyX0_ok nmX0 C.1.2.2.2.1 C.2.1 S.1 S.2.1 S.2.2 j (wd_o0 hj) rfl 2 (by decide) (C.1.2.2.2.2 _ hl) (fun _ h => h) rfl (ty := .int) (by decide +kernel) rfl rfl (Nat.le_of_ble_eq_true rfl) hd (fun H1 locs1 hP hD hS => kk _ H1 locs1 rfl (S.set (ly_lt hj (by decide)) ?_ cel_row_ne hP hS))
  simp only [cel, hj]
  rw [mset_same]
  rfl
theorem kg1 {j index k : Nat} {v : Value} (C : CX p s m args meth c dC dI cy ad tz cc nL ret own Ts) (S : St dC dI cy ad s g H locs) (hj : ly j = 1) (hk : k < 2) (hi : ∀ w ∈ wsX10, w ∈ Ts) (hl : Cond.fieldLink own index (TX1 k).1 (TX1 k).2.1 (TX1 k).2.2.1 ∈ Ts) (hv : ([.ref (ad 59), .int (g.1 j 1)] : List Value)[k]? = some v) (hd : decode cc pc = .ok (.getfield index, 3)) (kk : W p l e R s m args below meth c H locs 0 0 QW (F0 m (pc + 3) ls (v :: rest))) : W p l e R s m args below meth c H locs 0 0 QW (F0 m pc ls (.ref (ad j) :: rest)) :=
  va_get C.1.1 C.1.2.1 C.1.2.2.2.2 hi C.1.2.2.2.1 C.2.1 S.1 j (wd_o1 hj) rfl k hk (C.1.2.2.2.2 _ hl) (fun _ h => h) hv hd kk
theorem kp1_1 {j index : Nat} {x : Int32} (C : CX p s m args meth c dC dI cy ad tz cc nL ret own Ts) (S : St dC dI cy ad s g H locs) (hj : ly j = 1) (hi : ∀ w ∈ wsX10, w ∈ Ts) (hl : Cond.fieldLink own index "ClawCase$Asked" "begun" "I" ∈ Ts) (hd : decode cc pc = .ok (.putfield index, 3)) (kk : ∀ (u : Mm) (H : Heap) (locs : List Loc), u = mset g j 1 x → St dC dI cy ad s u H locs → W p l e R s m args below meth c H locs 0 0 QW (F0 m (pc + 3) ls rest)) : W p l e R s m args below meth c H locs 0 0 QW (F0 m pc ls (.int x :: .ref (ad j) :: rest)) := by
  refine va_put C.1.1 C.1.2.1 C.1.2.2.2.2 hi tyX1 tyX1_ok nmX1 C.1.2.2.2.1 C.2.1 S.1 S.2.1 S.2.2 j (wd_o1 hj) rfl 1 (by decide) (C.1.2.2.2.2 _ hl) (fun _ h => h) rfl (ty := .int) (by decide +kernel) rfl rfl (Nat.le_of_ble_eq_true rfl) hd (fun H1 locs1 hP hD hS => kk _ H1 locs1 rfl (S.set (ly_lt hj (by decide)) ?_ cel_row_ne hP hS))
  simp only [cel, hj]
  rw [mset_same]
  rfl
theorem kg2 {j index k : Nat} {v : Value} (C : CX p s m args meth c dC dI cy ad tz cc nL ret own Ts) (S : St dC dI cy ad s g H locs) (hj : ly j = 2) (hk : k < 6) (hi : ∀ w ∈ wsX20, w ∈ Ts) (hl : Cond.fieldLink own index (TX2 k).1 (TX2 k).2.1 (TX2 k).2.2.1 ∈ Ts) (hv : ([.int (g.1 j 0), .int (g.1 j 1), .int (g.1 j 2), .int (g.1 j 3), .int (g.1 j 4), .int (g.1 j 5)] : List Value)[k]? = some v) (hd : decode cc pc = .ok (.getfield index, 3)) (kk : W p l e R s m args below meth c H locs 0 0 QW (F0 m (pc + 3) ls (v :: rest))) : W p l e R s m args below meth c H locs 0 0 QW (F0 m pc ls (.ref (ad j) :: rest)) :=
  va_get C.1.1 C.1.2.1 C.1.2.2.2.2 hi C.1.2.2.2.1 C.2.1 S.1 j (wd_o2 hj) rfl k hk (C.1.2.2.2.2 _ hl) (fun _ h => h) hv hd kk
theorem kp2_0 {j index : Nat} {x : Int32} (C : CX p s m args meth c dC dI cy ad tz cc nL ret own Ts) (S : St dC dI cy ad s g H locs) (hj : ly j = 2) (hi : ∀ w ∈ wsX20, w ∈ Ts) (hl : Cond.fieldLink own index "ClawCase$Before" "plays" "I" ∈ Ts) (hd : decode cc pc = .ok (.putfield index, 3)) (kk : ∀ (u : Mm) (H : Heap) (locs : List Loc), u = mset g j 0 x → St dC dI cy ad s u H locs → W p l e R s m args below meth c H locs 0 0 QW (F0 m (pc + 3) ls rest)) : W p l e R s m args below meth c H locs 0 0 QW (F0 m pc ls (.int x :: .ref (ad j) :: rest)) := by
  refine va_put C.1.1 C.1.2.1 C.1.2.2.2.2 hi tyX2 tyX2_ok nmX2 C.1.2.2.2.1 C.2.1 S.1 S.2.1 S.2.2 j (wd_o2 hj) rfl 0 (by decide) (C.1.2.2.2.2 _ hl) (fun _ h => h) rfl (ty := .int) (by decide +kernel) rfl rfl (Nat.le_of_ble_eq_true rfl) hd (fun H1 locs1 hP hD hS => kk _ H1 locs1 rfl (S.set (ly_lt hj (by decide)) ?_ cel_row_ne hP hS))
  simp only [cel, hj]
  rw [mset_same]
  rfl
theorem kp2_1 {j index : Nat} {x : Int32} (C : CX p s m args meth c dC dI cy ad tz cc nL ret own Ts) (S : St dC dI cy ad s g H locs) (hj : ly j = 2) (hi : ∀ w ∈ wsX20, w ∈ Ts) (hl : Cond.fieldLink own index "ClawCase$Before" "low" "I" ∈ Ts) (hd : decode cc pc = .ok (.putfield index, 3)) (kk : ∀ (u : Mm) (H : Heap) (locs : List Loc), u = mset g j 1 x → St dC dI cy ad s u H locs → W p l e R s m args below meth c H locs 0 0 QW (F0 m (pc + 3) ls rest)) : W p l e R s m args below meth c H locs 0 0 QW (F0 m pc ls (.int x :: .ref (ad j) :: rest)) := by
  refine va_put C.1.1 C.1.2.1 C.1.2.2.2.2 hi tyX2 tyX2_ok nmX2 C.1.2.2.2.1 C.2.1 S.1 S.2.1 S.2.2 j (wd_o2 hj) rfl 1 (by decide) (C.1.2.2.2.2 _ hl) (fun _ h => h) rfl (ty := .int) (by decide +kernel) rfl rfl (Nat.le_of_ble_eq_true rfl) hd (fun H1 locs1 hP hD hS => kk _ H1 locs1 rfl (S.set (ly_lt hj (by decide)) ?_ cel_row_ne hP hS))
  simp only [cel, hj]
  rw [mset_same]
  rfl
theorem kp2_2 {j index : Nat} {x : Int32} (C : CX p s m args meth c dC dI cy ad tz cc nL ret own Ts) (S : St dC dI cy ad s g H locs) (hj : ly j = 2) (hi : ∀ w ∈ wsX20, w ∈ Ts) (hl : Cond.fieldLink own index "ClawCase$Before" "high" "I" ∈ Ts) (hd : decode cc pc = .ok (.putfield index, 3)) (kk : ∀ (u : Mm) (H : Heap) (locs : List Loc), u = mset g j 2 x → St dC dI cy ad s u H locs → W p l e R s m args below meth c H locs 0 0 QW (F0 m (pc + 3) ls rest)) : W p l e R s m args below meth c H locs 0 0 QW (F0 m pc ls (.int x :: .ref (ad j) :: rest)) := by
  refine va_put C.1.1 C.1.2.1 C.1.2.2.2.2 hi tyX2 tyX2_ok nmX2 C.1.2.2.2.1 C.2.1 S.1 S.2.1 S.2.2 j (wd_o2 hj) rfl 2 (by decide) (C.1.2.2.2.2 _ hl) (fun _ h => h) rfl (ty := .int) (by decide +kernel) rfl rfl (Nat.le_of_ble_eq_true rfl) hd (fun H1 locs1 hP hD hS => kk _ H1 locs1 rfl (S.set (ly_lt hj (by decide)) ?_ cel_row_ne hP hS))
  simp only [cel, hj]
  rw [mset_same]
  rfl
theorem kp2_3 {j index : Nat} {x : Int32} (C : CX p s m args meth c dC dI cy ad tz cc nL ret own Ts) (S : St dC dI cy ad s g H locs) (hj : ly j = 2) (hi : ∀ w ∈ wsX20, w ∈ Ts) (hl : Cond.fieldLink own index "ClawCase$Before" "toy" "I" ∈ Ts) (hd : decode cc pc = .ok (.putfield index, 3)) (kk : ∀ (u : Mm) (H : Heap) (locs : List Loc), u = mset g j 3 x → St dC dI cy ad s u H locs → W p l e R s m args below meth c H locs 0 0 QW (F0 m (pc + 3) ls rest)) : W p l e R s m args below meth c H locs 0 0 QW (F0 m pc ls (.int x :: .ref (ad j) :: rest)) := by
  refine va_put C.1.1 C.1.2.1 C.1.2.2.2.2 hi tyX2 tyX2_ok nmX2 C.1.2.2.2.1 C.2.1 S.1 S.2.1 S.2.2 j (wd_o2 hj) rfl 3 (by decide) (C.1.2.2.2.2 _ hl) (fun _ h => h) rfl (ty := .int) (by decide +kernel) rfl rfl (Nat.le_of_ble_eq_true rfl) hd (fun H1 locs1 hP hD hS => kk _ H1 locs1 rfl (S.set (ly_lt hj (by decide)) ?_ cel_row_ne hP hS))
  simp only [cel, hj]
  rw [mset_same]
  rfl
theorem kp2_4 {j index : Nat} {x : Int32} (C : CX p s m args meth c dC dI cy ad tz cc nL ret own Ts) (S : St dC dI cy ad s g H locs) (hj : ly j = 2) (hi : ∀ w ∈ wsX20, w ∈ Ts) (hl : Cond.fieldLink own index "ClawCase$Before" "place" "I" ∈ Ts) (hd : decode cc pc = .ok (.putfield index, 3)) (kk : ∀ (u : Mm) (H : Heap) (locs : List Loc), u = mset g j 4 x → St dC dI cy ad s u H locs → W p l e R s m args below meth c H locs 0 0 QW (F0 m (pc + 3) ls rest)) : W p l e R s m args below meth c H locs 0 0 QW (F0 m pc ls (.int x :: .ref (ad j) :: rest)) := by
  refine va_put C.1.1 C.1.2.1 C.1.2.2.2.2 hi tyX2 tyX2_ok nmX2 C.1.2.2.2.1 C.2.1 S.1 S.2.1 S.2.2 j (wd_o2 hj) rfl 4 (by decide) (C.1.2.2.2.2 _ hl) (fun _ h => h) rfl (ty := .int) (by decide +kernel) rfl rfl (Nat.le_of_ble_eq_true rfl) hd (fun H1 locs1 hP hD hS => kk _ H1 locs1 rfl (S.set (ly_lt hj (by decide)) ?_ cel_row_ne hP hS))
  simp only [cel, hj]
  rw [mset_same]
  rfl
theorem kp2_5 {j index : Nat} {x : Int32} (C : CX p s m args meth c dC dI cy ad tz cc nL ret own Ts) (S : St dC dI cy ad s g H locs) (hj : ly j = 2) (hi : ∀ w ∈ wsX20, w ∈ Ts) (hl : Cond.fieldLink own index "ClawCase$Before" "under" "I" ∈ Ts) (hd : decode cc pc = .ok (.putfield index, 3)) (kk : ∀ (u : Mm) (H : Heap) (locs : List Loc), u = mset g j 5 x → St dC dI cy ad s u H locs → W p l e R s m args below meth c H locs 0 0 QW (F0 m (pc + 3) ls rest)) : W p l e R s m args below meth c H locs 0 0 QW (F0 m pc ls (.int x :: .ref (ad j) :: rest)) := by
  refine va_put C.1.1 C.1.2.1 C.1.2.2.2.2 hi tyX2 tyX2_ok nmX2 C.1.2.2.2.1 C.2.1 S.1 S.2.1 S.2.2 j (wd_o2 hj) rfl 5 (by decide) (C.1.2.2.2.2 _ hl) (fun _ h => h) rfl (ty := .int) (by decide +kernel) rfl rfl (Nat.le_of_ble_eq_true rfl) hd (fun H1 locs1 hP hD hS => kk _ H1 locs1 rfl (S.set (ly_lt hj (by decide)) ?_ cel_row_ne hP hS))
  simp only [cel, hj]
  rw [mset_same]
  rfl
theorem kg3 {j index k : Nat} {v : Value} (C : CX p s m args meth c dC dI cy ad tz cc nL ret own Ts) (S : St dC dI cy ad s g H locs) (hj : ly j = 3) (hk : k < 9) (hi : ∀ w ∈ wsX30, w ∈ Ts) (hl : Cond.fieldLink own index (TX3 k).1 (TX3 k).2.1 (TX3 k).2.2.1 ∈ Ts) (hv : ([.ref (ad (j + 1)), .ref (ad (j + 2)), .ref (ad (j + 3)), .ref (ad (j + 4)), .int (g.1 j 4), .int (g.1 j 5), .int (g.1 j 6), .int (g.1 j 7), .int (g.1 j 8)] : List Value)[k]? = some v) (hd : decode cc pc = .ok (.getfield index, 3)) (kk : W p l e R s m args below meth c H locs 0 0 QW (F0 m (pc + 3) ls (v :: rest))) : W p l e R s m args below meth c H locs 0 0 QW (F0 m pc ls (.ref (ad j) :: rest)) :=
  va_get C.1.1 C.1.2.1 C.1.2.2.2.2 hi C.1.2.2.2.1 C.2.1 S.1 j (wd_o3 hj) rfl k hk (C.1.2.2.2.2 _ hl) (fun _ h => h) hv hd kk
theorem kp3_4 {j index : Nat} {x : Int32} (C : CX p s m args meth c dC dI cy ad tz cc nL ret own Ts) (S : St dC dI cy ad s g H locs) (hj : ly j = 3) (hi : ∀ w ∈ wsX30, w ∈ Ts) (hl : Cond.fieldLink own index "ClawCase$Box" "toys" "I" ∈ Ts) (hd : decode cc pc = .ok (.putfield index, 3)) (kk : ∀ (u : Mm) (H : Heap) (locs : List Loc), u = mset g j 4 x → St dC dI cy ad s u H locs → W p l e R s m args below meth c H locs 0 0 QW (F0 m (pc + 3) ls rest)) : W p l e R s m args below meth c H locs 0 0 QW (F0 m pc ls (.int x :: .ref (ad j) :: rest)) := by
  refine va_put C.1.1 C.1.2.1 C.1.2.2.2.2 hi tyX3 tyX3_ok nmX3 C.1.2.2.2.1 C.2.1 S.1 S.2.1 S.2.2 j (wd_o3 hj) rfl 4 (by decide) (C.1.2.2.2.2 _ hl) (fun _ h => h) rfl (ty := .int) (by decide +kernel) rfl rfl (Nat.le_of_ble_eq_true rfl) hd (fun H1 locs1 hP hD hS => kk _ H1 locs1 rfl (S.set (ly_lt hj (by decide)) ?_ cel_row_ne hP hS))
  simp only [cel, hj]
  rw [mset_same]
  rfl
theorem kp3_5 {j index : Nat} {x : Int32} (C : CX p s m args meth c dC dI cy ad tz cc nL ret own Ts) (S : St dC dI cy ad s g H locs) (hj : ly j = 3) (hi : ∀ w ∈ wsX30, w ∈ Ts) (hl : Cond.fieldLink own index "ClawCase$Box" "low" "I" ∈ Ts) (hd : decode cc pc = .ok (.putfield index, 3)) (kk : ∀ (u : Mm) (H : Heap) (locs : List Loc), u = mset g j 5 x → St dC dI cy ad s u H locs → W p l e R s m args below meth c H locs 0 0 QW (F0 m (pc + 3) ls rest)) : W p l e R s m args below meth c H locs 0 0 QW (F0 m pc ls (.int x :: .ref (ad j) :: rest)) := by
  refine va_put C.1.1 C.1.2.1 C.1.2.2.2.2 hi tyX3 tyX3_ok nmX3 C.1.2.2.2.1 C.2.1 S.1 S.2.1 S.2.2 j (wd_o3 hj) rfl 5 (by decide) (C.1.2.2.2.2 _ hl) (fun _ h => h) rfl (ty := .int) (by decide +kernel) rfl rfl (Nat.le_of_ble_eq_true rfl) hd (fun H1 locs1 hP hD hS => kk _ H1 locs1 rfl (S.set (ly_lt hj (by decide)) ?_ cel_row_ne hP hS))
  simp only [cel, hj]
  rw [mset_same]
  rfl
theorem kp3_6 {j index : Nat} {x : Int32} (C : CX p s m args meth c dC dI cy ad tz cc nL ret own Ts) (S : St dC dI cy ad s g H locs) (hj : ly j = 3) (hi : ∀ w ∈ wsX30, w ∈ Ts) (hl : Cond.fieldLink own index "ClawCase$Box" "high" "I" ∈ Ts) (hd : decode cc pc = .ok (.putfield index, 3)) (kk : ∀ (u : Mm) (H : Heap) (locs : List Loc), u = mset g j 6 x → St dC dI cy ad s u H locs → W p l e R s m args below meth c H locs 0 0 QW (F0 m (pc + 3) ls rest)) : W p l e R s m args below meth c H locs 0 0 QW (F0 m pc ls (.int x :: .ref (ad j) :: rest)) := by
  refine va_put C.1.1 C.1.2.1 C.1.2.2.2.2 hi tyX3 tyX3_ok nmX3 C.1.2.2.2.1 C.2.1 S.1 S.2.1 S.2.2 j (wd_o3 hj) rfl 6 (by decide) (C.1.2.2.2.2 _ hl) (fun _ h => h) rfl (ty := .int) (by decide +kernel) rfl rfl (Nat.le_of_ble_eq_true rfl) hd (fun H1 locs1 hP hD hS => kk _ H1 locs1 rfl (S.set (ly_lt hj (by decide)) ?_ cel_row_ne hP hS))
  simp only [cel, hj]
  rw [mset_same]
  rfl
theorem kp3_7 {j index : Nat} {x : Int32} (C : CX p s m args meth c dC dI cy ad tz cc nL ret own Ts) (S : St dC dI cy ad s g H locs) (hj : ly j = 3) (hi : ∀ w ∈ wsX30, w ∈ Ts) (hl : Cond.fieldLink own index "ClawCase$Box" "every" "I" ∈ Ts) (hd : decode cc pc = .ok (.putfield index, 3)) (kk : ∀ (u : Mm) (H : Heap) (locs : List Loc), u = mset g j 7 x → St dC dI cy ad s u H locs → W p l e R s m args below meth c H locs 0 0 QW (F0 m (pc + 3) ls rest)) : W p l e R s m args below meth c H locs 0 0 QW (F0 m pc ls (.int x :: .ref (ad j) :: rest)) := by
  refine va_put C.1.1 C.1.2.1 C.1.2.2.2.2 hi tyX3 tyX3_ok nmX3 C.1.2.2.2.1 C.2.1 S.1 S.2.1 S.2.2 j (wd_o3 hj) rfl 7 (by decide) (C.1.2.2.2.2 _ hl) (fun _ h => h) rfl (ty := .int) (by decide +kernel) rfl rfl (Nat.le_of_ble_eq_true rfl) hd (fun H1 locs1 hP hD hS => kk _ H1 locs1 rfl (S.set (ly_lt hj (by decide)) ?_ cel_row_ne hP hS))
  simp only [cel, hj]
  rw [mset_same]
  rfl
theorem kp3_8 {j index : Nat} {x : Int32} (C : CX p s m args meth c dC dI cy ad tz cc nL ret own Ts) (S : St dC dI cy ad s g H locs) (hj : ly j = 3) (hi : ∀ w ∈ wsX30, w ∈ Ts) (hl : Cond.fieldLink own index "ClawCase$Box" "plays" "I" ∈ Ts) (hd : decode cc pc = .ok (.putfield index, 3)) (kk : ∀ (u : Mm) (H : Heap) (locs : List Loc), u = mset g j 8 x → St dC dI cy ad s u H locs → W p l e R s m args below meth c H locs 0 0 QW (F0 m (pc + 3) ls rest)) : W p l e R s m args below meth c H locs 0 0 QW (F0 m pc ls (.int x :: .ref (ad j) :: rest)) := by
  refine va_put C.1.1 C.1.2.1 C.1.2.2.2.2 hi tyX3 tyX3_ok nmX3 C.1.2.2.2.1 C.2.1 S.1 S.2.1 S.2.2 j (wd_o3 hj) rfl 8 (by decide) (C.1.2.2.2.2 _ hl) (fun _ h => h) rfl (ty := .int) (by decide +kernel) rfl rfl (Nat.le_of_ble_eq_true rfl) hd (fun H1 locs1 hP hD hS => kk _ H1 locs1 rfl (S.set (ly_lt hj (by decide)) ?_ cel_row_ne hP hS))
  simp only [cel, hj]
  rw [mset_same]
  rfl
theorem kg4 {j index k : Nat} {v : Value} (C : CX p s m args meth c dC dI cy ad tz cc nL ret own Ts) (S : St dC dI cy ad s g H locs) (hj : ly j = 4) (hk : k < 6) (hi : ∀ w ∈ wsX40, w ∈ Ts) (hl : Cond.fieldLink own index (TX4 k).1 (TX4 k).2.1 (TX4 k).2.2.1 ∈ Ts) (hv : ([.ref (ad 42), .ref (ad 47), .ref (ad 48), .int (g.1 j 3), .int (g.1 j 4), .ref (ad 49)] : List Value)[k]? = some v) (hd : decode cc pc = .ok (.getfield index, 3)) (kk : W p l e R s m args below meth c H locs 0 0 QW (F0 m (pc + 3) ls (v :: rest))) : W p l e R s m args below meth c H locs 0 0 QW (F0 m pc ls (.ref (ad j) :: rest)) :=
  va_get C.1.1 C.1.2.1 C.1.2.2.2.2 hi C.1.2.2.2.1 C.2.1 S.1 j (wd_o4 hj) rfl k hk (C.1.2.2.2.2 _ hl) (fun _ h => h) hv hd kk
theorem kp4_3 {j index : Nat} {x : Int32} (C : CX p s m args meth c dC dI cy ad tz cc nL ret own Ts) (S : St dC dI cy ad s g H locs) (hj : ly j = 4) (hi : ∀ w ∈ wsX40, w ∈ Ts) (hl : Cond.fieldLink own index "ClawCase$Foretold" "bestToys" "I" ∈ Ts) (hd : decode cc pc = .ok (.putfield index, 3)) (kk : ∀ (u : Mm) (H : Heap) (locs : List Loc), u = mset g j 3 x → St dC dI cy ad s u H locs → W p l e R s m args below meth c H locs 0 0 QW (F0 m (pc + 3) ls rest)) : W p l e R s m args below meth c H locs 0 0 QW (F0 m pc ls (.int x :: .ref (ad j) :: rest)) := by
  refine va_put C.1.1 C.1.2.1 C.1.2.2.2.2 hi tyX4 tyX4_ok nmX4 C.1.2.2.2.1 C.2.1 S.1 S.2.1 S.2.2 j (wd_o4 hj) rfl 3 (by decide) (C.1.2.2.2.2 _ hl) (fun _ h => h) rfl (ty := .int) (by decide +kernel) rfl rfl (Nat.le_of_ble_eq_true rfl) hd (fun H1 locs1 hP hD hS => kk _ H1 locs1 rfl (S.set (ly_lt hj (by decide)) ?_ cel_row_ne hP hS))
  simp only [cel, hj]
  rw [mset_same]
  rfl
theorem kp4_4 {j index : Nat} {x : Int32} (C : CX p s m args meth c dC dI cy ad tz cc nL ret own Ts) (S : St dC dI cy ad s g H locs) (hj : ly j = 4) (hi : ∀ w ∈ wsX40, w ∈ Ts) (hl : Cond.fieldLink own index "ClawCase$Foretold" "bestWeight" "I" ∈ Ts) (hd : decode cc pc = .ok (.putfield index, 3)) (kk : ∀ (u : Mm) (H : Heap) (locs : List Loc), u = mset g j 4 x → St dC dI cy ad s u H locs → W p l e R s m args below meth c H locs 0 0 QW (F0 m (pc + 3) ls rest)) : W p l e R s m args below meth c H locs 0 0 QW (F0 m pc ls (.int x :: .ref (ad j) :: rest)) := by
  refine va_put C.1.1 C.1.2.1 C.1.2.2.2.2 hi tyX4 tyX4_ok nmX4 C.1.2.2.2.1 C.2.1 S.1 S.2.1 S.2.2 j (wd_o4 hj) rfl 4 (by decide) (C.1.2.2.2.2 _ hl) (fun _ h => h) rfl (ty := .int) (by decide +kernel) rfl rfl (Nat.le_of_ble_eq_true rfl) hd (fun H1 locs1 hP hD hS => kk _ H1 locs1 rfl (S.set (ly_lt hj (by decide)) ?_ cel_row_ne hP hS))
  simp only [cel, hj]
  rw [mset_same]
  rfl
theorem kg5 {j index k : Nat} {v : Value} (C : CX p s m args meth c dC dI cy ad tz cc nL ret own Ts) (S : St dC dI cy ad s g H locs) (hj : ly j = 5) (hk : k < 8) (hi : ∀ w ∈ wsX50, w ∈ Ts) (hl : Cond.fieldLink own index (TX5 k).1 (TX5 k).2.1 (TX5 k).2.2.1 ∈ Ts) (hv : ([.ref (ad 3), .ref (ad 4), .int (g.1 j 2), .int (g.1 j 3), .int (g.1 j 4), .int (g.1 j 5), .int (g.1 j 6), .int (g.1 j 7)] : List Value)[k]? = some v) (hd : decode cc pc = .ok (.getfield index, 3)) (kk : W p l e R s m args below meth c H locs 0 0 QW (F0 m (pc + 3) ls (v :: rest))) : W p l e R s m args below meth c H locs 0 0 QW (F0 m pc ls (.ref (ad j) :: rest)) :=
  va_get C.1.1 C.1.2.1 C.1.2.2.2.2 hi C.1.2.2.2.1 C.2.1 S.1 j (wd_o5 hj) rfl k hk (C.1.2.2.2.2 _ hl) (fun _ h => h) hv hd kk
theorem kp5_2 {j index : Nat} {x : Int32} (C : CX p s m args meth c dC dI cy ad tz cc nL ret own Ts) (S : St dC dI cy ad s g H locs) (hj : ly j = 5) (hi : ∀ w ∈ wsX50, w ∈ Ts) (hl : Cond.fieldLink own index "ClawCase$Reader" "bytes" "I" ∈ Ts) (hd : decode cc pc = .ok (.putfield index, 3)) (kk : ∀ (u : Mm) (H : Heap) (locs : List Loc), u = mset g j 2 x → St dC dI cy ad s u H locs → W p l e R s m args below meth c H locs 0 0 QW (F0 m (pc + 3) ls rest)) : W p l e R s m args below meth c H locs 0 0 QW (F0 m pc ls (.int x :: .ref (ad j) :: rest)) := by
  refine va_put C.1.1 C.1.2.1 C.1.2.2.2.2 hi tyX5 tyX5_ok nmX5 C.1.2.2.2.1 C.2.1 S.1 S.2.1 S.2.2 j (wd_o5 hj) rfl 2 (by decide) (C.1.2.2.2.2 _ hl) (fun _ h => h) rfl (ty := .int) (by decide +kernel) rfl rfl (Nat.le_of_ble_eq_true rfl) hd (fun H1 locs1 hP hD hS => kk _ H1 locs1 rfl (S.set (ly_lt hj (by decide)) ?_ cel_row_ne hP hS))
  simp only [cel, hj]
  rw [mset_same]
  rfl
theorem kp5_3 {j index : Nat} {x : Int32} (C : CX p s m args meth c dC dI cy ad tz cc nL ret own Ts) (S : St dC dI cy ad s g H locs) (hj : ly j = 5) (hi : ∀ w ∈ wsX50, w ∈ Ts) (hl : Cond.fieldLink own index "ClawCase$Reader" "wrong" "I" ∈ Ts) (hd : decode cc pc = .ok (.putfield index, 3)) (kk : ∀ (u : Mm) (H : Heap) (locs : List Loc), u = mset g j 3 x → St dC dI cy ad s u H locs → W p l e R s m args below meth c H locs 0 0 QW (F0 m (pc + 3) ls rest)) : W p l e R s m args below meth c H locs 0 0 QW (F0 m pc ls (.int x :: .ref (ad j) :: rest)) := by
  refine va_put C.1.1 C.1.2.1 C.1.2.2.2.2 hi tyX5 tyX5_ok nmX5 C.1.2.2.2.1 C.2.1 S.1 S.2.1 S.2.2 j (wd_o5 hj) rfl 3 (by decide) (C.1.2.2.2.2 _ hl) (fun _ h => h) rfl (ty := .int) (by decide +kernel) rfl rfl (Nat.le_of_ble_eq_true rfl) hd (fun H1 locs1 hP hD hS => kk _ H1 locs1 rfl (S.set (ly_lt hj (by decide)) ?_ cel_row_ne hP hS))
  simp only [cel, hj]
  rw [mset_same]
  rfl
theorem kp5_4 {j index : Nat} {x : Int32} (C : CX p s m args meth c dC dI cy ad tz cc nL ret own Ts) (S : St dC dI cy ad s g H locs) (hj : ly j = 5) (hi : ∀ w ∈ wsX50, w ∈ Ts) (hl : Cond.fieldLink own index "ClawCase$Reader" "at" "I" ∈ Ts) (hd : decode cc pc = .ok (.putfield index, 3)) (kk : ∀ (u : Mm) (H : Heap) (locs : List Loc), u = mset g j 4 x → St dC dI cy ad s u H locs → W p l e R s m args below meth c H locs 0 0 QW (F0 m (pc + 3) ls rest)) : W p l e R s m args below meth c H locs 0 0 QW (F0 m pc ls (.int x :: .ref (ad j) :: rest)) := by
  refine va_put C.1.1 C.1.2.1 C.1.2.2.2.2 hi tyX5 tyX5_ok nmX5 C.1.2.2.2.1 C.2.1 S.1 S.2.1 S.2.2 j (wd_o5 hj) rfl 4 (by decide) (C.1.2.2.2.2 _ hl) (fun _ h => h) rfl (ty := .int) (by decide +kernel) rfl rfl (Nat.le_of_ble_eq_true rfl) hd (fun H1 locs1 hP hD hS => kk _ H1 locs1 rfl (S.set (ly_lt hj (by decide)) ?_ cel_row_ne hP hS))
  simp only [cel, hj]
  rw [mset_same]
  rfl
theorem kp5_5 {j index : Nat} {x : Int32} (C : CX p s m args meth c dC dI cy ad tz cc nL ret own Ts) (S : St dC dI cy ad s g H locs) (hj : ly j = 5) (hi : ∀ w ∈ wsX50, w ∈ Ts) (hl : Cond.fieldLink own index "ClawCase$Reader" "token" "I" ∈ Ts) (hd : decode cc pc = .ok (.putfield index, 3)) (kk : ∀ (u : Mm) (H : Heap) (locs : List Loc), u = mset g j 5 x → St dC dI cy ad s u H locs → W p l e R s m args below meth c H locs 0 0 QW (F0 m (pc + 3) ls rest)) : W p l e R s m args below meth c H locs 0 0 QW (F0 m pc ls (.int x :: .ref (ad j) :: rest)) := by
  refine va_put C.1.1 C.1.2.1 C.1.2.2.2.2 hi tyX5 tyX5_ok nmX5 C.1.2.2.2.1 C.2.1 S.1 S.2.1 S.2.2 j (wd_o5 hj) rfl 5 (by decide) (C.1.2.2.2.2 _ hl) (fun _ h => h) rfl (ty := .int) (by decide +kernel) rfl rfl (Nat.le_of_ble_eq_true rfl) hd (fun H1 locs1 hP hD hS => kk _ H1 locs1 rfl (S.set (ly_lt hj (by decide)) ?_ cel_row_ne hP hS))
  simp only [cel, hj]
  rw [mset_same]
  rfl
theorem kp5_6 {j index : Nat} {x : Int32} (C : CX p s m args meth c dC dI cy ad tz cc nL ret own Ts) (S : St dC dI cy ad s g H locs) (hj : ly j = 5) (hi : ∀ w ∈ wsX50, w ∈ Ts) (hl : Cond.fieldLink own index "ClawCase$Reader" "next" "I" ∈ Ts) (hd : decode cc pc = .ok (.putfield index, 3)) (kk : ∀ (u : Mm) (H : Heap) (locs : List Loc), u = mset g j 6 x → St dC dI cy ad s u H locs → W p l e R s m args below meth c H locs 0 0 QW (F0 m (pc + 3) ls rest)) : W p l e R s m args below meth c H locs 0 0 QW (F0 m pc ls (.int x :: .ref (ad j) :: rest)) := by
  refine va_put C.1.1 C.1.2.1 C.1.2.2.2.2 hi tyX5 tyX5_ok nmX5 C.1.2.2.2.1 C.2.1 S.1 S.2.1 S.2.2 j (wd_o5 hj) rfl 6 (by decide) (C.1.2.2.2.2 _ hl) (fun _ h => h) rfl (ty := .int) (by decide +kernel) rfl rfl (Nat.le_of_ble_eq_true rfl) hd (fun H1 locs1 hP hD hS => kk _ H1 locs1 rfl (S.set (ly_lt hj (by decide)) ?_ cel_row_ne hP hS))
  simp only [cel, hj]
  rw [mset_same]
  rfl
theorem kp5_7 {j index : Nat} {x : Int32} (C : CX p s m args meth c dC dI cy ad tz cc nL ret own Ts) (S : St dC dI cy ad s g H locs) (hj : ly j = 5) (hi : ∀ w ∈ wsX50, w ∈ Ts) (hl : Cond.fieldLink own index "ClawCase$Reader" "number" "I" ∈ Ts) (hd : decode cc pc = .ok (.putfield index, 3)) (kk : ∀ (u : Mm) (H : Heap) (locs : List Loc), u = mset g j 7 x → St dC dI cy ad s u H locs → W p l e R s m args below meth c H locs 0 0 QW (F0 m (pc + 3) ls rest)) : W p l e R s m args below meth c H locs 0 0 QW (F0 m pc ls (.int x :: .ref (ad j) :: rest)) := by
  refine va_put C.1.1 C.1.2.1 C.1.2.2.2.2 hi tyX5 tyX5_ok nmX5 C.1.2.2.2.1 C.2.1 S.1 S.2.1 S.2.2 j (wd_o5 hj) rfl 7 (by decide) (C.1.2.2.2.2 _ hl) (fun _ h => h) rfl (ty := .int) (by decide +kernel) rfl rfl (Nat.le_of_ble_eq_true rfl) hd (fun H1 locs1 hP hD hS => kk _ H1 locs1 rfl (S.set (ly_lt hj (by decide)) ?_ cel_row_ne hP hS))
  simp only [cel, hj]
  rw [mset_same]
  rfl
theorem kg6 {j index k : Nat} {v : Value} (C : CX p s m args meth c dC dI cy ad tz cc nL ret own Ts) (S : St dC dI cy ad s g H locs) (hj : ly j = 6) (hk : k < 4) (hi : ∀ w ∈ wsX60, w ∈ Ts) (hl : Cond.fieldLink own index (TX6 k).1 (TX6 k).2.1 (TX6 k).2.2.1 ∈ Ts) (hv : ([.ref (ad (j + 1)), .int (g.1 j 1), .int (g.1 j 2), .int (g.1 j 3)] : List Value)[k]? = some v) (hd : decode cc pc = .ok (.getfield index, 3)) (kk : W p l e R s m args below meth c H locs 0 0 QW (F0 m (pc + 3) ls (v :: rest))) : W p l e R s m args below meth c H locs 0 0 QW (F0 m pc ls (.ref (ad j) :: rest)) :=
  va_get C.1.1 C.1.2.1 C.1.2.2.2.2 hi C.1.2.2.2.1 C.2.1 S.1 j (wd_o6 hj) rfl k hk (C.1.2.2.2.2 _ hl) (fun _ h => h) hv hd kk
theorem kp6_1 {j index : Nat} {x : Int32} (C : CX p s m args meth c dC dI cy ad tz cc nL ret own Ts) (S : St dC dI cy ad s g H locs) (hj : ly j = 6) (hi : ∀ w ∈ wsX60, w ∈ Ts) (hl : Cond.fieldLink own index "ClawCase$Row" "missing" "Z" ∈ Ts) (hz : narrow .boolean (.int x) = .int x ∧ fits .boolean (.int x) = true) (hd : decode cc pc = .ok (.putfield index, 3)) (kk : ∀ (u : Mm) (H : Heap) (locs : List Loc), u = mset g j 1 x → St dC dI cy ad s u H locs → W p l e R s m args below meth c H locs 0 0 QW (F0 m (pc + 3) ls rest)) : W p l e R s m args below meth c H locs 0 0 QW (F0 m pc ls (.int x :: .ref (ad j) :: rest)) := by
  refine va_put C.1.1 C.1.2.1 C.1.2.2.2.2 hi tyX6 tyX6_ok nmX6 C.1.2.2.2.1 C.2.1 S.1 S.2.1 S.2.2 j (wd_o6 hj) rfl 1 (by decide) (C.1.2.2.2.2 _ hl) (fun _ h => h) rfl (ty := .boolean) (by decide +kernel) hz.1 hz.2 (Nat.le_of_ble_eq_true rfl) hd (fun H1 locs1 hP hD hS => kk _ H1 locs1 rfl (S.set (ly_lt hj (by decide)) ?_ cel_row_ne hP hS))
  simp only [cel, hj]
  rw [mset_same]
  rfl
theorem kp6_2 {j index : Nat} {x : Int32} (C : CX p s m args meth c dC dI cy ad tz cc nL ret own Ts) (S : St dC dI cy ad s g H locs) (hj : ly j = 6) (hi : ∀ w ∈ wsX60, w ∈ Ts) (hl : Cond.fieldLink own index "ClawCase$Row" "lane" "I" ∈ Ts) (hd : decode cc pc = .ok (.putfield index, 3)) (kk : ∀ (u : Mm) (H : Heap) (locs : List Loc), u = mset g j 2 x → St dC dI cy ad s u H locs → W p l e R s m args below meth c H locs 0 0 QW (F0 m (pc + 3) ls rest)) : W p l e R s m args below meth c H locs 0 0 QW (F0 m pc ls (.int x :: .ref (ad j) :: rest)) := by
  refine va_put C.1.1 C.1.2.1 C.1.2.2.2.2 hi tyX6 tyX6_ok nmX6 C.1.2.2.2.1 C.2.1 S.1 S.2.1 S.2.2 j (wd_o6 hj) rfl 2 (by decide) (C.1.2.2.2.2 _ hl) (fun _ h => h) rfl (ty := .int) (by decide +kernel) rfl rfl (Nat.le_of_ble_eq_true rfl) hd (fun H1 locs1 hP hD hS => kk _ H1 locs1 rfl (S.set (ly_lt hj (by decide)) ?_ cel_row_ne hP hS))
  simp only [cel, hj]
  rw [mset_same]
  rfl
theorem kp6_3 {j index : Nat} {x : Int32} (C : CX p s m args meth c dC dI cy ad tz cc nL ret own Ts) (S : St dC dI cy ad s g H locs) (hj : ly j = 6) (hi : ∀ w ∈ wsX60, w ∈ Ts) (hl : Cond.fieldLink own index "ClawCase$Row" "size" "I" ∈ Ts) (hd : decode cc pc = .ok (.putfield index, 3)) (kk : ∀ (u : Mm) (H : Heap) (locs : List Loc), u = mset g j 3 x → St dC dI cy ad s u H locs → W p l e R s m args below meth c H locs 0 0 QW (F0 m (pc + 3) ls rest)) : W p l e R s m args below meth c H locs 0 0 QW (F0 m pc ls (.int x :: .ref (ad j) :: rest)) := by
  refine va_put C.1.1 C.1.2.1 C.1.2.2.2.2 hi tyX6 tyX6_ok nmX6 C.1.2.2.2.1 C.2.1 S.1 S.2.1 S.2.2 j (wd_o6 hj) rfl 3 (by decide) (C.1.2.2.2.2 _ hl) (fun _ h => h) rfl (ty := .int) (by decide +kernel) rfl rfl (Nat.le_of_ble_eq_true rfl) hd (fun H1 locs1 hP hD hS => kk _ H1 locs1 rfl (S.set (ly_lt hj (by decide)) ?_ cel_row_ne hP hS))
  simp only [cel, hj]
  rw [mset_same]
  rfl
theorem kg7 {j index k : Nat} {v : Value} (C : CX p s m args meth c dC dI cy ad tz cc nL ret own Ts) (S : St dC dI cy ad s g H locs) (hj : ly j = 7) (hk : k < 9) (hi : ∀ w ∈ wsX70, w ∈ Ts) (hl : Cond.fieldLink own index (TX7 k).1 (TX7 k).2.1 (TX7 k).2.2.1 ∈ Ts) (hv : ([.ref (ad 1), .ref (ad 2), .ref (ad 9), .ref (ad 14), .ref (ad 40), .ref (ad 41), .ref (ad 58), .int (g.1 j 7), .int (g.1 j 8)] : List Value)[k]? = some v) (hd : decode cc pc = .ok (.getfield index, 3)) (kk : W p l e R s m args below meth c H locs 0 0 QW (F0 m (pc + 3) ls (v :: rest))) : W p l e R s m args below meth c H locs 0 0 QW (F0 m pc ls (.ref (ad j) :: rest)) :=
  va_get C.1.1 C.1.2.1 C.1.2.2.2.2 hi C.1.2.2.2.1 C.2.1 S.1 j (wd_o7 hj) rfl k hk (C.1.2.2.2.2 _ hl) (fun _ h => h) hv hd kk
theorem kp7_7 {j index : Nat} {x : Int32} (C : CX p s m args meth c dC dI cy ad tz cc nL ret own Ts) (S : St dC dI cy ad s g H locs) (hj : ly j = 7) (hi : ∀ w ∈ wsX70, w ∈ Ts) (hl : Cond.fieldLink own index "ClawCase" "latestFault" "I" ∈ Ts) (hd : decode cc pc = .ok (.putfield index, 3)) (kk : ∀ (u : Mm) (H : Heap) (locs : List Loc), u = mset g j 7 x → St dC dI cy ad s u H locs → W p l e R s m args below meth c H locs 0 0 QW (F0 m (pc + 3) ls rest)) : W p l e R s m args below meth c H locs 0 0 QW (F0 m pc ls (.int x :: .ref (ad j) :: rest)) := by
  refine va_put C.1.1 C.1.2.1 C.1.2.2.2.2 hi tyX7 tyX7_ok nmX7 C.1.2.2.2.1 C.2.1 S.1 S.2.1 S.2.2 j (wd_o7 hj) rfl 7 (by decide) (C.1.2.2.2.2 _ hl) (fun _ h => h) rfl (ty := .int) (by decide +kernel) rfl rfl (Nat.le_of_ble_eq_true rfl) hd (fun H1 locs1 hP hD hS => kk _ H1 locs1 rfl (S.set (ly_lt hj (by decide)) ?_ cel_row_ne hP hS))
  simp only [cel, hj]
  rw [mset_same]
  rfl
theorem kp7_8 {j index : Nat} {x : Int32} (C : CX p s m args meth c dC dI cy ad tz cc nL ret own Ts) (S : St dC dI cy ad s g H locs) (hj : ly j = 7) (hi : ∀ w ∈ wsX70, w ∈ Ts) (hl : Cond.fieldLink own index "ClawCase" "latestFinding" "I" ∈ Ts) (hd : decode cc pc = .ok (.putfield index, 3)) (kk : ∀ (u : Mm) (H : Heap) (locs : List Loc), u = mset g j 8 x → St dC dI cy ad s u H locs → W p l e R s m args below meth c H locs 0 0 QW (F0 m (pc + 3) ls rest)) : W p l e R s m args below meth c H locs 0 0 QW (F0 m pc ls (.int x :: .ref (ad j) :: rest)) := by
  refine va_put C.1.1 C.1.2.1 C.1.2.2.2.2 hi tyX7 tyX7_ok nmX7 C.1.2.2.2.1 C.2.1 S.1 S.2.1 S.2.2 j (wd_o7 hj) rfl 8 (by decide) (C.1.2.2.2.2 _ hl) (fun _ h => h) rfl (ty := .int) (by decide +kernel) rfl rfl (Nat.le_of_ble_eq_true rfl) hd (fun H1 locs1 hP hD hS => kk _ H1 locs1 rfl (S.set (ly_lt hj (by decide)) ?_ cel_row_ne hP hS))
  simp only [cel, hj]
  rw [mset_same]
  rfl
theorem kg8 {j index k : Nat} {v : Value} (C : CX p s m args meth c dC dI cy ad tz cc nL ret own Ts) (S : St dC dI cy ad s g H locs) (hj : ly j = 8) (hk : k < 24) (hi : ∀ w ∈ wsX80, w ∈ Ts) (hl : Cond.fieldLink own index (TX8 k).1 (TX8 k).2.1 (TX8 k).2.2.1 ∈ Ts) (hv : ([.ref (ad 87), .ref (ad 88), .ref (ad 89), .ref (ad 90), .int (g.1 j 4), .int (g.1 j 5), .ref (ad 91), .ref (ad 92), .ref (ad 93), .ref (ad 94), .ref (ad 95), .ref (ad 96), .int (g.1 j 12), .int (g.1 j 13), .int (g.1 j 14), .int (g.1 j 15), .int (g.1 j 16), .int (g.1 j 17), .ref (ad 97), .ref (ad 98), .long (g.2 0), .long (g.2 1), .ref (ad 99), .int (g.1 j 23)] : List Value)[k]? = some v) (hd : decode cc pc = .ok (.getfield index, 3)) (kk : W p l e R s m args below meth c H locs 0 0 QW (F0 m (pc + 3) ls (v :: rest))) : W p l e R s m args below meth c H locs 0 0 QW (F0 m pc ls (.ref (ad j) :: rest)) :=
  va_get C.1.1 C.1.2.1 C.1.2.2.2.2 hi C.1.2.2.2.1 C.2.1 S.1 j (wd_o8 hj) rfl k hk (C.1.2.2.2.2 _ hl) (fun _ h => h) hv hd kk
theorem kp8_4 {j index : Nat} {x : Int32} (C : CX p s m args meth c dC dI cy ad tz cc nL ret own Ts) (S : St dC dI cy ad s g H locs) (hj : ly j = 8) (hi : ∀ w ∈ wsX80, w ∈ Ts) (hl : Cond.fieldLink own index "ClawCaseModel" "manyActs" "I" ∈ Ts) (hd : decode cc pc = .ok (.putfield index, 3)) (kk : ∀ (u : Mm) (H : Heap) (locs : List Loc), u = mset g j 4 x → St dC dI cy ad s u H locs → W p l e R s m args below meth c H locs 0 0 QW (F0 m (pc + 3) ls rest)) : W p l e R s m args below meth c H locs 0 0 QW (F0 m pc ls (.int x :: .ref (ad j) :: rest)) := by
  refine va_put C.1.1 C.1.2.1 C.1.2.2.2.2 hi tyX8 tyX8_ok nmX8 C.1.2.2.2.1 C.2.1 S.1 S.2.1 S.2.2 j (wd_o8 hj) rfl 4 (by decide) (C.1.2.2.2.2 _ hl) (fun _ h => h) rfl (ty := .int) (by decide +kernel) rfl rfl (Nat.le_of_ble_eq_true rfl) hd (fun H1 locs1 hP hD hS => kk _ H1 locs1 rfl (S.set (ly_lt hj (by decide)) ?_ cel_row_ne hP hS))
  simp only [cel, hj]
  rw [mset_same]
  rfl
theorem kp8_5 {j index : Nat} {x : Int32} (C : CX p s m args meth c dC dI cy ad tz cc nL ret own Ts) (S : St dC dI cy ad s g H locs) (hj : ly j = 8) (hi : ∀ w ∈ wsX80, w ∈ Ts) (hl : Cond.fieldLink own index "ClawCaseModel" "found0" "I" ∈ Ts) (hd : decode cc pc = .ok (.putfield index, 3)) (kk : ∀ (u : Mm) (H : Heap) (locs : List Loc), u = mset g j 5 x → St dC dI cy ad s u H locs → W p l e R s m args below meth c H locs 0 0 QW (F0 m (pc + 3) ls rest)) : W p l e R s m args below meth c H locs 0 0 QW (F0 m pc ls (.int x :: .ref (ad j) :: rest)) := by
  refine va_put C.1.1 C.1.2.1 C.1.2.2.2.2 hi tyX8 tyX8_ok nmX8 C.1.2.2.2.1 C.2.1 S.1 S.2.1 S.2.2 j (wd_o8 hj) rfl 5 (by decide) (C.1.2.2.2.2 _ hl) (fun _ h => h) rfl (ty := .int) (by decide +kernel) rfl rfl (Nat.le_of_ble_eq_true rfl) hd (fun H1 locs1 hP hD hS => kk _ H1 locs1 rfl (S.set (ly_lt hj (by decide)) ?_ cel_row_ne hP hS))
  simp only [cel, hj]
  rw [mset_same]
  rfl
theorem kp8_12 {j index : Nat} {x : Int32} (C : CX p s m args meth c dC dI cy ad tz cc nL ret own Ts) (S : St dC dI cy ad s g H locs) (hj : ly j = 8) (hi : ∀ w ∈ wsX80, w ∈ Ts) (hl : Cond.fieldLink own index "ClawCaseModel" "tapeLong" "I" ∈ Ts) (hd : decode cc pc = .ok (.putfield index, 3)) (kk : ∀ (u : Mm) (H : Heap) (locs : List Loc), u = mset g j 12 x → St dC dI cy ad s u H locs → W p l e R s m args below meth c H locs 0 0 QW (F0 m (pc + 3) ls rest)) : W p l e R s m args below meth c H locs 0 0 QW (F0 m pc ls (.int x :: .ref (ad j) :: rest)) := by
  refine va_put C.1.1 C.1.2.1 C.1.2.2.2.2 hi tyX8 tyX8_ok nmX8 C.1.2.2.2.1 C.2.1 S.1 S.2.1 S.2.2 j (wd_o8 hj) rfl 12 (by decide) (C.1.2.2.2.2 _ hl) (fun _ h => h) rfl (ty := .int) (by decide +kernel) rfl rfl (Nat.le_of_ble_eq_true rfl) hd (fun H1 locs1 hP hD hS => kk _ H1 locs1 rfl (S.set (ly_lt hj (by decide)) ?_ cel_row_ne hP hS))
  simp only [cel, hj]
  rw [mset_same]
  rfl
theorem kp8_13 {j index : Nat} {x : Int32} (C : CX p s m args meth c dC dI cy ad tz cc nL ret own Ts) (S : St dC dI cy ad s g H locs) (hj : ly j = 8) (hi : ∀ w ∈ wsX80, w ∈ Ts) (hl : Cond.fieldLink own index "ClawCaseModel" "latestFault" "I" ∈ Ts) (hd : decode cc pc = .ok (.putfield index, 3)) (kk : ∀ (u : Mm) (H : Heap) (locs : List Loc), u = mset g j 13 x → St dC dI cy ad s u H locs → W p l e R s m args below meth c H locs 0 0 QW (F0 m (pc + 3) ls rest)) : W p l e R s m args below meth c H locs 0 0 QW (F0 m pc ls (.int x :: .ref (ad j) :: rest)) := by
  refine va_put C.1.1 C.1.2.1 C.1.2.2.2.2 hi tyX8 tyX8_ok nmX8 C.1.2.2.2.1 C.2.1 S.1 S.2.1 S.2.2 j (wd_o8 hj) rfl 13 (by decide) (C.1.2.2.2.2 _ hl) (fun _ h => h) rfl (ty := .int) (by decide +kernel) rfl rfl (Nat.le_of_ble_eq_true rfl) hd (fun H1 locs1 hP hD hS => kk _ H1 locs1 rfl (S.set (ly_lt hj (by decide)) ?_ cel_row_ne hP hS))
  simp only [cel, hj]
  rw [mset_same]
  rfl
theorem kp8_14 {j index : Nat} {x : Int32} (C : CX p s m args meth c dC dI cy ad tz cc nL ret own Ts) (S : St dC dI cy ad s g H locs) (hj : ly j = 8) (hi : ∀ w ∈ wsX80, w ∈ Ts) (hl : Cond.fieldLink own index "ClawCaseModel" "tokenAt" "I" ∈ Ts) (hd : decode cc pc = .ok (.putfield index, 3)) (kk : ∀ (u : Mm) (H : Heap) (locs : List Loc), u = mset g j 14 x → St dC dI cy ad s u H locs → W p l e R s m args below meth c H locs 0 0 QW (F0 m (pc + 3) ls rest)) : W p l e R s m args below meth c H locs 0 0 QW (F0 m pc ls (.int x :: .ref (ad j) :: rest)) := by
  refine va_put C.1.1 C.1.2.1 C.1.2.2.2.2 hi tyX8 tyX8_ok nmX8 C.1.2.2.2.1 C.2.1 S.1 S.2.1 S.2.2 j (wd_o8 hj) rfl 14 (by decide) (C.1.2.2.2.2 _ hl) (fun _ h => h) rfl (ty := .int) (by decide +kernel) rfl rfl (Nat.le_of_ble_eq_true rfl) hd (fun H1 locs1 hP hD hS => kk _ H1 locs1 rfl (S.set (ly_lt hj (by decide)) ?_ cel_row_ne hP hS))
  simp only [cel, hj]
  rw [mset_same]
  rfl
theorem kp8_15 {j index : Nat} {x : Int32} (C : CX p s m args meth c dC dI cy ad tz cc nL ret own Ts) (S : St dC dI cy ad s g H locs) (hj : ly j = 8) (hi : ∀ w ∈ wsX80, w ∈ Ts) (hl : Cond.fieldLink own index "ClawCaseModel" "tokenLong" "I" ∈ Ts) (hd : decode cc pc = .ok (.putfield index, 3)) (kk : ∀ (u : Mm) (H : Heap) (locs : List Loc), u = mset g j 15 x → St dC dI cy ad s u H locs → W p l e R s m args below meth c H locs 0 0 QW (F0 m (pc + 3) ls rest)) : W p l e R s m args below meth c H locs 0 0 QW (F0 m pc ls (.int x :: .ref (ad j) :: rest)) := by
  refine va_put C.1.1 C.1.2.1 C.1.2.2.2.2 hi tyX8 tyX8_ok nmX8 C.1.2.2.2.1 C.2.1 S.1 S.2.1 S.2.2 j (wd_o8 hj) rfl 15 (by decide) (C.1.2.2.2.2 _ hl) (fun _ h => h) rfl (ty := .int) (by decide +kernel) rfl rfl (Nat.le_of_ble_eq_true rfl) hd (fun H1 locs1 hP hD hS => kk _ H1 locs1 rfl (S.set (ly_lt hj (by decide)) ?_ cel_row_ne hP hS))
  simp only [cel, hj]
  rw [mset_same]
  rfl
theorem kp8_16 {j index : Nat} {x : Int32} (C : CX p s m args meth c dC dI cy ad tz cc nL ret own Ts) (S : St dC dI cy ad s g H locs) (hj : ly j = 8) (hi : ∀ w ∈ wsX80, w ∈ Ts) (hl : Cond.fieldLink own index "ClawCaseModel" "token" "I" ∈ Ts) (hd : decode cc pc = .ok (.putfield index, 3)) (kk : ∀ (u : Mm) (H : Heap) (locs : List Loc), u = mset g j 16 x → St dC dI cy ad s u H locs → W p l e R s m args below meth c H locs 0 0 QW (F0 m (pc + 3) ls rest)) : W p l e R s m args below meth c H locs 0 0 QW (F0 m pc ls (.int x :: .ref (ad j) :: rest)) := by
  refine va_put C.1.1 C.1.2.1 C.1.2.2.2.2 hi tyX8 tyX8_ok nmX8 C.1.2.2.2.1 C.2.1 S.1 S.2.1 S.2.2 j (wd_o8 hj) rfl 16 (by decide) (C.1.2.2.2.2 _ hl) (fun _ h => h) rfl (ty := .int) (by decide +kernel) rfl rfl (Nat.le_of_ble_eq_true rfl) hd (fun H1 locs1 hP hD hS => kk _ H1 locs1 rfl (S.set (ly_lt hj (by decide)) ?_ cel_row_ne hP hS))
  simp only [cel, hj]
  rw [mset_same]
  rfl
theorem kp8_17 {j index : Nat} {x : Int32} (C : CX p s m args meth c dC dI cy ad tz cc nL ret own Ts) (S : St dC dI cy ad s g H locs) (hj : ly j = 8) (hi : ∀ w ∈ wsX80, w ∈ Ts) (hl : Cond.fieldLink own index "ClawCaseModel" "value" "I" ∈ Ts) (hd : decode cc pc = .ok (.putfield index, 3)) (kk : ∀ (u : Mm) (H : Heap) (locs : List Loc), u = mset g j 17 x → St dC dI cy ad s u H locs → W p l e R s m args below meth c H locs 0 0 QW (F0 m (pc + 3) ls rest)) : W p l e R s m args below meth c H locs 0 0 QW (F0 m pc ls (.int x :: .ref (ad j) :: rest)) := by
  refine va_put C.1.1 C.1.2.1 C.1.2.2.2.2 hi tyX8 tyX8_ok nmX8 C.1.2.2.2.1 C.2.1 S.1 S.2.1 S.2.2 j (wd_o8 hj) rfl 17 (by decide) (C.1.2.2.2.2 _ hl) (fun _ h => h) rfl (ty := .int) (by decide +kernel) rfl rfl (Nat.le_of_ble_eq_true rfl) hd (fun H1 locs1 hP hD hS => kk _ H1 locs1 rfl (S.set (ly_lt hj (by decide)) ?_ cel_row_ne hP hS))
  simp only [cel, hj]
  rw [mset_same]
  rfl
theorem kp8_20 {index : Nat} {x : Int64} (C : CX p s m args meth c dC dI cy ad tz cc nL ret own Ts) (S : St dC dI cy ad s g H locs) (hi : ∀ w ∈ wsX80, w ∈ Ts) (hl : Cond.fieldLink own index "ClawCaseModel" "above" "J" ∈ Ts) (hd : decode cc pc = .ok (.putfield index, 3)) (kk : ∀ (u : Mm) (H : Heap) (locs : List Loc), u = mlng g 0 x → St dC dI cy ad s u H locs → W p l e R s m args below meth c H locs 0 0 QW (F0 m (pc + 3) ls rest)) : W p l e R s m args below meth c H locs 0 0 QW (F0 m pc ls (.long x :: .ref (ad 86) :: rest)) := by
  refine va_put C.1.1 C.1.2.1 C.1.2.2.2.2 hi tyX8 tyX8_ok nmX8 C.1.2.2.2.1 C.2.1 S.1 S.2.1 S.2.2 86 (wd_o8 (j := 86) rfl) rfl 20 (by decide) (C.1.2.2.2.2 _ hl) (fun _ h => h) rfl (ty := .long) (by decide +kernel) rfl rfl (Nat.le_of_ble_eq_true rfl) hd (fun H1 locs1 hP hD hS => kk _ H1 locs1 rfl (S.set (by decide) ?_ cel_lng hP hS))
  rfl
theorem kp8_21 {index : Nat} {x : Int64} (C : CX p s m args meth c dC dI cy ad tz cc nL ret own Ts) (S : St dC dI cy ad s g H locs) (hi : ∀ w ∈ wsX80, w ∈ Ts) (hl : Cond.fieldLink own index "ClawCaseModel" "below" "J" ∈ Ts) (hd : decode cc pc = .ok (.putfield index, 3)) (kk : ∀ (u : Mm) (H : Heap) (locs : List Loc), u = mlng g 1 x → St dC dI cy ad s u H locs → W p l e R s m args below meth c H locs 0 0 QW (F0 m (pc + 3) ls rest)) : W p l e R s m args below meth c H locs 0 0 QW (F0 m pc ls (.long x :: .ref (ad 86) :: rest)) := by
  refine va_put C.1.1 C.1.2.1 C.1.2.2.2.2 hi tyX8 tyX8_ok nmX8 C.1.2.2.2.1 C.2.1 S.1 S.2.1 S.2.2 86 (wd_o8 (j := 86) rfl) rfl 21 (by decide) (C.1.2.2.2.2 _ hl) (fun _ h => h) rfl (ty := .long) (by decide +kernel) rfl rfl (Nat.le_of_ble_eq_true rfl) hd (fun H1 locs1 hP hD hS => kk _ H1 locs1 rfl (S.set (by decide) ?_ cel_lng hP hS))
  rfl
theorem kp8_23 {j index : Nat} {x : Int32} (C : CX p s m args meth c dC dI cy ad tz cc nL ret own Ts) (S : St dC dI cy ad s g H locs) (hj : ly j = 8) (hi : ∀ w ∈ wsX80, w ∈ Ts) (hl : Cond.fieldLink own index "ClawCaseModel" "traceLong" "I" ∈ Ts) (hd : decode cc pc = .ok (.putfield index, 3)) (kk : ∀ (u : Mm) (H : Heap) (locs : List Loc), u = mset g j 23 x → St dC dI cy ad s u H locs → W p l e R s m args below meth c H locs 0 0 QW (F0 m (pc + 3) ls rest)) : W p l e R s m args below meth c H locs 0 0 QW (F0 m pc ls (.int x :: .ref (ad j) :: rest)) := by
  refine va_put C.1.1 C.1.2.1 C.1.2.2.2.2 hi tyX8 tyX8_ok nmX8 C.1.2.2.2.1 C.2.1 S.1 S.2.1 S.2.2 j (wd_o8 hj) rfl 23 (by decide) (C.1.2.2.2.2 _ hl) (fun _ h => h) rfl (ty := .int) (by decide +kernel) rfl rfl (Nat.le_of_ble_eq_true rfl) hd (fun H1 locs1 hP hD hS => kk _ H1 locs1 rfl (S.set (ly_lt hj (by decide)) ?_ cel_row_ne hP hS))
  simp only [cel, hj]
  rw [mset_same]
  rfl
/-! a contract out of a walk from the entry -/
theorem CI.of {y : MethodName} {ws ws' : List Cond} {maxL d : Nat} {As : List Value} {Q : Int32 → Mm → Prop} (hy : plainName y.cls = true) (hw : ws = Cond.code y cc maxL ret :: ws') (ho : y.cls = own) (hlen : (lg_sl As).length ≤ maxL)
    (body : ∀ (p : Program) (e : Env) (s : State) (m : MethodId) (args : Array Value) (below : List Frame) (meth : Method) (c : Code) (ls : Array Slot), CX p s m args meth c dC dI cy ad tz cc maxL ret own ws → lv_has ls maxL (lv_args 0 As) → St dC dI cy ad s g s.heap [] → W p l e (rmD d) s m args below meth c s.heap [] 0 0 (QI dC dI cy ad below args s Q) (F0 m 0 ls [])) : CI l dC dI cy ad tz y ws (rmD d) As g Q := by
  intro sz
  refine Met.ofW (cc := cc) (maxL := maxL) (ret := ret) hy hw ?_
  intro p e s m args below meth c s₁ B hml hv
  obtain ⟨rfl, rfl, h1, h2, h3, h4, h5⟩ := hv
  rw [lg_entry_eq]
  exact body p e s m As.toArray below meth c _ ⟨⟨B.exec, B.bytes, hml, by rw [← ho]; exact findClass_of_methodNamed B.named, atoms_spec (ws := ws) B.pre⟩, h3, h4, h5, B.returns, B.notSynchronized⟩ (lv_entry As hlen) ⟨h1, wd_Aw h2, va_S.rf⟩
theorem CV.of {y : MethodName} {ws ws' : List Cond} {maxL d : Nat} {As : List Value} {Q : Mm → Prop} (hy : plainName y.cls = true) (hw : ws = Cond.code y cc maxL ret :: ws') (ho : y.cls = own) (hlen : (lg_sl As).length ≤ maxL)
    (body : ∀ (p : Program) (e : Env) (s : State) (m : MethodId) (args : Array Value) (below : List Frame) (meth : Method) (c : Code) (ls : Array Slot), CX p s m args meth c dC dI cy ad tz cc maxL ret own ws → lv_has ls maxL (lv_args 0 As) → St dC dI cy ad s g s.heap [] → W p l e (rmD d) s m args below meth c s.heap [] 0 0 (QV dC dI cy ad below args s Q) (F0 m 0 ls [])) : CV l dC dI cy ad tz y ws (rmD d) As g Q := by
  intro sz
  refine Met.ofW (cc := cc) (maxL := maxL) (ret := ret) hy hw ?_
  intro p e s m args below meth c s₁ B hml hv
  obtain ⟨rfl, rfl, h1, h2, h3, h4, h5⟩ := hv
  rw [lg_entry_eq]
  exact body p e s m As.toArray below meth c _ ⟨⟨B.exec, B.bytes, hml, by rw [← ho]; exact findClass_of_methodNamed B.named, atoms_spec (ws := ws) B.pre⟩, h3, h4, h5, B.returns, B.notSynchronized⟩ (lv_entry As hlen) ⟨h1, wd_Aw h2, va_S.rf⟩
theorem CR.of {y : MethodName} {ws ws' : List Cond} {maxL d : Nat} {As : List Value} {Q : Nat → Mm → Prop} (hy : plainName y.cls = true) (hw : ws = Cond.code y cc maxL ret :: ws') (ho : y.cls = own) (hlen : (lg_sl As).length ≤ maxL)
    (body : ∀ (p : Program) (e : Env) (s : State) (m : MethodId) (args : Array Value) (below : List Frame) (meth : Method) (c : Code) (ls : Array Slot), CX p s m args meth c dC dI cy ad tz cc maxL ret own ws → lv_has ls maxL (lv_args 0 As) → St dC dI cy ad s g s.heap [] → W p l e (rmD d) s m args below meth c s.heap [] 0 0 (QR dC dI cy ad below args s Q) (F0 m 0 ls [])) : CR l dC dI cy ad tz y ws (rmD d) As g Q := by
  intro sz
  refine Met.ofW (cc := cc) (maxL := maxL) (ret := ret) hy hw ?_
  intro p e s m args below meth c s₁ B hml hv
  obtain ⟨rfl, rfl, h1, h2, h3, h4, h5⟩ := hv
  rw [lg_entry_eq]
  exact body p e s m As.toArray below meth c _ ⟨⟨B.exec, B.bytes, hml, by rw [← ho]; exact findClass_of_methodNamed B.named, atoms_spec (ws := ws) B.pre⟩, h3, h4, h5, B.returns, B.notSynchronized⟩ (lv_entry As hlen) ⟨h1, wd_Aw h2, va_S.rf⟩
end KW
