/-! THE CONSTRUCTORS: worlds that grow, in the order in which the cells are made -/
def nestI : List (String × Nat × MethodName × String) := [(RX7, 17, yX5_init, "ClawCase"), (RX5, 17, yX3_init, "ClawCase"), (RX7, 24, yX3_init, "ClawCase"), (RX0, 24, yX2_init, "ClawCase"), (RX4, 11, yX3_init, "ClawCase"), (RX4, 38, yX2_init, "ClawCase"), (RX7, 49, yX1_init, "ClawCase"), (RX7, 61, yX6_init, "ClawCase")]
def NI (U : State) : Prop := ∀ q ∈ nestI, va_Nw (.methodLinkNest q.1 q.2.1 q.2.2.1 q.2.2.2) U
theorem NI.warm {s U : State} (hW : s.WarmedH U.vm) (h : NI s) : NI U := fun q hq => va_Nw.warmM hW (h q hq)
theorem NI.same {u U : State} (e : u.vm = U.vm) (h : NI u) : NI U := fun q hq => va_Nw.same rfl e (h q hq)
def AO3 (U : State) : Prop := va_AO RX2 U ∧ va_AO RX3 U ∧ va_AO RX6 U
theorem AO3.moved {u U : State} (hvm : u.vm.Alike U.vm) (h : AO3 u) : AO3 U := ⟨va_AO.moved hvm h.1, va_AO.moved hvm h.2.1, va_AO.moved hvm h.2.2⟩
def wr (N : Nat) (ad : Nat → Nat) (ce : Nat → va_E) : va_W := (List.range N).map (fun j => (ad j, ce j))
theorem wr_at {N : Nat} {ad : Nat → Nat} {ce : Nat → va_E} {j : Nat} (h : j < N) : (wr N ad ce)[j]? = some (ad j, ce j) := by
  show ((List.range N).map _)[j]? = _
  rw [List.getElem?_map, List.getElem?_range h]
  rfl
theorem wr_no {N : Nat} {ad : Nat → Nat} {ce : Nat → va_E} {j : Nat} (h : N ≤ j) : (wr N ad ce)[j]? = none := by
  show ((List.range N).map _)[j]? = _
  rw [List.getElem?_map, List.getElem?_eq_none (by rw [List.length_range]; exact h)]
  rfl
theorem wr_cg {N : Nat} {ad ad' : Nat → Nat} {ce ce' : Nat → va_E} (h : ∀ k, k < N → ad' k = ad k) (h2 : ∀ k, k < N → ce' k = ce k) : wr N ad' ce' = wr N ad ce := by
  show (List.range N).map _ = (List.range N).map _
  exact List.map_congr_left (fun k hk => by rw [h k (List.mem_range.mp hk), h2 k (List.mem_range.mp hk)])
theorem up_ne {α : Type} {f : Nat → α} {k j : Nat} {v : α} (h : j ≠ k) : va_up f k v j = f j := by unfold va_up; rw [if_neg h]
theorem up_eq {α : Type} {f : Nat → α} {k : Nat} {v : α} : va_up f k v k = v := by unfold va_up; rw [if_pos rfl]
theorem wr_push {N : Nat} {ad : Nat → Nat} {ce : Nat → va_E} {q : Nat} {e : va_E} : wr N ad ce ++ [(q, e)] = wr (N + 1) (va_up ad N q) (va_up ce N e) := by
  have : wr (N + 1) (va_up ad N q) (va_up ce N e) = wr N (va_up ad N q) (va_up ce N e) ++ [(q, e)] := by
    show (List.range (N + 1)).map _ = (List.range N).map _ ++ _
    rw [List.range_succ, List.map_append]
    congr 1
    show [(va_up ad N q N, va_up ce N e N)] = _
    rw [up_eq, up_eq]
  rw [this, wr_cg (fun k hk => up_ne (by omega)) (fun k hk => up_ne (by omega))]
theorem wr_set {N : Nat} {ad : Nat → Nat} {ce : Nat → va_E} {j : Nat} {e : va_E} (h : j < N) : (wr N ad ce).set j (ad j, e) = wr N ad (va_up ce j e) := by
  apply List.ext_getElem?
  intro i
  rw [List.getElem?_set]
  have hl : (wr N ad ce).length = N := by show ((List.range N).map _).length = _; rw [List.length_map, List.length_range]
  by_cases hi : j = i
  · subst hi
    rw [if_pos rfl, if_pos (by rw [hl]; exact h), wr_at h, up_eq]
  · rw [if_neg hi]
    rcases Nat.lt_or_ge i N with a | a
    · rw [wr_at a, wr_at a, up_ne (fun q => hi q.symm)]
    · rw [wr_no a, wr_no a]
/-! what a cell is when its constructor is through; up to which number its references reach -/
def cK (cy : Nat → ClassId) (ad : Nat → Nat) (j : Nat) : Nat → va_E
  | 0 => .inr (0, [.ref (ad 15), .int 0, .int 0])
  | 1 => .inr (1, [.ref (ad 59), .int 0])
  | 2 => .inr (2, [.int 0, .int 0, .int 0, .int (-1000000), .int 0, .int 0])
  | 3 => .inr (3, [.ref (ad (j + 1)), .ref (ad (j + 2)), .ref (ad (j + 3)), .ref (ad (j + 4)), .int 0, .int 0, .int 0, .int 0, .int 0])
  | 4 => .inr (4, [.ref (ad 42), .ref (ad 47), .ref (ad 48), .int 0, .int 0, .ref (ad 49)])
  | 5 => .inr (5, [.ref (ad 3), .ref (ad 4), .int 0, .int 0, .int 0, .int 257, .int 0, .int 0])
  | 6 => .inr (6, [.ref (ad (j + 1)), .int 1, .int 0, .int 0])
  | 7 => .inr (7, [.ref (ad 1), .ref (ad 2), .ref (ad 9), .ref (ad 14), .ref (ad 40), .ref (ad 41), .ref (ad 58), .int 0, .int 0])
  | 8 => .inr (8, [.ref (ad 87), .ref (ad 88), .ref (ad 89), .ref (ad 90), .int 0, .int 0, .ref (ad 91), .ref (ad 92), .ref (ad 93), .ref (ad 94), .ref (ad 95), .ref (ad 96), .int 0, .int 0, .int 0, .int 0, .int 0, .int 0, .ref (ad 97), .ref (ad 98), .long 0, .long 1, .ref (ad 99), .int 0])
  | 9 => .inl (cy 0, ln j, .inl (fun _ => 0))
  | 10 => .inl (cy 1, ln j, .inl (fun _ => 0))
  | 11 => .inl (cy 2, ln j, .inr (.inr (.inr (.inr (fun i => if i < ln j then some (ad (j + 1 + i)) else none)))))
  | 12 => .inl (cy 3, ln j, .inr (.inr (.inr (.inr (fun i => if i < 2 then some (ad (76 + 5 * i)) else none)))))
  | _ => .inl (cy 4, ln j, .inr (.inr (.inr (.inr (fun i => if i < 8 then some (ad (60 + 2 * i)) else none)))))
def uK (j : Nat) : Nat → Nat
  | 0 => 16
  | 1 => 60
  | 2 => 0
  | 3 => j + 5
  | 4 => 50
  | 5 => 5
  | 6 => j + 2
  | 7 => 59
  | 8 => 100
  | 9 => 0
  | 10 => 0
  | 11 => j + 1 + ln j
  | 12 => 82
  | _ => 76
def celK (cy : Nat → ClassId) (ad : Nat → Nat) (j : Nat) : va_E := cK cy ad j (ly j)
def upK (j : Nat) : Nat := uK j (ly j)
theorem cK_cg {cy : Nat → ClassId} {ad ad' : Nat → Nat} {j N : Nat} (e : ∀ k, k < N → ad' k = ad k) : ∀ t, uK j t ≤ N → cK cy ad' j t = cK cy ad j t
  | 0, h => by have h : 16 ≤ N := h; show Sum.inr _ = Sum.inr _; rw [e 15 (by omega)]
  | 1, h => by have h : 60 ≤ N := h; show Sum.inr _ = Sum.inr _; rw [e 59 (by omega)]
  | 2, h => rfl
  | 3, h => by have h : j + 5 ≤ N := h; show Sum.inr _ = Sum.inr _; rw [e (j + 1) (by omega), e (j + 2) (by omega), e (j + 3) (by omega), e (j + 4) (by omega)]
  | 4, h => by have h : 50 ≤ N := h; show Sum.inr _ = Sum.inr _; rw [e 42 (by omega), e 47 (by omega), e 48 (by omega), e 49 (by omega)]
  | 5, h => by have h : 5 ≤ N := h; show Sum.inr _ = Sum.inr _; rw [e 3 (by omega), e 4 (by omega)]
  | 6, h => by have h : j + 2 ≤ N := h; show Sum.inr _ = Sum.inr _; rw [e (j + 1) (by omega)]
  | 7, h => by have h : 59 ≤ N := h; show Sum.inr _ = Sum.inr _; rw [e 1 (by omega), e 2 (by omega), e 9 (by omega), e 14 (by omega), e 40 (by omega), e 41 (by omega), e 58 (by omega)]
  | 8, h => by have h : 100 ≤ N := h; show Sum.inr _ = Sum.inr _; rw [e 87 (by omega), e 88 (by omega), e 89 (by omega), e 90 (by omega), e 91 (by omega), e 92 (by omega), e 93 (by omega), e 94 (by omega), e 95 (by omega), e 96 (by omega), e 97 (by omega), e 98 (by omega), e 99 (by omega)]
  | 9, h => rfl
  | 10, h => rfl
  | 11, h => by
    have h : j + 1 + ln j ≤ N := h
    have : (fun i => if i < ln j then some (ad' (j + 1 + i)) else none) = (fun i => if i < ln j then some (ad (j + 1 + i)) else none) := by
      funext i
      by_cases z : i < ln j
      · rw [if_pos z, if_pos z, e _ (by omega)]
      · rw [if_neg z, if_neg z]
    show Sum.inl (cy 2, ln j, Sum.inr (Sum.inr (Sum.inr (Sum.inr _)))) = Sum.inl (cy 2, ln j, Sum.inr (Sum.inr (Sum.inr (Sum.inr _))))
    rw [this]
  | 12, h => by
    have h : 82 ≤ N := h
    have : (fun i => if i < 2 then some (ad' (76 + 5 * i)) else none) = (fun i => if i < 2 then some (ad (76 + 5 * i)) else none) := by
      funext i
      by_cases z : i < 2
      · rw [if_pos z, if_pos z, e _ (by omega)]
      · rw [if_neg z, if_neg z]
    show Sum.inl (cy 3, ln j, Sum.inr (Sum.inr (Sum.inr (Sum.inr _)))) = Sum.inl (cy 3, ln j, Sum.inr (Sum.inr (Sum.inr (Sum.inr _))))
    rw [this]
  | _ + 13, h => by
    have h : 76 ≤ N := h
    have : (fun i => if i < 8 then some (ad' (60 + 2 * i)) else none) = (fun i => if i < 8 then some (ad (60 + 2 * i)) else none) := by
      funext i
      by_cases z : i < 8
      · rw [if_pos z, if_pos z, e _ (by omega)]
      · rw [if_neg z, if_neg z]
    show Sum.inl (cy 4, ln j, Sum.inr (Sum.inr (Sum.inr (Sum.inr _)))) = Sum.inl (cy 4, ln j, Sum.inr (Sum.inr (Sum.inr (Sum.inr _))))
    rw [this]
theorem celK_cg {cy : Nat → ClassId} {ad ad' : Nat → Nat} {j N : Nat} (h : upK j ≤ N) (e : ∀ k, k < N → ad' k = ad k) : celK cy ad' j = celK cy ad j := cK_cg e _ h
def rmK (d C S : Nat) : Room := { frames := d, cells := C, slots := S, locals := 64 * d }
def PrK (dC : Nat → ClassId) (dI : Nat → Nat → Nat) (cy : Nat → ClassId) (B0 sz N : Nat) (ad : Nat → Nat) (ce : Nat → va_E) (U : State) : Prop :=
  U.heap.size = sz ∧ B0 ≤ sz ∧ va_P (dC, dI) vwCl (wr N ad ce) U.heap ∧ va_D (fun q => B0 ≤ q) (wr N ad ce) ∧ va_K (dC, dI) vwCl (tys cy) U ∧ NI U ∧ AO3 U
def PoS (cy : Nat → ClassId) (j n : Nat) (ad : Nat → Nat) (ce : Nat → va_E) (u : (Nat → Nat) × (Nat → va_E)) : Prop := (∀ k, k ≤ j → u.1 k = ad k) ∧ (∀ k, k < j → u.2 k = ce k) ∧ ∀ k, j ≤ k → k < j + n → u.2 k = celK cy u.1 k
def PoK (dC : Nat → ClassId) (dI : Nat → Nat → Nat) (B0 N : Nat) (u : (Nat → Nat) × (Nat → va_E)) (t : State) : Prop := va_P (dC, dI) vwCl (wr N u.1 u.2) t.heap ∧ va_D (fun q => B0 ≤ q) (wr N u.1 u.2)
/-- a constructor's contract: the object is the newest cell, number j; n cells are there behind it, itself among them -/
def KN (l : Launch) (dC : Nat → ClassId) (dI : Nat → Nat → Nat) (cy : Nat → ClassId) (B0 : Nat) (y : MethodName) (ws : List Cond) (rm : Room) (j n mc ms : Nat) (ad : Nat → Nat) (ce : Nat → va_E) : Prop :=
  ∀ sz, Met l y ws rm (va_Pc [.ref (ad j)] (PrK dC dI cy B0 sz (j + 1) ad ce)) (va_Qv (PoS cy j n ad ce) (PoK dC dI B0 (j + n)) (fun q => B0 ≤ q)) mc ms (fun q => B0 ≤ q)
def QK (dC : Nat → ClassId) (dI : Nat → Nat → Nat) (cy : Nat → ClassId) (B0 : Nat) (below : List Frame) (args : Array Value) (s : State) (j n mc ms : Nat) (ad : Nat → Nat) (ce : Nat → va_E) : State → Prop := MQ below (va_Qv (PoS cy j n ad ce) (PoK dC dI B0 (j + n)) (fun q => B0 ≤ q)) args s mc ms (fun q => B0 ≤ q)
def CXK (p : Program) (s : State) (m : MethodId) (args : Array Value) (meth : Method) (c : Code) (dC : Nat → ClassId) (dI : Nat → Nat → Nat) (cy : Nat → ClassId) (cc : ByteArray) (nL : Nat) (own : String) (Ts : List Cond) (B0 : Nat) : Prop :=
  CallFix p m c cc nL s args Ts own ∧ va_K (dC, dI) vwCl (tys cy) s ∧ NI s ∧ AO3 s ∧ B0 ≤ s.heap.size
def SK (dC : Nat → ClassId) (dI : Nat → Nat → Nat) (s : State) (B0 N : Nat) (ad : Nat → Nat) (ce : Nat → va_E) (H : Heap) (locs : List Loc) : Prop :=
  va_P (dC, dI) vwCl (wr N ad ce) H ∧ va_D (fun q => B0 ≤ q) (wr N ad ce) ∧ va_S (fun q => B0 ≤ q) s.heap H locs
theorem prk_blind {dC : Nat → ClassId} {dI : Nat → Nat → Nat} {cy : Nat → ClassId} {B0 sz N : Nat} {ad : Nat → Nat} {ce : Nat → va_E} {As : List Value} : FrameBlind (va_Pc As (PrK dC dI cy B0 sz N ad ce)) := by
  intro a U f mk h
  obtain ⟨h0, h1, h2, h3, h4, h5, h6, h7⟩ := h
  exact ⟨h0, h1, h2, h3, h4, va_K.moved (u := U) (U := U.calling f mk a) (Vm.Alike.refl U.vm) h5, NI.same (u := U) (U := U.calling f mk a) rfl h6, AO3.moved (u := U) (U := U.calling f mk a) (Vm.Alike.refl U.vm) h7⟩
section KM
variable {p : Program} {l : Launch} {e : Env} {R : Room} {s : State} {m : MethodId} {args : Array Value} {below : List Frame} {meth : Method} {c : Code} {dC : Nat → ClassId} {dI : Nat → Nat → Nat} {cy : Nat → ClassId} {cc : ByteArray} {nL : Nat} {own : String} {Ts : List Cond} {B0 N : Nat} {ad : Nat → Nat} {ce : Nat → va_E} {H : Heap} {locs : List Loc} {QW : State → Prop} {pc : Nat} {ls : Array Slot} {rest : List Value} {cells slots : Nat}
theorem SK.grow {q : Nat} {E : va_E} {H1 : Heap} (hP : va_P (dC, dI) vwCl (wr N ad ce ++ [(q, E)]) H1) (hD : va_D (fun q => B0 ≤ q) (wr N ad ce ++ [(q, E)])) (hS : va_S (fun q => B0 ≤ q) s.heap H1 locs) : SK dC dI s B0 (N + 1) (va_up ad N q) (va_up ce N E) H1 locs := by
  rw [wr_push] at hP hD
  exact ⟨hP, hD, hS⟩
theorem SK.upd {j : Nat} {E : va_E} {H1 : Heap} {locs1 : List Loc} (hj : j < N) (hP : va_P (dC, dI) vwCl ((wr N ad ce).set j (ad j, E)) H1) (hD : va_D (fun q => B0 ≤ q) ((wr N ad ce).set j (ad j, E))) (hS : va_S (fun q => B0 ≤ q) s.heap H1 locs1) : SK dC dI s B0 N ad (va_up ce j E) H1 locs1 := by
  rw [wr_set hj] at hP hD
  exact ⟨hP, hD, hS⟩
/-- newarray -/
theorem nI_ {n : Nat} {v : Int32} (C : CXK p s m args meth c dC dI cy cc nL own Ts B0) (S : SK dC dI s B0 N ad ce H locs) (harr : Cond.arrayClass .int ∈ Ts) (hv : ¬ v < 0) (hn : v.toNatClampNeg = n) (hby : n * 4 ≤ 536870912) (hcells : cells + 1 ≤ R.cells) (hslots : slots + n ≤ R.slots) (hd : decode cc pc = .ok (.newarray .int, 2))
    (kk : ∀ (ad1 : Nat → Nat) (ce1 : Nat → va_E) (H : Heap), (∀ k, k < N → ad1 k = ad k) → (∀ k, k < N → ce1 k = ce k) → ce1 N = .inl (cy 0, n, .inl (fun _ => 0)) → SK dC dI s B0 (N + 1) ad1 ce1 H locs → W p l e R s m args below meth c H locs (cells + 1) (slots + n) QW (F0 m (pc + 2) ls (.ref (ad1 N) :: rest))) : W p l e R s m args below meth c H locs cells slots QW (F0 m pc ls (.int v :: rest)) := by
  refine va_newa (atype := .int) (ty := .int) (a0 := (n, .inl (fun _ => 0))) C.1.1 C.1.2.1 (C.1.2.2.2.2 _ harr) rfl C.2.1 S.1 S.2.1 S.2.2 (fun q h => Nat.le_trans C.2.2.2.2 h) (fun _ => rfl) hv hn hby hcells hslots hd (fun q cA H1 hK hP hD hS => ?_)
  have e1 : s.vm.findClass ("[" ++ FieldType.int.toString) = some cA := (hK.2 5 (cA, .int) rfl).2
  have e2 : s.vm.findClass ("[" ++ FieldType.int.toString) = some (cy 0) := (C.2.1.2 0 (cy 0, .int) rfl).2
  have e3 : cA = cy 0 := Option.some.inj (e1.symm.trans e2)
  subst e3
  have k9 := kk (va_up ad N q) (va_up ce N (.inl (cy 0, n, .inl (fun _ => 0)))) H1 (fun k hk => up_ne (by omega)) (fun k hk => up_ne (by omega)) up_eq (SK.grow hP hD hS)
  rw [up_eq] at k9
  exact k9
theorem nZ_ {n : Nat} {v : Int32} (C : CXK p s m args meth c dC dI cy cc nL own Ts B0) (S : SK dC dI s B0 N ad ce H locs) (harr : Cond.arrayClass .boolean ∈ Ts) (hv : ¬ v < 0) (hn : v.toNatClampNeg = n) (hby : n * componentBytes .boolean ≤ 536870912) (hcells : cells + 1 ≤ R.cells) (hslots : slots + n ≤ R.slots) (hd : decode cc pc = .ok (.newarray .boolean, 2))
    (kk : ∀ (ad1 : Nat → Nat) (ce1 : Nat → va_E) (H : Heap), (∀ k, k < N → ad1 k = ad k) → (∀ k, k < N → ce1 k = ce k) → ce1 N = .inl (cy 1, n, .inl (fun _ => 0)) → SK dC dI s B0 (N + 1) ad1 ce1 H locs → W p l e R s m args below meth c H locs (cells + 1) (slots + n) QW (F0 m (pc + 2) ls (.ref (ad1 N) :: rest))) : W p l e R s m args below meth c H locs cells slots QW (F0 m pc ls (.int v :: rest)) := by
  refine va_newa (atype := .boolean) (ty := .boolean) (a0 := (n, .inl (fun _ => 0))) C.1.1 C.1.2.1 (C.1.2.2.2.2 _ harr) rfl C.2.1 S.1 S.2.1 S.2.2 (fun q h => Nat.le_trans C.2.2.2.2 h) (fun _ => rfl) hv hn hby hcells hslots hd (fun q cA H1 hK hP hD hS => ?_)
  have e1 : s.vm.findClass ("[" ++ FieldType.boolean.toString) = some cA := (hK.2 5 (cA, .boolean) rfl).2
  have e2 : s.vm.findClass ("[" ++ FieldType.boolean.toString) = some (cy 1) := (C.2.1.2 1 (cy 1, .boolean) rfl).2
  have e3 : cA = cy 1 := Option.some.inj (e1.symm.trans e2)
  subst e3
  have k9 := kk (va_up ad N q) (va_up ce N (.inl (cy 1, n, .inl (fun _ => 0)))) H1 (fun k hk => up_ne (by omega)) (fun k hk => up_ne (by omega)) up_eq (SK.grow hP hD hS)
  rw [up_eq] at k9
  exact k9
/-- anewarray -/
theorem nQ_ {n index t0 : Nat} {v : Int32} {Cn : String} (C : CXK p s m args meth c dC dI cy cc nL own Ts B0) (S : SK dC dI s B0 N ad ce H locs) (hcl : Cond.classLink own index Cn ∈ Ts) (hao : va_AO Cn s) (ht : (tys cy)[t0]? = some (cy t0, .object Cn)) (hv : ¬ v < 0) (hn : v.toNatClampNeg = n) (hby : n * 4 ≤ 536870912) (hcells : cells + 1 ≤ R.cells) (hslots : slots + n ≤ R.slots) (hd : decode cc pc = .ok (.anewarray index, 3))
    (kk : ∀ (ad1 : Nat → Nat) (ce1 : Nat → va_E) (H : Heap), (∀ k, k < N → ad1 k = ad k) → (∀ k, k < N → ce1 k = ce k) → ce1 N = .inl (cy t0, n, .inr (.inr (.inr (.inr (fun _ => none))))) → SK dC dI s B0 (N + 1) ad1 ce1 H locs → W p l e R s m args below meth c H locs (cells + 1) (slots + n) QW (F0 m (pc + 3) ls (.ref (ad1 N) :: rest))) : W p l e R s m args below meth c H locs cells slots QW (F0 m pc ls (.int v :: rest)) := by
  refine va_newq C.1.1 C.1.2.1 C.1.2.2.2.1 (C.1.2.2.2.2 _ hcl) hao C.2.1 S.1 S.2.1 S.2.2 (fun q h => Nat.le_trans C.2.2.2.2 h) hv hn hby hcells hslots hd (fun q cA H1 hK hP hD hS => ?_)
  obtain ⟨_, _, _, _, _, e1⟩ : va_RA s cA (.object Cn) := (hK.2 5 (cA, .object Cn) rfl).2
  obtain ⟨_, _, _, _, _, e2⟩ : va_RA s (cy t0) (.object Cn) := (C.2.1.2 t0 (cy t0, .object Cn) ht).2
  have e3 : cA = cy t0 := Option.some.inj (e1.symm.trans e2)
  subst e3
  have k9 := kk (va_up ad N q) (va_up ce N (.inl (cy t0, n, .inr (.inr (.inr (.inr (fun _ => none))))))) H1 (fun k hk => up_ne (by omega)) (fun k hk => up_ne (by omega)) up_eq (SK.grow hP hD hS)
  rw [up_eq] at k9
  exact k9
/-- new -/
theorem nO_ {ci N' index : Nat} {Cn : String} {T : u_T} {ty : Nat → FieldType} {fs : List Value} (C : CXK p s m args meth c dC dI cy cc nL own Ts B0) (S : SK dC dI s B0 N ad ce H locs) (hc : vwCl[ci]? = some (Cn, T, N')) (hin : ∀ w ∈ u_ws Cn T N', w ∈ Ts) (hty : ∀ k, k < N' → parseFieldDescriptor (T k).2.2.1 = some (ty k)) (hcl : Cond.classLink own index Cn ∈ Ts) (hi : Cond.instantiable Cn N' ∈ Ts) (hni : Cond.initialized Cn ∈ Ts) (hfs : ∀ j, j < N' → defaultValue (ty j) = vp_V fs j) (hcells : cells + 1 ≤ R.cells) (hslots : slots + N' ≤ R.slots) (hd : decode cc pc = .ok (.new index, 3))
    (kk : ∀ (ad1 : Nat → Nat) (ce1 : Nat → va_E) (H : Heap), (∀ k, k < N → ad1 k = ad k) → (∀ k, k < N → ce1 k = ce k) → ce1 N = .inr (ci, fs) → SK dC dI s B0 (N + 1) ad1 ce1 H locs → W p l e R s m args below meth c H locs (cells + 1) (slots + N') QW (F0 m (pc + 3) ls (.ref (ad1 N) :: rest))) : W p l e R s m args below meth c H locs cells slots QW (F0 m pc ls rest) := by
  refine va_new C.1.1 C.1.2.1 C.1.2.2.2.2 hin ty hty C.1.2.2.2.1 (C.1.2.2.2.2 _ hcl) (C.1.2.2.2.2 _ hi) (C.1.2.2.2.2 _ hni) C.2.1 S.1 S.2.1 S.2.2 (fun q h => Nat.le_trans C.2.2.2.2 h) hc hfs hcells hslots hd (fun q H1 hP hD hS => ?_)
  have k9 := kk (va_up ad N q) (va_up ce N (.inr (ci, fs))) H1 (fun k hk => up_ne (by omega)) (fun k hk => up_ne (by omega)) up_eq (SK.grow hP hD hS)
  rw [up_eq] at k9
  exact k9
theorem CXK.pre {j : Nat} (C : CXK p s m args meth c dC dI cy cc nL own Ts B0) (S : SK dC dI s B0 (j + 1) ad ce H locs) {U : State} (hU : U.heap = H) (hW : s.WarmedH U.vm) : PrK dC dI cy B0 H.size (j + 1) ad ce U :=
  ⟨by rw [hU], Nat.le_trans C.2.2.2.2 S.2.2.1, by rw [hU]; exact S.1, S.2.1, va_K.moved hW.alike C.2.1, NI.warm hW C.2.2.1, AO3.moved hW.alike C.2.2.2.1⟩
/-- a constructor's call -/
theorem cI_ {y : MethodName} {ws : List Cond} {rm : Room} {index maxL n mc ms : Nat} {bytes : ByteArray} (C : CXK p s m args meth c dC dI cy cc nL own Ts B0) (S : SK dC dI s B0 (N + 1) ad ce H locs) (hl : ls.size = nL) (hM : KN l dC dI cy B0 y ws rm N n mc ms ad ce) (cw : CallB R s args own index y bytes maxL none ws rm mc ms 0 ∧ y.name = "<init>" ∧ (Cond.instanceMethod y).before args s = true) (h8 : (rest.map fun v => v.category).sum ≤ 8) (hc : cells + mc ≤ R.cells) (hs : slots + ms ≤ R.slots) (hd : decode cc pc = .ok (.invokespecial index, 3))
    (kk : ∀ (ad1 : Nat → Nat) (ce1 : Nat → va_E) (H : Heap) (locs : List Loc), (∀ k, k ≤ N → ad1 k = ad k) → (∀ k, k < N → ce1 k = ce k) → (∀ k, N ≤ k → k < N + n → ce1 k = celK cy ad1 k) → SK dC dI s B0 (N + n) ad1 ce1 H locs → W p l e R s m args below meth c H locs (cells + mc) (slots + ms) QW (F0 m (pc + 3) ls rest)) : W p l e R s m args below meth c H locs cells slots QW (F0 m pc ls (.ref (ad N) :: rest)) := by
  refine va_callv (va_runI (As := []) (rest := rest) C.1 (hM H.size) cw ⟨prk_blind, fun U hU hW => ⟨rfl, C.pre S hU hW⟩⟩ rfl rfl hl rfl (lv_room h8) hd ⟨hc, hs⟩) S.2.2 (fun q _ h => h) (fun q h => h) (fun u t H1 locs1 ht hvm hw hB hz1 hk1 hS => ?_)
  exact kk u.1 u.2 H1 locs1 hw.1 hw.2.1 hw.2.2 ⟨by rw [← ht]; exact hB.1, hB.2, hS⟩
theorem cN_ {y : MethodName} {ws : List Cond} {rm : Room} {index maxL n mc ms : Nat} {host : String} {bytes : ByteArray} (C : CXK p s m args meth c dC dI cy cc nL own Ts B0) (S : SK dC dI s B0 (N + 1) ad ce H locs) (hl : ls.size = nL) (hM : KN l dC dI cy B0 y ws rm N n mc ms ad ce) (cw : va_CN R s args own index y host bytes maxL none ws rm mc ms 0 ∧ y.name = "<init>" ∧ (Cond.instanceMethod y).before args s = true) (h8 : (rest.map fun v => v.category).sum ≤ 8) (hc : cells + mc ≤ R.cells) (hs : slots + ms ≤ R.slots) (hd : decode cc pc = .ok (.invokespecial index, 3))
    (kk : ∀ (ad1 : Nat → Nat) (ce1 : Nat → va_E) (H : Heap) (locs : List Loc), (∀ k, k ≤ N → ad1 k = ad k) → (∀ k, k < N → ce1 k = ce k) → (∀ k, N ≤ k → k < N + n → ce1 k = celK cy ad1 k) → SK dC dI s B0 (N + n) ad1 ce1 H locs → W p l e R s m args below meth c H locs (cells + mc) (slots + ms) QW (F0 m (pc + 3) ls rest)) : W p l e R s m args below meth c H locs cells slots QW (F0 m pc ls (.ref (ad N) :: rest)) := by
  refine va_callv (va_runIN (As := []) (rest := rest) C.1 (hM H.size) cw ⟨prk_blind, fun U hU hW => ⟨rfl, C.pre S hU hW⟩⟩ rfl rfl hl rfl (lv_room h8) hd ⟨hc, hs⟩) S.2.2 (fun q _ h => h) (fun q h => h) (fun u t H1 locs1 ht hvm hw hB hz1 hk1 hS => ?_)
  exact kk u.1 u.2 H1 locs1 hw.1 hw.2.1 hw.2.2 ⟨by rw [← ht]; exact hB.1, hB.2, hS⟩
/-- putfield -/
theorem pF_ {ci k j N' index : Nat} {Cn : String} {T : u_T} {ty0 : Nat → FieldType} {fs : List Value} {v : Value} {ty : FieldType} (C : CXK p s m args meth c dC dI cy cc nL own Ts B0) (S : SK dC dI s B0 N ad ce H locs) (hname : meth.name = "<init>") (hj : j < N) (he : ce j = .inr (ci, fs)) (hc : vwCl[ci]? = some (Cn, T, N')) (hin : ∀ w ∈ u_ws Cn T N', w ∈ Ts) (hty : ∀ k, k < N' → parseFieldDescriptor (T k).2.2.1 = some (ty0 k)) (hnm : ∀ a, a < N' → ∀ b, b < N' → a ≠ b → (T a).2.1 ≠ (T b).2.1) (hk : k < N') (hl : Cond.fieldLink own index (T k).1 (T k).2.1 (T k).2.2.1 ∈ Ts) (hfin : (T k).2.2.2 = true) (hdecl : (T k).1 = own) (hp : parseFieldDescriptor (T k).2.2.1 = some ty) (hnar : narrow ty v = v) (hfit : fits ty v = true) (hlen : k < fs.length) (hd : decode cc pc = .ok (.putfield index, 3))
    (kk : ∀ (ce1 : Nat → va_E) (H : Heap) (locs : List Loc), ce1 j = .inr (ci, fs.set k v) → (∀ i, i ≠ j → ce1 i = ce i) → SK dC dI s B0 N ad ce1 H locs → W p l e R s m args below meth c H locs cells slots QW (F0 m (pc + 3) ls rest)) : W p l e R s m args below meth c H locs cells slots QW (F0 m pc ls (v :: .ref (ad j) :: rest)) := by
  refine va_putF C.1.1 C.1.2.1 C.1.2.2.2.2 hin ty0 hty hnm C.1.2.2.2.1 C.2.1 S.1 S.2.1 S.2.2 j (by rw [wr_at hj, he]) hc k hk (C.1.2.2.2.2 _ hl) (fun _ h => h) hfin hname hdecl hp hnar hfit hlen hd (fun H1 locs1 hP hD hS => ?_)
  exact kk _ H1 locs1 up_eq (fun i hi => up_ne hi) (SK.upd hj hP hD hS)
theorem pI_ {ci k j N' index : Nat} {Cn : String} {T : u_T} {ty0 : Nat → FieldType} {fs : List Value} {v : Value} {ty : FieldType} (C : CXK p s m args meth c dC dI cy cc nL own Ts B0) (S : SK dC dI s B0 N ad ce H locs) (hj : j < N) (he : ce j = .inr (ci, fs)) (hc : vwCl[ci]? = some (Cn, T, N')) (hin : ∀ w ∈ u_ws Cn T N', w ∈ Ts) (hty : ∀ k, k < N' → parseFieldDescriptor (T k).2.2.1 = some (ty0 k)) (hnm : ∀ a, a < N' → ∀ b, b < N' → a ≠ b → (T a).2.1 ≠ (T b).2.1) (hk : k < N') (hl : Cond.fieldLink own index (T k).1 (T k).2.1 (T k).2.2.1 ∈ Ts) (hfin : (T k).2.2.2 = false) (hp : parseFieldDescriptor (T k).2.2.1 = some ty) (hnar : narrow ty v = v) (hfit : fits ty v = true) (hlen : k < fs.length) (hd : decode cc pc = .ok (.putfield index, 3))
    (kk : ∀ (ce1 : Nat → va_E) (H : Heap) (locs : List Loc), ce1 j = .inr (ci, fs.set k v) → (∀ i, i ≠ j → ce1 i = ce i) → SK dC dI s B0 N ad ce1 H locs → W p l e R s m args below meth c H locs cells slots QW (F0 m (pc + 3) ls rest)) : W p l e R s m args below meth c H locs cells slots QW (F0 m pc ls (v :: .ref (ad j) :: rest)) := by
  refine va_put C.1.1 C.1.2.1 C.1.2.2.2.2 hin ty0 hty hnm C.1.2.2.2.1 C.2.1 S.1 S.2.1 S.2.2 j (by rw [wr_at hj, he]) hc k hk (C.1.2.2.2.2 _ hl) (fun _ h => h) hfin hp hnar hfit hlen hd (fun H1 locs1 hP hD hS => ?_)
  exact kk _ H1 locs1 up_eq (fun i hi => up_ne hi) (SK.upd hj hP hD hS)
theorem gF_ {ci k j N' index : Nat} {Cn : String} {T : u_T} {fs : List Value} {v : Value} (C : CXK p s m args meth c dC dI cy cc nL own Ts B0) (S : SK dC dI s B0 N ad ce H locs) (hj : j < N) (he : ce j = .inr (ci, fs)) (hc : vwCl[ci]? = some (Cn, T, N')) (hin : ∀ w ∈ u_ws Cn T N', w ∈ Ts) (hk : k < N') (hl : Cond.fieldLink own index (T k).1 (T k).2.1 (T k).2.2.1 ∈ Ts) (hv : fs[k]? = some v) (hd : decode cc pc = .ok (.getfield index, 3))
    (kk : W p l e R s m args below meth c H locs cells slots QW (F0 m (pc + 3) ls (v :: rest))) : W p l e R s m args below meth c H locs cells slots QW (F0 m pc ls (.ref (ad j) :: rest)) :=
  va_get C.1.1 C.1.2.1 C.1.2.2.2.2 hin C.1.2.2.2.1 C.2.1 S.1 j (by rw [wr_at hj, he]) hc k hk (C.1.2.2.2.2 _ hl) (fun _ h => h) hv hd kk
/-- aastore -/
theorem aQ_ {r t0 x ci n : Nat} {q : vw_C} {f : Nat → Option Nat} {vs : List Value} {i : Int32} (C : CXK p s m args meth c dC dI cy cc nL own Ts B0) (S : SK dC dI s B0 N ad ce H locs) (hr : r < N) (hx : x < N) (he : ce r = .inl (cy t0, n, .inr (.inr (.inr (.inr f))))) (ht : (tys cy)[t0]? = some (cy t0, .object q.1)) (hv : ce x = .inr (ci, vs)) (hc : vwCl[ci]? = some q) (hin : vp_in i n) (hd : decode cc pc = .ok (.aastore, 1))
    (kk : ∀ (ce1 : Nat → va_E) (H : Heap) (locs : List Loc), ce1 r = .inl (cy t0, n, .inr (.inr (.inr (.inr (va_up f i.toNatClampNeg (some (ad x))))))) → (∀ i, i ≠ r → ce1 i = ce i) → SK dC dI s B0 N ad ce1 H locs → W p l e R s m args below meth c H locs cells slots QW (F0 m (pc + 1) ls rest)) : W p l e R s m args below meth c H locs cells slots QW (F0 m pc ls (.ref (ad x) :: .int i :: .ref (ad r) :: rest)) := by
  refine va_astq C.1.1 C.1.2.1 C.2.1 S.1 S.2.1 S.2.2 r t0 x ci (by rw [wr_at hr, he]) ht (by rw [wr_at hx, hv]) hc hin hd (fun H1 locs1 hP hD hS => ?_)
  exact kk _ H1 locs1 up_eq (fun i hi => up_ne hi) (SK.upd hr hP hD hS)
/-- return -/
theorem rK_ {j n mc ms : Nat} {ad0 : Nat → Nat} {ce0 : Nat → va_E} (C : CXK p s m args meth c dC dI cy cc nL own Ts B0) (S : SK dC dI s B0 (j + n) ad ce H locs) (hr : meth.sig.returnType = none) (hlk : meth.locks = false) (h : PoS cy j n ad0 ce0 (ad, ce)) (hd : decode cc pc = .ok (.return_, 1)) : W p l e R s m args below meth c H locs mc ms (QK dC dI cy B0 below args s j n mc ms ad0 ce0) (F0 m pc ls []) :=
  W.vret C.1.1 C.1.2.1 hr (fun t ht hW => ⟨⟨(ad, ce), rfl, h, by rw [ht]; exact S.1, S.2.1⟩, S.2.2.F ht⟩) S.2.2.2.2 hd hlk
theorem KN.of {y : MethodName} {ws ws' : List Cond} {maxL d C S j n : Nat} (hy : plainName y.cls = true) (hw : ws = Cond.code y cc maxL none :: ws') (ho : y.cls = own) (hnm : y.name = "<init>") (hlen : (lg_sl [Value.ref (ad j)]).length ≤ maxL)
    (body : ∀ (p : Program) (e : Env) (s : State) (m : MethodId) (args : Array Value) (below : List Frame) (meth : Method) (c : Code) (ls : Array Slot), CXK p s m args meth c dC dI cy cc maxL own ws B0 → meth.name = "<init>" → meth.sig.returnType = none → meth.locks = false → lv_has ls maxL [(0, .ref (ad j))] → SK dC dI s B0 (j + 1) ad ce s.heap [] → W p l e (rmK d C S) s m args below meth c s.heap [] 0 0 (QK dC dI cy B0 below args s j n C S ad ce) (F0 m 0 ls [])) : KN l dC dI cy B0 y ws (rmK d C S) j n C S ad ce := by
  intro sz
  refine Met.ofW (cc := cc) (maxL := maxL) (ret := none) hy hw ?_
  intro p e s m args below meth c s₁ B hml hv
  obtain ⟨rfl, rfl, h0, h1, h2, h3, h4, h5⟩ := hv
  rw [lg_entry_eq]
  exact body p e s m _ below meth c _ ⟨⟨B.exec, B.bytes, hml, by rw [← ho]; exact findClass_of_methodNamed B.named, atoms_spec (ws := ws) B.pre⟩, h3, h4, h5, h0⟩ ((name_of_methodNamed B.named B.method).1.trans hnm) B.returns B.notSynchronized (lv_entry [Value.ref (ad j)] hlen) ⟨h1, h2, va_S.rf⟩
end KM
