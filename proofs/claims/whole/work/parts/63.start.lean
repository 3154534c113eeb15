/-! THE MEMORY AT THE START -/
def g0 : Mm := (fun j k => if ly j = 2 ∧ k = 3 then -1000000 else if ly j = 6 ∧ k = 1 then 1 else if j = 2 ∧ k = 5 then 257 else 0, fun k => if k = 1 then 1 else 0)
theorem g0_z {j : Nat} (h1 : ly j ≠ 2) (h2 : ly j ≠ 6) (h3 : j ≠ 2) (k : Nat) : g0.1 j k = 0 := by
  show (if ly j = 2 ∧ k = 3 then (-1000000 : Int32) else if ly j = 6 ∧ k = 1 then 1 else if j = 2 ∧ k = 5 then 257 else 0) = 0
  rw [if_neg (fun z => h1 z.1), if_neg (fun z => h2 z.1), if_neg (fun z => h3 z.1)]
theorem ly5 : ∀ i, ly i = 5 → i = 2 := by
  intro i h
  have hi := ly_lt h (by decide)
  revert h
  revert i
  decide
theorem ly12 : ∀ i, ly i = 12 → i = 40 := by
  intro i h
  have hi := ly_lt h (by decide)
  revert h
  revert i
  decide
theorem ly13 : ∀ i, ly i = 13 → i = 1 := by
  intro i h
  have hi := ly_lt h (by decide)
  revert h
  revert i
  decide
theorem ly_le : ∀ i, i < 100 → ly i ≤ 13 := by decide
theorem Rel0 : Rel g0 := by
  refine ⟨?_, ?_, ?_, ?_, ?_, ?_, ?_⟩
  · intro r hr
    have hly := ly_rows r hr
    have e : ∀ k, k ≠ 1 → g0.1 (60 + 2 * r) k = 0 := fun k hk => by
      show (if ly (60 + 2 * r) = 2 ∧ k = 3 then (-1000000 : Int32) else if ly (60 + 2 * r) = 6 ∧ k = 1 then 1 else if 60 + 2 * r = 2 ∧ k = 5 then 257 else 0) = 0
      rw [if_neg (by rw [hly]; omega), if_neg (by omega), if_neg (by omega)]
    refine ⟨Or.inr ⟨g0_z (by decide) (by decide) (by decide) r, ?_⟩, ?_, ?_, ⟨0, by omega, e 3 (by decide)⟩, fun i hi => ?_⟩
    · show (if ly (60 + 2 * r) = 2 ∧ 1 = 3 then (-1000000 : Int32) else if ly (60 + 2 * r) = 6 ∧ 1 = 1 then 1 else _) = 1
      rw [if_neg (by omega), if_pos ⟨hly, rfl⟩]
    · rw [g0_z (by decide) (by decide) (by decide), e 2 (by decide)]
    · rw [g0_z (by decide) (by decide) (by decide), e 3 (by decide)]
    · have h9 := (lyR hly).1
      rw [g0_z (by decide) (by decide) (by decide), g0_z (by rw [h9]; decide) (by rw [h9]; decide) (by omega)]
  · exact ⟨rfl, 0, by omega, rfl, fun i hi => absurd hi (Nat.not_lt_zero i)⟩
  · rfl
  · rfl
  · refine ⟨fun _ _ => 0, ⟨⟨rfl, rfl, rfl, rfl, rfl⟩, fun t ht => absurd ht (Nat.not_lt_zero t)⟩, ⟨⟨rfl, rfl, rfl, rfl, rfl⟩, fun t ht => absurd ht (Nat.not_lt_zero t)⟩, Or.inl rfl, ⟨0, 0, fun _ _ _ => 0, ⟨by omega, by omega⟩, ⟨rfl, rfl, rfl⟩, rfl, fun k hk => absurd hk (Nat.not_lt_zero k)⟩, Nat.zero_le _⟩
  · intro k hk
    have hly := ly_imgs k hk
    exact Or.inl ⟨g0_z (by decide) (by decide) (by decide) k, g0_z (by rw [hly]; decide) (by rw [hly]; decide) (by omega) 4⟩
  · exact ⟨0, by omega, rfl, rfl, fun i hi => absurd hi (Nat.not_lt_zero i)⟩
theorem arrV_cg {cA : ClassId} {n : Nat} {f h : Nat → Value} (e : ∀ i, i < n → f i = h i) : arrV cA n f = arrV cA n h := by
  unfold arrV
  have : (fun j : Fin n => f j.val) = (fun j : Fin n => h j.val) := by
    funext j
    exact e j.1 j.2
  rw [this]
theorem cel0 {cy : Nat → ClassId} {ad : Nat → Nat} {D : va_G} {cl : List vw_C} {H : Heap} {j : Nat} (hj : j < 100) (h : va_at D cl (ad j, celK cy ad j) H) : va_at D cl (ad j, cel cy ad g0 j) H := by
  have h13 := ly_le j hj
  have nar : ∀ (cA : ClassId) (n : Nat) (f f' : Nat → Option Nat), (∀ i, i < n → f i = f' i) → va_at D cl (ad j, .inl (cA, n, .inr (.inr (.inr (.inr f))))) H → va_at D cl (ad j, .inl (cA, n, .inr (.inr (.inr (.inr f'))))) H := by
    intro cA n f f' e hh
    have hh : H[ad j]? = some (vp_cell cA (n, .inr (.inr (.inr (.inr f))))) := hh
    show H[ad j]? = some (vp_cell cA (n, .inr (.inr (.inr (.inr f')))))
    rw [vp_cell_q] at hh ⊢
    rw [hh, arrV_cg (fun i hi => by rw [e i hi])]
  have fz : (ly j = 9 ∨ ly j = 10) → g0.1 j = fun _ => 0 := fun hl => by
    funext k
    exact g0_z (by omega) (by omega) (fun z => by subst z; exact absurd hl (by decide)) k
  have ev : ∀ k, g0.1 j k = (if ly j = 2 ∧ k = 3 then (-1000000 : Int32) else if ly j = 6 ∧ k = 1 then 1 else if j = 2 ∧ k = 5 then 257 else 0) := fun k => rfl
  unfold celK at h
  rcases (by omega : ly j = 0 ∨ ly j = 1 ∨ ly j = 2 ∨ ly j = 3 ∨ ly j = 4 ∨ ly j = 5 ∨ ly j = 6 ∨ ly j = 7 ∨ ly j = 8 ∨ ly j = 9 ∨ ly j = 10 ∨ ly j = 11 ∨ ly j = 12 ∨ ly j = 13) with hl | hl | hl | hl | hl | hl | hl | hl | hl | hl | hl | hl | hl | hl
  all_goals rw [hl] at h; simp only [cel, hl]
  · rw [(show g0.1 j 1 = _ from (ev 1).trans ((if_neg (by omega)).trans ((if_neg (by omega)).trans (if_neg (by omega))))), (show g0.1 j 2 = _ from (ev 2).trans ((if_neg (by omega)).trans ((if_neg (by omega)).trans (if_neg (by omega)))))]; exact h
  · rw [(show g0.1 j 1 = _ from (ev 1).trans ((if_neg (by omega)).trans ((if_neg (by omega)).trans (if_neg (by omega)))))]; exact h
  · rw [(show g0.1 j 0 = _ from (ev 0).trans ((if_neg (by omega)).trans ((if_neg (by omega)).trans (if_neg (by omega))))), (show g0.1 j 1 = _ from (ev 1).trans ((if_neg (by omega)).trans ((if_neg (by omega)).trans (if_neg (by omega))))), (show g0.1 j 2 = _ from (ev 2).trans ((if_neg (by omega)).trans ((if_neg (by omega)).trans (if_neg (by omega))))), (show g0.1 j 3 = _ from (ev 3).trans (if_pos ⟨hl, rfl⟩)), (show g0.1 j 4 = _ from (ev 4).trans ((if_neg (by omega)).trans ((if_neg (by omega)).trans (if_neg (by omega))))), (show g0.1 j 5 = _ from (ev 5).trans ((if_neg (by omega)).trans ((if_neg (by omega)).trans (if_neg (by intro z; rw [z.1] at hl; exact absurd hl (by decide))))))]; exact h
  · rw [(show g0.1 j 4 = _ from (ev 4).trans ((if_neg (by omega)).trans ((if_neg (by omega)).trans (if_neg (by omega))))), (show g0.1 j 5 = _ from (ev 5).trans ((if_neg (by omega)).trans ((if_neg (by omega)).trans (if_neg (by intro z; rw [z.1] at hl; exact absurd hl (by decide)))))), (show g0.1 j 6 = _ from (ev 6).trans ((if_neg (by omega)).trans ((if_neg (by omega)).trans (if_neg (by omega))))), (show g0.1 j 7 = _ from (ev 7).trans ((if_neg (by omega)).trans ((if_neg (by omega)).trans (if_neg (by omega))))), (show g0.1 j 8 = _ from (ev 8).trans ((if_neg (by omega)).trans ((if_neg (by omega)).trans (if_neg (by omega)))))]; exact h
  · rw [(show g0.1 j 3 = _ from (ev 3).trans ((if_neg (by omega)).trans ((if_neg (by omega)).trans (if_neg (by omega))))), (show g0.1 j 4 = _ from (ev 4).trans ((if_neg (by omega)).trans ((if_neg (by omega)).trans (if_neg (by omega)))))]; exact h
  · rw [(show g0.1 j 2 = _ from (ev 2).trans ((if_neg (by omega)).trans ((if_neg (by omega)).trans (if_neg (by omega))))), (show g0.1 j 3 = _ from (ev 3).trans ((if_neg (by omega)).trans ((if_neg (by omega)).trans (if_neg (by omega))))), (show g0.1 j 4 = _ from (ev 4).trans ((if_neg (by omega)).trans ((if_neg (by omega)).trans (if_neg (by omega))))), (show g0.1 j 5 = _ from (ev 5).trans ((if_neg (by omega)).trans ((if_neg (by omega)).trans (if_pos ⟨ly5 j hl, rfl⟩)))), (show g0.1 j 6 = _ from (ev 6).trans ((if_neg (by omega)).trans ((if_neg (by omega)).trans (if_neg (by omega))))), (show g0.1 j 7 = _ from (ev 7).trans ((if_neg (by omega)).trans ((if_neg (by omega)).trans (if_neg (by omega)))))]; exact h
  · rw [(show g0.1 j 1 = _ from (ev 1).trans ((if_neg (by omega)).trans (if_pos ⟨hl, rfl⟩))), (show g0.1 j 2 = _ from (ev 2).trans ((if_neg (by omega)).trans ((if_neg (by omega)).trans (if_neg (by omega))))), (show g0.1 j 3 = _ from (ev 3).trans ((if_neg (by omega)).trans ((if_neg (by omega)).trans (if_neg (by omega)))))]; exact h
  · rw [(show g0.1 j 7 = _ from (ev 7).trans ((if_neg (by omega)).trans ((if_neg (by omega)).trans (if_neg (by omega))))), (show g0.1 j 8 = _ from (ev 8).trans ((if_neg (by omega)).trans ((if_neg (by omega)).trans (if_neg (by omega)))))]; exact h
  · rw [(show g0.1 j 4 = _ from (ev 4).trans ((if_neg (by omega)).trans ((if_neg (by omega)).trans (if_neg (by omega))))), (show g0.1 j 5 = _ from (ev 5).trans ((if_neg (by omega)).trans ((if_neg (by omega)).trans (if_neg (by intro z; rw [z.1] at hl; exact absurd hl (by decide)))))), (show g0.1 j 12 = _ from (ev 12).trans ((if_neg (by omega)).trans ((if_neg (by omega)).trans (if_neg (by omega))))), (show g0.1 j 13 = _ from (ev 13).trans ((if_neg (by omega)).trans ((if_neg (by omega)).trans (if_neg (by omega))))), (show g0.1 j 14 = _ from (ev 14).trans ((if_neg (by omega)).trans ((if_neg (by omega)).trans (if_neg (by omega))))), (show g0.1 j 15 = _ from (ev 15).trans ((if_neg (by omega)).trans ((if_neg (by omega)).trans (if_neg (by omega))))), (show g0.1 j 16 = _ from (ev 16).trans ((if_neg (by omega)).trans ((if_neg (by omega)).trans (if_neg (by omega))))), (show g0.1 j 17 = _ from (ev 17).trans ((if_neg (by omega)).trans ((if_neg (by omega)).trans (if_neg (by omega))))), (show g0.1 j 23 = _ from (ev 23).trans ((if_neg (by omega)).trans ((if_neg (by omega)).trans (if_neg (by omega)))))]; exact h
  · rw [fz (Or.inl hl)]; exact h
  · rw [fz (Or.inr hl)]; exact h
  · exact nar _ _ _ _ (fun i hi => if_pos hi) h
  · have := ly12 j hl
    subst this
    exact nar _ _ _ _ (fun i hi => if_pos hi) h
  · have := ly13 j hl
    subst this
    exact nar _ _ _ _ (fun i hi => if_pos hi) h
theorem wd0 {cy : Nat → ClassId} {ad : Nat → Nat} {ce : Nat → va_E} {D : va_G} {cl : List vw_C} {H : Heap} (hP : va_P D cl (wr 100 ad ce) H) (hc : ∀ k, k < 100 → ce k = celK cy ad k) : va_P D cl (wd cy ad g0) H := by
  intro k q hk
  obtain ⟨hi, rfl⟩ := wd_of hk
  have h9 := hP k _ (wr_at hi)
  rw [hc k hi] at h9
  exact cel0 hi h9
theorem wd0D {cy : Nat → ClassId} {ad : Nat → Nat} {ce : Nat → va_E} {B0 sz : Nat} {g : Mm} (hD : va_D (fun q => B0 ≤ q) (wr 100 ad ce)) : va_D (Aw ad sz) (wd cy ad g) ∧ ∀ j, j < 100 → B0 ≤ ad j := by
  refine ⟨⟨fun i j p q hp hq e => ?_, fun k q hk => ?_⟩, fun j hj => hD.2 j _ (wr_at hj)⟩
  · obtain ⟨hi, rfl⟩ := wd_of hp
    obtain ⟨hj, rfl⟩ := wd_of hq
    exact hD.1 i j _ _ (wr_at hi) (wr_at hj) e
  · obtain ⟨hi, rfl⟩ := wd_of hk
    exact Or.inl ⟨k, hi, rfl⟩
/-! WHAT THE ENTRY GIVES -/
theorem tb_489 : Cond.laysStatic "ClawCase" "WIDER" "[I" ∈ lw_tbl := List.mem_of_getElem? (i := 489) (by decide +kernel)
theorem tb_49 : Cond.initialized "ClawCase" ∈ lw_tbl := List.mem_of_getElem? (i := 49) (by decide +kernel)
theorem tb_677 : Cond.laysStatic "ClawCase$Asked" "SIZE" "[I" ∈ lw_tbl := List.mem_of_getElem? (i := 677) (by decide +kernel)
theorem tb_55 : Cond.initialized "ClawCase$Asked" ∈ lw_tbl := List.mem_of_getElem? (i := 55) (by decide +kernel)
theorem tb_679 : Cond.laysStatic "ClawCase$Asked" "MARK" "[I" ∈ lw_tbl := List.mem_of_getElem? (i := 679) (by decide +kernel)
theorem tb_135 : Cond.arrayClass .int ∈ lw_tbl := List.mem_of_getElem? (i := 135) (by decide +kernel)
theorem tb_785 : Cond.arrayClass .boolean ∈ lw_tbl := List.mem_of_getElem? (i := 785) (by decide +kernel)
theorem tb_174 : Cond.arrayOver (.object RX2) ∈ lw_tbl := List.mem_of_getElem? (i := 174) (by decide +kernel)
theorem tb_211 : Cond.arrayOver (.object RX3) ∈ lw_tbl := List.mem_of_getElem? (i := 211) (by decide +kernel)
theorem tb_70 : Cond.arrayOver (.object RX6) ∈ lw_tbl := List.mem_of_getElem? (i := 70) (by decide +kernel)
theorem tb_73 : Cond.methodLinkNest RX7 17 yX5_init "ClawCase" ∈ lw_tbl := List.mem_of_getElem? (i := 73) (by decide +kernel)
theorem tb_79 : Cond.methodLinkNest RX5 17 yX3_init "ClawCase" ∈ lw_tbl := List.mem_of_getElem? (i := 79) (by decide +kernel)
theorem tb_166 : Cond.methodLinkNest RX7 24 yX3_init "ClawCase" ∈ lw_tbl := List.mem_of_getElem? (i := 166) (by decide +kernel)
theorem tb_176 : Cond.methodLinkNest RX0 24 yX2_init "ClawCase" ∈ lw_tbl := List.mem_of_getElem? (i := 176) (by decide +kernel)
theorem tb_219 : Cond.methodLinkNest RX4 11 yX3_init "ClawCase" ∈ lw_tbl := List.mem_of_getElem? (i := 219) (by decide +kernel)
theorem tb_221 : Cond.methodLinkNest RX4 38 yX2_init "ClawCase" ∈ lw_tbl := List.mem_of_getElem? (i := 221) (by decide +kernel)
theorem tb_247 : Cond.methodLinkNest RX7 49 yX1_init "ClawCase" ∈ lw_tbl := List.mem_of_getElem? (i := 247) (by decide +kernel)
theorem tb_261 : Cond.methodLinkNest RX7 61 yX6_init "ClawCase" ∈ lw_tbl := List.mem_of_getElem? (i := 261) (by decide +kernel)
theorem tb_346 : Cond.methodLinkNest RX6 32 yX7_within "ClawCase" ∈ lw_tbl := List.mem_of_getElem? (i := 346) (by decide +kernel)
theorem tb_390 : Cond.methodLinkNest RX5 72 yX7_within "ClawCase" ∈ lw_tbl := List.mem_of_getElem? (i := 390) (by decide +kernel)
theorem tb_422 : Cond.methodLinkNest RX3 51 yX7_isColumn "ClawCase" ∈ lw_tbl := List.mem_of_getElem? (i := 422) (by decide +kernel)
theorem tb_485 : Cond.methodLinkNest RX3 75 yX7_isOfKind "ClawCase" ∈ lw_tbl := List.mem_of_getElem? (i := 485) (by decide +kernel)
theorem tb_632 : Cond.methodLinkNest RX4 112 yX7_power "ClawCase" ∈ lw_tbl := List.mem_of_getElem? (i := 632) (by decide +kernel)
theorem tb_651 : Cond.methodLinkNest RX4 128 yX7_isColumn "ClawCase" ∈ lw_tbl := List.mem_of_getElem? (i := 651) (by decide +kernel)
theorem tb_168 : Cond.instantiable RX0 3 ∈ lw_tbl := List.mem_of_getElem? (i := 168) (by decide +kernel)
theorem tb_246 : Cond.instantiable RX1 2 ∈ lw_tbl := List.mem_of_getElem? (i := 246) (by decide +kernel)
theorem tb_175 : Cond.instantiable RX2 6 ∈ lw_tbl := List.mem_of_getElem? (i := 175) (by decide +kernel)
theorem tb_78 : Cond.instantiable RX3 9 ∈ lw_tbl := List.mem_of_getElem? (i := 78) (by decide +kernel)
theorem tb_213 : Cond.instantiable RX4 6 ∈ lw_tbl := List.mem_of_getElem? (i := 213) (by decide +kernel)
theorem tb_72 : Cond.instantiable RX5 8 ∈ lw_tbl := List.mem_of_getElem? (i := 72) (by decide +kernel)
theorem tb_260 : Cond.instantiable RX6 4 ∈ lw_tbl := List.mem_of_getElem? (i := 260) (by decide +kernel)
theorem tb_62 : Cond.instantiable RX7 9 ∈ lw_tbl := List.mem_of_getElem? (i := 62) (by decide +kernel)
theorem tb_707 : Cond.instantiable RX8 24 ∈ lw_tbl := List.mem_of_getElem? (i := 707) (by decide +kernel)
theorem st_W {b : Nat} {s : State} {A : Nat → Prop} (hts : ∀ w ∈ lw_tbl, w.before #[Value.ref b] s = true) (hgv : (Jvm.Cond.and given_1 narrow_1).before #[Value.ref b] s = true) (hA : ∀ a : Nat, a < s.heap.size → ¬ A a) : ∃ t, va_Z "ClawCase" "WIDER" "[I" (.ref t) A s s.heap ∧ va_T .int t 6 (fun i => .int (tzW i)) A s s.heap := by
  have hs := flat_of_before _ hgv
  have harr : (Cond.arrayOf (.static "ClawCase" "WIDER" "[I") .int).before #[Value.ref b] s = true := hs _ (by decide +kernel)
  have hlen : (Cond.eq (.length (.static "ClawCase" "WIDER" "[I")) (.int 6)).before #[Value.ref b] s = true := hs _ (by decide +kernel)
  have e0 : (Cond.eq (.elem (.static "ClawCase" "WIDER" "[I") (.int 0)) (.int (-1))).before #[Value.ref b] s = true := hs _ (by decide +kernel)
  have e1 : (Cond.eq (.elem (.static "ClawCase" "WIDER" "[I") (.int 1)) (.int (0))).before #[Value.ref b] s = true := hs _ (by decide +kernel)
  have e2 : (Cond.eq (.elem (.static "ClawCase" "WIDER" "[I") (.int 2)) (.int (1))).before #[Value.ref b] s = true := hs _ (by decide +kernel)
  have e3 : (Cond.eq (.elem (.static "ClawCase" "WIDER" "[I") (.int 3)) (.int (1))).before #[Value.ref b] s = true := hs _ (by decide +kernel)
  have e4 : (Cond.eq (.elem (.static "ClawCase" "WIDER" "[I") (.int 4)) (.int (0))).before #[Value.ref b] s = true := hs _ (by decide +kernel)
  have e5 : (Cond.eq (.elem (.static "ClawCase" "WIDER" "[I") (.int 5)) (.int (4))).before #[Value.ref b] s = true := hs _ (by decide +kernel)
  obtain ⟨t, ht, hT⟩ := va_Tof (tm := (.static "ClawCase" "WIDER" "[I")) (ty := .int) (N := 6) (f := fun i => .int (tzW i)) (A := A) (by decide) harr (va_eqt hlen) (fun j hj => by
    rcases (by omega : j = 0 ∨ j = 1 ∨ j = 2 ∨ j = 3 ∨ j = 4 ∨ j = 5) with rfl | rfl | rfl | rfl | rfl | rfl
    · exact va_eqt e0
    · exact va_eqt e1
    · exact va_eqt e2
    · exact va_eqt e3
    · exact va_eqt e4
    · exact va_eqt e5) hA
  exact ⟨t, va_Zref (hts _ tb_489) (hts _ tb_49) ht hA, hT⟩
theorem st_S {b : Nat} {s : State} {A : Nat → Prop} (hts : ∀ w ∈ lw_tbl, w.before #[Value.ref b] s = true) (hgv : (Jvm.Cond.and given_1 narrow_1).before #[Value.ref b] s = true) (hA : ∀ a : Nat, a < s.heap.size → ¬ A a) : ∃ t, va_Z "ClawCase$Asked" "SIZE" "[I" (.ref t) A s s.heap ∧ va_T .int t 6 (fun i => .int (tzS i)) A s s.heap := by
  have hs := flat_of_before _ hgv
  have harr : (Cond.arrayOf (.static "ClawCase$Asked" "SIZE" "[I") .int).before #[Value.ref b] s = true := hs _ (by decide +kernel)
  have hlen : (Cond.eq (.length (.static "ClawCase$Asked" "SIZE" "[I")) (.int 6)).before #[Value.ref b] s = true := hs _ (by decide +kernel)
  have e0 : (Cond.eq (.elem (.static "ClawCase$Asked" "SIZE" "[I") (.int 0)) (.int (10))).before #[Value.ref b] s = true := hs _ (by decide +kernel)
  have e1 : (Cond.eq (.elem (.static "ClawCase$Asked" "SIZE" "[I") (.int 1)) (.int (11))).before #[Value.ref b] s = true := hs _ (by decide +kernel)
  have e2 : (Cond.eq (.elem (.static "ClawCase$Asked" "SIZE" "[I") (.int 2)) (.int (12))).before #[Value.ref b] s = true := hs _ (by decide +kernel)
  have e3 : (Cond.eq (.elem (.static "ClawCase$Asked" "SIZE" "[I") (.int 3)) (.int (11))).before #[Value.ref b] s = true := hs _ (by decide +kernel)
  have e4 : (Cond.eq (.elem (.static "ClawCase$Asked" "SIZE" "[I") (.int 4)) (.int (13))).before #[Value.ref b] s = true := hs _ (by decide +kernel)
  have e5 : (Cond.eq (.elem (.static "ClawCase$Asked" "SIZE" "[I") (.int 5)) (.int (14))).before #[Value.ref b] s = true := hs _ (by decide +kernel)
  obtain ⟨t, ht, hT⟩ := va_Tof (tm := (.static "ClawCase$Asked" "SIZE" "[I")) (ty := .int) (N := 6) (f := fun i => .int (tzS i)) (A := A) (by decide) harr (va_eqt hlen) (fun j hj => by
    rcases (by omega : j = 0 ∨ j = 1 ∨ j = 2 ∨ j = 3 ∨ j = 4 ∨ j = 5) with rfl | rfl | rfl | rfl | rfl | rfl
    · exact va_eqt e0
    · exact va_eqt e1
    · exact va_eqt e2
    · exact va_eqt e3
    · exact va_eqt e4
    · exact va_eqt e5) hA
  exact ⟨t, va_Zref (hts _ tb_677) (hts _ tb_55) ht hA, hT⟩
theorem st_M {b : Nat} {s : State} {A : Nat → Prop} (hts : ∀ w ∈ lw_tbl, w.before #[Value.ref b] s = true) (hgv : (Jvm.Cond.and given_1 narrow_1).before #[Value.ref b] s = true) (hA : ∀ a : Nat, a < s.heap.size → ¬ A a) : ∃ t, va_Z "ClawCase$Asked" "MARK" "[I" (.ref t) A s s.heap ∧ va_T .int t 6 (fun i => .int (tzM i)) A s s.heap := by
  have hs := flat_of_before _ hgv
  have harr : (Cond.arrayOf (.static "ClawCase$Asked" "MARK" "[I") .int).before #[Value.ref b] s = true := hs _ (by decide +kernel)
  have hlen : (Cond.eq (.length (.static "ClawCase$Asked" "MARK" "[I")) (.int 6)).before #[Value.ref b] s = true := hs _ (by decide +kernel)
  have e0 : (Cond.eq (.elem (.static "ClawCase$Asked" "MARK" "[I") (.int 0)) (.int (20))).before #[Value.ref b] s = true := hs _ (by decide +kernel)
  have e1 : (Cond.eq (.elem (.static "ClawCase$Asked" "MARK" "[I") (.int 1)) (.int (21))).before #[Value.ref b] s = true := hs _ (by decide +kernel)
  have e2 : (Cond.eq (.elem (.static "ClawCase$Asked" "MARK" "[I") (.int 2)) (.int (24))).before #[Value.ref b] s = true := hs _ (by decide +kernel)
  have e3 : (Cond.eq (.elem (.static "ClawCase$Asked" "MARK" "[I") (.int 3)) (.int (22))).before #[Value.ref b] s = true := hs _ (by decide +kernel)
  have e4 : (Cond.eq (.elem (.static "ClawCase$Asked" "MARK" "[I") (.int 4)) (.int (23))).before #[Value.ref b] s = true := hs _ (by decide +kernel)
  have e5 : (Cond.eq (.elem (.static "ClawCase$Asked" "MARK" "[I") (.int 5)) (.int (23))).before #[Value.ref b] s = true := hs _ (by decide +kernel)
  obtain ⟨t, ht, hT⟩ := va_Tof (tm := (.static "ClawCase$Asked" "MARK" "[I")) (ty := .int) (N := 6) (f := fun i => .int (tzM i)) (A := A) (by decide) harr (va_eqt hlen) (fun j hj => by
    rcases (by omega : j = 0 ∨ j = 1 ∨ j = 2 ∨ j = 3 ∨ j = 4 ∨ j = 5) with rfl | rfl | rfl | rfl | rfl | rfl
    · exact va_eqt e0
    · exact va_eqt e1
    · exact va_eqt e2
    · exact va_eqt e3
    · exact va_eqt e4
    · exact va_eqt e5) hA
  exact ⟨t, va_Zref (hts _ tb_679) (hts _ tb_55) ht hA, hT⟩
theorem st_ZS {b : Nat} {s : State} {A : Nat → Prop} (hts : ∀ w ∈ lw_tbl, w.before #[Value.ref b] s = true) (hgv : (Jvm.Cond.and given_1 narrow_1).before #[Value.ref b] s = true) (hA : ∀ a : Nat, a < s.heap.size → ¬ A a) : ∃ tz : Nat → Nat, ZS tz A s s.heap := by
  obtain ⟨t0, a0, b0⟩ := st_W hts hgv hA
  obtain ⟨t1, a1, b1⟩ := st_S hts hgv hA
  obtain ⟨t2, a2, b2⟩ := st_M hts hgv hA
  exact ⟨fun k => if k = 0 then t0 else if k = 1 then t1 else t2, ⟨a0, b0⟩, ⟨a1, b1⟩, ⟨a2, b2⟩⟩
theorem ac_p {s : State} {args : Array Value} {ty : FieldType} (hR : ∀ cA, s.vm.findClass ("[" ++ ty.toString) = some cA → va_RA s cA ty) (h : (Cond.arrayClass ty).before args s = true) : ∃ cA, ArrOfT s cA ty ∧ va_RA s cA ty := by
  obtain ⟨cA, kA, comp, h1, h2, h3⟩ := Cond.arrayClass_spec (args := args) (first := s) (o := none) (s := s) (idx := []) (type := ty) h
  exact ⟨cA, fun n z => ⟨(fun k h => by cases h), kA, h2, comp, h3⟩, hR cA h1⟩
theorem ac_o {s : State} {args : Array Value} {C : String} (h : (Cond.arrayOver (.object C)).before args s = true) : ∃ cA, ArrOfT s cA (.object C) ∧ va_RA s cA (.object C) := by
  obtain ⟨comp, cA, kA, h1, h2, h3, h4, h5⟩ := Cond.arrayOver_spec (args := args) (first := s) (o := none) (s := s) (idx := []) (n := C) h
  exact ⟨cA, fun n z => ⟨(fun k h => by cases h), kA, h3, comp, h4⟩, kA, comp, h3, h4, h1, h5⟩
theorem st_AO {b : Nat} {s : State} (hts : ∀ w ∈ lw_tbl, w.before #[Value.ref b] s = true) : AO3 s := ⟨va_AO.of (hts _ tb_174), va_AO.of (hts _ tb_211), va_AO.of (hts _ tb_70)⟩
theorem st_NI {b : Nat} {s : State} (hts : ∀ w ∈ lw_tbl, w.before #[Value.ref b] s = true) : NI s := List.forall_mem_cons.mpr ⟨va_Nw.of rfl (hts _ tb_73), List.forall_mem_cons.mpr ⟨va_Nw.of rfl (hts _ tb_79), List.forall_mem_cons.mpr ⟨va_Nw.of rfl (hts _ tb_166), List.forall_mem_cons.mpr ⟨va_Nw.of rfl (hts _ tb_176), List.forall_mem_cons.mpr ⟨va_Nw.of rfl (hts _ tb_219), List.forall_mem_cons.mpr ⟨va_Nw.of rfl (hts _ tb_221), List.forall_mem_cons.mpr ⟨va_Nw.of rfl (hts _ tb_247), List.forall_mem_cons.mpr ⟨va_Nw.of rfl (hts _ tb_261), fun _ h => absurd h List.not_mem_nil⟩⟩⟩⟩⟩⟩⟩⟩
theorem st_NW {b : Nat} {s : State} (hts : ∀ w ∈ lw_tbl, w.before #[Value.ref b] s = true) : NW s := List.forall_mem_cons.mpr ⟨va_Nw.of rfl (hts _ tb_346), List.forall_mem_cons.mpr ⟨va_Nw.of rfl (hts _ tb_390), List.forall_mem_cons.mpr ⟨va_Nw.of rfl (hts _ tb_422), List.forall_mem_cons.mpr ⟨va_Nw.of rfl (hts _ tb_485), List.forall_mem_cons.mpr ⟨va_Nw.of rfl (hts _ tb_632), List.forall_mem_cons.mpr ⟨va_Nw.of rfl (hts _ tb_651), fun _ h => absurd h List.not_mem_nil⟩⟩⟩⟩⟩⟩
theorem st_K {b : Nat} {s : State} (hts : ∀ w ∈ lw_tbl, w.before #[Value.ref b] s = true) : ∃ (dC : Nat → ClassId) (dI : Nat → Nat → Nat) (cy : Nat → ClassId), va_K (dC, dI) vwCl (tys cy) s := by
  obtain ⟨c0, i0, k0⟩ := u_known (C := RX0) (T := TX0) (N := 3) (n := 3) hts inX0 (hts _ tb_168)
  obtain ⟨c1, i1, k1⟩ := u_known (C := RX1) (T := TX1) (N := 2) (n := 2) hts inX1 (hts _ tb_246)
  obtain ⟨c2, i2, k2⟩ := u_known (C := RX2) (T := TX2) (N := 6) (n := 6) hts inX2 (hts _ tb_175)
  obtain ⟨c3, i3, k3⟩ := u_known (C := RX3) (T := TX3) (N := 9) (n := 9) hts inX3 (hts _ tb_78)
  obtain ⟨c4, i4, k4⟩ := u_known (C := RX4) (T := TX4) (N := 6) (n := 6) hts inX4 (hts _ tb_213)
  obtain ⟨c5, i5, k5⟩ := u_known (C := RX5) (T := TX5) (N := 8) (n := 8) hts inX5 (hts _ tb_72)
  obtain ⟨c6, i6, k6⟩ := u_known (C := RX6) (T := TX6) (N := 4) (n := 4) hts inX6 (hts _ tb_260)
  obtain ⟨c7, i7, k7⟩ := u_known (C := RX7) (T := TX7) (N := 9) (n := 9) hts inX7 (hts _ tb_62)
  obtain ⟨c8, i8, k8⟩ := u_known (C := RX8) (T := TX8) (N := 24) (n := 24) hts inX8 (hts _ tb_707)
  obtain ⟨y0, a0⟩ := ac_p (ty := .int) (fun _ h => h) (hts _ tb_135)
  obtain ⟨y1, a1⟩ := ac_p (ty := .boolean) (fun _ h => h) (hts _ tb_785)
  obtain ⟨y2, a2⟩ := ac_o (C := RX2) (hts _ tb_174)
  obtain ⟨y3, a3⟩ := ac_o (C := RX3) (hts _ tb_211)
  obtain ⟨y4, a4⟩ := ac_o (C := RX6) (hts _ tb_70)
  refine ⟨fun k => match k with | 0 => c0 | 1 => c1 | 2 => c2 | 3 => c3 | 4 => c4 | 5 => c5 | 6 => c6 | 7 => c7 | _ => c8, fun k => match k with | 0 => i0 | 1 => i1 | 2 => i2 | 3 => i3 | 4 => i4 | 5 => i5 | 6 => i6 | 7 => i7 | _ => i8, fun k => match k with | 0 => y0 | 1 => y1 | 2 => y2 | 3 => y3 | _ => y4, ?_, ?_⟩
  · intro k q hq
    match k, hq with
    | 0, hq => cases hq; exact k0
    | 1, hq => cases hq; exact k1
    | 2, hq => cases hq; exact k2
    | 3, hq => cases hq; exact k3
    | 4, hq => cases hq; exact k4
    | 5, hq => cases hq; exact k5
    | 6, hq => cases hq; exact k6
    | 7, hq => cases hq; exact k7
    | 8, hq => cases hq; exact k8
    | k + 9, hq => simp [vwCl] at hq
  · intro k q hq
    match k, hq with
    | 0, hq => cases hq; exact a0
    | 1, hq => cases hq; exact a1
    | 2, hq => cases hq; exact a2
    | 3, hq => cases hq; exact a3
    | 4, hq => cases hq; exact a4
    | k + 5, hq => simp [tys] at hq
