/-! THE CLAIM OUT OF ONE WALK OF THE LAW'S BODY. Your part is whole_start (and what it stands on); all else here is the same for every law, but numbers. -/
def R_law : String := "ClawCaseLaw"
def lw_P (b : Addr) (xs : List Int32) (args : Array Value) (s : State) : Prop := args = #[.ref b] ∧ s.IntsAt b xs ∧ xs.length ≤ 3072 ∧ (Jvm.Cond.and given_1 narrow_1).before args s = true
def lw_Q (_ : Array Value) (s : State) (o : Outcome) (t : State) : Prop := o = .returned (some (.int 1)) ∧ Framed s o t [] 600000 7302250
def lw_Z (below : List Frame) (a : Array Value) (s : State) : State → Prop := fun t => ∃ o, t.status = .running ∧ Ended t below o ∧ lw_Q a s o t
/-- the law's own end, with 1 on the stack, nothing written that was there before, its room as the claim has it -/
theorem lw_ret {p : Program} {l : Launch} {e : Env} {s : State} {m : MethodId} {below : List Frame} {meth : Method} {c : Code} {b : Nat} (hx : p.tables.exec = Jvm.exec) (hb : c.code = code) (hr : meth.sig.returnType = ret) (hlocks : meth.locks = false) {pc : Nat} {H : Heap} {ls : Array Slot} (hdg : decode code pc = .ok (.ireturn, 1)) : W p l e room_1 s m #[Value.ref b] below meth c H [] 600000 7302250 (lw_Z below #[Value.ref b] s) (F0 m pc ls [.int 1]) := by
  intro T hT X
  obtain ⟨fs, hret, hrun, hended, hW, hframe⟩ := X.leave (v := some (.int 1)) (hlocks := hlocks) (fun h => by rw [hr] at h; cases h)
  have hmeth' : T.vm.method? m = some meth := X.method'
  refine ⟨T.setFrames fs, ?_, .returned (some (.int 1)), hrun, hended, rfl, ⟨_, rfl⟩, hW, hframe⟩
  jvm_step X.here [X.here.top, hx, hb, hdg, hmeth', hr, ret, narrow_b1]
  (try refine ⟨rfl, ?_⟩); (try refine ⟨rfl, ?_⟩)
  first | (intro acts; rw [hret _ acts rfl rfl rfl]) | rw [hret _ _ rfl rfl rfl]
  exact Steps.refl _
/-- what holds at the law's entry: the machine, the code, the tables' words (any of lw_tbl by 'hts w (by decide +kernel)'), the script of L ints xs at the cell b, what the Statement gives of the start (any of its parts by flat_of_before) -/
def lw_At (p : Program) (s : State) (m : MethodId) (meth : Method) (c : Code) (b L : Nat) (xs : Nat → Int32) : Prop :=
  p.tables.exec = Jvm.exec ∧ c.code = code ∧ meth.sig.returnType = ret ∧ c.maxLocals = 4 ∧ s.vm.findClass R_law = some m.cls ∧ (∀ w ∈ lw_tbl, w.before #[Value.ref b] s = true) ∧ va_X b L xs s s.heap ∧ b < s.heap.size ∧ meth.locks = false ∧ (Jvm.Cond.and given_1 narrow_1).before #[Value.ref b] s = true
/-! THE LAW'S LOOP -/
def LX (p : Program) (s : State) (m : MethodId) (meth : Method) (c : Code) (dC : Nat → ClassId) (dI : Nat → Nat → Nat) (cy : Nat → ClassId) (ad tz : Nat → Nat) (b L : Nat) (xs : Nat → Int32) : Prop :=
  CX p s m #[Value.ref b] meth c dC dI cy ad tz code 4 ret RL wsL_law ∧ va_X b L xs s s.heap ∧ b < s.heap.size ∧ ¬ Aw ad s.heap.size b ∧ L ≤ 3072 ∧ ∀ j, j < 100 → s.heap.size ≤ ad j
theorem kVL {p : Program} {l : Launch} {e : Env} {R : Room} {s : State} {m : MethodId} {args : Array Value} {below : List Frame} {meth : Method} {c : Code} {dC : Nat → ClassId} {dI : Nat → Nat → Nat} {cy : Nat → ClassId} {ad tz : Nat → Nat} {cc : ByteArray} {nL : Nat} {ret : Option FieldType} {own : String} {Ts : List Cond} {g : Mm} {H : Heap} {locs : List Loc} {QW : State → Prop} {pc : Nat} {ls : Array Slot} {rest : List Value} {cells slots : Nat} {y : MethodName} {ws : List Cond} {rm : Room} {j ci n index maxL : Nat} {bytes : ByteArray} {rt : Option FieldType} {As : List Value} {Q : Int32 → Mm → Prop} {q : vw_C} {fs : List Value} {st : List Value} (C : CX p s m args meth c dC dI cy ad tz cc nL ret own Ts) (S : St dC dI cy ad s g H locs) (hl : ls.size = nL) (hM : CI l dC dI cy ad tz y ws rm (.ref (ad j) :: As) g Q) (hw : (wd cy ad g)[j]? = some (ad j, .inr (ci, fs))) (hc : vwCl[ci]? = some q) (cw : CallW R s args own q.1 index y bytes maxL rt ws rm 0 0 n) (hn : As.length = n) (hst : st = As.reverse ++ .ref (ad j) :: rest) (h8 : (rest.map fun v => v.category).sum ≤ 8) (hcs : cells + 0 ≤ R.cells) (hss : slots + 0 ≤ R.slots) (hd : decode cc pc = .ok (.invokevirtual index, 3))
    (kk : ∀ (r : Int32) (u : Mm) (H : Heap) (locs : List Loc), Q r u → St dC dI cy ad s u H locs → W p l e R s m args below meth c H locs cells slots QW (F0 m (pc + 3) ls (.int r :: rest))) : W p l e R s m args below meth c H locs cells slots QW (F0 m pc ls st) := by
  refine va_calli (va_runV (As := As) (rest := rest) C.1 (hM H.size) cw ⟨pr_blind, va_recv C.2.1 S.1 hc hw, fun U hU hW => ⟨rfl, C.pre S hU hW⟩⟩ rfl hn hl hst (lv_room h8) hd ⟨hcs, hss⟩) S.2.2 (fun q _ h => Aw.mono S.2.2.1 h) (fun q h => Aw.mono S.2.2.1 h) (fun r u t H1 locs1 ht hvm hw hB hz1 hk1 hS => ?_)
  exact kk r u H1 locs1 hw (S.back ht hB hS)
set_option maxHeartbeats 4000000 in
set_option maxRecDepth 100000 in
theorem law_0 {p : Program} {l : Launch} {e : Env} {s : State} {m : MethodId} {below : List Frame} {meth : Method} {c : Code} {dC : Nat → ClassId} {dI : Nat → Nat → Nat} {cy : Nat → ClassId} {ad tz : Nat → Nat} {b L : Nat} {xs : Nat → Int32} {i : Nat} {g : Mm} {H : Heap} {locs : List Loc} {ls : Array Slot} (X : LX p s m meth c dC dI cy ad tz b L xs) (S : St dC dI cy ad s g H locs) (hR : Rel g) (hl : lv_has ls 4 [(0, .ref b), (1, .ref (ad 0)), (2, .ref (ad 86)), (3, .int (nI i))]) (hi : i + 6 ≤ L) (kk : ∀ (u : Mm) (H : Heap) (locs : List Loc), Rel u → St dC dI cy ad s u H locs → W p l e room_1 s m #[Value.ref b] below meth c H locs 100 2346 (lw_Z below #[Value.ref b] s) (F0 m 1088 ls [])) : W p l e room_1 s m #[Value.ref b] below meth c H locs 100 2346 (lw_Z below #[Value.ref b] s) (F0 m 168 ls []) := by
  obtain ⟨C, hX, hbl, hbA, hL, hB0⟩ := X
  have hx := C.1.1
  have hb := C.1.2.1
  have hts := C.1.2.2.2.2
  have hin : ∀ k, k < 6 → vp_in (nI i + nI k) L := fun k hk => by rw [nI_add]; exact vlit _ (by omega) (by omega)
  refine lv_aload_n hx hb dL_law_168 rfl (lv_at hl 1 rfl) ?_
  refine lv_aload_n hx hb dL_law_169 rfl (lv_at hl 0 rfl) ?_
  refine lv_iload_n hx hb dL_law_170 rfl (lv_at hl 3 rfl) ?_
  refine lv_iconst (v := 1) hx hb dL_law_171 (by decide) ?_
  refine lv_iadd hx hb dL_law_172 ?_
  refine va_sld hx hb hX hbl hbA S.2.2 (hin 1 (by omega)) dL_law_173 ?_
  refine lv_aload_n hx hb dL_law_174 rfl (lv_at hl 0 rfl) ?_
  refine lv_iload_n hx hb dL_law_175 rfl (lv_at hl 3 rfl) ?_
  refine lv_iconst (v := 2) hx hb dL_law_176 (by decide) ?_
  refine lv_iadd hx hb dL_law_177 ?_
  refine va_sld hx hb hX hbl hbA S.2.2 (hin 2 (by omega)) dL_law_178 ?_
  refine lv_aload_n hx hb dL_law_179 rfl (lv_at hl 0 rfl) ?_
  refine lv_iload_n hx hb dL_law_180 rfl (lv_at hl 3 rfl) ?_
  refine lv_iconst (v := 3) hx hb dL_law_181 (by decide) ?_
  refine lv_iadd hx hb dL_law_182 ?_
  refine va_sld hx hb hX hbl hbA S.2.2 (hin 3 (by omega)) dL_law_183 ?_
  refine kVL C S hl.1 (o_X7_row_c (cmd_row hR _ _ _)) (wd_o7 (j := 0) rfl) rfl (cwV 3 hts gL_law_X7_row rfl rfl rfl (by decide +kernel) ⟨Nat.le_of_ble_eq_true rfl, Nat.le_of_ble_eq_true rfl⟩) rfl rfl (Nat.le_of_ble_eq_true rfl) (Nat.le_of_ble_eq_true rfl) (Nat.le_of_ble_eq_true rfl) dL_law_184 (fun r u H locs hq S => ?_)
  refine lv_aload_n hx hb dL_law_187 rfl (lv_at hl 2 rfl) ?_
  refine lv_aload_n hx hb dL_law_188 rfl (lv_at hl 0 rfl) ?_
  refine lv_iload_n hx hb dL_law_189 rfl (lv_at hl 3 rfl) ?_
  refine lv_iconst (v := 1) hx hb dL_law_190 (by decide) ?_
  refine lv_iadd hx hb dL_law_191 ?_
  refine va_sld hx hb hX hbl hbA S.2.2 (hin 1 (by omega)) dL_law_192 ?_
  refine lv_aload_n hx hb dL_law_193 rfl (lv_at hl 0 rfl) ?_
  refine lv_iload_n hx hb dL_law_194 rfl (lv_at hl 3 rfl) ?_
  refine lv_iconst (v := 2) hx hb dL_law_195 (by decide) ?_
  refine lv_iadd hx hb dL_law_196 ?_
  refine va_sld hx hb hX hbl hbA S.2.2 (hin 2 (by omega)) dL_law_197 ?_
  refine lv_aload_n hx hb dL_law_198 rfl (lv_at hl 0 rfl) ?_
  refine lv_iload_n hx hb dL_law_199 rfl (lv_at hl 3 rfl) ?_
  refine lv_iconst (v := 3) hx hb dL_law_200 (by decide) ?_
  refine lv_iadd hx hb dL_law_201 ?_
  refine va_sld hx hb hX hbl hbA S.2.2 (hin 3 (by omega)) dL_law_202 ?_
  refine kVL C S hl.1 (o_X8_row_c (Q := fun r2 g2 => r = r2 ∧ Rel g2) hq) (wd_o8 (j := 86) rfl) rfl (cwV 3 hts gL_law_X8_row rfl rfl rfl (by decide +kernel) ⟨Nat.le_of_ble_eq_true rfl, Nat.le_of_ble_eq_true rfl⟩) rfl rfl (Nat.le_of_ble_eq_true rfl) (Nat.le_of_ble_eq_true rfl) (Nat.le_of_ble_eq_true rfl) dL_law_203 (fun r2 u H locs hq S => ?_)
  exact lv_icmp_eq (tgt := 1088) hx hb dL_law_206 (by decide) (fun _ => kk u H locs hq.2 S) (fun c9 => absurd hq.1 c9)
set_option maxHeartbeats 4000000 in
set_option maxRecDepth 100000 in
theorem law_1 {p : Program} {l : Launch} {e : Env} {s : State} {m : MethodId} {below : List Frame} {meth : Method} {c : Code} {dC : Nat → ClassId} {dI : Nat → Nat → Nat} {cy : Nat → ClassId} {ad tz : Nat → Nat} {b L : Nat} {xs : Nat → Int32} {i : Nat} {g : Mm} {H : Heap} {locs : List Loc} {ls : Array Slot} (X : LX p s m meth c dC dI cy ad tz b L xs) (S : St dC dI cy ad s g H locs) (hR : Rel g) (hl : lv_has ls 4 [(0, .ref b), (1, .ref (ad 0)), (2, .ref (ad 86)), (3, .int (nI i))]) (hi : i + 6 ≤ L) (kk : ∀ (u : Mm) (H : Heap) (locs : List Loc), Rel u → St dC dI cy ad s u H locs → W p l e room_1 s m #[Value.ref b] below meth c H locs 100 2346 (lw_Z below #[Value.ref b] s) (F0 m 1088 ls [])) : W p l e room_1 s m #[Value.ref b] below meth c H locs 100 2346 (lw_Z below #[Value.ref b] s) (F0 m 211 ls []) := by
  obtain ⟨C, hX, hbl, hbA, hL, hB0⟩ := X
  have hx := C.1.1
  have hb := C.1.2.1
  have hts := C.1.2.2.2.2
  have hin : ∀ k, k < 6 → vp_in (nI i + nI k) L := fun k hk => by rw [nI_add]; exact vlit _ (by omega) (by omega)
  refine lv_aload_n hx hb dL_law_211 rfl (lv_at hl 1 rfl) ?_
  refine lv_aload_n hx hb dL_law_212 rfl (lv_at hl 0 rfl) ?_
  refine lv_iload_n hx hb dL_law_213 rfl (lv_at hl 3 rfl) ?_
  refine lv_iconst (v := 1) hx hb dL_law_214 (by decide) ?_
  refine lv_iadd hx hb dL_law_215 ?_
  refine va_sld hx hb hX hbl hbA S.2.2 (hin 1 (by omega)) dL_law_216 ?_
  refine lv_aload_n hx hb dL_law_217 rfl (lv_at hl 0 rfl) ?_
  refine lv_iload_n hx hb dL_law_218 rfl (lv_at hl 3 rfl) ?_
  refine lv_iconst (v := 2) hx hb dL_law_219 (by decide) ?_
  refine lv_iadd hx hb dL_law_220 ?_
  refine va_sld hx hb hX hbl hbA S.2.2 (hin 2 (by omega)) dL_law_221 ?_
  refine lv_aload_n hx hb dL_law_222 rfl (lv_at hl 0 rfl) ?_
  refine lv_iload_n hx hb dL_law_223 rfl (lv_at hl 3 rfl) ?_
  refine lv_iconst (v := 3) hx hb dL_law_224 (by decide) ?_
  refine lv_iadd hx hb dL_law_225 ?_
  refine va_sld hx hb hX hbl hbA S.2.2 (hin 3 (by omega)) dL_law_226 ?_
  refine kVL C S hl.1 (o_X7_set_c (cmd_set hR _ _ _)) (wd_o7 (j := 0) rfl) rfl (cwV 3 hts gL_law_X7_set rfl rfl rfl (by decide +kernel) ⟨Nat.le_of_ble_eq_true rfl, Nat.le_of_ble_eq_true rfl⟩) rfl rfl (Nat.le_of_ble_eq_true rfl) (Nat.le_of_ble_eq_true rfl) (Nat.le_of_ble_eq_true rfl) dL_law_227 (fun r u H locs hq S => ?_)
  refine lv_aload_n hx hb dL_law_230 rfl (lv_at hl 2 rfl) ?_
  refine lv_aload_n hx hb dL_law_231 rfl (lv_at hl 0 rfl) ?_
  refine lv_iload_n hx hb dL_law_232 rfl (lv_at hl 3 rfl) ?_
  refine lv_iconst (v := 1) hx hb dL_law_233 (by decide) ?_
  refine lv_iadd hx hb dL_law_234 ?_
  refine va_sld hx hb hX hbl hbA S.2.2 (hin 1 (by omega)) dL_law_235 ?_
  refine lv_aload_n hx hb dL_law_236 rfl (lv_at hl 0 rfl) ?_
  refine lv_iload_n hx hb dL_law_237 rfl (lv_at hl 3 rfl) ?_
  refine lv_iconst (v := 2) hx hb dL_law_238 (by decide) ?_
  refine lv_iadd hx hb dL_law_239 ?_
  refine va_sld hx hb hX hbl hbA S.2.2 (hin 2 (by omega)) dL_law_240 ?_
  refine lv_aload_n hx hb dL_law_241 rfl (lv_at hl 0 rfl) ?_
  refine lv_iload_n hx hb dL_law_242 rfl (lv_at hl 3 rfl) ?_
  refine lv_iconst (v := 3) hx hb dL_law_243 (by decide) ?_
  refine lv_iadd hx hb dL_law_244 ?_
  refine va_sld hx hb hX hbl hbA S.2.2 (hin 3 (by omega)) dL_law_245 ?_
  refine kVL C S hl.1 (o_X8_set_c (Q := fun r2 g2 => r = r2 ∧ Rel g2) hq) (wd_o8 (j := 86) rfl) rfl (cwV 3 hts gL_law_X8_set rfl rfl rfl (by decide +kernel) ⟨Nat.le_of_ble_eq_true rfl, Nat.le_of_ble_eq_true rfl⟩) rfl rfl (Nat.le_of_ble_eq_true rfl) (Nat.le_of_ble_eq_true rfl) (Nat.le_of_ble_eq_true rfl) dL_law_246 (fun r2 u H locs hq S => ?_)
  exact lv_icmp_eq (tgt := 1088) hx hb dL_law_249 (by decide) (fun _ => kk u H locs hq.2 S) (fun c9 => absurd hq.1 c9)
set_option maxHeartbeats 4000000 in
set_option maxRecDepth 100000 in
theorem law_2 {p : Program} {l : Launch} {e : Env} {s : State} {m : MethodId} {below : List Frame} {meth : Method} {c : Code} {dC : Nat → ClassId} {dI : Nat → Nat → Nat} {cy : Nat → ClassId} {ad tz : Nat → Nat} {b L : Nat} {xs : Nat → Int32} {i : Nat} {g : Mm} {H : Heap} {locs : List Loc} {ls : Array Slot} (X : LX p s m meth c dC dI cy ad tz b L xs) (S : St dC dI cy ad s g H locs) (hR : Rel g) (hl : lv_has ls 4 [(0, .ref b), (1, .ref (ad 0)), (2, .ref (ad 86)), (3, .int (nI i))]) (hi : i + 6 ≤ L) (kk : ∀ (u : Mm) (H : Heap) (locs : List Loc), Rel u → St dC dI cy ad s u H locs → W p l e room_1 s m #[Value.ref b] below meth c H locs 100 2346 (lw_Z below #[Value.ref b] s) (F0 m 1088 ls [])) : W p l e room_1 s m #[Value.ref b] below meth c H locs 100 2346 (lw_Z below #[Value.ref b] s) (F0 m 254 ls []) := by
  obtain ⟨C, hX, hbl, hbA, hL, hB0⟩ := X
  have hx := C.1.1
  have hb := C.1.2.1
  have hts := C.1.2.2.2.2
  have hin : ∀ k, k < 6 → vp_in (nI i + nI k) L := fun k hk => by rw [nI_add]; exact vlit _ (by omega) (by omega)
  refine lv_aload_n hx hb dL_law_254 rfl (lv_at hl 1 rfl) ?_
  refine lv_aload_n hx hb dL_law_255 rfl (lv_at hl 0 rfl) ?_
  refine lv_iload_n hx hb dL_law_256 rfl (lv_at hl 3 rfl) ?_
  refine lv_iconst (v := 1) hx hb dL_law_257 (by decide) ?_
  refine lv_iadd hx hb dL_law_258 ?_
  refine va_sld hx hb hX hbl hbA S.2.2 (hin 1 (by omega)) dL_law_259 ?_
  refine lv_aload_n hx hb dL_law_260 rfl (lv_at hl 0 rfl) ?_
  refine lv_iload_n hx hb dL_law_261 rfl (lv_at hl 3 rfl) ?_
  refine lv_iconst (v := 2) hx hb dL_law_262 (by decide) ?_
  refine lv_iadd hx hb dL_law_263 ?_
  refine va_sld hx hb hX hbl hbA S.2.2 (hin 2 (by omega)) dL_law_264 ?_
  refine lv_aload_n hx hb dL_law_265 rfl (lv_at hl 0 rfl) ?_
  refine lv_iload_n hx hb dL_law_266 rfl (lv_at hl 3 rfl) ?_
  refine lv_iconst (v := 3) hx hb dL_law_267 (by decide) ?_
  refine lv_iadd hx hb dL_law_268 ?_
  refine va_sld hx hb hX hbl hbA S.2.2 (hin 3 (by omega)) dL_law_269 ?_
  refine lv_aload_n hx hb dL_law_270 rfl (lv_at hl 0 rfl) ?_
  refine lv_iload_n hx hb dL_law_271 rfl (lv_at hl 3 rfl) ?_
  refine lv_iconst (v := 4) hx hb dL_law_272 (by decide) ?_
  refine lv_iadd hx hb dL_law_273 ?_
  refine va_sld hx hb hX hbl hbA S.2.2 (hin 4 (by omega)) dL_law_274 ?_
  refine lv_aload_n hx hb dL_law_275 rfl (lv_at hl 0 rfl) ?_
  refine lv_iload_n hx hb dL_law_276 rfl (lv_at hl 3 rfl) ?_
  refine lv_iconst (v := 5) hx hb dL_law_277 (by decide) ?_
  refine lv_iadd hx hb dL_law_278 ?_
  refine va_sld hx hb hX hbl hbA S.2.2 (hin 5 (by omega)) dL_law_279 ?_
  refine kVL C S hl.1 (o_X7_copy_c (cmd_copy hR _ _ _ _ _)) (wd_o7 (j := 0) rfl) rfl (cwV 5 hts gL_law_X7_copy rfl rfl rfl (by decide +kernel) ⟨Nat.le_of_ble_eq_true rfl, Nat.le_of_ble_eq_true rfl⟩) rfl rfl (Nat.le_of_ble_eq_true rfl) (Nat.le_of_ble_eq_true rfl) (Nat.le_of_ble_eq_true rfl) dL_law_280 (fun r u H locs hq S => ?_)
  refine lv_aload_n hx hb dL_law_283 rfl (lv_at hl 2 rfl) ?_
  refine lv_aload_n hx hb dL_law_284 rfl (lv_at hl 0 rfl) ?_
  refine lv_iload_n hx hb dL_law_285 rfl (lv_at hl 3 rfl) ?_
  refine lv_iconst (v := 1) hx hb dL_law_286 (by decide) ?_
  refine lv_iadd hx hb dL_law_287 ?_
  refine va_sld hx hb hX hbl hbA S.2.2 (hin 1 (by omega)) dL_law_288 ?_
  refine lv_aload_n hx hb dL_law_289 rfl (lv_at hl 0 rfl) ?_
  refine lv_iload_n hx hb dL_law_290 rfl (lv_at hl 3 rfl) ?_
  refine lv_iconst (v := 2) hx hb dL_law_291 (by decide) ?_
  refine lv_iadd hx hb dL_law_292 ?_
  refine va_sld hx hb hX hbl hbA S.2.2 (hin 2 (by omega)) dL_law_293 ?_
  refine lv_aload_n hx hb dL_law_294 rfl (lv_at hl 0 rfl) ?_
  refine lv_iload_n hx hb dL_law_295 rfl (lv_at hl 3 rfl) ?_
  refine lv_iconst (v := 3) hx hb dL_law_296 (by decide) ?_
  refine lv_iadd hx hb dL_law_297 ?_
  refine va_sld hx hb hX hbl hbA S.2.2 (hin 3 (by omega)) dL_law_298 ?_
  refine lv_aload_n hx hb dL_law_299 rfl (lv_at hl 0 rfl) ?_
  refine lv_iload_n hx hb dL_law_300 rfl (lv_at hl 3 rfl) ?_
  refine lv_iconst (v := 4) hx hb dL_law_301 (by decide) ?_
  refine lv_iadd hx hb dL_law_302 ?_
  refine va_sld hx hb hX hbl hbA S.2.2 (hin 4 (by omega)) dL_law_303 ?_
  refine lv_aload_n hx hb dL_law_304 rfl (lv_at hl 0 rfl) ?_
  refine lv_iload_n hx hb dL_law_305 rfl (lv_at hl 3 rfl) ?_
  refine lv_iconst (v := 5) hx hb dL_law_306 (by decide) ?_
  refine lv_iadd hx hb dL_law_307 ?_
  refine va_sld hx hb hX hbl hbA S.2.2 (hin 5 (by omega)) dL_law_308 ?_
  refine kVL C S hl.1 (o_X8_copy_c (Q := fun r2 g2 => r = r2 ∧ Rel g2) hq) (wd_o8 (j := 86) rfl) rfl (cwV 5 hts gL_law_X8_copy rfl rfl rfl (by decide +kernel) ⟨Nat.le_of_ble_eq_true rfl, Nat.le_of_ble_eq_true rfl⟩) rfl rfl (Nat.le_of_ble_eq_true rfl) (Nat.le_of_ble_eq_true rfl) (Nat.le_of_ble_eq_true rfl) dL_law_309 (fun r2 u H locs hq S => ?_)
  exact lv_icmp_eq (tgt := 1088) hx hb dL_law_312 (by decide) (fun _ => kk u H locs hq.2 S) (fun c9 => absurd hq.1 c9)
set_option maxHeartbeats 4000000 in
set_option maxRecDepth 100000 in
theorem law_3 {p : Program} {l : Launch} {e : Env} {s : State} {m : MethodId} {below : List Frame} {meth : Method} {c : Code} {dC : Nat → ClassId} {dI : Nat → Nat → Nat} {cy : Nat → ClassId} {ad tz : Nat → Nat} {b L : Nat} {xs : Nat → Int32} {i : Nat} {g : Mm} {H : Heap} {locs : List Loc} {ls : Array Slot} (X : LX p s m meth c dC dI cy ad tz b L xs) (S : St dC dI cy ad s g H locs) (hR : Rel g) (hl : lv_has ls 4 [(0, .ref b), (1, .ref (ad 0)), (2, .ref (ad 86)), (3, .int (nI i))]) (hi : i + 6 ≤ L) (kk : ∀ (u : Mm) (H : Heap) (locs : List Loc), Rel u → St dC dI cy ad s u H locs → W p l e room_1 s m #[Value.ref b] below meth c H locs 100 2346 (lw_Z below #[Value.ref b] s) (F0 m 1088 ls [])) : W p l e room_1 s m #[Value.ref b] below meth c H locs 100 2346 (lw_Z below #[Value.ref b] s) (F0 m 317 ls []) := by
  obtain ⟨C, hX, hbl, hbA, hL, hB0⟩ := X
  have hx := C.1.1
  have hb := C.1.2.1
  have hts := C.1.2.2.2.2
  have hin : ∀ k, k < 6 → vp_in (nI i + nI k) L := fun k hk => by rw [nI_add]; exact vlit _ (by omega) (by omega)
  refine lv_aload_n hx hb dL_law_317 rfl (lv_at hl 1 rfl) ?_
  refine lv_aload_n hx hb dL_law_318 rfl (lv_at hl 0 rfl) ?_
  refine lv_iload_n hx hb dL_law_319 rfl (lv_at hl 3 rfl) ?_
  refine lv_iconst (v := 1) hx hb dL_law_320 (by decide) ?_
  refine lv_iadd hx hb dL_law_321 ?_
  refine va_sld hx hb hX hbl hbA S.2.2 (hin 1 (by omega)) dL_law_322 ?_
  refine kVL C S hl.1 (o_X7_drop_c (cmd_drop hR _)) (wd_o7 (j := 0) rfl) rfl (cwV 1 hts gL_law_X7_drop rfl rfl rfl (by decide +kernel) ⟨Nat.le_of_ble_eq_true rfl, Nat.le_of_ble_eq_true rfl⟩) rfl rfl (Nat.le_of_ble_eq_true rfl) (Nat.le_of_ble_eq_true rfl) (Nat.le_of_ble_eq_true rfl) dL_law_323 (fun r u H locs hq S => ?_)
  refine lv_aload_n hx hb dL_law_326 rfl (lv_at hl 2 rfl) ?_
  refine lv_aload_n hx hb dL_law_327 rfl (lv_at hl 0 rfl) ?_
  refine lv_iload_n hx hb dL_law_328 rfl (lv_at hl 3 rfl) ?_
  refine lv_iconst (v := 1) hx hb dL_law_329 (by decide) ?_
  refine lv_iadd hx hb dL_law_330 ?_
  refine va_sld hx hb hX hbl hbA S.2.2 (hin 1 (by omega)) dL_law_331 ?_
  refine kVL C S hl.1 (o_X8_drop_c (Q := fun r2 g2 => r = r2 ∧ Rel g2) hq) (wd_o8 (j := 86) rfl) rfl (cwV 1 hts gL_law_X8_drop rfl rfl rfl (by decide +kernel) ⟨Nat.le_of_ble_eq_true rfl, Nat.le_of_ble_eq_true rfl⟩) rfl rfl (Nat.le_of_ble_eq_true rfl) (Nat.le_of_ble_eq_true rfl) (Nat.le_of_ble_eq_true rfl) dL_law_332 (fun r2 u H locs hq S => ?_)
  exact lv_icmp_eq (tgt := 1088) hx hb dL_law_335 (by decide) (fun _ => kk u H locs hq.2 S) (fun c9 => absurd hq.1 c9)
set_option maxHeartbeats 4000000 in
set_option maxRecDepth 100000 in
theorem law_4 {p : Program} {l : Launch} {e : Env} {s : State} {m : MethodId} {below : List Frame} {meth : Method} {c : Code} {dC : Nat → ClassId} {dI : Nat → Nat → Nat} {cy : Nat → ClassId} {ad tz : Nat → Nat} {b L : Nat} {xs : Nat → Int32} {i : Nat} {g : Mm} {H : Heap} {locs : List Loc} {ls : Array Slot} (X : LX p s m meth c dC dI cy ad tz b L xs) (S : St dC dI cy ad s g H locs) (hR : Rel g) (hl : lv_has ls 4 [(0, .ref b), (1, .ref (ad 0)), (2, .ref (ad 86)), (3, .int (nI i))]) (hi : i + 6 ≤ L) (kk : ∀ (u : Mm) (H : Heap) (locs : List Loc), Rel u → St dC dI cy ad s u H locs → W p l e room_1 s m #[Value.ref b] below meth c H locs 100 2346 (lw_Z below #[Value.ref b] s) (F0 m 1088 ls [])) : W p l e room_1 s m #[Value.ref b] below meth c H locs 100 2346 (lw_Z below #[Value.ref b] s) (F0 m 340 ls []) := by
  obtain ⟨C, hX, hbl, hbA, hL, hB0⟩ := X
  have hx := C.1.1
  have hb := C.1.2.1
  have hts := C.1.2.2.2.2
  have hin : ∀ k, k < 6 → vp_in (nI i + nI k) L := fun k hk => by rw [nI_add]; exact vlit _ (by omega) (by omega)
  refine lv_aload_n hx hb dL_law_340 rfl (lv_at hl 1 rfl) ?_
  refine lv_aload_n hx hb dL_law_341 rfl (lv_at hl 0 rfl) ?_
  refine lv_iload_n hx hb dL_law_342 rfl (lv_at hl 3 rfl) ?_
  refine lv_iconst (v := 1) hx hb dL_law_343 (by decide) ?_
  refine lv_iadd hx hb dL_law_344 ?_
  refine va_sld hx hb hX hbl hbA S.2.2 (hin 1 (by omega)) dL_law_345 ?_
  refine kVL C S hl.1 (o_X7_feed_c (cmd_feed hR _)) (wd_o7 (j := 0) rfl) rfl (cwV 1 hts gL_law_X7_feed rfl rfl rfl (by decide +kernel) ⟨Nat.le_of_ble_eq_true rfl, Nat.le_of_ble_eq_true rfl⟩) rfl rfl (Nat.le_of_ble_eq_true rfl) (Nat.le_of_ble_eq_true rfl) (Nat.le_of_ble_eq_true rfl) dL_law_346 (fun r u H locs hq S => ?_)
  refine lv_aload_n hx hb dL_law_349 rfl (lv_at hl 2 rfl) ?_
  refine lv_aload_n hx hb dL_law_350 rfl (lv_at hl 0 rfl) ?_
  refine lv_iload_n hx hb dL_law_351 rfl (lv_at hl 3 rfl) ?_
  refine lv_iconst (v := 1) hx hb dL_law_352 (by decide) ?_
  refine lv_iadd hx hb dL_law_353 ?_
  refine va_sld hx hb hX hbl hbA S.2.2 (hin 1 (by omega)) dL_law_354 ?_
  refine kVL C S hl.1 (o_X8_feed_c (Q := fun r2 g2 => r = r2 ∧ Rel g2) hq) (wd_o8 (j := 86) rfl) rfl (cwV 1 hts gL_law_X8_feed rfl rfl rfl (by decide +kernel) ⟨Nat.le_of_ble_eq_true rfl, Nat.le_of_ble_eq_true rfl⟩) rfl rfl (Nat.le_of_ble_eq_true rfl) (Nat.le_of_ble_eq_true rfl) (Nat.le_of_ble_eq_true rfl) dL_law_355 (fun r2 u H locs hq S => ?_)
  exact lv_icmp_eq (tgt := 1088) hx hb dL_law_358 (by decide) (fun _ => kk u H locs hq.2 S) (fun c9 => absurd hq.1 c9)
set_option maxHeartbeats 4000000 in
set_option maxRecDepth 100000 in
theorem law_5 {p : Program} {l : Launch} {e : Env} {s : State} {m : MethodId} {below : List Frame} {meth : Method} {c : Code} {dC : Nat → ClassId} {dI : Nat → Nat → Nat} {cy : Nat → ClassId} {ad tz : Nat → Nat} {b L : Nat} {xs : Nat → Int32} {i : Nat} {g : Mm} {H : Heap} {locs : List Loc} {ls : Array Slot} (X : LX p s m meth c dC dI cy ad tz b L xs) (S : St dC dI cy ad s g H locs) (hR : Rel g) (hl : lv_has ls 4 [(0, .ref b), (1, .ref (ad 0)), (2, .ref (ad 86)), (3, .int (nI i))]) (hi : i + 6 ≤ L) (kk : ∀ (u : Mm) (H : Heap) (locs : List Loc), Rel u → St dC dI cy ad s u H locs → W p l e room_1 s m #[Value.ref b] below meth c H locs 100 2346 (lw_Z below #[Value.ref b] s) (F0 m 1088 ls [])) : W p l e room_1 s m #[Value.ref b] below meth c H locs 100 2346 (lw_Z below #[Value.ref b] s) (F0 m 363 ls []) := by
  obtain ⟨C, hX, hbl, hbA, hL, hB0⟩ := X
  have hx := C.1.1
  have hb := C.1.2.1
  have hts := C.1.2.2.2.2
  have hin : ∀ k, k < 6 → vp_in (nI i + nI k) L := fun k hk => by rw [nI_add]; exact vlit _ (by omega) (by omega)
  refine lv_aload_n hx hb dL_law_363 rfl (lv_at hl 1 rfl) ?_
  refine kVL C S hl.1 (o_X7_glass_c (cmd_glass hR )) (wd_o7 (j := 0) rfl) rfl (cwV 0 hts gL_law_X7_glass rfl rfl rfl (by decide +kernel) ⟨Nat.le_of_ble_eq_true rfl, Nat.le_of_ble_eq_true rfl⟩) rfl rfl (Nat.le_of_ble_eq_true rfl) (Nat.le_of_ble_eq_true rfl) (Nat.le_of_ble_eq_true rfl) dL_law_364 (fun r u H locs hq S => ?_)
  refine lv_aload_n hx hb dL_law_367 rfl (lv_at hl 2 rfl) ?_
  refine kVL C S hl.1 (o_X8_glass_c (Q := fun r2 g2 => r = r2 ∧ Rel g2) hq) (wd_o8 (j := 86) rfl) rfl (cwV 0 hts gL_law_X8_glass rfl rfl rfl (by decide +kernel) ⟨Nat.le_of_ble_eq_true rfl, Nat.le_of_ble_eq_true rfl⟩) rfl rfl (Nat.le_of_ble_eq_true rfl) (Nat.le_of_ble_eq_true rfl) (Nat.le_of_ble_eq_true rfl) dL_law_368 (fun r2 u H locs hq S => ?_)
  exact lv_icmp_eq (tgt := 1088) hx hb dL_law_371 (by decide) (fun _ => kk u H locs hq.2 S) (fun c9 => absurd hq.1 c9)
set_option maxHeartbeats 4000000 in
set_option maxRecDepth 100000 in
theorem law_6 {p : Program} {l : Launch} {e : Env} {s : State} {m : MethodId} {below : List Frame} {meth : Method} {c : Code} {dC : Nat → ClassId} {dI : Nat → Nat → Nat} {cy : Nat → ClassId} {ad tz : Nat → Nat} {b L : Nat} {xs : Nat → Int32} {i : Nat} {g : Mm} {H : Heap} {locs : List Loc} {ls : Array Slot} (X : LX p s m meth c dC dI cy ad tz b L xs) (S : St dC dI cy ad s g H locs) (hR : Rel g) (hl : lv_has ls 4 [(0, .ref b), (1, .ref (ad 0)), (2, .ref (ad 86)), (3, .int (nI i))]) (hi : i + 6 ≤ L) (kk : ∀ (u : Mm) (H : Heap) (locs : List Loc), Rel u → St dC dI cy ad s u H locs → W p l e room_1 s m #[Value.ref b] below meth c H locs 100 2346 (lw_Z below #[Value.ref b] s) (F0 m 1088 ls [])) : W p l e room_1 s m #[Value.ref b] below meth c H locs 100 2346 (lw_Z below #[Value.ref b] s) (F0 m 376 ls []) := by
  obtain ⟨C, hX, hbl, hbA, hL, hB0⟩ := X
  have hx := C.1.1
  have hb := C.1.2.1
  have hts := C.1.2.2.2.2
  have hin : ∀ k, k < 6 → vp_in (nI i + nI k) L := fun k hk => by rw [nI_add]; exact vlit _ (by omega) (by omega)
  refine lv_aload_n hx hb dL_law_376 rfl (lv_at hl 1 rfl) ?_
  refine kVL C S hl.1 (o_X7_fault_c (cmd_fault hR )) (wd_o7 (j := 0) rfl) rfl (cwV 0 hts gL_law_X7_fault rfl rfl rfl (by decide +kernel) ⟨Nat.le_of_ble_eq_true rfl, Nat.le_of_ble_eq_true rfl⟩) rfl rfl (Nat.le_of_ble_eq_true rfl) (Nat.le_of_ble_eq_true rfl) (Nat.le_of_ble_eq_true rfl) dL_law_377 (fun r u H locs hq S => ?_)
  refine lv_aload_n hx hb dL_law_380 rfl (lv_at hl 2 rfl) ?_
  refine kVL C S hl.1 (o_X8_fault_c (Q := fun r2 g2 => r = r2 ∧ Rel g2) hq) (wd_o8 (j := 86) rfl) rfl (cwV 0 hts gL_law_X8_fault rfl rfl rfl (by decide +kernel) ⟨Nat.le_of_ble_eq_true rfl, Nat.le_of_ble_eq_true rfl⟩) rfl rfl (Nat.le_of_ble_eq_true rfl) (Nat.le_of_ble_eq_true rfl) (Nat.le_of_ble_eq_true rfl) dL_law_381 (fun r2 u H locs hq S => ?_)
  exact lv_icmp_eq (tgt := 1088) hx hb dL_law_384 (by decide) (fun _ => kk u H locs hq.2 S) (fun c9 => absurd hq.1 c9)
set_option maxHeartbeats 4000000 in
set_option maxRecDepth 100000 in
theorem law_7 {p : Program} {l : Launch} {e : Env} {s : State} {m : MethodId} {below : List Frame} {meth : Method} {c : Code} {dC : Nat → ClassId} {dI : Nat → Nat → Nat} {cy : Nat → ClassId} {ad tz : Nat → Nat} {b L : Nat} {xs : Nat → Int32} {i : Nat} {g : Mm} {H : Heap} {locs : List Loc} {ls : Array Slot} (X : LX p s m meth c dC dI cy ad tz b L xs) (S : St dC dI cy ad s g H locs) (hR : Rel g) (hl : lv_has ls 4 [(0, .ref b), (1, .ref (ad 0)), (2, .ref (ad 86)), (3, .int (nI i))]) (hi : i + 6 ≤ L) (kk : ∀ (u : Mm) (H : Heap) (locs : List Loc), Rel u → St dC dI cy ad s u H locs → W p l e room_1 s m #[Value.ref b] below meth c H locs 100 2346 (lw_Z below #[Value.ref b] s) (F0 m 1088 ls [])) : W p l e room_1 s m #[Value.ref b] below meth c H locs 100 2346 (lw_Z below #[Value.ref b] s) (F0 m 389 ls []) := by
  obtain ⟨C, hX, hbl, hbA, hL, hB0⟩ := X
  have hx := C.1.1
  have hb := C.1.2.1
  have hts := C.1.2.2.2.2
  have hin : ∀ k, k < 6 → vp_in (nI i + nI k) L := fun k hk => by rw [nI_add]; exact vlit _ (by omega) (by omega)
  refine lv_aload_n hx hb dL_law_389 rfl (lv_at hl 1 rfl) ?_
  refine lv_aload_n hx hb dL_law_390 rfl (lv_at hl 0 rfl) ?_
  refine lv_iload_n hx hb dL_law_391 rfl (lv_at hl 3 rfl) ?_
  refine lv_iconst (v := 1) hx hb dL_law_392 (by decide) ?_
  refine lv_iadd hx hb dL_law_393 ?_
  refine va_sld hx hb hX hbl hbA S.2.2 (hin 1 (by omega)) dL_law_394 ?_
  refine kVL C S hl.1 (o_X7_play_c (cmd_play hR _)) (wd_o7 (j := 0) rfl) rfl (cwV 1 hts gL_law_X7_play rfl rfl rfl (by decide +kernel) ⟨Nat.le_of_ble_eq_true rfl, Nat.le_of_ble_eq_true rfl⟩) rfl rfl (Nat.le_of_ble_eq_true rfl) (Nat.le_of_ble_eq_true rfl) (Nat.le_of_ble_eq_true rfl) dL_law_395 (fun r u H locs hq S => ?_)
  refine lv_aload_n hx hb dL_law_398 rfl (lv_at hl 2 rfl) ?_
  refine lv_aload_n hx hb dL_law_399 rfl (lv_at hl 0 rfl) ?_
  refine lv_iload_n hx hb dL_law_400 rfl (lv_at hl 3 rfl) ?_
  refine lv_iconst (v := 1) hx hb dL_law_401 (by decide) ?_
  refine lv_iadd hx hb dL_law_402 ?_
  refine va_sld hx hb hX hbl hbA S.2.2 (hin 1 (by omega)) dL_law_403 ?_
  refine kVL C S hl.1 (o_X8_play_c (Q := fun r2 g2 => r = r2 ∧ Rel g2) hq) (wd_o8 (j := 86) rfl) rfl (cwV 1 hts gL_law_X8_play rfl rfl rfl (by decide +kernel) ⟨Nat.le_of_ble_eq_true rfl, Nat.le_of_ble_eq_true rfl⟩) rfl rfl (Nat.le_of_ble_eq_true rfl) (Nat.le_of_ble_eq_true rfl) (Nat.le_of_ble_eq_true rfl) dL_law_404 (fun r2 u H locs hq S => ?_)
  exact lv_icmp_eq (tgt := 1088) hx hb dL_law_407 (by decide) (fun _ => kk u H locs hq.2 S) (fun c9 => absurd hq.1 c9)
set_option maxHeartbeats 4000000 in
set_option maxRecDepth 100000 in
theorem law_8 {p : Program} {l : Launch} {e : Env} {s : State} {m : MethodId} {below : List Frame} {meth : Method} {c : Code} {dC : Nat → ClassId} {dI : Nat → Nat → Nat} {cy : Nat → ClassId} {ad tz : Nat → Nat} {b L : Nat} {xs : Nat → Int32} {i : Nat} {g : Mm} {H : Heap} {locs : List Loc} {ls : Array Slot} (X : LX p s m meth c dC dI cy ad tz b L xs) (S : St dC dI cy ad s g H locs) (hR : Rel g) (hl : lv_has ls 4 [(0, .ref b), (1, .ref (ad 0)), (2, .ref (ad 86)), (3, .int (nI i))]) (hi : i + 6 ≤ L) (kk : ∀ (u : Mm) (H : Heap) (locs : List Loc), Rel u → St dC dI cy ad s u H locs → W p l e room_1 s m #[Value.ref b] below meth c H locs 100 2346 (lw_Z below #[Value.ref b] s) (F0 m 1088 ls [])) : W p l e room_1 s m #[Value.ref b] below meth c H locs 100 2346 (lw_Z below #[Value.ref b] s) (F0 m 412 ls []) := by
  obtain ⟨C, hX, hbl, hbA, hL, hB0⟩ := X
  have hx := C.1.1
  have hb := C.1.2.1
  have hts := C.1.2.2.2.2
  have hin : ∀ k, k < 6 → vp_in (nI i + nI k) L := fun k hk => by rw [nI_add]; exact vlit _ (by omega) (by omega)
  refine lv_aload_n hx hb dL_law_412 rfl (lv_at hl 1 rfl) ?_
  refine lv_aload_n hx hb dL_law_413 rfl (lv_at hl 0 rfl) ?_
  refine lv_iload_n hx hb dL_law_414 rfl (lv_at hl 3 rfl) ?_
  refine lv_iconst (v := 1) hx hb dL_law_415 (by decide) ?_
  refine lv_iadd hx hb dL_law_416 ?_
  refine va_sld hx hb hX hbl hbA S.2.2 (hin 1 (by omega)) dL_law_417 ?_
  refine lv_aload_n hx hb dL_law_418 rfl (lv_at hl 0 rfl) ?_
  refine lv_iload_n hx hb dL_law_419 rfl (lv_at hl 3 rfl) ?_
  refine lv_iconst (v := 2) hx hb dL_law_420 (by decide) ?_
  refine lv_iadd hx hb dL_law_421 ?_
  refine va_sld hx hb hX hbl hbA S.2.2 (hin 2 (by omega)) dL_law_422 ?_
  refine kVL C S hl.1 (o_X7_put_c (cmd_put hR _ _)) (wd_o7 (j := 0) rfl) rfl (cwV 2 hts gL_law_X7_put rfl rfl rfl (by decide +kernel) ⟨Nat.le_of_ble_eq_true rfl, Nat.le_of_ble_eq_true rfl⟩) rfl rfl (Nat.le_of_ble_eq_true rfl) (Nat.le_of_ble_eq_true rfl) (Nat.le_of_ble_eq_true rfl) dL_law_423 (fun r u H locs hq S => ?_)
  refine lv_aload_n hx hb dL_law_426 rfl (lv_at hl 2 rfl) ?_
  refine lv_aload_n hx hb dL_law_427 rfl (lv_at hl 0 rfl) ?_
  refine lv_iload_n hx hb dL_law_428 rfl (lv_at hl 3 rfl) ?_
  refine lv_iconst (v := 1) hx hb dL_law_429 (by decide) ?_
  refine lv_iadd hx hb dL_law_430 ?_
  refine va_sld hx hb hX hbl hbA S.2.2 (hin 1 (by omega)) dL_law_431 ?_
  refine lv_aload_n hx hb dL_law_432 rfl (lv_at hl 0 rfl) ?_
  refine lv_iload_n hx hb dL_law_433 rfl (lv_at hl 3 rfl) ?_
  refine lv_iconst (v := 2) hx hb dL_law_434 (by decide) ?_
  refine lv_iadd hx hb dL_law_435 ?_
  refine va_sld hx hb hX hbl hbA S.2.2 (hin 2 (by omega)) dL_law_436 ?_
  refine kVL C S hl.1 (o_X8_put_c (Q := fun r2 g2 => r = r2 ∧ Rel g2) hq) (wd_o8 (j := 86) rfl) rfl (cwV 2 hts gL_law_X8_put rfl rfl rfl (by decide +kernel) ⟨Nat.le_of_ble_eq_true rfl, Nat.le_of_ble_eq_true rfl⟩) rfl rfl (Nat.le_of_ble_eq_true rfl) (Nat.le_of_ble_eq_true rfl) (Nat.le_of_ble_eq_true rfl) dL_law_437 (fun r2 u H locs hq S => ?_)
  exact lv_icmp_eq (tgt := 1088) hx hb dL_law_440 (by decide) (fun _ => kk u H locs hq.2 S) (fun c9 => absurd hq.1 c9)
set_option maxHeartbeats 4000000 in
set_option maxRecDepth 100000 in
theorem law_9 {p : Program} {l : Launch} {e : Env} {s : State} {m : MethodId} {below : List Frame} {meth : Method} {c : Code} {dC : Nat → ClassId} {dI : Nat → Nat → Nat} {cy : Nat → ClassId} {ad tz : Nat → Nat} {b L : Nat} {xs : Nat → Int32} {i : Nat} {g : Mm} {H : Heap} {locs : List Loc} {ls : Array Slot} (X : LX p s m meth c dC dI cy ad tz b L xs) (S : St dC dI cy ad s g H locs) (hR : Rel g) (hl : lv_has ls 4 [(0, .ref b), (1, .ref (ad 0)), (2, .ref (ad 86)), (3, .int (nI i))]) (hi : i + 6 ≤ L) (kk : ∀ (u : Mm) (H : Heap) (locs : List Loc), Rel u → St dC dI cy ad s u H locs → W p l e room_1 s m #[Value.ref b] below meth c H locs 100 2346 (lw_Z below #[Value.ref b] s) (F0 m 1088 ls [])) : W p l e room_1 s m #[Value.ref b] below meth c H locs 100 2346 (lw_Z below #[Value.ref b] s) (F0 m 445 ls []) := by
  obtain ⟨C, hX, hbl, hbA, hL, hB0⟩ := X
  have hx := C.1.1
  have hb := C.1.2.1
  have hts := C.1.2.2.2.2
  have hin : ∀ k, k < 6 → vp_in (nI i + nI k) L := fun k hk => by rw [nI_add]; exact vlit _ (by omega) (by omega)
  refine lv_aload_n hx hb dL_law_445 rfl (lv_at hl 1 rfl) ?_
  refine lv_aload_n hx hb dL_law_446 rfl (lv_at hl 0 rfl) ?_
  refine lv_iload_n hx hb dL_law_447 rfl (lv_at hl 3 rfl) ?_
  refine lv_iconst (v := 1) hx hb dL_law_448 (by decide) ?_
  refine lv_iadd hx hb dL_law_449 ?_
  refine va_sld hx hb hX hbl hbA S.2.2 (hin 1 (by omega)) dL_law_450 ?_
  refine lv_aload_n hx hb dL_law_451 rfl (lv_at hl 0 rfl) ?_
  refine lv_iload_n hx hb dL_law_452 rfl (lv_at hl 3 rfl) ?_
  refine lv_iconst (v := 2) hx hb dL_law_453 (by decide) ?_
  refine lv_iadd hx hb dL_law_454 ?_
  refine va_sld hx hb hX hbl hbA S.2.2 (hin 2 (by omega)) dL_law_455 ?_
  refine kVL C S hl.1 (o_X7_grip_c (cmd_grip hR _ _)) (wd_o7 (j := 0) rfl) rfl (cwV 2 hts gL_law_X7_grip rfl rfl rfl (by decide +kernel) ⟨Nat.le_of_ble_eq_true rfl, Nat.le_of_ble_eq_true rfl⟩) rfl rfl (Nat.le_of_ble_eq_true rfl) (Nat.le_of_ble_eq_true rfl) (Nat.le_of_ble_eq_true rfl) dL_law_456 (fun r u H locs hq S => ?_)
  refine lv_aload_n hx hb dL_law_459 rfl (lv_at hl 2 rfl) ?_
  refine lv_aload_n hx hb dL_law_460 rfl (lv_at hl 0 rfl) ?_
  refine lv_iload_n hx hb dL_law_461 rfl (lv_at hl 3 rfl) ?_
  refine lv_iconst (v := 1) hx hb dL_law_462 (by decide) ?_
  refine lv_iadd hx hb dL_law_463 ?_
  refine va_sld hx hb hX hbl hbA S.2.2 (hin 1 (by omega)) dL_law_464 ?_
  refine lv_aload_n hx hb dL_law_465 rfl (lv_at hl 0 rfl) ?_
  refine lv_iload_n hx hb dL_law_466 rfl (lv_at hl 3 rfl) ?_
  refine lv_iconst (v := 2) hx hb dL_law_467 (by decide) ?_
  refine lv_iadd hx hb dL_law_468 ?_
  refine va_sld hx hb hX hbl hbA S.2.2 (hin 2 (by omega)) dL_law_469 ?_
  refine kVL C S hl.1 (o_X8_grip_c (Q := fun r2 g2 => r = r2 ∧ Rel g2) hq) (wd_o8 (j := 86) rfl) rfl (cwV 2 hts gL_law_X8_grip rfl rfl rfl (by decide +kernel) ⟨Nat.le_of_ble_eq_true rfl, Nat.le_of_ble_eq_true rfl⟩) rfl rfl (Nat.le_of_ble_eq_true rfl) (Nat.le_of_ble_eq_true rfl) (Nat.le_of_ble_eq_true rfl) dL_law_470 (fun r2 u H locs hq S => ?_)
  exact lv_icmp_eq (tgt := 1088) hx hb dL_law_473 (by decide) (fun _ => kk u H locs hq.2 S) (fun c9 => absurd hq.1 c9)
set_option maxHeartbeats 4000000 in
set_option maxRecDepth 100000 in
theorem law_10 {p : Program} {l : Launch} {e : Env} {s : State} {m : MethodId} {below : List Frame} {meth : Method} {c : Code} {dC : Nat → ClassId} {dI : Nat → Nat → Nat} {cy : Nat → ClassId} {ad tz : Nat → Nat} {b L : Nat} {xs : Nat → Int32} {i : Nat} {g : Mm} {H : Heap} {locs : List Loc} {ls : Array Slot} (X : LX p s m meth c dC dI cy ad tz b L xs) (S : St dC dI cy ad s g H locs) (hR : Rel g) (hl : lv_has ls 4 [(0, .ref b), (1, .ref (ad 0)), (2, .ref (ad 86)), (3, .int (nI i))]) (hi : i + 6 ≤ L) (kk : ∀ (u : Mm) (H : Heap) (locs : List Loc), Rel u → St dC dI cy ad s u H locs → W p l e room_1 s m #[Value.ref b] below meth c H locs 100 2346 (lw_Z below #[Value.ref b] s) (F0 m 1088 ls [])) : W p l e room_1 s m #[Value.ref b] below meth c H locs 100 2346 (lw_Z below #[Value.ref b] s) (F0 m 478 ls []) := by
  obtain ⟨C, hX, hbl, hbA, hL, hB0⟩ := X
  have hx := C.1.1
  have hb := C.1.2.1
  have hts := C.1.2.2.2.2
  have hin : ∀ k, k < 6 → vp_in (nI i + nI k) L := fun k hk => by rw [nI_add]; exact vlit _ (by omega) (by omega)
  refine lv_aload_n hx hb dL_law_478 rfl (lv_at hl 1 rfl) ?_
  refine kVL C S hl.1 (o_X7_undo_c (cmd_undo hR )) (wd_o7 (j := 0) rfl) rfl (cwV 0 hts gL_law_X7_undo rfl rfl rfl (by decide +kernel) ⟨Nat.le_of_ble_eq_true rfl, Nat.le_of_ble_eq_true rfl⟩) rfl rfl (Nat.le_of_ble_eq_true rfl) (Nat.le_of_ble_eq_true rfl) (Nat.le_of_ble_eq_true rfl) dL_law_479 (fun r u H locs hq S => ?_)
  refine lv_aload_n hx hb dL_law_482 rfl (lv_at hl 2 rfl) ?_
  refine kVL C S hl.1 (o_X8_undo_c (Q := fun r2 g2 => r = r2 ∧ Rel g2) hq) (wd_o8 (j := 86) rfl) rfl (cwV 0 hts gL_law_X8_undo rfl rfl rfl (by decide +kernel) ⟨Nat.le_of_ble_eq_true rfl, Nat.le_of_ble_eq_true rfl⟩) rfl rfl (Nat.le_of_ble_eq_true rfl) (Nat.le_of_ble_eq_true rfl) (Nat.le_of_ble_eq_true rfl) dL_law_483 (fun r2 u H locs hq S => ?_)
  exact lv_icmp_eq (tgt := 1088) hx hb dL_law_486 (by decide) (fun _ => kk u H locs hq.2 S) (fun c9 => absurd hq.1 c9)
set_option maxHeartbeats 4000000 in
set_option maxRecDepth 100000 in
theorem law_11 {p : Program} {l : Launch} {e : Env} {s : State} {m : MethodId} {below : List Frame} {meth : Method} {c : Code} {dC : Nat → ClassId} {dI : Nat → Nat → Nat} {cy : Nat → ClassId} {ad tz : Nat → Nat} {b L : Nat} {xs : Nat → Int32} {i : Nat} {g : Mm} {H : Heap} {locs : List Loc} {ls : Array Slot} (X : LX p s m meth c dC dI cy ad tz b L xs) (S : St dC dI cy ad s g H locs) (hR : Rel g) (hl : lv_has ls 4 [(0, .ref b), (1, .ref (ad 0)), (2, .ref (ad 86)), (3, .int (nI i))]) (hi : i + 6 ≤ L) (kk : ∀ (u : Mm) (H : Heap) (locs : List Loc), Rel u → St dC dI cy ad s u H locs → W p l e room_1 s m #[Value.ref b] below meth c H locs 100 2346 (lw_Z below #[Value.ref b] s) (F0 m 1088 ls [])) : W p l e room_1 s m #[Value.ref b] below meth c H locs 100 2346 (lw_Z below #[Value.ref b] s) (F0 m 491 ls []) := by
  obtain ⟨C, hX, hbl, hbA, hL, hB0⟩ := X
  have hx := C.1.1
  have hb := C.1.2.1
  have hts := C.1.2.2.2.2
  have hin : ∀ k, k < 6 → vp_in (nI i + nI k) L := fun k hk => by rw [nI_add]; exact vlit _ (by omega) (by omega)
  refine lv_aload_n hx hb dL_law_491 rfl (lv_at hl 1 rfl) ?_
  refine lv_aload_n hx hb dL_law_492 rfl (lv_at hl 0 rfl) ?_
  refine lv_iload_n hx hb dL_law_493 rfl (lv_at hl 3 rfl) ?_
  refine lv_iconst (v := 1) hx hb dL_law_494 (by decide) ?_
  refine lv_iadd hx hb dL_law_495 ?_
  refine va_sld hx hb hX hbl hbA S.2.2 (hin 1 (by omega)) dL_law_496 ?_
  refine lv_aload_n hx hb dL_law_497 rfl (lv_at hl 0 rfl) ?_
  refine lv_iload_n hx hb dL_law_498 rfl (lv_at hl 3 rfl) ?_
  refine lv_iconst (v := 2) hx hb dL_law_499 (by decide) ?_
  refine lv_iadd hx hb dL_law_500 ?_
  refine va_sld hx hb hX hbl hbA S.2.2 (hin 2 (by omega)) dL_law_501 ?_
  refine kVL C S hl.1 (o_X7_toy_c (cmd_toy hR _ _)) (wd_o7 (j := 0) rfl) rfl (cwV 2 hts gL_law_X7_toy rfl rfl rfl (by decide +kernel) ⟨Nat.le_of_ble_eq_true rfl, Nat.le_of_ble_eq_true rfl⟩) rfl rfl (Nat.le_of_ble_eq_true rfl) (Nat.le_of_ble_eq_true rfl) (Nat.le_of_ble_eq_true rfl) dL_law_502 (fun r u H locs hq S => ?_)
  refine lv_aload_n hx hb dL_law_505 rfl (lv_at hl 2 rfl) ?_
  refine lv_aload_n hx hb dL_law_506 rfl (lv_at hl 0 rfl) ?_
  refine lv_iload_n hx hb dL_law_507 rfl (lv_at hl 3 rfl) ?_
  refine lv_iconst (v := 1) hx hb dL_law_508 (by decide) ?_
  refine lv_iadd hx hb dL_law_509 ?_
  refine va_sld hx hb hX hbl hbA S.2.2 (hin 1 (by omega)) dL_law_510 ?_
  refine lv_aload_n hx hb dL_law_511 rfl (lv_at hl 0 rfl) ?_
  refine lv_iload_n hx hb dL_law_512 rfl (lv_at hl 3 rfl) ?_
  refine lv_iconst (v := 2) hx hb dL_law_513 (by decide) ?_
  refine lv_iadd hx hb dL_law_514 ?_
  refine va_sld hx hb hX hbl hbA S.2.2 (hin 2 (by omega)) dL_law_515 ?_
  refine kVL C S hl.1 (o_X8_toy_c (Q := fun r2 g2 => r = r2 ∧ Rel g2) hq) (wd_o8 (j := 86) rfl) rfl (cwV 2 hts gL_law_X8_toy rfl rfl rfl (by decide +kernel) ⟨Nat.le_of_ble_eq_true rfl, Nat.le_of_ble_eq_true rfl⟩) rfl rfl (Nat.le_of_ble_eq_true rfl) (Nat.le_of_ble_eq_true rfl) (Nat.le_of_ble_eq_true rfl) dL_law_516 (fun r2 u H locs hq S => ?_)
  exact lv_icmp_eq (tgt := 1088) hx hb dL_law_519 (by decide) (fun _ => kk u H locs hq.2 S) (fun c9 => absurd hq.1 c9)
set_option maxHeartbeats 4000000 in
set_option maxRecDepth 100000 in
theorem law_12 {p : Program} {l : Launch} {e : Env} {s : State} {m : MethodId} {below : List Frame} {meth : Method} {c : Code} {dC : Nat → ClassId} {dI : Nat → Nat → Nat} {cy : Nat → ClassId} {ad tz : Nat → Nat} {b L : Nat} {xs : Nat → Int32} {i : Nat} {g : Mm} {H : Heap} {locs : List Loc} {ls : Array Slot} (X : LX p s m meth c dC dI cy ad tz b L xs) (S : St dC dI cy ad s g H locs) (hR : Rel g) (hl : lv_has ls 4 [(0, .ref b), (1, .ref (ad 0)), (2, .ref (ad 86)), (3, .int (nI i))]) (hi : i + 6 ≤ L) (kk : ∀ (u : Mm) (H : Heap) (locs : List Loc), Rel u → St dC dI cy ad s u H locs → W p l e room_1 s m #[Value.ref b] below meth c H locs 100 2346 (lw_Z below #[Value.ref b] s) (F0 m 1088 ls [])) : W p l e room_1 s m #[Value.ref b] below meth c H locs 100 2346 (lw_Z below #[Value.ref b] s) (F0 m 524 ls []) := by
  obtain ⟨C, hX, hbl, hbA, hL, hB0⟩ := X
  have hx := C.1.1
  have hb := C.1.2.1
  have hts := C.1.2.2.2.2
  have hin : ∀ k, k < 6 → vp_in (nI i + nI k) L := fun k hk => by rw [nI_add]; exact vlit _ (by omega) (by omega)
  refine lv_aload_n hx hb dL_law_524 rfl (lv_at hl 1 rfl) ?_
  refine lv_aload_n hx hb dL_law_525 rfl (lv_at hl 0 rfl) ?_
  refine lv_iload_n hx hb dL_law_526 rfl (lv_at hl 3 rfl) ?_
  refine lv_iconst (v := 1) hx hb dL_law_527 (by decide) ?_
  refine lv_iadd hx hb dL_law_528 ?_
  refine va_sld hx hb hX hbl hbA S.2.2 (hin 1 (by omega)) dL_law_529 ?_
  refine lv_aload_n hx hb dL_law_530 rfl (lv_at hl 0 rfl) ?_
  refine lv_iload_n hx hb dL_law_531 rfl (lv_at hl 3 rfl) ?_
  refine lv_iconst (v := 2) hx hb dL_law_532 (by decide) ?_
  refine lv_iadd hx hb dL_law_533 ?_
  refine va_sld hx hb hX hbl hbA S.2.2 (hin 2 (by omega)) dL_law_534 ?_
  refine kVL C S hl.1 (o_X7_column_c (cmd_column hR _ _)) (wd_o7 (j := 0) rfl) rfl (cwV 2 hts gL_law_X7_column rfl rfl rfl (by decide +kernel) ⟨Nat.le_of_ble_eq_true rfl, Nat.le_of_ble_eq_true rfl⟩) rfl rfl (Nat.le_of_ble_eq_true rfl) (Nat.le_of_ble_eq_true rfl) (Nat.le_of_ble_eq_true rfl) dL_law_535 (fun r u H locs hq S => ?_)
  refine lv_aload_n hx hb dL_law_538 rfl (lv_at hl 2 rfl) ?_
  refine lv_aload_n hx hb dL_law_539 rfl (lv_at hl 0 rfl) ?_
  refine lv_iload_n hx hb dL_law_540 rfl (lv_at hl 3 rfl) ?_
  refine lv_iconst (v := 1) hx hb dL_law_541 (by decide) ?_
  refine lv_iadd hx hb dL_law_542 ?_
  refine va_sld hx hb hX hbl hbA S.2.2 (hin 1 (by omega)) dL_law_543 ?_
  refine lv_aload_n hx hb dL_law_544 rfl (lv_at hl 0 rfl) ?_
  refine lv_iload_n hx hb dL_law_545 rfl (lv_at hl 3 rfl) ?_
  refine lv_iconst (v := 2) hx hb dL_law_546 (by decide) ?_
  refine lv_iadd hx hb dL_law_547 ?_
  refine va_sld hx hb hX hbl hbA S.2.2 (hin 2 (by omega)) dL_law_548 ?_
  refine kVL C S hl.1 (o_X8_column_c (Q := fun r2 g2 => r = r2 ∧ Rel g2) hq) (wd_o8 (j := 86) rfl) rfl (cwV 2 hts gL_law_X8_column rfl rfl rfl (by decide +kernel) ⟨Nat.le_of_ble_eq_true rfl, Nat.le_of_ble_eq_true rfl⟩) rfl rfl (Nat.le_of_ble_eq_true rfl) (Nat.le_of_ble_eq_true rfl) (Nat.le_of_ble_eq_true rfl) dL_law_549 (fun r2 u H locs hq S => ?_)
  exact lv_icmp_eq (tgt := 1088) hx hb dL_law_552 (by decide) (fun _ => kk u H locs hq.2 S) (fun c9 => absurd hq.1 c9)
set_option maxHeartbeats 4000000 in
set_option maxRecDepth 100000 in
theorem law_13 {p : Program} {l : Launch} {e : Env} {s : State} {m : MethodId} {below : List Frame} {meth : Method} {c : Code} {dC : Nat → ClassId} {dI : Nat → Nat → Nat} {cy : Nat → ClassId} {ad tz : Nat → Nat} {b L : Nat} {xs : Nat → Int32} {i : Nat} {g : Mm} {H : Heap} {locs : List Loc} {ls : Array Slot} (X : LX p s m meth c dC dI cy ad tz b L xs) (S : St dC dI cy ad s g H locs) (hR : Rel g) (hl : lv_has ls 4 [(0, .ref b), (1, .ref (ad 0)), (2, .ref (ad 86)), (3, .int (nI i))]) (hi : i + 6 ≤ L) (kk : ∀ (u : Mm) (H : Heap) (locs : List Loc), Rel u → St dC dI cy ad s u H locs → W p l e room_1 s m #[Value.ref b] below meth c H locs 100 2346 (lw_Z below #[Value.ref b] s) (F0 m 1088 ls [])) : W p l e room_1 s m #[Value.ref b] below meth c H locs 100 2346 (lw_Z below #[Value.ref b] s) (F0 m 557 ls []) := by
  obtain ⟨C, hX, hbl, hbA, hL, hB0⟩ := X
  have hx := C.1.1
  have hb := C.1.2.1
  have hts := C.1.2.2.2.2
  have hin : ∀ k, k < 6 → vp_in (nI i + nI k) L := fun k hk => by rw [nI_add]; exact vlit _ (by omega) (by omega)
  refine lv_aload_n hx hb dL_law_557 rfl (lv_at hl 1 rfl) ?_
  refine lv_aload_n hx hb dL_law_558 rfl (lv_at hl 0 rfl) ?_
  refine lv_iload_n hx hb dL_law_559 rfl (lv_at hl 3 rfl) ?_
  refine lv_iconst (v := 1) hx hb dL_law_560 (by decide) ?_
  refine lv_iadd hx hb dL_law_561 ?_
  refine va_sld hx hb hX hbl hbA S.2.2 (hin 1 (by omega)) dL_law_562 ?_
  refine kVL C S hl.1 (o_X7_gives_c (cmd_gives hR _)) (wd_o7 (j := 0) rfl) rfl (cwV 1 hts gL_law_X7_gives rfl rfl rfl (by decide +kernel) ⟨Nat.le_of_ble_eq_true rfl, Nat.le_of_ble_eq_true rfl⟩) rfl rfl (Nat.le_of_ble_eq_true rfl) (Nat.le_of_ble_eq_true rfl) (Nat.le_of_ble_eq_true rfl) dL_law_563 (fun r u H locs hq S => ?_)
  refine lv_aload_n hx hb dL_law_566 rfl (lv_at hl 2 rfl) ?_
  refine lv_aload_n hx hb dL_law_567 rfl (lv_at hl 0 rfl) ?_
  refine lv_iload_n hx hb dL_law_568 rfl (lv_at hl 3 rfl) ?_
  refine lv_iconst (v := 1) hx hb dL_law_569 (by decide) ?_
  refine lv_iadd hx hb dL_law_570 ?_
  refine va_sld hx hb hX hbl hbA S.2.2 (hin 1 (by omega)) dL_law_571 ?_
  refine kVL C S hl.1 (o_X8_gives_c (Q := fun r2 g2 => r = r2 ∧ Rel g2) hq) (wd_o8 (j := 86) rfl) rfl (cwV 1 hts gL_law_X8_gives rfl rfl rfl (by decide +kernel) ⟨Nat.le_of_ble_eq_true rfl, Nat.le_of_ble_eq_true rfl⟩) rfl rfl (Nat.le_of_ble_eq_true rfl) (Nat.le_of_ble_eq_true rfl) (Nat.le_of_ble_eq_true rfl) dL_law_572 (fun r2 u H locs hq S => ?_)
  exact lv_icmp_eq (tgt := 1088) hx hb dL_law_575 (by decide) (fun _ => kk u H locs hq.2 S) (fun c9 => absurd hq.1 c9)
set_option maxHeartbeats 4000000 in
set_option maxRecDepth 100000 in
theorem law_14 {p : Program} {l : Launch} {e : Env} {s : State} {m : MethodId} {below : List Frame} {meth : Method} {c : Code} {dC : Nat → ClassId} {dI : Nat → Nat → Nat} {cy : Nat → ClassId} {ad tz : Nat → Nat} {b L : Nat} {xs : Nat → Int32} {i : Nat} {g : Mm} {H : Heap} {locs : List Loc} {ls : Array Slot} (X : LX p s m meth c dC dI cy ad tz b L xs) (S : St dC dI cy ad s g H locs) (hR : Rel g) (hl : lv_has ls 4 [(0, .ref b), (1, .ref (ad 0)), (2, .ref (ad 86)), (3, .int (nI i))]) (hi : i + 6 ≤ L) (kk : ∀ (u : Mm) (H : Heap) (locs : List Loc), Rel u → St dC dI cy ad s u H locs → W p l e room_1 s m #[Value.ref b] below meth c H locs 100 2346 (lw_Z below #[Value.ref b] s) (F0 m 1088 ls [])) : W p l e room_1 s m #[Value.ref b] below meth c H locs 100 2346 (lw_Z below #[Value.ref b] s) (F0 m 580 ls []) := by
  obtain ⟨C, hX, hbl, hbA, hL, hB0⟩ := X
  have hx := C.1.1
  have hb := C.1.2.1
  have hts := C.1.2.2.2.2
  have hin : ∀ k, k < 6 → vp_in (nI i + nI k) L := fun k hk => by rw [nI_add]; exact vlit _ (by omega) (by omega)
  refine lv_aload_n hx hb dL_law_580 rfl (lv_at hl 1 rfl) ?_
  refine lv_aload_n hx hb dL_law_581 rfl (lv_at hl 0 rfl) ?_
  refine lv_iload_n hx hb dL_law_582 rfl (lv_at hl 3 rfl) ?_
  refine lv_iconst (v := 1) hx hb dL_law_583 (by decide) ?_
  refine lv_iadd hx hb dL_law_584 ?_
  refine va_sld hx hb hX hbl hbA S.2.2 (hin 1 (by omega)) dL_law_585 ?_
  refine kVL C S hl.1 (o_X7_grips_c (cmd_grips hR _)) (wd_o7 (j := 0) rfl) rfl (cwV 1 hts gL_law_X7_grips rfl rfl rfl (by decide +kernel) ⟨Nat.le_of_ble_eq_true rfl, Nat.le_of_ble_eq_true rfl⟩) rfl rfl (Nat.le_of_ble_eq_true rfl) (Nat.le_of_ble_eq_true rfl) (Nat.le_of_ble_eq_true rfl) dL_law_586 (fun r u H locs hq S => ?_)
  refine lv_aload_n hx hb dL_law_589 rfl (lv_at hl 2 rfl) ?_
  refine lv_aload_n hx hb dL_law_590 rfl (lv_at hl 0 rfl) ?_
  refine lv_iload_n hx hb dL_law_591 rfl (lv_at hl 3 rfl) ?_
  refine lv_iconst (v := 1) hx hb dL_law_592 (by decide) ?_
  refine lv_iadd hx hb dL_law_593 ?_
  refine va_sld hx hb hX hbl hbA S.2.2 (hin 1 (by omega)) dL_law_594 ?_
  refine kVL C S hl.1 (o_X8_grips_c (Q := fun r2 g2 => r = r2 ∧ Rel g2) hq) (wd_o8 (j := 86) rfl) rfl (cwV 1 hts gL_law_X8_grips rfl rfl rfl (by decide +kernel) ⟨Nat.le_of_ble_eq_true rfl, Nat.le_of_ble_eq_true rfl⟩) rfl rfl (Nat.le_of_ble_eq_true rfl) (Nat.le_of_ble_eq_true rfl) (Nat.le_of_ble_eq_true rfl) dL_law_595 (fun r2 u H locs hq S => ?_)
  exact lv_icmp_eq (tgt := 1088) hx hb dL_law_598 (by decide) (fun _ => kk u H locs hq.2 S) (fun c9 => absurd hq.1 c9)
set_option maxHeartbeats 4000000 in
set_option maxRecDepth 100000 in
theorem law_15 {p : Program} {l : Launch} {e : Env} {s : State} {m : MethodId} {below : List Frame} {meth : Method} {c : Code} {dC : Nat → ClassId} {dI : Nat → Nat → Nat} {cy : Nat → ClassId} {ad tz : Nat → Nat} {b L : Nat} {xs : Nat → Int32} {i : Nat} {g : Mm} {H : Heap} {locs : List Loc} {ls : Array Slot} (X : LX p s m meth c dC dI cy ad tz b L xs) (S : St dC dI cy ad s g H locs) (hR : Rel g) (hl : lv_has ls 4 [(0, .ref b), (1, .ref (ad 0)), (2, .ref (ad 86)), (3, .int (nI i))]) (hi : i + 6 ≤ L) (kk : ∀ (u : Mm) (H : Heap) (locs : List Loc), Rel u → St dC dI cy ad s u H locs → W p l e room_1 s m #[Value.ref b] below meth c H locs 100 2346 (lw_Z below #[Value.ref b] s) (F0 m 1088 ls [])) : W p l e room_1 s m #[Value.ref b] below meth c H locs 100 2346 (lw_Z below #[Value.ref b] s) (F0 m 603 ls []) := by
  obtain ⟨C, hX, hbl, hbA, hL, hB0⟩ := X
  have hx := C.1.1
  have hb := C.1.2.1
  have hts := C.1.2.2.2.2
  have hin : ∀ k, k < 6 → vp_in (nI i + nI k) L := fun k hk => by rw [nI_add]; exact vlit _ (by omega) (by omega)
  refine lv_aload_n hx hb dL_law_603 rfl (lv_at hl 1 rfl) ?_
  refine lv_aload_n hx hb dL_law_604 rfl (lv_at hl 0 rfl) ?_
  refine lv_iload_n hx hb dL_law_605 rfl (lv_at hl 3 rfl) ?_
  refine lv_iconst (v := 1) hx hb dL_law_606 (by decide) ?_
  refine lv_iadd hx hb dL_law_607 ?_
  refine va_sld hx hb hX hbl hbA S.2.2 (hin 1 (by omega)) dL_law_608 ?_
  refine lv_aload_n hx hb dL_law_609 rfl (lv_at hl 0 rfl) ?_
  refine lv_iload_n hx hb dL_law_610 rfl (lv_at hl 3 rfl) ?_
  refine lv_iconst (v := 2) hx hb dL_law_611 (by decide) ?_
  refine lv_iadd hx hb dL_law_612 ?_
  refine va_sld hx hb hX hbl hbA S.2.2 (hin 2 (by omega)) dL_law_613 ?_
  refine kVL C S hl.1 (o_X7_win_c (cmd_win hR _ _)) (wd_o7 (j := 0) rfl) rfl (cwV 2 hts gL_law_X7_win rfl rfl rfl (by decide +kernel) ⟨Nat.le_of_ble_eq_true rfl, Nat.le_of_ble_eq_true rfl⟩) rfl rfl (Nat.le_of_ble_eq_true rfl) (Nat.le_of_ble_eq_true rfl) (Nat.le_of_ble_eq_true rfl) dL_law_614 (fun r u H locs hq S => ?_)
  refine lv_aload_n hx hb dL_law_617 rfl (lv_at hl 2 rfl) ?_
  refine lv_aload_n hx hb dL_law_618 rfl (lv_at hl 0 rfl) ?_
  refine lv_iload_n hx hb dL_law_619 rfl (lv_at hl 3 rfl) ?_
  refine lv_iconst (v := 1) hx hb dL_law_620 (by decide) ?_
  refine lv_iadd hx hb dL_law_621 ?_
  refine va_sld hx hb hX hbl hbA S.2.2 (hin 1 (by omega)) dL_law_622 ?_
  refine lv_aload_n hx hb dL_law_623 rfl (lv_at hl 0 rfl) ?_
  refine lv_iload_n hx hb dL_law_624 rfl (lv_at hl 3 rfl) ?_
  refine lv_iconst (v := 2) hx hb dL_law_625 (by decide) ?_
  refine lv_iadd hx hb dL_law_626 ?_
  refine va_sld hx hb hX hbl hbA S.2.2 (hin 2 (by omega)) dL_law_627 ?_
  refine kVL C S hl.1 (o_X8_win_c (Q := fun r2 g2 => r = r2 ∧ Rel g2) hq) (wd_o8 (j := 86) rfl) rfl (cwV 2 hts gL_law_X8_win rfl rfl rfl (by decide +kernel) ⟨Nat.le_of_ble_eq_true rfl, Nat.le_of_ble_eq_true rfl⟩) rfl rfl (Nat.le_of_ble_eq_true rfl) (Nat.le_of_ble_eq_true rfl) (Nat.le_of_ble_eq_true rfl) dL_law_628 (fun r2 u H locs hq S => ?_)
  exact lv_icmp_eq (tgt := 1088) hx hb dL_law_631 (by decide) (fun _ => kk u H locs hq.2 S) (fun c9 => absurd hq.1 c9)
set_option maxHeartbeats 4000000 in
set_option maxRecDepth 100000 in
theorem law_16 {p : Program} {l : Launch} {e : Env} {s : State} {m : MethodId} {below : List Frame} {meth : Method} {c : Code} {dC : Nat → ClassId} {dI : Nat → Nat → Nat} {cy : Nat → ClassId} {ad tz : Nat → Nat} {b L : Nat} {xs : Nat → Int32} {i : Nat} {g : Mm} {H : Heap} {locs : List Loc} {ls : Array Slot} (X : LX p s m meth c dC dI cy ad tz b L xs) (S : St dC dI cy ad s g H locs) (hR : Rel g) (hl : lv_has ls 4 [(0, .ref b), (1, .ref (ad 0)), (2, .ref (ad 86)), (3, .int (nI i))]) (hi : i + 6 ≤ L) (kk : ∀ (u : Mm) (H : Heap) (locs : List Loc), Rel u → St dC dI cy ad s u H locs → W p l e room_1 s m #[Value.ref b] below meth c H locs 100 2346 (lw_Z below #[Value.ref b] s) (F0 m 1088 ls [])) : W p l e room_1 s m #[Value.ref b] below meth c H locs 100 2346 (lw_Z below #[Value.ref b] s) (F0 m 636 ls []) := by
  obtain ⟨C, hX, hbl, hbA, hL, hB0⟩ := X
  have hx := C.1.1
  have hb := C.1.2.1
  have hts := C.1.2.2.2.2
  have hin : ∀ k, k < 6 → vp_in (nI i + nI k) L := fun k hk => by rw [nI_add]; exact vlit _ (by omega) (by omega)
  refine lv_aload_n hx hb dL_law_636 rfl (lv_at hl 1 rfl) ?_
  refine lv_aload_n hx hb dL_law_637 rfl (lv_at hl 0 rfl) ?_
  refine lv_iload_n hx hb dL_law_638 rfl (lv_at hl 3 rfl) ?_
  refine lv_iconst (v := 1) hx hb dL_law_639 (by decide) ?_
  refine lv_iadd hx hb dL_law_640 ?_
  refine va_sld hx hb hX hbl hbA S.2.2 (hin 1 (by omega)) dL_law_641 ?_
  refine lv_aload_n hx hb dL_law_642 rfl (lv_at hl 0 rfl) ?_
  refine lv_iload_n hx hb dL_law_643 rfl (lv_at hl 3 rfl) ?_
  refine lv_iconst (v := 2) hx hb dL_law_644 (by decide) ?_
  refine lv_iadd hx hb dL_law_645 ?_
  refine va_sld hx hb hX hbl hbA S.2.2 (hin 2 (by omega)) dL_law_646 ?_
  refine kVL C S hl.1 (o_X7_haul_c (cmd_haul hR _ _)) (wd_o7 (j := 0) rfl) rfl (cwV 2 hts gL_law_X7_haul rfl rfl rfl (by decide +kernel) ⟨Nat.le_of_ble_eq_true rfl, Nat.le_of_ble_eq_true rfl⟩) rfl rfl (Nat.le_of_ble_eq_true rfl) (Nat.le_of_ble_eq_true rfl) (Nat.le_of_ble_eq_true rfl) dL_law_647 (fun r u H locs hq S => ?_)
  refine lv_aload_n hx hb dL_law_650 rfl (lv_at hl 2 rfl) ?_
  refine lv_aload_n hx hb dL_law_651 rfl (lv_at hl 0 rfl) ?_
  refine lv_iload_n hx hb dL_law_652 rfl (lv_at hl 3 rfl) ?_
  refine lv_iconst (v := 1) hx hb dL_law_653 (by decide) ?_
  refine lv_iadd hx hb dL_law_654 ?_
  refine va_sld hx hb hX hbl hbA S.2.2 (hin 1 (by omega)) dL_law_655 ?_
  refine lv_aload_n hx hb dL_law_656 rfl (lv_at hl 0 rfl) ?_
  refine lv_iload_n hx hb dL_law_657 rfl (lv_at hl 3 rfl) ?_
  refine lv_iconst (v := 2) hx hb dL_law_658 (by decide) ?_
  refine lv_iadd hx hb dL_law_659 ?_
  refine va_sld hx hb hX hbl hbA S.2.2 (hin 2 (by omega)) dL_law_660 ?_
  refine kVL C S hl.1 (o_X8_haul_c (Q := fun r2 g2 => r = r2 ∧ Rel g2) hq) (wd_o8 (j := 86) rfl) rfl (cwV 2 hts gL_law_X8_haul rfl rfl rfl (by decide +kernel) ⟨Nat.le_of_ble_eq_true rfl, Nat.le_of_ble_eq_true rfl⟩) rfl rfl (Nat.le_of_ble_eq_true rfl) (Nat.le_of_ble_eq_true rfl) (Nat.le_of_ble_eq_true rfl) dL_law_661 (fun r2 u H locs hq S => ?_)
  exact lv_icmp_eq (tgt := 1088) hx hb dL_law_664 (by decide) (fun _ => kk u H locs hq.2 S) (fun c9 => absurd hq.1 c9)
set_option maxHeartbeats 4000000 in
set_option maxRecDepth 100000 in
theorem law_17 {p : Program} {l : Launch} {e : Env} {s : State} {m : MethodId} {below : List Frame} {meth : Method} {c : Code} {dC : Nat → ClassId} {dI : Nat → Nat → Nat} {cy : Nat → ClassId} {ad tz : Nat → Nat} {b L : Nat} {xs : Nat → Int32} {i : Nat} {g : Mm} {H : Heap} {locs : List Loc} {ls : Array Slot} (X : LX p s m meth c dC dI cy ad tz b L xs) (S : St dC dI cy ad s g H locs) (hR : Rel g) (hl : lv_has ls 4 [(0, .ref b), (1, .ref (ad 0)), (2, .ref (ad 86)), (3, .int (nI i))]) (hi : i + 6 ≤ L) (kk : ∀ (u : Mm) (H : Heap) (locs : List Loc), Rel u → St dC dI cy ad s u H locs → W p l e room_1 s m #[Value.ref b] below meth c H locs 100 2346 (lw_Z below #[Value.ref b] s) (F0 m 1088 ls [])) : W p l e room_1 s m #[Value.ref b] below meth c H locs 100 2346 (lw_Z below #[Value.ref b] s) (F0 m 669 ls []) := by
  obtain ⟨C, hX, hbl, hbA, hL, hB0⟩ := X
  have hx := C.1.1
  have hb := C.1.2.1
  have hts := C.1.2.2.2.2
  have hin : ∀ k, k < 6 → vp_in (nI i + nI k) L := fun k hk => by rw [nI_add]; exact vlit _ (by omega) (by omega)
  refine lv_aload_n hx hb dL_law_669 rfl (lv_at hl 1 rfl) ?_
  refine lv_aload_n hx hb dL_law_670 rfl (lv_at hl 0 rfl) ?_
  refine lv_iload_n hx hb dL_law_671 rfl (lv_at hl 3 rfl) ?_
  refine lv_iconst (v := 1) hx hb dL_law_672 (by decide) ?_
  refine lv_iadd hx hb dL_law_673 ?_
  refine va_sld hx hb hX hbl hbA S.2.2 (hin 1 (by omega)) dL_law_674 ?_
  refine kVL C S hl.1 (o_X7_enough_c (cmd_enough hR _)) (wd_o7 (j := 0) rfl) rfl (cwV 1 hts gL_law_X7_enough rfl rfl rfl (by decide +kernel) ⟨Nat.le_of_ble_eq_true rfl, Nat.le_of_ble_eq_true rfl⟩) rfl rfl (Nat.le_of_ble_eq_true rfl) (Nat.le_of_ble_eq_true rfl) (Nat.le_of_ble_eq_true rfl) dL_law_675 (fun r u H locs hq S => ?_)
  refine lv_aload_n hx hb dL_law_678 rfl (lv_at hl 2 rfl) ?_
  refine lv_aload_n hx hb dL_law_679 rfl (lv_at hl 0 rfl) ?_
  refine lv_iload_n hx hb dL_law_680 rfl (lv_at hl 3 rfl) ?_
  refine lv_iconst (v := 1) hx hb dL_law_681 (by decide) ?_
  refine lv_iadd hx hb dL_law_682 ?_
  refine va_sld hx hb hX hbl hbA S.2.2 (hin 1 (by omega)) dL_law_683 ?_
  refine kVL C S hl.1 (o_X8_enough_c (Q := fun r2 g2 => r = r2 ∧ Rel g2) hq) (wd_o8 (j := 86) rfl) rfl (cwV 1 hts gL_law_X8_enough rfl rfl rfl (by decide +kernel) ⟨Nat.le_of_ble_eq_true rfl, Nat.le_of_ble_eq_true rfl⟩) rfl rfl (Nat.le_of_ble_eq_true rfl) (Nat.le_of_ble_eq_true rfl) (Nat.le_of_ble_eq_true rfl) dL_law_684 (fun r2 u H locs hq S => ?_)
  exact lv_icmp_eq (tgt := 1088) hx hb dL_law_687 (by decide) (fun _ => kk u H locs hq.2 S) (fun c9 => absurd hq.1 c9)
set_option maxHeartbeats 4000000 in
set_option maxRecDepth 100000 in
theorem law_18 {p : Program} {l : Launch} {e : Env} {s : State} {m : MethodId} {below : List Frame} {meth : Method} {c : Code} {dC : Nat → ClassId} {dI : Nat → Nat → Nat} {cy : Nat → ClassId} {ad tz : Nat → Nat} {b L : Nat} {xs : Nat → Int32} {i : Nat} {g : Mm} {H : Heap} {locs : List Loc} {ls : Array Slot} (X : LX p s m meth c dC dI cy ad tz b L xs) (S : St dC dI cy ad s g H locs) (hR : Rel g) (hl : lv_has ls 4 [(0, .ref b), (1, .ref (ad 0)), (2, .ref (ad 86)), (3, .int (nI i))]) (hi : i + 6 ≤ L) (kk : ∀ (u : Mm) (H : Heap) (locs : List Loc), Rel u → St dC dI cy ad s u H locs → W p l e room_1 s m #[Value.ref b] below meth c H locs 100 2346 (lw_Z below #[Value.ref b] s) (F0 m 1088 ls [])) : W p l e room_1 s m #[Value.ref b] below meth c H locs 100 2346 (lw_Z below #[Value.ref b] s) (F0 m 692 ls []) := by
  obtain ⟨C, hX, hbl, hbA, hL, hB0⟩ := X
  have hx := C.1.1
  have hb := C.1.2.1
  have hts := C.1.2.2.2.2
  have hin : ∀ k, k < 6 → vp_in (nI i + nI k) L := fun k hk => by rw [nI_add]; exact vlit _ (by omega) (by omega)
  refine lv_aload_n hx hb dL_law_692 rfl (lv_at hl 1 rfl) ?_
  refine lv_aload_n hx hb dL_law_693 rfl (lv_at hl 0 rfl) ?_
  refine lv_iload_n hx hb dL_law_694 rfl (lv_at hl 3 rfl) ?_
  refine lv_iconst (v := 1) hx hb dL_law_695 (by decide) ?_
  refine lv_iadd hx hb dL_law_696 ?_
  refine va_sld hx hb hX hbl hbA S.2.2 (hin 1 (by omega)) dL_law_697 ?_
  refine lv_aload_n hx hb dL_law_698 rfl (lv_at hl 0 rfl) ?_
  refine lv_iload_n hx hb dL_law_699 rfl (lv_at hl 3 rfl) ?_
  refine lv_iconst (v := 2) hx hb dL_law_700 (by decide) ?_
  refine lv_iadd hx hb dL_law_701 ?_
  refine va_sld hx hb hX hbl hbA S.2.2 (hin 2 (by omega)) dL_law_702 ?_
  refine kVL C S hl.1 (o_X7_share_c (cmd_share hR _ _)) (wd_o7 (j := 0) rfl) rfl (cwV 2 hts gL_law_X7_share rfl rfl rfl (by decide +kernel) ⟨Nat.le_of_ble_eq_true rfl, Nat.le_of_ble_eq_true rfl⟩) rfl rfl (Nat.le_of_ble_eq_true rfl) (Nat.le_of_ble_eq_true rfl) (Nat.le_of_ble_eq_true rfl) dL_law_703 (fun r u H locs hq S => ?_)
  refine lv_aload_n hx hb dL_law_706 rfl (lv_at hl 2 rfl) ?_
  refine lv_aload_n hx hb dL_law_707 rfl (lv_at hl 0 rfl) ?_
  refine lv_iload_n hx hb dL_law_708 rfl (lv_at hl 3 rfl) ?_
  refine lv_iconst (v := 1) hx hb dL_law_709 (by decide) ?_
  refine lv_iadd hx hb dL_law_710 ?_
  refine va_sld hx hb hX hbl hbA S.2.2 (hin 1 (by omega)) dL_law_711 ?_
  refine lv_aload_n hx hb dL_law_712 rfl (lv_at hl 0 rfl) ?_
  refine lv_iload_n hx hb dL_law_713 rfl (lv_at hl 3 rfl) ?_
  refine lv_iconst (v := 2) hx hb dL_law_714 (by decide) ?_
  refine lv_iadd hx hb dL_law_715 ?_
  refine va_sld hx hb hX hbl hbA S.2.2 (hin 2 (by omega)) dL_law_716 ?_
  refine kVL C S hl.1 (o_X8_share_c (Q := fun r2 g2 => r = r2 ∧ Rel g2) hq) (wd_o8 (j := 86) rfl) rfl (cwV 2 hts gL_law_X8_share rfl rfl rfl (by decide +kernel) ⟨Nat.le_of_ble_eq_true rfl, Nat.le_of_ble_eq_true rfl⟩) rfl rfl (Nat.le_of_ble_eq_true rfl) (Nat.le_of_ble_eq_true rfl) (Nat.le_of_ble_eq_true rfl) dL_law_717 (fun r2 u H locs hq S => ?_)
  exact lv_icmp_eq (tgt := 1088) hx hb dL_law_720 (by decide) (fun _ => kk u H locs hq.2 S) (fun c9 => absurd hq.1 c9)
set_option maxHeartbeats 4000000 in
set_option maxRecDepth 100000 in
theorem law_19 {p : Program} {l : Launch} {e : Env} {s : State} {m : MethodId} {below : List Frame} {meth : Method} {c : Code} {dC : Nat → ClassId} {dI : Nat → Nat → Nat} {cy : Nat → ClassId} {ad tz : Nat → Nat} {b L : Nat} {xs : Nat → Int32} {i : Nat} {g : Mm} {H : Heap} {locs : List Loc} {ls : Array Slot} (X : LX p s m meth c dC dI cy ad tz b L xs) (S : St dC dI cy ad s g H locs) (hR : Rel g) (hl : lv_has ls 4 [(0, .ref b), (1, .ref (ad 0)), (2, .ref (ad 86)), (3, .int (nI i))]) (hi : i + 6 ≤ L) (kk : ∀ (u : Mm) (H : Heap) (locs : List Loc), Rel u → St dC dI cy ad s u H locs → W p l e room_1 s m #[Value.ref b] below meth c H locs 100 2346 (lw_Z below #[Value.ref b] s) (F0 m 1088 ls [])) : W p l e room_1 s m #[Value.ref b] below meth c H locs 100 2346 (lw_Z below #[Value.ref b] s) (F0 m 725 ls []) := by
  obtain ⟨C, hX, hbl, hbA, hL, hB0⟩ := X
  have hx := C.1.1
  have hb := C.1.2.1
  have hts := C.1.2.2.2.2
  have hin : ∀ k, k < 6 → vp_in (nI i + nI k) L := fun k hk => by rw [nI_add]; exact vlit _ (by omega) (by omega)
  refine lv_aload_n hx hb dL_law_725 rfl (lv_at hl 1 rfl) ?_
  refine lv_aload_n hx hb dL_law_726 rfl (lv_at hl 0 rfl) ?_
  refine lv_iload_n hx hb dL_law_727 rfl (lv_at hl 3 rfl) ?_
  refine lv_iconst (v := 1) hx hb dL_law_728 (by decide) ?_
  refine lv_iadd hx hb dL_law_729 ?_
  refine va_sld hx hb hX hbl hbA S.2.2 (hin 1 (by omega)) dL_law_730 ?_
  refine lv_aload_n hx hb dL_law_731 rfl (lv_at hl 0 rfl) ?_
  refine lv_iload_n hx hb dL_law_732 rfl (lv_at hl 3 rfl) ?_
  refine lv_iconst (v := 2) hx hb dL_law_733 (by decide) ?_
  refine lv_iadd hx hb dL_law_734 ?_
  refine va_sld hx hb hX hbl hbA S.2.2 (hin 2 (by omega)) dL_law_735 ?_
  refine lv_aload_n hx hb dL_law_736 rfl (lv_at hl 0 rfl) ?_
  refine lv_iload_n hx hb dL_law_737 rfl (lv_at hl 3 rfl) ?_
  refine lv_iconst (v := 3) hx hb dL_law_738 (by decide) ?_
  refine lv_iadd hx hb dL_law_739 ?_
  refine va_sld hx hb hX hbl hbA S.2.2 (hin 3 (by omega)) dL_law_740 ?_
  refine lv_aload_n hx hb dL_law_741 rfl (lv_at hl 0 rfl) ?_
  refine lv_iload_n hx hb dL_law_742 rfl (lv_at hl 3 rfl) ?_
  refine lv_iconst (v := 4) hx hb dL_law_743 (by decide) ?_
  refine lv_iadd hx hb dL_law_744 ?_
  refine va_sld hx hb hX hbl hbA S.2.2 (hin 4 (by omega)) dL_law_745 ?_
  refine lv_aload_n hx hb dL_law_746 rfl (lv_at hl 0 rfl) ?_
  refine lv_iload_n hx hb dL_law_747 rfl (lv_at hl 3 rfl) ?_
  refine lv_iconst (v := 5) hx hb dL_law_748 (by decide) ?_
  refine lv_iadd hx hb dL_law_749 ?_
  refine va_sld hx hb hX hbl hbA S.2.2 (hin 5 (by omega)) dL_law_750 ?_
  refine kVL C S hl.1 (o_X7_fits_c (cmd_fits hR _ _ _ _ _)) (wd_o7 (j := 0) rfl) rfl (cwV 5 hts gL_law_X7_fits rfl rfl rfl (by decide +kernel) ⟨Nat.le_of_ble_eq_true rfl, Nat.le_of_ble_eq_true rfl⟩) rfl rfl (Nat.le_of_ble_eq_true rfl) (Nat.le_of_ble_eq_true rfl) (Nat.le_of_ble_eq_true rfl) dL_law_751 (fun r u H locs hq S => ?_)
  refine lv_aload_n hx hb dL_law_754 rfl (lv_at hl 2 rfl) ?_
  refine lv_aload_n hx hb dL_law_755 rfl (lv_at hl 0 rfl) ?_
  refine lv_iload_n hx hb dL_law_756 rfl (lv_at hl 3 rfl) ?_
  refine lv_iconst (v := 1) hx hb dL_law_757 (by decide) ?_
  refine lv_iadd hx hb dL_law_758 ?_
  refine va_sld hx hb hX hbl hbA S.2.2 (hin 1 (by omega)) dL_law_759 ?_
  refine lv_aload_n hx hb dL_law_760 rfl (lv_at hl 0 rfl) ?_
  refine lv_iload_n hx hb dL_law_761 rfl (lv_at hl 3 rfl) ?_
  refine lv_iconst (v := 2) hx hb dL_law_762 (by decide) ?_
  refine lv_iadd hx hb dL_law_763 ?_
  refine va_sld hx hb hX hbl hbA S.2.2 (hin 2 (by omega)) dL_law_764 ?_
  refine lv_aload_n hx hb dL_law_765 rfl (lv_at hl 0 rfl) ?_
  refine lv_iload_n hx hb dL_law_766 rfl (lv_at hl 3 rfl) ?_
  refine lv_iconst (v := 3) hx hb dL_law_767 (by decide) ?_
  refine lv_iadd hx hb dL_law_768 ?_
  refine va_sld hx hb hX hbl hbA S.2.2 (hin 3 (by omega)) dL_law_769 ?_
  refine lv_aload_n hx hb dL_law_770 rfl (lv_at hl 0 rfl) ?_
  refine lv_iload_n hx hb dL_law_771 rfl (lv_at hl 3 rfl) ?_
  refine lv_iconst (v := 4) hx hb dL_law_772 (by decide) ?_
  refine lv_iadd hx hb dL_law_773 ?_
  refine va_sld hx hb hX hbl hbA S.2.2 (hin 4 (by omega)) dL_law_774 ?_
  refine lv_aload_n hx hb dL_law_775 rfl (lv_at hl 0 rfl) ?_
  refine lv_iload_n hx hb dL_law_776 rfl (lv_at hl 3 rfl) ?_
  refine lv_iconst (v := 5) hx hb dL_law_777 (by decide) ?_
  refine lv_iadd hx hb dL_law_778 ?_
  refine va_sld hx hb hX hbl hbA S.2.2 (hin 5 (by omega)) dL_law_779 ?_
  refine kVL C S hl.1 (o_X8_fits_c (Q := fun r2 g2 => r = r2 ∧ Rel g2) hq) (wd_o8 (j := 86) rfl) rfl (cwV 5 hts gL_law_X8_fits rfl rfl rfl (by decide +kernel) ⟨Nat.le_of_ble_eq_true rfl, Nat.le_of_ble_eq_true rfl⟩) rfl rfl (Nat.le_of_ble_eq_true rfl) (Nat.le_of_ble_eq_true rfl) (Nat.le_of_ble_eq_true rfl) dL_law_780 (fun r2 u H locs hq S => ?_)
  exact lv_icmp_eq (tgt := 1088) hx hb dL_law_783 (by decide) (fun _ => kk u H locs hq.2 S) (fun c9 => absurd hq.1 c9)
set_option maxHeartbeats 4000000 in
set_option maxRecDepth 100000 in
theorem law_20 {p : Program} {l : Launch} {e : Env} {s : State} {m : MethodId} {below : List Frame} {meth : Method} {c : Code} {dC : Nat → ClassId} {dI : Nat → Nat → Nat} {cy : Nat → ClassId} {ad tz : Nat → Nat} {b L : Nat} {xs : Nat → Int32} {i : Nat} {g : Mm} {H : Heap} {locs : List Loc} {ls : Array Slot} (X : LX p s m meth c dC dI cy ad tz b L xs) (S : St dC dI cy ad s g H locs) (hR : Rel g) (hl : lv_has ls 4 [(0, .ref b), (1, .ref (ad 0)), (2, .ref (ad 86)), (3, .int (nI i))]) (hi : i + 6 ≤ L) (kk : ∀ (u : Mm) (H : Heap) (locs : List Loc), Rel u → St dC dI cy ad s u H locs → W p l e room_1 s m #[Value.ref b] below meth c H locs 100 2346 (lw_Z below #[Value.ref b] s) (F0 m 1088 ls [])) : W p l e room_1 s m #[Value.ref b] below meth c H locs 100 2346 (lw_Z below #[Value.ref b] s) (F0 m 788 ls []) := by
  obtain ⟨C, hX, hbl, hbA, hL, hB0⟩ := X
  have hx := C.1.1
  have hb := C.1.2.1
  have hts := C.1.2.2.2.2
  have hin : ∀ k, k < 6 → vp_in (nI i + nI k) L := fun k hk => by rw [nI_add]; exact vlit _ (by omega) (by omega)
  refine lv_aload_n hx hb dL_law_788 rfl (lv_at hl 1 rfl) ?_
  refine lv_aload_n hx hb dL_law_789 rfl (lv_at hl 0 rfl) ?_
  refine lv_iload_n hx hb dL_law_790 rfl (lv_at hl 3 rfl) ?_
  refine lv_iconst (v := 1) hx hb dL_law_791 (by decide) ?_
  refine lv_iadd hx hb dL_law_792 ?_
  refine va_sld hx hb hX hbl hbA S.2.2 (hin 1 (by omega)) dL_law_793 ?_
  refine lv_aload_n hx hb dL_law_794 rfl (lv_at hl 0 rfl) ?_
  refine lv_iload_n hx hb dL_law_795 rfl (lv_at hl 3 rfl) ?_
  refine lv_iconst (v := 2) hx hb dL_law_796 (by decide) ?_
  refine lv_iadd hx hb dL_law_797 ?_
  refine va_sld hx hb hX hbl hbA S.2.2 (hin 2 (by omega)) dL_law_798 ?_
  refine lv_aload_n hx hb dL_law_799 rfl (lv_at hl 0 rfl) ?_
  refine lv_iload_n hx hb dL_law_800 rfl (lv_at hl 3 rfl) ?_
  refine lv_iconst (v := 3) hx hb dL_law_801 (by decide) ?_
  refine lv_iadd hx hb dL_law_802 ?_
  refine va_sld hx hb hX hbl hbA S.2.2 (hin 3 (by omega)) dL_law_803 ?_
  refine lv_aload_n hx hb dL_law_804 rfl (lv_at hl 0 rfl) ?_
  refine lv_iload_n hx hb dL_law_805 rfl (lv_at hl 3 rfl) ?_
  refine lv_iconst (v := 4) hx hb dL_law_806 (by decide) ?_
  refine lv_iadd hx hb dL_law_807 ?_
  refine va_sld hx hb hX hbl hbA S.2.2 (hin 4 (by omega)) dL_law_808 ?_
  refine lv_aload_n hx hb dL_law_809 rfl (lv_at hl 0 rfl) ?_
  refine lv_iload_n hx hb dL_law_810 rfl (lv_at hl 3 rfl) ?_
  refine lv_iconst (v := 5) hx hb dL_law_811 (by decide) ?_
  refine lv_iadd hx hb dL_law_812 ?_
  refine va_sld hx hb hX hbl hbA S.2.2 (hin 5 (by omega)) dL_law_813 ?_
  refine kVL C S hl.1 (o_X7_chance_c (cmd_chance hR _ _ _ _ _)) (wd_o7 (j := 0) rfl) rfl (cwV 5 hts gL_law_X7_chance rfl rfl rfl (by decide +kernel) ⟨Nat.le_of_ble_eq_true rfl, Nat.le_of_ble_eq_true rfl⟩) rfl rfl (Nat.le_of_ble_eq_true rfl) (Nat.le_of_ble_eq_true rfl) (Nat.le_of_ble_eq_true rfl) dL_law_814 (fun r u H locs hq S => ?_)
  refine lv_aload_n hx hb dL_law_817 rfl (lv_at hl 2 rfl) ?_
  refine lv_aload_n hx hb dL_law_818 rfl (lv_at hl 0 rfl) ?_
  refine lv_iload_n hx hb dL_law_819 rfl (lv_at hl 3 rfl) ?_
  refine lv_iconst (v := 1) hx hb dL_law_820 (by decide) ?_
  refine lv_iadd hx hb dL_law_821 ?_
  refine va_sld hx hb hX hbl hbA S.2.2 (hin 1 (by omega)) dL_law_822 ?_
  refine lv_aload_n hx hb dL_law_823 rfl (lv_at hl 0 rfl) ?_
  refine lv_iload_n hx hb dL_law_824 rfl (lv_at hl 3 rfl) ?_
  refine lv_iconst (v := 2) hx hb dL_law_825 (by decide) ?_
  refine lv_iadd hx hb dL_law_826 ?_
  refine va_sld hx hb hX hbl hbA S.2.2 (hin 2 (by omega)) dL_law_827 ?_
  refine lv_aload_n hx hb dL_law_828 rfl (lv_at hl 0 rfl) ?_
  refine lv_iload_n hx hb dL_law_829 rfl (lv_at hl 3 rfl) ?_
  refine lv_iconst (v := 3) hx hb dL_law_830 (by decide) ?_
  refine lv_iadd hx hb dL_law_831 ?_
  refine va_sld hx hb hX hbl hbA S.2.2 (hin 3 (by omega)) dL_law_832 ?_
  refine lv_aload_n hx hb dL_law_833 rfl (lv_at hl 0 rfl) ?_
  refine lv_iload_n hx hb dL_law_834 rfl (lv_at hl 3 rfl) ?_
  refine lv_iconst (v := 4) hx hb dL_law_835 (by decide) ?_
  refine lv_iadd hx hb dL_law_836 ?_
  refine va_sld hx hb hX hbl hbA S.2.2 (hin 4 (by omega)) dL_law_837 ?_
  refine lv_aload_n hx hb dL_law_838 rfl (lv_at hl 0 rfl) ?_
  refine lv_iload_n hx hb dL_law_839 rfl (lv_at hl 3 rfl) ?_
  refine lv_iconst (v := 5) hx hb dL_law_840 (by decide) ?_
  refine lv_iadd hx hb dL_law_841 ?_
  refine va_sld hx hb hX hbl hbA S.2.2 (hin 5 (by omega)) dL_law_842 ?_
  refine kVL C S hl.1 (o_X8_chance_c (Q := fun r2 g2 => r = r2 ∧ Rel g2) hq) (wd_o8 (j := 86) rfl) rfl (cwV 5 hts gL_law_X8_chance rfl rfl rfl (by decide +kernel) ⟨Nat.le_of_ble_eq_true rfl, Nat.le_of_ble_eq_true rfl⟩) rfl rfl (Nat.le_of_ble_eq_true rfl) (Nat.le_of_ble_eq_true rfl) (Nat.le_of_ble_eq_true rfl) dL_law_843 (fun r2 u H locs hq S => ?_)
  exact lv_icmp_eq (tgt := 1088) hx hb dL_law_846 (by decide) (fun _ => kk u H locs hq.2 S) (fun c9 => absurd hq.1 c9)
set_option maxHeartbeats 4000000 in
set_option maxRecDepth 100000 in
theorem law_21 {p : Program} {l : Launch} {e : Env} {s : State} {m : MethodId} {below : List Frame} {meth : Method} {c : Code} {dC : Nat → ClassId} {dI : Nat → Nat → Nat} {cy : Nat → ClassId} {ad tz : Nat → Nat} {b L : Nat} {xs : Nat → Int32} {i : Nat} {g : Mm} {H : Heap} {locs : List Loc} {ls : Array Slot} (X : LX p s m meth c dC dI cy ad tz b L xs) (S : St dC dI cy ad s g H locs) (hR : Rel g) (hl : lv_has ls 4 [(0, .ref b), (1, .ref (ad 0)), (2, .ref (ad 86)), (3, .int (nI i))]) (hi : i + 6 ≤ L) (kk : ∀ (u : Mm) (H : Heap) (locs : List Loc), Rel u → St dC dI cy ad s u H locs → W p l e room_1 s m #[Value.ref b] below meth c H locs 100 2346 (lw_Z below #[Value.ref b] s) (F0 m 1088 ls [])) : W p l e room_1 s m #[Value.ref b] below meth c H locs 100 2346 (lw_Z below #[Value.ref b] s) (F0 m 851 ls []) := by
  obtain ⟨C, hX, hbl, hbA, hL, hB0⟩ := X
  have hx := C.1.1
  have hb := C.1.2.1
  have hts := C.1.2.2.2.2
  have hin : ∀ k, k < 6 → vp_in (nI i + nI k) L := fun k hk => by rw [nI_add]; exact vlit _ (by omega) (by omega)
  refine lv_aload_n hx hb dL_law_851 rfl (lv_at hl 1 rfl) ?_
  refine lv_aload_n hx hb dL_law_852 rfl (lv_at hl 0 rfl) ?_
  refine lv_iload_n hx hb dL_law_853 rfl (lv_at hl 3 rfl) ?_
  refine lv_iconst (v := 1) hx hb dL_law_854 (by decide) ?_
  refine lv_iadd hx hb dL_law_855 ?_
  refine va_sld hx hb hX hbl hbA S.2.2 (hin 1 (by omega)) dL_law_856 ?_
  refine lv_aload_n hx hb dL_law_857 rfl (lv_at hl 0 rfl) ?_
  refine lv_iload_n hx hb dL_law_858 rfl (lv_at hl 3 rfl) ?_
  refine lv_iconst (v := 2) hx hb dL_law_859 (by decide) ?_
  refine lv_iadd hx hb dL_law_860 ?_
  refine va_sld hx hb hX hbl hbA S.2.2 (hin 2 (by omega)) dL_law_861 ?_
  refine lv_aload_n hx hb dL_law_862 rfl (lv_at hl 0 rfl) ?_
  refine lv_iload_n hx hb dL_law_863 rfl (lv_at hl 3 rfl) ?_
  refine lv_iconst (v := 3) hx hb dL_law_864 (by decide) ?_
  refine lv_iadd hx hb dL_law_865 ?_
  refine va_sld hx hb hX hbl hbA S.2.2 (hin 3 (by omega)) dL_law_866 ?_
  refine kVL C S hl.1 (o_X7_drawn_c (cmd_drawn hR _ _ _)) (wd_o7 (j := 0) rfl) rfl (cwV 3 hts gL_law_X7_drawn rfl rfl rfl (by decide +kernel) ⟨Nat.le_of_ble_eq_true rfl, Nat.le_of_ble_eq_true rfl⟩) rfl rfl (Nat.le_of_ble_eq_true rfl) (Nat.le_of_ble_eq_true rfl) (Nat.le_of_ble_eq_true rfl) dL_law_867 (fun r u H locs hq S => ?_)
  refine lv_aload_n hx hb dL_law_870 rfl (lv_at hl 2 rfl) ?_
  refine lv_aload_n hx hb dL_law_871 rfl (lv_at hl 0 rfl) ?_
  refine lv_iload_n hx hb dL_law_872 rfl (lv_at hl 3 rfl) ?_
  refine lv_iconst (v := 1) hx hb dL_law_873 (by decide) ?_
  refine lv_iadd hx hb dL_law_874 ?_
  refine va_sld hx hb hX hbl hbA S.2.2 (hin 1 (by omega)) dL_law_875 ?_
  refine lv_aload_n hx hb dL_law_876 rfl (lv_at hl 0 rfl) ?_
  refine lv_iload_n hx hb dL_law_877 rfl (lv_at hl 3 rfl) ?_
  refine lv_iconst (v := 2) hx hb dL_law_878 (by decide) ?_
  refine lv_iadd hx hb dL_law_879 ?_
  refine va_sld hx hb hX hbl hbA S.2.2 (hin 2 (by omega)) dL_law_880 ?_
  refine lv_aload_n hx hb dL_law_881 rfl (lv_at hl 0 rfl) ?_
  refine lv_iload_n hx hb dL_law_882 rfl (lv_at hl 3 rfl) ?_
  refine lv_iconst (v := 3) hx hb dL_law_883 (by decide) ?_
  refine lv_iadd hx hb dL_law_884 ?_
  refine va_sld hx hb hX hbl hbA S.2.2 (hin 3 (by omega)) dL_law_885 ?_
  refine kVL C S hl.1 (o_X8_drawn_c (Q := fun r2 g2 => r = r2 ∧ Rel g2) hq) (wd_o8 (j := 86) rfl) rfl (cwV 3 hts gL_law_X8_drawn rfl rfl rfl (by decide +kernel) ⟨Nat.le_of_ble_eq_true rfl, Nat.le_of_ble_eq_true rfl⟩) rfl rfl (Nat.le_of_ble_eq_true rfl) (Nat.le_of_ble_eq_true rfl) (Nat.le_of_ble_eq_true rfl) dL_law_886 (fun r2 u H locs hq S => ?_)
  exact lv_icmp_eq (tgt := 1088) hx hb dL_law_889 (by decide) (fun _ => kk u H locs hq.2 S) (fun c9 => absurd hq.1 c9)
set_option maxHeartbeats 4000000 in
set_option maxRecDepth 100000 in
theorem law_22 {p : Program} {l : Launch} {e : Env} {s : State} {m : MethodId} {below : List Frame} {meth : Method} {c : Code} {dC : Nat → ClassId} {dI : Nat → Nat → Nat} {cy : Nat → ClassId} {ad tz : Nat → Nat} {b L : Nat} {xs : Nat → Int32} {i : Nat} {g : Mm} {H : Heap} {locs : List Loc} {ls : Array Slot} (X : LX p s m meth c dC dI cy ad tz b L xs) (S : St dC dI cy ad s g H locs) (hR : Rel g) (hl : lv_has ls 4 [(0, .ref b), (1, .ref (ad 0)), (2, .ref (ad 86)), (3, .int (nI i))]) (hi : i + 6 ≤ L) (kk : ∀ (u : Mm) (H : Heap) (locs : List Loc), Rel u → St dC dI cy ad s u H locs → W p l e room_1 s m #[Value.ref b] below meth c H locs 100 2346 (lw_Z below #[Value.ref b] s) (F0 m 1088 ls [])) : W p l e room_1 s m #[Value.ref b] below meth c H locs 100 2346 (lw_Z below #[Value.ref b] s) (F0 m 894 ls []) := by
  obtain ⟨C, hX, hbl, hbA, hL, hB0⟩ := X
  have hx := C.1.1
  have hb := C.1.2.1
  have hts := C.1.2.2.2.2
  have hin : ∀ k, k < 6 → vp_in (nI i + nI k) L := fun k hk => by rw [nI_add]; exact vlit _ (by omega) (by omega)
  refine lv_aload_n hx hb dL_law_894 rfl (lv_at hl 1 rfl) ?_
  refine lv_aload_n hx hb dL_law_895 rfl (lv_at hl 0 rfl) ?_
  refine lv_iload_n hx hb dL_law_896 rfl (lv_at hl 3 rfl) ?_
  refine lv_iconst (v := 1) hx hb dL_law_897 (by decide) ?_
  refine lv_iadd hx hb dL_law_898 ?_
  refine va_sld hx hb hX hbl hbA S.2.2 (hin 1 (by omega)) dL_law_899 ?_
  refine kVL C S hl.1 (o_X7_image_c (cmd_image hR _)) (wd_o7 (j := 0) rfl) rfl (cwV 1 hts gL_law_X7_image rfl rfl rfl (by decide +kernel) ⟨Nat.le_of_ble_eq_true rfl, Nat.le_of_ble_eq_true rfl⟩) rfl rfl (Nat.le_of_ble_eq_true rfl) (Nat.le_of_ble_eq_true rfl) (Nat.le_of_ble_eq_true rfl) dL_law_900 (fun r u H locs hq S => ?_)
  refine lv_aload_n hx hb dL_law_903 rfl (lv_at hl 2 rfl) ?_
  refine lv_aload_n hx hb dL_law_904 rfl (lv_at hl 0 rfl) ?_
  refine lv_iload_n hx hb dL_law_905 rfl (lv_at hl 3 rfl) ?_
  refine lv_iconst (v := 1) hx hb dL_law_906 (by decide) ?_
  refine lv_iadd hx hb dL_law_907 ?_
  refine va_sld hx hb hX hbl hbA S.2.2 (hin 1 (by omega)) dL_law_908 ?_
  refine kVL C S hl.1 (o_X8_image_c (Q := fun r2 g2 => r = r2 ∧ Rel g2) hq) (wd_o8 (j := 86) rfl) rfl (cwV 1 hts gL_law_X8_image rfl rfl rfl (by decide +kernel) ⟨Nat.le_of_ble_eq_true rfl, Nat.le_of_ble_eq_true rfl⟩) rfl rfl (Nat.le_of_ble_eq_true rfl) (Nat.le_of_ble_eq_true rfl) (Nat.le_of_ble_eq_true rfl) dL_law_909 (fun r2 u H locs hq S => ?_)
  exact lv_icmp_eq (tgt := 1088) hx hb dL_law_912 (by decide) (fun _ => kk u H locs hq.2 S) (fun c9 => absurd hq.1 c9)
set_option maxHeartbeats 4000000 in
set_option maxRecDepth 100000 in
theorem law_23 {p : Program} {l : Launch} {e : Env} {s : State} {m : MethodId} {below : List Frame} {meth : Method} {c : Code} {dC : Nat → ClassId} {dI : Nat → Nat → Nat} {cy : Nat → ClassId} {ad tz : Nat → Nat} {b L : Nat} {xs : Nat → Int32} {i : Nat} {g : Mm} {H : Heap} {locs : List Loc} {ls : Array Slot} (X : LX p s m meth c dC dI cy ad tz b L xs) (S : St dC dI cy ad s g H locs) (hR : Rel g) (hl : lv_has ls 4 [(0, .ref b), (1, .ref (ad 0)), (2, .ref (ad 86)), (3, .int (nI i))]) (hi : i + 6 ≤ L) (kk : ∀ (u : Mm) (H : Heap) (locs : List Loc), Rel u → St dC dI cy ad s u H locs → W p l e room_1 s m #[Value.ref b] below meth c H locs 100 2346 (lw_Z below #[Value.ref b] s) (F0 m 1088 ls [])) : W p l e room_1 s m #[Value.ref b] below meth c H locs 100 2346 (lw_Z below #[Value.ref b] s) (F0 m 917 ls []) := by
  obtain ⟨C, hX, hbl, hbA, hL, hB0⟩ := X
  have hx := C.1.1
  have hb := C.1.2.1
  have hts := C.1.2.2.2.2
  have hin : ∀ k, k < 6 → vp_in (nI i + nI k) L := fun k hk => by rw [nI_add]; exact vlit _ (by omega) (by omega)
  refine lv_aload_n hx hb dL_law_917 rfl (lv_at hl 1 rfl) ?_
  refine lv_aload_n hx hb dL_law_918 rfl (lv_at hl 0 rfl) ?_
  refine lv_iload_n hx hb dL_law_919 rfl (lv_at hl 3 rfl) ?_
  refine lv_iconst (v := 1) hx hb dL_law_920 (by decide) ?_
  refine lv_iadd hx hb dL_law_921 ?_
  refine va_sld hx hb hX hbl hbA S.2.2 (hin 1 (by omega)) dL_law_922 ?_
  refine kVL C S hl.1 (o_X7_restore_c (cmd_restore hR _)) (wd_o7 (j := 0) rfl) rfl (cwV 1 hts gL_law_X7_restore rfl rfl rfl (by decide +kernel) ⟨Nat.le_of_ble_eq_true rfl, Nat.le_of_ble_eq_true rfl⟩) rfl rfl (Nat.le_of_ble_eq_true rfl) (Nat.le_of_ble_eq_true rfl) (Nat.le_of_ble_eq_true rfl) dL_law_923 (fun r u H locs hq S => ?_)
  refine lv_aload_n hx hb dL_law_926 rfl (lv_at hl 2 rfl) ?_
  refine lv_aload_n hx hb dL_law_927 rfl (lv_at hl 0 rfl) ?_
  refine lv_iload_n hx hb dL_law_928 rfl (lv_at hl 3 rfl) ?_
  refine lv_iconst (v := 1) hx hb dL_law_929 (by decide) ?_
  refine lv_iadd hx hb dL_law_930 ?_
  refine va_sld hx hb hX hbl hbA S.2.2 (hin 1 (by omega)) dL_law_931 ?_
  refine kVL C S hl.1 (o_X8_restore_c (Q := fun r2 g2 => r = r2 ∧ Rel g2) hq) (wd_o8 (j := 86) rfl) rfl (cwV 1 hts gL_law_X8_restore rfl rfl rfl (by decide +kernel) ⟨Nat.le_of_ble_eq_true rfl, Nat.le_of_ble_eq_true rfl⟩) rfl rfl (Nat.le_of_ble_eq_true rfl) (Nat.le_of_ble_eq_true rfl) (Nat.le_of_ble_eq_true rfl) dL_law_932 (fun r2 u H locs hq S => ?_)
  exact lv_icmp_eq (tgt := 1088) hx hb dL_law_935 (by decide) (fun _ => kk u H locs hq.2 S) (fun c9 => absurd hq.1 c9)
set_option maxHeartbeats 4000000 in
set_option maxRecDepth 100000 in
theorem law_24 {p : Program} {l : Launch} {e : Env} {s : State} {m : MethodId} {below : List Frame} {meth : Method} {c : Code} {dC : Nat → ClassId} {dI : Nat → Nat → Nat} {cy : Nat → ClassId} {ad tz : Nat → Nat} {b L : Nat} {xs : Nat → Int32} {i : Nat} {g : Mm} {H : Heap} {locs : List Loc} {ls : Array Slot} (X : LX p s m meth c dC dI cy ad tz b L xs) (S : St dC dI cy ad s g H locs) (hR : Rel g) (hl : lv_has ls 4 [(0, .ref b), (1, .ref (ad 0)), (2, .ref (ad 86)), (3, .int (nI i))]) (hi : i + 6 ≤ L) (kk : ∀ (u : Mm) (H : Heap) (locs : List Loc), Rel u → St dC dI cy ad s u H locs → W p l e room_1 s m #[Value.ref b] below meth c H locs 100 2346 (lw_Z below #[Value.ref b] s) (F0 m 1088 ls [])) : W p l e room_1 s m #[Value.ref b] below meth c H locs 100 2346 (lw_Z below #[Value.ref b] s) (F0 m 940 ls []) := by
  obtain ⟨C, hX, hbl, hbA, hL, hB0⟩ := X
  have hx := C.1.1
  have hb := C.1.2.1
  have hts := C.1.2.2.2.2
  have hin : ∀ k, k < 6 → vp_in (nI i + nI k) L := fun k hk => by rw [nI_add]; exact vlit _ (by omega) (by omega)
  refine lv_aload_n hx hb dL_law_940 rfl (lv_at hl 1 rfl) ?_
  refine lv_aload_n hx hb dL_law_941 rfl (lv_at hl 0 rfl) ?_
  refine lv_iload_n hx hb dL_law_942 rfl (lv_at hl 3 rfl) ?_
  refine lv_iconst (v := 1) hx hb dL_law_943 (by decide) ?_
  refine lv_iadd hx hb dL_law_944 ?_
  refine va_sld hx hb hX hbl hbA S.2.2 (hin 1 (by omega)) dL_law_945 ?_
  refine kVL C S hl.1 (o_X7_kind_c (cmd_kind hR _)) (wd_o7 (j := 0) rfl) rfl (cwV 1 hts gL_law_X7_kind rfl rfl rfl (by decide +kernel) ⟨Nat.le_of_ble_eq_true rfl, Nat.le_of_ble_eq_true rfl⟩) rfl rfl (Nat.le_of_ble_eq_true rfl) (Nat.le_of_ble_eq_true rfl) (Nat.le_of_ble_eq_true rfl) dL_law_946 (fun r u H locs hq S => ?_)
  refine lv_aload_n hx hb dL_law_949 rfl (lv_at hl 2 rfl) ?_
  refine lv_aload_n hx hb dL_law_950 rfl (lv_at hl 0 rfl) ?_
  refine lv_iload_n hx hb dL_law_951 rfl (lv_at hl 3 rfl) ?_
  refine lv_iconst (v := 1) hx hb dL_law_952 (by decide) ?_
  refine lv_iadd hx hb dL_law_953 ?_
  refine va_sld hx hb hX hbl hbA S.2.2 (hin 1 (by omega)) dL_law_954 ?_
  refine kVL C S hl.1 (o_X8_kind_c (Q := fun r2 g2 => r = r2 ∧ Rel g2) hq) (wd_o8 (j := 86) rfl) rfl (cwV 1 hts gL_law_X8_kind rfl rfl rfl (by decide +kernel) ⟨Nat.le_of_ble_eq_true rfl, Nat.le_of_ble_eq_true rfl⟩) rfl rfl (Nat.le_of_ble_eq_true rfl) (Nat.le_of_ble_eq_true rfl) (Nat.le_of_ble_eq_true rfl) dL_law_955 (fun r2 u H locs hq S => ?_)
  exact lv_icmp_eq (tgt := 1088) hx hb dL_law_958 (by decide) (fun _ => kk u H locs hq.2 S) (fun c9 => absurd hq.1 c9)
set_option maxHeartbeats 4000000 in
set_option maxRecDepth 100000 in
theorem law_25 {p : Program} {l : Launch} {e : Env} {s : State} {m : MethodId} {below : List Frame} {meth : Method} {c : Code} {dC : Nat → ClassId} {dI : Nat → Nat → Nat} {cy : Nat → ClassId} {ad tz : Nat → Nat} {b L : Nat} {xs : Nat → Int32} {i : Nat} {g : Mm} {H : Heap} {locs : List Loc} {ls : Array Slot} (X : LX p s m meth c dC dI cy ad tz b L xs) (S : St dC dI cy ad s g H locs) (hR : Rel g) (hl : lv_has ls 4 [(0, .ref b), (1, .ref (ad 0)), (2, .ref (ad 86)), (3, .int (nI i))]) (hi : i + 6 ≤ L) (kk : ∀ (u : Mm) (H : Heap) (locs : List Loc), Rel u → St dC dI cy ad s u H locs → W p l e room_1 s m #[Value.ref b] below meth c H locs 100 2346 (lw_Z below #[Value.ref b] s) (F0 m 1088 ls [])) : W p l e room_1 s m #[Value.ref b] below meth c H locs 100 2346 (lw_Z below #[Value.ref b] s) (F0 m 963 ls []) := by
  obtain ⟨C, hX, hbl, hbA, hL, hB0⟩ := X
  have hx := C.1.1
  have hb := C.1.2.1
  have hts := C.1.2.2.2.2
  have hin : ∀ k, k < 6 → vp_in (nI i + nI k) L := fun k hk => by rw [nI_add]; exact vlit _ (by omega) (by omega)
  refine lv_aload_n hx hb dL_law_963 rfl (lv_at hl 1 rfl) ?_
  refine lv_aload_n hx hb dL_law_964 rfl (lv_at hl 0 rfl) ?_
  refine lv_iload_n hx hb dL_law_965 rfl (lv_at hl 3 rfl) ?_
  refine lv_iconst (v := 1) hx hb dL_law_966 (by decide) ?_
  refine lv_iadd hx hb dL_law_967 ?_
  refine va_sld hx hb hX hbl hbA S.2.2 (hin 1 (by omega)) dL_law_968 ?_
  refine lv_aload_n hx hb dL_law_969 rfl (lv_at hl 0 rfl) ?_
  refine lv_iload_n hx hb dL_law_970 rfl (lv_at hl 3 rfl) ?_
  refine lv_iconst (v := 2) hx hb dL_law_971 (by decide) ?_
  refine lv_iadd hx hb dL_law_972 ?_
  refine va_sld hx hb hX hbl hbA S.2.2 (hin 2 (by omega)) dL_law_973 ?_
  refine kVL C S hl.1 (o_X7_as_c (cmd_as hR _ _)) (wd_o7 (j := 0) rfl) rfl (cwV 2 hts gL_law_X7_as rfl rfl rfl (by decide +kernel) ⟨Nat.le_of_ble_eq_true rfl, Nat.le_of_ble_eq_true rfl⟩) rfl rfl (Nat.le_of_ble_eq_true rfl) (Nat.le_of_ble_eq_true rfl) (Nat.le_of_ble_eq_true rfl) dL_law_974 (fun r u H locs hq S => ?_)
  refine lv_aload_n hx hb dL_law_977 rfl (lv_at hl 2 rfl) ?_
  refine lv_aload_n hx hb dL_law_978 rfl (lv_at hl 0 rfl) ?_
  refine lv_iload_n hx hb dL_law_979 rfl (lv_at hl 3 rfl) ?_
  refine lv_iconst (v := 1) hx hb dL_law_980 (by decide) ?_
  refine lv_iadd hx hb dL_law_981 ?_
  refine va_sld hx hb hX hbl hbA S.2.2 (hin 1 (by omega)) dL_law_982 ?_
  refine lv_aload_n hx hb dL_law_983 rfl (lv_at hl 0 rfl) ?_
  refine lv_iload_n hx hb dL_law_984 rfl (lv_at hl 3 rfl) ?_
  refine lv_iconst (v := 2) hx hb dL_law_985 (by decide) ?_
  refine lv_iadd hx hb dL_law_986 ?_
  refine va_sld hx hb hX hbl hbA S.2.2 (hin 2 (by omega)) dL_law_987 ?_
  refine kVL C S hl.1 (o_X8_as_c (Q := fun r2 g2 => r = r2 ∧ Rel g2) hq) (wd_o8 (j := 86) rfl) rfl (cwV 2 hts gL_law_X8_as rfl rfl rfl (by decide +kernel) ⟨Nat.le_of_ble_eq_true rfl, Nat.le_of_ble_eq_true rfl⟩) rfl rfl (Nat.le_of_ble_eq_true rfl) (Nat.le_of_ble_eq_true rfl) (Nat.le_of_ble_eq_true rfl) dL_law_988 (fun r2 u H locs hq S => ?_)
  exact lv_icmp_eq (tgt := 1088) hx hb dL_law_991 (by decide) (fun _ => kk u H locs hq.2 S) (fun c9 => absurd hq.1 c9)
set_option maxHeartbeats 4000000 in
set_option maxRecDepth 100000 in
theorem law_26 {p : Program} {l : Launch} {e : Env} {s : State} {m : MethodId} {below : List Frame} {meth : Method} {c : Code} {dC : Nat → ClassId} {dI : Nat → Nat → Nat} {cy : Nat → ClassId} {ad tz : Nat → Nat} {b L : Nat} {xs : Nat → Int32} {i : Nat} {g : Mm} {H : Heap} {locs : List Loc} {ls : Array Slot} (X : LX p s m meth c dC dI cy ad tz b L xs) (S : St dC dI cy ad s g H locs) (hR : Rel g) (hl : lv_has ls 4 [(0, .ref b), (1, .ref (ad 0)), (2, .ref (ad 86)), (3, .int (nI i))]) (hi : i + 6 ≤ L) (kk : ∀ (u : Mm) (H : Heap) (locs : List Loc), Rel u → St dC dI cy ad s u H locs → W p l e room_1 s m #[Value.ref b] below meth c H locs 100 2346 (lw_Z below #[Value.ref b] s) (F0 m 1088 ls [])) : W p l e room_1 s m #[Value.ref b] below meth c H locs 100 2346 (lw_Z below #[Value.ref b] s) (F0 m 996 ls []) := by
  obtain ⟨C, hX, hbl, hbA, hL, hB0⟩ := X
  have hx := C.1.1
  have hb := C.1.2.1
  have hts := C.1.2.2.2.2
  have hin : ∀ k, k < 6 → vp_in (nI i + nI k) L := fun k hk => by rw [nI_add]; exact vlit _ (by omega) (by omega)
  refine lv_aload_n hx hb dL_law_996 rfl (lv_at hl 1 rfl) ?_
  refine lv_aload_n hx hb dL_law_997 rfl (lv_at hl 0 rfl) ?_
  refine lv_iload_n hx hb dL_law_998 rfl (lv_at hl 3 rfl) ?_
  refine lv_iconst (v := 1) hx hb dL_law_999 (by decide) ?_
  refine lv_iadd hx hb dL_law_1000 ?_
  refine va_sld hx hb hX hbl hbA S.2.2 (hin 1 (by omega)) dL_law_1001 ?_
  refine lv_aload_n hx hb dL_law_1002 rfl (lv_at hl 0 rfl) ?_
  refine lv_iload_n hx hb dL_law_1003 rfl (lv_at hl 3 rfl) ?_
  refine lv_iconst (v := 2) hx hb dL_law_1004 (by decide) ?_
  refine lv_iadd hx hb dL_law_1005 ?_
  refine va_sld hx hb hX hbl hbA S.2.2 (hin 2 (by omega)) dL_law_1006 ?_
  refine kVL C S hl.1 (o_X7_ask_c (cmd_ask hR _ _)) (wd_o7 (j := 0) rfl) rfl (cwV 2 hts gL_law_X7_ask rfl rfl rfl (by decide +kernel) ⟨Nat.le_of_ble_eq_true rfl, Nat.le_of_ble_eq_true rfl⟩) rfl rfl (Nat.le_of_ble_eq_true rfl) (Nat.le_of_ble_eq_true rfl) (Nat.le_of_ble_eq_true rfl) dL_law_1007 (fun r u H locs hq S => ?_)
  refine lv_aload_n hx hb dL_law_1010 rfl (lv_at hl 2 rfl) ?_
  refine lv_aload_n hx hb dL_law_1011 rfl (lv_at hl 0 rfl) ?_
  refine lv_iload_n hx hb dL_law_1012 rfl (lv_at hl 3 rfl) ?_
  refine lv_iconst (v := 1) hx hb dL_law_1013 (by decide) ?_
  refine lv_iadd hx hb dL_law_1014 ?_
  refine va_sld hx hb hX hbl hbA S.2.2 (hin 1 (by omega)) dL_law_1015 ?_
  refine lv_aload_n hx hb dL_law_1016 rfl (lv_at hl 0 rfl) ?_
  refine lv_iload_n hx hb dL_law_1017 rfl (lv_at hl 3 rfl) ?_
  refine lv_iconst (v := 2) hx hb dL_law_1018 (by decide) ?_
  refine lv_iadd hx hb dL_law_1019 ?_
  refine va_sld hx hb hX hbl hbA S.2.2 (hin 2 (by omega)) dL_law_1020 ?_
  refine kVL C S hl.1 (o_X8_ask_c (Q := fun r2 g2 => r = r2 ∧ Rel g2) hq) (wd_o8 (j := 86) rfl) rfl (cwV 2 hts gL_law_X8_ask rfl rfl rfl (by decide +kernel) ⟨Nat.le_of_ble_eq_true rfl, Nat.le_of_ble_eq_true rfl⟩) rfl rfl (Nat.le_of_ble_eq_true rfl) (Nat.le_of_ble_eq_true rfl) (Nat.le_of_ble_eq_true rfl) dL_law_1021 (fun r2 u H locs hq S => ?_)
  exact lv_icmp_eq (tgt := 1088) hx hb dL_law_1024 (by decide) (fun _ => kk u H locs hq.2 S) (fun c9 => absurd hq.1 c9)
set_option maxHeartbeats 4000000 in
set_option maxRecDepth 100000 in
theorem law_27 {p : Program} {l : Launch} {e : Env} {s : State} {m : MethodId} {below : List Frame} {meth : Method} {c : Code} {dC : Nat → ClassId} {dI : Nat → Nat → Nat} {cy : Nat → ClassId} {ad tz : Nat → Nat} {b L : Nat} {xs : Nat → Int32} {i : Nat} {g : Mm} {H : Heap} {locs : List Loc} {ls : Array Slot} (X : LX p s m meth c dC dI cy ad tz b L xs) (S : St dC dI cy ad s g H locs) (hR : Rel g) (hl : lv_has ls 4 [(0, .ref b), (1, .ref (ad 0)), (2, .ref (ad 86)), (3, .int (nI i))]) (hi : i + 6 ≤ L) (kk : ∀ (u : Mm) (H : Heap) (locs : List Loc), Rel u → St dC dI cy ad s u H locs → W p l e room_1 s m #[Value.ref b] below meth c H locs 100 2346 (lw_Z below #[Value.ref b] s) (F0 m 1088 ls [])) : W p l e room_1 s m #[Value.ref b] below meth c H locs 100 2346 (lw_Z below #[Value.ref b] s) (F0 m 1029 ls []) := by
  obtain ⟨C, hX, hbl, hbA, hL, hB0⟩ := X
  have hx := C.1.1
  have hb := C.1.2.1
  have hts := C.1.2.2.2.2
  have hin : ∀ k, k < 6 → vp_in (nI i + nI k) L := fun k hk => by rw [nI_add]; exact vlit _ (by omega) (by omega)
  refine lv_aload_n hx hb dL_law_1029 rfl (lv_at hl 1 rfl) ?_
  refine lv_aload_n hx hb dL_law_1030 rfl (lv_at hl 0 rfl) ?_
  refine lv_iload_n hx hb dL_law_1031 rfl (lv_at hl 3 rfl) ?_
  refine lv_iconst (v := 1) hx hb dL_law_1032 (by decide) ?_
  refine lv_iadd hx hb dL_law_1033 ?_
  refine va_sld hx hb hX hbl hbA S.2.2 (hin 1 (by omega)) dL_law_1034 ?_
  refine kVL C S hl.1 (o_X7_trace_c (cmd_trace hR _)) (wd_o7 (j := 0) rfl) rfl (cwV 1 hts gL_law_X7_trace rfl rfl rfl (by decide +kernel) ⟨Nat.le_of_ble_eq_true rfl, Nat.le_of_ble_eq_true rfl⟩) rfl rfl (Nat.le_of_ble_eq_true rfl) (Nat.le_of_ble_eq_true rfl) (Nat.le_of_ble_eq_true rfl) dL_law_1035 (fun r u H locs hq S => ?_)
  refine lv_aload_n hx hb dL_law_1038 rfl (lv_at hl 2 rfl) ?_
  refine lv_aload_n hx hb dL_law_1039 rfl (lv_at hl 0 rfl) ?_
  refine lv_iload_n hx hb dL_law_1040 rfl (lv_at hl 3 rfl) ?_
  refine lv_iconst (v := 1) hx hb dL_law_1041 (by decide) ?_
  refine lv_iadd hx hb dL_law_1042 ?_
  refine va_sld hx hb hX hbl hbA S.2.2 (hin 1 (by omega)) dL_law_1043 ?_
  refine kVL C S hl.1 (o_X8_trace_c (Q := fun r2 g2 => r = r2 ∧ Rel g2) hq) (wd_o8 (j := 86) rfl) rfl (cwV 1 hts gL_law_X8_trace rfl rfl rfl (by decide +kernel) ⟨Nat.le_of_ble_eq_true rfl, Nat.le_of_ble_eq_true rfl⟩) rfl rfl (Nat.le_of_ble_eq_true rfl) (Nat.le_of_ble_eq_true rfl) (Nat.le_of_ble_eq_true rfl) dL_law_1044 (fun r2 u H locs hq S => ?_)
  exact lv_icmp_eq (tgt := 1088) hx hb dL_law_1047 (by decide) (fun _ => kk u H locs hq.2 S) (fun c9 => absurd hq.1 c9)
set_option maxHeartbeats 4000000 in
set_option maxRecDepth 100000 in
theorem law_28 {p : Program} {l : Launch} {e : Env} {s : State} {m : MethodId} {below : List Frame} {meth : Method} {c : Code} {dC : Nat → ClassId} {dI : Nat → Nat → Nat} {cy : Nat → ClassId} {ad tz : Nat → Nat} {b L : Nat} {xs : Nat → Int32} {i : Nat} {g : Mm} {H : Heap} {locs : List Loc} {ls : Array Slot} (X : LX p s m meth c dC dI cy ad tz b L xs) (S : St dC dI cy ad s g H locs) (hR : Rel g) (hl : lv_has ls 4 [(0, .ref b), (1, .ref (ad 0)), (2, .ref (ad 86)), (3, .int (nI i))]) (hi : i + 6 ≤ L) (kk : ∀ (u : Mm) (H : Heap) (locs : List Loc), Rel u → St dC dI cy ad s u H locs → W p l e room_1 s m #[Value.ref b] below meth c H locs 100 2346 (lw_Z below #[Value.ref b] s) (F0 m 1088 ls [])) : W p l e room_1 s m #[Value.ref b] below meth c H locs 100 2346 (lw_Z below #[Value.ref b] s) (F0 m 1052 ls []) := by
  obtain ⟨C, hX, hbl, hbA, hL, hB0⟩ := X
  have hx := C.1.1
  have hb := C.1.2.1
  have hts := C.1.2.2.2.2
  have hin : ∀ k, k < 6 → vp_in (nI i + nI k) L := fun k hk => by rw [nI_add]; exact vlit _ (by omega) (by omega)
  refine lv_aload_n hx hb dL_law_1052 rfl (lv_at hl 1 rfl) ?_
  refine lv_aload_n hx hb dL_law_1053 rfl (lv_at hl 0 rfl) ?_
  refine lv_iload_n hx hb dL_law_1054 rfl (lv_at hl 3 rfl) ?_
  refine lv_iconst (v := 1) hx hb dL_law_1055 (by decide) ?_
  refine lv_iadd hx hb dL_law_1056 ?_
  refine va_sld hx hb hX hbl hbA S.2.2 (hin 1 (by omega)) dL_law_1057 ?_
  refine kVL C S hl.1 (o_X7_count_c (cmd_count hR _)) (wd_o7 (j := 0) rfl) rfl (cwV 1 hts gL_law_X7_count rfl rfl rfl (by decide +kernel) ⟨Nat.le_of_ble_eq_true rfl, Nat.le_of_ble_eq_true rfl⟩) rfl rfl (Nat.le_of_ble_eq_true rfl) (Nat.le_of_ble_eq_true rfl) (Nat.le_of_ble_eq_true rfl) dL_law_1058 (fun r u H locs hq S => ?_)
  refine lv_aload_n hx hb dL_law_1061 rfl (lv_at hl 2 rfl) ?_
  refine lv_aload_n hx hb dL_law_1062 rfl (lv_at hl 0 rfl) ?_
  refine lv_iload_n hx hb dL_law_1063 rfl (lv_at hl 3 rfl) ?_
  refine lv_iconst (v := 1) hx hb dL_law_1064 (by decide) ?_
  refine lv_iadd hx hb dL_law_1065 ?_
  refine va_sld hx hb hX hbl hbA S.2.2 (hin 1 (by omega)) dL_law_1066 ?_
  refine kVL C S hl.1 (o_X8_count_c (Q := fun r2 g2 => r = r2 ∧ Rel g2) hq) (wd_o8 (j := 86) rfl) rfl (cwV 1 hts gL_law_X8_count rfl rfl rfl (by decide +kernel) ⟨Nat.le_of_ble_eq_true rfl, Nat.le_of_ble_eq_true rfl⟩) rfl rfl (Nat.le_of_ble_eq_true rfl) (Nat.le_of_ble_eq_true rfl) (Nat.le_of_ble_eq_true rfl) dL_law_1067 (fun r2 u H locs hq S => ?_)
  exact lv_icmp_eq (tgt := 1088) hx hb dL_law_1070 (by decide) (fun _ => kk u H locs hq.2 S) (fun c9 => absurd hq.1 c9)
set_option maxHeartbeats 4000000 in
set_option maxRecDepth 100000 in
theorem law_29 {p : Program} {l : Launch} {e : Env} {s : State} {m : MethodId} {below : List Frame} {meth : Method} {c : Code} {dC : Nat → ClassId} {dI : Nat → Nat → Nat} {cy : Nat → ClassId} {ad tz : Nat → Nat} {b L : Nat} {xs : Nat → Int32} {i : Nat} {g : Mm} {H : Heap} {locs : List Loc} {ls : Array Slot} (X : LX p s m meth c dC dI cy ad tz b L xs) (S : St dC dI cy ad s g H locs) (hR : Rel g) (hl : lv_has ls 4 [(0, .ref b), (1, .ref (ad 0)), (2, .ref (ad 86)), (3, .int (nI i))]) (hi : i + 6 ≤ L) (kk : ∀ (u : Mm) (H : Heap) (locs : List Loc), Rel u → St dC dI cy ad s u H locs → W p l e room_1 s m #[Value.ref b] below meth c H locs 100 2346 (lw_Z below #[Value.ref b] s) (F0 m 1088 ls [])) : W p l e room_1 s m #[Value.ref b] below meth c H locs 100 2346 (lw_Z below #[Value.ref b] s) (F0 m 1075 ls []) := by
  obtain ⟨C, hX, hbl, hbA, hL, hB0⟩ := X
  have hx := C.1.1
  have hb := C.1.2.1
  have hts := C.1.2.2.2.2
  have hin : ∀ k, k < 6 → vp_in (nI i + nI k) L := fun k hk => by rw [nI_add]; exact vlit _ (by omega) (by omega)
  refine lv_aload_n hx hb dL_law_1075 rfl (lv_at hl 1 rfl) ?_
  refine kVL C S hl.1 (o_X7_status_c (cmd_status hR )) (wd_o7 (j := 0) rfl) rfl (cwV 0 hts gL_law_X7_status rfl rfl rfl (by decide +kernel) ⟨Nat.le_of_ble_eq_true rfl, Nat.le_of_ble_eq_true rfl⟩) rfl rfl (Nat.le_of_ble_eq_true rfl) (Nat.le_of_ble_eq_true rfl) (Nat.le_of_ble_eq_true rfl) dL_law_1076 (fun r u H locs hq S => ?_)
  refine lv_aload_n hx hb dL_law_1079 rfl (lv_at hl 2 rfl) ?_
  refine kVL C S hl.1 (o_X8_status_c (Q := fun r2 g2 => r = r2 ∧ Rel g2) hq) (wd_o8 (j := 86) rfl) rfl (cwV 0 hts gL_law_X8_status rfl rfl rfl (by decide +kernel) ⟨Nat.le_of_ble_eq_true rfl, Nat.le_of_ble_eq_true rfl⟩) rfl rfl (Nat.le_of_ble_eq_true rfl) (Nat.le_of_ble_eq_true rfl) (Nat.le_of_ble_eq_true rfl) dL_law_1080 (fun r2 u H locs hq S => ?_)
  exact lv_icmp_eq (tgt := 1088) hx hb dL_law_1083 (by decide) (fun _ => kk u H locs hq.2 S) (fun c9 => absurd hq.1 c9)
set_option maxHeartbeats 4000000 in
set_option maxRecDepth 100000 in
theorem law_loop {p : Program} {l : Launch} {e : Env} {s : State} {m : MethodId} {below : List Frame} {meth : Method} {c : Code} {dC : Nat → ClassId} {dI : Nat → Nat → Nat} {cy : Nat → ClassId} {ad tz : Nat → Nat} {b L : Nat} {xs : Nat → Int32} (X : LX p s m meth c dC dI cy ad tz b L xs) : ∀ (n i : Nat) (g : Mm) (H : Heap) (locs : List Loc) (ls : Array Slot), i ≤ L → L + 1 ≤ i + n → Rel g → St dC dI cy ad s g H locs → lv_has ls 4 [(0, .ref b), (1, .ref (ad 0)), (2, .ref (ad 86)), (3, .int (nI i))] → W p l e room_1 s m #[Value.ref b] below meth c H locs 100 2346 (lw_Z below #[Value.ref b] s) (F0 m 18 ls []) := by
  obtain ⟨C, hX, hbl, hbA, hL, hB0⟩ := id X
  have hx := C.1.1
  have hb := C.1.2.1
  intro n
  induction n with
  | zero =>
    intro i g H locs ls h1 h2
    exact absurd h2 (by omega)
  | succ n ih =>
    intro i g H locs ls h1 h2 hR S hl
    refine lv_iload_n hx hb dL_law_18 rfl (lv_at hl 3 rfl) ?_
    refine lv_aload_n hx hb dL_law_19 rfl (lv_at hl 0 rfl) ?_
    refine va_slen hx hb hX hbl hbA S.2.2 dL_law_20 ?_
    refine lv_bipush (v := 6) hx hb dL_law_21 (by decide) ?_
    refine lv_isub hx hb dL_law_23 ?_
    have eL : (Int32.ofNat L - 6).toInt = (L : Int) - 6 := pk_sub_toInt (a := L) (b := 6) (by omega) (by omega)
    refine lv_icmp_gt (tgt := 1094) hx hb dL_law_24 (by decide) (fun c9 => ?_) (fun c9 => ?_)
    · refine lv_iconst (v := 1) hx hb dL_law_1094 (by decide) ?_
      refine va_forget (fun q hq => (S.2.2.2.2 q hq).elim (fun z => by obtain ⟨j, hj, e9⟩ := z; rw [e9]; exact hB0 j hj) (fun z => z)) ?_
      refine W.widen (k := 600000) (n := 7302250) (Nat.le_of_ble_eq_true rfl) (Nat.le_of_ble_eq_true rfl) ?_
      exact lw_ret hx hb C.2.2.2.2.1 C.2.2.2.2.2 dL_law_1095
    · have hi : i + 6 ≤ L := by
        rw [lt_i, eL, nIi (by omega)] at c9
        omega
      refine lv_aload_n hx hb dL_law_27 rfl (lv_at hl 0 rfl) ?_
      refine lv_iload_n hx hb dL_law_28 rfl (lv_at hl 3 rfl) ?_
      refine va_sld hx hb hX hbl hbA S.2.2 (vlit i (by omega) (by omega)) dL_law_29 ?_
      refine lv_bipush (v := 31) hx hb dL_law_30 (by decide) ?_
      refine lv_iand hx hb dL_law_32 ?_
      have kk : ∀ (u : Mm) (H : Heap) (locs : List Loc), Rel u → St dC dI cy ad s u H locs → W p l e room_1 s m #[Value.ref b] below meth c H locs 100 2346 (lw_Z below #[Value.ref b] s) (F0 m 1088 ls []) := by
        intro u H locs hR S
        obtain ⟨x9, ex9⟩ : ∃ y : Int32, y = nI i + 6 := ⟨_, rfl⟩
        refine lv_iinc (v := x9) (lv' := [(3, .int x9), (0, .ref b), (1, .ref (ad 0)), (2, .ref (ad 86))]) hx hb dL_law_1088 hl (k := 3) rfl (by rw [ex9]; rfl) (by decide) rfl (fun ls hl => ?_)
        rw [show nI i + 6 = nI (i + 6) from nI_add i 6] at ex9
        subst ex9
        refine lv_goto (tgt := 18) hx hb dL_law_1091 (by decide) ?_
        exact ih (i + 6) u H locs ls hi (by omega) hR S (lv_sub hl [1, 2, 3, 0] rfl)
      obtain ⟨j, hj, ej⟩ := pk_andE (xs (nI i).toNatClampNeg) (m := 31) 5 rfl
      rw [ej]
      have hj : j < 32 := hj
      rcases (by omega : j = 0 ∨ j = 1 ∨ j = 2 ∨ j = 3 ∨ j = 4 ∨ j = 5 ∨ j = 6 ∨ j = 7 ∨ j = 8 ∨ j = 9 ∨ j = 10 ∨ j = 11 ∨ j = 12 ∨ j = 13 ∨ j = 14 ∨ j = 15 ∨ j = 16 ∨ j = 17 ∨ j = 18 ∨ j = 19 ∨ j = 20 ∨ j = 21 ∨ j = 22 ∨ j = 23 ∨ j = 24 ∨ j = 25 ∨ j = 26 ∨ j = 27 ∨ j = 28 ∨ j = 29 ∨ j = 30 ∨ j = 31) with rfl | rfl | rfl | rfl | rfl | rfl | rfl | rfl | rfl | rfl | rfl | rfl | rfl | rfl | rfl | rfl | rfl | rfl | rfl | rfl | rfl | rfl | rfl | rfl | rfl | rfl | rfl | rfl | rfl | rfl | rfl | rfl
      · exact lv_tableIn (off := 135) (tgt := 168) hx hb dL_law_33 (by decide) (by decide) rfl (by decide) (law_0 X S hR hl hi kk)
      · exact lv_tableIn (off := 178) (tgt := 211) hx hb dL_law_33 (by decide) (by decide) rfl (by decide) (law_1 X S hR hl hi kk)
      · exact lv_tableIn (off := 221) (tgt := 254) hx hb dL_law_33 (by decide) (by decide) rfl (by decide) (law_2 X S hR hl hi kk)
      · exact lv_tableIn (off := 284) (tgt := 317) hx hb dL_law_33 (by decide) (by decide) rfl (by decide) (law_3 X S hR hl hi kk)
      · exact lv_tableIn (off := 307) (tgt := 340) hx hb dL_law_33 (by decide) (by decide) rfl (by decide) (law_4 X S hR hl hi kk)
      · exact lv_tableIn (off := 330) (tgt := 363) hx hb dL_law_33 (by decide) (by decide) rfl (by decide) (law_5 X S hR hl hi kk)
      · exact lv_tableIn (off := 343) (tgt := 376) hx hb dL_law_33 (by decide) (by decide) rfl (by decide) (law_6 X S hR hl hi kk)
      · exact lv_tableIn (off := 356) (tgt := 389) hx hb dL_law_33 (by decide) (by decide) rfl (by decide) (law_7 X S hR hl hi kk)
      · exact lv_tableIn (off := 379) (tgt := 412) hx hb dL_law_33 (by decide) (by decide) rfl (by decide) (law_8 X S hR hl hi kk)
      · exact lv_tableIn (off := 412) (tgt := 445) hx hb dL_law_33 (by decide) (by decide) rfl (by decide) (law_9 X S hR hl hi kk)
      · exact lv_tableIn (off := 445) (tgt := 478) hx hb dL_law_33 (by decide) (by decide) rfl (by decide) (law_10 X S hR hl hi kk)
      · exact lv_tableIn (off := 458) (tgt := 491) hx hb dL_law_33 (by decide) (by decide) rfl (by decide) (law_11 X S hR hl hi kk)
      · exact lv_tableIn (off := 491) (tgt := 524) hx hb dL_law_33 (by decide) (by decide) rfl (by decide) (law_12 X S hR hl hi kk)
      · exact lv_tableIn (off := 524) (tgt := 557) hx hb dL_law_33 (by decide) (by decide) rfl (by decide) (law_13 X S hR hl hi kk)
      · exact lv_tableIn (off := 547) (tgt := 580) hx hb dL_law_33 (by decide) (by decide) rfl (by decide) (law_14 X S hR hl hi kk)
      · exact lv_tableIn (off := 570) (tgt := 603) hx hb dL_law_33 (by decide) (by decide) rfl (by decide) (law_15 X S hR hl hi kk)
      · exact lv_tableIn (off := 603) (tgt := 636) hx hb dL_law_33 (by decide) (by decide) rfl (by decide) (law_16 X S hR hl hi kk)
      · exact lv_tableIn (off := 636) (tgt := 669) hx hb dL_law_33 (by decide) (by decide) rfl (by decide) (law_17 X S hR hl hi kk)
      · exact lv_tableIn (off := 659) (tgt := 692) hx hb dL_law_33 (by decide) (by decide) rfl (by decide) (law_18 X S hR hl hi kk)
      · exact lv_tableIn (off := 692) (tgt := 725) hx hb dL_law_33 (by decide) (by decide) rfl (by decide) (law_19 X S hR hl hi kk)
      · exact lv_tableIn (off := 755) (tgt := 788) hx hb dL_law_33 (by decide) (by decide) rfl (by decide) (law_20 X S hR hl hi kk)
      · exact lv_tableIn (off := 818) (tgt := 851) hx hb dL_law_33 (by decide) (by decide) rfl (by decide) (law_21 X S hR hl hi kk)
      · exact lv_tableIn (off := 861) (tgt := 894) hx hb dL_law_33 (by decide) (by decide) rfl (by decide) (law_22 X S hR hl hi kk)
      · exact lv_tableIn (off := 884) (tgt := 917) hx hb dL_law_33 (by decide) (by decide) rfl (by decide) (law_23 X S hR hl hi kk)
      · exact lv_tableIn (off := 907) (tgt := 940) hx hb dL_law_33 (by decide) (by decide) rfl (by decide) (law_24 X S hR hl hi kk)
      · exact lv_tableIn (off := 930) (tgt := 963) hx hb dL_law_33 (by decide) (by decide) rfl (by decide) (law_25 X S hR hl hi kk)
      · exact lv_tableIn (off := 963) (tgt := 996) hx hb dL_law_33 (by decide) (by decide) rfl (by decide) (law_26 X S hR hl hi kk)
      · exact lv_tableIn (off := 996) (tgt := 1029) hx hb dL_law_33 (by decide) (by decide) rfl (by decide) (law_27 X S hR hl hi kk)
      · exact lv_tableIn (off := 1019) (tgt := 1052) hx hb dL_law_33 (by decide) (by decide) rfl (by decide) (law_28 X S hR hl hi kk)
      · exact lv_tableIn (off := 1042) (tgt := 1075) hx hb dL_law_33 (by decide) (by decide) rfl (by decide) (law_29 X S hR hl hi kk)
      · exact lv_tableOut (tgt := 1088) hx hb dL_law_33 (by decide) (by decide) (kk g H locs hR S)
      · exact lv_tableOut (tgt := 1088) hx hb dL_law_33 (by decide) (by decide) (kk g H locs hR S)
