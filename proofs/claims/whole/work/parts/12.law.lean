/-! THE CLAIM OUT OF ONE WALK OF THE LAW'S BODY. Your part is whole_start (and what it stands on); all else here is the same for every law, but numbers. -/
def R_law : String := "WolfKnightLaw"
def lw_P (b : Addr) (xs : List Int32) (args : Array Value) (s : State) : Prop := args = #[.ref b] ∧ s.IntsAt b xs ∧ xs.length ≤ 3584 ∧ (Jvm.Cond.and given_1 narrow_1).before args s = true
def lw_Q (_ : Array Value) (s : State) (o : Outcome) (t : State) : Prop := o = .returned (some (.int 1)) ∧ Framed s o t [] 600000 7302250
def lw_Z (below : List Frame) (a : Array Value) (s : State) : State → Prop := fun t => ∃ o, t.status = .running ∧ Ended t below o ∧ lw_Q a s o t
/-- the law's own end, with 1 on the stack, nothing written that was there before, its room as the claim has it -/
theorem lw_ret {p : Program} {l : Launch} {e : Env} {s : State} {m : MethodId} {below : List Frame} {meth : Method} {c : Code} {b : Nat} (hx : p.tables.exec = Jvm.exec) (hb : c.code = code) (hr : meth.sig.returnType = ret) (hlocks : meth.locks = false) {pc : Nat} {H : Heap} {ls : Array Slot} (hdg : decode code pc = .ok (.ireturn, 1)) : W p l e room_1 s m #[Value.ref b] below meth c H [] 600000 7302250 (lw_Z below #[Value.ref b] s) (F0 m pc ls [.int 1]) := by
  intro T hT X
  obtain ⟨fs, hret, hrun, hended, hW, hframe⟩ := X.leave (v := some (.int 1)) (hlocks := hlocks) (fun h => by rw [hr] at h; cases h)
  have hmeth' : T.vm.method? m = some meth := X.method'
  refine ⟨T.setFrames fs, ?_, .returned (some (.int 1)), hrun, hended, rfl, ⟨_, rfl⟩, hW, hframe⟩
  jvm_step X.here [X.here.top, hx, hb, hdg, hmeth', hr, ret, narrow_b1]
  (try refine ⟨rfl, ?_⟩); (try refine ⟨rfl, ?_⟩)
  first | (intro acts; rw [hret _ acts rfl rfl rfl]) | rw [hret _ _ rfl rfl rfl]
  exact Steps.refl _
/-- what holds at the law's entry: the machine, the code, the tables' words (any of lw_tbl by 'hts w (by decide +kernel)'), the script of L ints xs at the cell b, what the Statement gives of the start (any of its parts by flat_of_before) -/
def lw_At (p : Program) (s : State) (m : MethodId) (meth : Method) (c : Code) (b L : Nat) (xs : Nat → Int32) : Prop :=
  p.tables.exec = Jvm.exec ∧ c.code = code ∧ meth.sig.returnType = ret ∧ c.maxLocals = 4 ∧ s.vm.findClass R_law = some m.cls ∧ (∀ w ∈ lw_tbl, w.before #[Value.ref b] s = true) ∧ va_X b L xs s s.heap ∧ b < s.heap.size ∧ meth.locks = false ∧ (Jvm.Cond.and given_1 narrow_1).before #[Value.ref b] s = true

/-! THE LAW, CASE BY CASE -/
abbrev lw_G : Type := va_G × (Nat → Nat) × (Nat → Nat) × (Nat → ClassId) × (Nat → ClassId) × List (ClassId × FieldType)
abbrev lw_wC (G : lw_G) (σ : wk_St) : va_W := wk_w wk_shC 53 G.2.1 G.2.2.2.1 σ
abbrev lw_wM (G : lw_G) (σ : wk_St) : va_W := wk_w wk_shM 32 G.2.2.1 G.2.2.2.2.1 σ
def lw_AC (G : lw_G) : Nat → Prop := fun q => ∃ k, k < 53 ∧ q = G.2.1 k
def lw_AM (G : lw_G) : Nat → Prop := fun q => ∃ k, k < 32 ∧ q = G.2.2.1 k
/-- the two worlds' addresses: apart, new, and what the tables say of them -/
def lw_Ok (G : lw_G) (s : State) : Prop := wk_OK wk_shC 53 G.2.2.2.1 G.2.2.2.2.2 ∧ wk_OK wk_shM 32 G.2.2.2.2.1 G.2.2.2.2.2 ∧ (∀ σ, va_D (lw_AC G) (lw_wC G σ)) ∧ (∀ σ, va_D (lw_AM G) (lw_wM G σ)) ∧ va_K G.1 wk_cls G.2.2.2.2.2 s ∧
  (∀ q, lw_AC G q → s.heap.size ≤ q) ∧ (∀ q, lw_AM G q → s.heap.size ≤ q) ∧ (∀ q, lw_AC G q → lw_AM G q → False) ∧ (wk_ST (fun q : Nat => s.heap.size ≤ q) (G.2.1 999) s s.heap ∧ wk_ST (fun q : Nat => s.heap.size ≤ q) (G.2.2.1 999) s s.heap) ∧ wk_NW s
theorem lw_call {p : Program} {l : Launch} {e : Env} {s : State} {m : MethodId} {below : List Frame} {meth : Method} {c : Code} {b L : Nat} {xs : Nat → Int32} (C0 : lw_At p s m meth c b L xs)
    {D : va_G} {tys : List (ClassId × FieldType)} {sh : Nat → Option wk_De} {N : Nat} {ad : Nat → Nat} {cA : Nat → ClassId} {AX : Nat → Prop} {Q : State → Prop} (hO : wk_OK sh N cA tys) (hK : va_K D wk_cls tys s) (hNW : wk_NW s) (hST : wk_ST (fun q : Nat => s.heap.size ≤ q) (ad 999) s s.heap) (hAX : ∀ q, AX q → s.heap.size ≤ q)
    {f : Nat} {as rest : List Value} {σ σ' : wk_St} {r : Int32} (hf : f < 261) (has : (Value.ref 0 :: as).all wk_iv = true) (hlen : ((Value.ref 0 :: as).flatMap wk_two).length ≤ wk_mx f) (hT : wk_T sh 200 f (.ref 0 :: as) σ (some (.int r), σ')) {H : Heap} {locs : List Loc}
    (hP : va_P D wk_cls (wk_w sh N ad cA σ) H) (hD : va_D AX (wk_w sh N ad cA σ)) (hS : va_S (fun q : Nat => s.heap.size ≤ q) s.heap H locs) {idx : Nat} (hlk : Cond.methodLink R_law idx (wk_my f) ∈ wk_gt) (hsel : Cond.selects (wk_my f).cls (wk_my f) (wk_my f) ∈ wk_gt) {ci : Nat} {fl : List Nat}
    (h0 : sh 0 = some (.inr (ci, fl))) (hcls : (wk_cls[ci]?).map (fun q => q.1) = some (wk_my f).cls) (hmr : wk_mr f ≠ 12) (hn : as.length = wk_mn f) {pc : Nat} {ls : Array Slot} (hsz : ls.size = 4) (h8 : rest.length ≤ 4) {st : List Value} (hst : st = (as.map (wk_tr ad)).reverse ++ .ref (ad 0) :: rest) (hdg : decode code pc = .ok (.invokevirtual idx, 3))
    (kk : ∀ (H1 : Heap) (locs1 : List Loc), va_P D wk_cls (wk_w sh N ad cA σ') H1 → (∀ q : Nat, q < H.size → ¬ AX q → H1[q]? = H[q]?) → va_S (fun q : Nat => s.heap.size ≤ q) s.heap H1 locs1 → W p l e room_1 s m #[Value.ref b] below meth c H1 locs1 600000 7302250 Q (F0 m (pc + 3) ls (.int r :: rest))) :
    W p l e room_1 s m #[Value.ref b] below meth c H locs 600000 7302250 Q (F0 m pc ls st) := by
  obtain ⟨hx, hb, hr, hml, hown, hts0, hX, hbl, hlocks, hgv⟩ := id C0
  have hts : ∀ w ∈ wk_gt, w.before #[Value.ref b] s = true := fun w hw => hts0 w (List.mem_filter.mp hw).1
  subst hst
  obtain ⟨m1, m2, m3, m4, m5, m6, m7, m8⟩ := wk_meth hf
  have hM := wk_met (l := l) (D := D) (tys := tys) (N := N) (ad := ad) (cA := cA) (A := AX) hO hf has hlen hT
  obtain ⟨hN, C, T, n, hcl, hlen2, -⟩ := hO.2.2.2.2.2 0 ci fl h0
  have hw : (wk_w sh N ad cA σ)[0]? = some (ad 0, .inr (ci, wk_fs ad σ 0 fl)) := by
    rw [wk_w_get hN]; unfold wk_ce; rw [h0]
  have hC : C = (wk_my f).cls := by rw [hcl] at hcls; exact Option.some.inj hcls
  have hrecv := va_recv hK hP hcl hw
  have hG : GoodIn wk_gt (wsV R_law idx (wk_my f).cls (wk_my f) (wk_ws f)) := by
    refine wk_gapp hf (fun w hw => ?_)
    simp only [List.mem_cons, List.not_mem_nil, or_false] at hw
    rcases hw with rfl | rfl | rfl | rfl
    · exact hlk
    · exact m3 hmr
    · exact hsel
    · exact m1
  have hq : ∀ a : Nat, a < s.heap.size → ¬ s.heap.size ≤ a → H[a]? = s.heap[a]? := fun a h1 h2 => hS.2.1 a h1 h2
  have hPV : PreV s H (wk_my f).cls (ad 0) (wk_Pc D tys sh N ad cA AX (.ref 0 :: as) σ) (as.map (wk_tr ad)) := by
    refine ⟨wk_blind, by rw [← hC]; exact hrecv, fun U hU hW => ⟨rfl, by rw [hU]; exact hP, va_K.moved hW.alike hK, hD, hNW.warm hW, ?_, ?_⟩⟩
    · rw [hU]; exact va_Z.moved hW.alike ((hST.1.kept hq).narrow hAX)
    · rw [hU]; exact va_T.moved hW.alike ((hST.2.kept hq).narrow hAX)
  have hrun := va_runV (n := wk_mn f) (locs := locs) (cells := 600000) (slots := 7302250) (g := F0 m pc ls ((as.map (wk_tr ad)).reverse ++ .ref (ad 0) :: rest)) (below := below) (meth := meth) (e := e) (R := room_1) ⟨hx, hb, hml, hown, hts⟩ hM (cwV _ hts hG rfl rfl rfl ⟨rfl, m5.1, m5.2, m6⟩ ⟨by decide, by show 8 + (wk_mx f + 11) + 40 * 201 ≤ 84000; omega⟩) hPV rfl (by rw [List.length_map, hn]) hsz rfl (lv_room (wk_sum8 4 _ h8)) hdg ⟨Nat.le_refl _, Nat.le_refl _⟩
  intro T' hT' X
  obtain ⟨v, st₀, t, T2, L2, g0, X', hL, e1, e2, ⟨hv, hp, hz, hk⟩, stp⟩ := hrun T' hT' X
  obtain rfl := Outcome.returned.inj hv
  rw [g0] at hz hk
  obtain ⟨t2, a1, b1⟩ := kk T2.heap (locs ++ L2) (by rw [e1]; exact hp) (fun q h1 h2 => by rw [e1]; exact hk q h1 h2)
    ⟨Nat.le_trans hS.1 (by rw [e1]; exact hz), fun q h1 h2 => by rw [e1, hk q (Nat.lt_of_lt_of_le h1 hS.1) (fun z => h2 (hAX q z))]; exact hS.2.1 q h1 h2, fun q hq => by
      rcases List.mem_append.mp hq with h | h
      · exact hS.2.2 q h
      · exact hAX _ (hL q h)⟩ T2 rfl X'
  exact ⟨t2, stp t2 a1, b1⟩
theorem d_law_0 : decode code 0 = .ok (.new 7, 3) := by decide +kernel
theorem d_law_3 : decode code 3 = .ok (.dup, 1) := by decide +kernel
theorem d_law_4 : decode code 4 = .ok (.invokespecial 9, 3) := by decide +kernel
theorem d_law_7 : decode code 7 = .ok (.astore_n 1, 1) := by decide +kernel
theorem d_law_8 : decode code 8 = .ok (.new 10, 3) := by decide +kernel
theorem d_law_11 : decode code 11 = .ok (.dup, 1) := by decide +kernel
theorem d_law_12 : decode code 12 = .ok (.invokespecial 12, 3) := by decide +kernel
theorem d_law_15 : decode code 15 = .ok (.astore_n 2, 1) := by decide +kernel
theorem d_law_16 : decode code 16 = .ok (.iconst 0, 1) := by decide +kernel
theorem d_law_17 : decode code 17 = .ok (.istore_n 3, 1) := by decide +kernel
theorem d_law_18 : decode code 18 = .ok (.iload_n 3, 1) := by decide +kernel
theorem d_law_19 : decode code 19 = .ok (.aload_n 0, 1) := by decide +kernel
theorem d_law_20 : decode code 20 = .ok (.arraylength, 1) := by decide +kernel
theorem d_law_21 : decode code 21 = .ok (.bipush 7, 2) := by decide +kernel
theorem d_law_23 : decode code 23 = .ok (.isub, 1) := by decide +kernel
theorem d_law_24 : decode code 24 = .ok (.if_icmp .gt 1323, 3) := by decide +kernel
theorem d_law_27 : decode code 27 = .ok (.aload_n 0, 1) := by decide +kernel
theorem d_law_28 : decode code 28 = .ok (.iload_n 3, 1) := by decide +kernel
theorem d_law_29 : decode code 29 = .ok (.iaload, 1) := by decide +kernel
theorem d_law_30 : decode code 30 = .ok (.bipush 63, 2) := by decide +kernel
theorem d_law_32 : decode code 32 = .ok (.iand, 1) := by decide +kernel
theorem d_law_33 : decode code 33 = .ok (.tableswitch 1308 0 34 #[155, 178, 237, 280, 303, 366, 389, 422, 445, 468, 501, 534, 567, 600, 633, 666, 699, 732, 765, 798, 811, 844, 887, 920, 953, 986, 1029, 1104, 1157, 1180, 1213, 1236, 1249, 1262, 1285], 155) := by decide +kernel
theorem d_law_188 : decode code 188 = .ok (.aload_n 1, 1) := by decide +kernel
theorem d_law_189 : decode code 189 = .ok (.aload_n 0, 1) := by decide +kernel
theorem d_law_190 : decode code 190 = .ok (.iload_n 3, 1) := by decide +kernel
theorem d_law_191 : decode code 191 = .ok (.iconst 1, 1) := by decide +kernel
theorem d_law_192 : decode code 192 = .ok (.iadd, 1) := by decide +kernel
theorem d_law_193 : decode code 193 = .ok (.iaload, 1) := by decide +kernel
theorem d_law_194 : decode code 194 = .ok (.invokevirtual 13, 3) := by decide +kernel
theorem d_law_197 : decode code 197 = .ok (.aload_n 2, 1) := by decide +kernel
theorem d_law_198 : decode code 198 = .ok (.aload_n 0, 1) := by decide +kernel
theorem d_law_199 : decode code 199 = .ok (.iload_n 3, 1) := by decide +kernel
theorem d_law_200 : decode code 200 = .ok (.iconst 1, 1) := by decide +kernel
theorem d_law_201 : decode code 201 = .ok (.iadd, 1) := by decide +kernel
theorem d_law_202 : decode code 202 = .ok (.iaload, 1) := by decide +kernel
theorem d_law_203 : decode code 203 = .ok (.invokevirtual 17, 3) := by decide +kernel
theorem d_law_206 : decode code 206 = .ok (.if_icmp .eq 1135, 3) := by decide +kernel
theorem d_law_209 : decode code 209 = .ok (.iconst 0, 1) := by decide +kernel
theorem d_law_210 : decode code 210 = .ok (.ireturn, 1) := by decide +kernel
theorem d_law_211 : decode code 211 = .ok (.aload_n 1, 1) := by decide +kernel
theorem d_law_212 : decode code 212 = .ok (.aload_n 0, 1) := by decide +kernel
theorem d_law_213 : decode code 213 = .ok (.iload_n 3, 1) := by decide +kernel
theorem d_law_214 : decode code 214 = .ok (.iconst 1, 1) := by decide +kernel
theorem d_law_215 : decode code 215 = .ok (.iadd, 1) := by decide +kernel
theorem d_law_216 : decode code 216 = .ok (.iaload, 1) := by decide +kernel
theorem d_law_217 : decode code 217 = .ok (.aload_n 0, 1) := by decide +kernel
theorem d_law_218 : decode code 218 = .ok (.iload_n 3, 1) := by decide +kernel
theorem d_law_219 : decode code 219 = .ok (.iconst 2, 1) := by decide +kernel
theorem d_law_220 : decode code 220 = .ok (.iadd, 1) := by decide +kernel
theorem d_law_221 : decode code 221 = .ok (.iaload, 1) := by decide +kernel
theorem d_law_222 : decode code 222 = .ok (.aload_n 0, 1) := by decide +kernel
theorem d_law_223 : decode code 223 = .ok (.iload_n 3, 1) := by decide +kernel
theorem d_law_224 : decode code 224 = .ok (.iconst 3, 1) := by decide +kernel
theorem d_law_225 : decode code 225 = .ok (.iadd, 1) := by decide +kernel
theorem d_law_226 : decode code 226 = .ok (.iaload, 1) := by decide +kernel
theorem d_law_227 : decode code 227 = .ok (.ifCond .eq 7, 3) := by decide +kernel
theorem d_law_230 : decode code 230 = .ok (.iconst 1, 1) := by decide +kernel
theorem d_law_231 : decode code 231 = .ok (.goto 4, 3) := by decide +kernel
theorem d_law_234 : decode code 234 = .ok (.iconst 0, 1) := by decide +kernel
theorem d_law_235 : decode code 235 = .ok (.invokevirtual 18, 3) := by decide +kernel
theorem d_law_238 : decode code 238 = .ok (.aload_n 2, 1) := by decide +kernel
theorem d_law_239 : decode code 239 = .ok (.aload_n 0, 1) := by decide +kernel
theorem d_law_240 : decode code 240 = .ok (.iload_n 3, 1) := by decide +kernel
theorem d_law_241 : decode code 241 = .ok (.iconst 1, 1) := by decide +kernel
theorem d_law_242 : decode code 242 = .ok (.iadd, 1) := by decide +kernel
theorem d_law_243 : decode code 243 = .ok (.iaload, 1) := by decide +kernel
theorem d_law_244 : decode code 244 = .ok (.aload_n 0, 1) := by decide +kernel
theorem d_law_245 : decode code 245 = .ok (.iload_n 3, 1) := by decide +kernel
theorem d_law_246 : decode code 246 = .ok (.iconst 2, 1) := by decide +kernel
theorem d_law_247 : decode code 247 = .ok (.iadd, 1) := by decide +kernel
theorem d_law_248 : decode code 248 = .ok (.iaload, 1) := by decide +kernel
theorem d_law_249 : decode code 249 = .ok (.aload_n 0, 1) := by decide +kernel
theorem d_law_250 : decode code 250 = .ok (.iload_n 3, 1) := by decide +kernel
theorem d_law_251 : decode code 251 = .ok (.iconst 3, 1) := by decide +kernel
theorem d_law_252 : decode code 252 = .ok (.iadd, 1) := by decide +kernel
theorem d_law_253 : decode code 253 = .ok (.iaload, 1) := by decide +kernel
theorem d_law_254 : decode code 254 = .ok (.ifCond .eq 7, 3) := by decide +kernel
theorem d_law_257 : decode code 257 = .ok (.iconst 1, 1) := by decide +kernel
theorem d_law_258 : decode code 258 = .ok (.goto 4, 3) := by decide +kernel
theorem d_law_261 : decode code 261 = .ok (.iconst 0, 1) := by decide +kernel
theorem d_law_262 : decode code 262 = .ok (.invokevirtual 22, 3) := by decide +kernel
theorem d_law_265 : decode code 265 = .ok (.if_icmp .eq 1076, 3) := by decide +kernel
theorem d_law_268 : decode code 268 = .ok (.iconst 0, 1) := by decide +kernel
theorem d_law_269 : decode code 269 = .ok (.ireturn, 1) := by decide +kernel
theorem d_law_270 : decode code 270 = .ok (.aload_n 1, 1) := by decide +kernel
theorem d_law_271 : decode code 271 = .ok (.aload_n 0, 1) := by decide +kernel
theorem d_law_272 : decode code 272 = .ok (.iload_n 3, 1) := by decide +kernel
theorem d_law_273 : decode code 273 = .ok (.iconst 1, 1) := by decide +kernel
theorem d_law_274 : decode code 274 = .ok (.iadd, 1) := by decide +kernel
theorem d_law_275 : decode code 275 = .ok (.iaload, 1) := by decide +kernel
theorem d_law_276 : decode code 276 = .ok (.aload_n 0, 1) := by decide +kernel
theorem d_law_277 : decode code 277 = .ok (.iload_n 3, 1) := by decide +kernel
theorem d_law_278 : decode code 278 = .ok (.iconst 2, 1) := by decide +kernel
theorem d_law_279 : decode code 279 = .ok (.iadd, 1) := by decide +kernel
theorem d_law_280 : decode code 280 = .ok (.iaload, 1) := by decide +kernel
theorem d_law_281 : decode code 281 = .ok (.aload_n 0, 1) := by decide +kernel
theorem d_law_282 : decode code 282 = .ok (.iload_n 3, 1) := by decide +kernel
theorem d_law_283 : decode code 283 = .ok (.iconst 3, 1) := by decide +kernel
theorem d_law_284 : decode code 284 = .ok (.iadd, 1) := by decide +kernel
theorem d_law_285 : decode code 285 = .ok (.iaload, 1) := by decide +kernel
theorem d_law_286 : decode code 286 = .ok (.invokevirtual 23, 3) := by decide +kernel
theorem d_law_289 : decode code 289 = .ok (.aload_n 2, 1) := by decide +kernel
theorem d_law_290 : decode code 290 = .ok (.aload_n 0, 1) := by decide +kernel
theorem d_law_291 : decode code 291 = .ok (.iload_n 3, 1) := by decide +kernel
theorem d_law_292 : decode code 292 = .ok (.iconst 1, 1) := by decide +kernel
theorem d_law_293 : decode code 293 = .ok (.iadd, 1) := by decide +kernel
theorem d_law_294 : decode code 294 = .ok (.iaload, 1) := by decide +kernel
theorem d_law_295 : decode code 295 = .ok (.aload_n 0, 1) := by decide +kernel
theorem d_law_296 : decode code 296 = .ok (.iload_n 3, 1) := by decide +kernel
theorem d_law_297 : decode code 297 = .ok (.iconst 2, 1) := by decide +kernel
theorem d_law_298 : decode code 298 = .ok (.iadd, 1) := by decide +kernel
theorem d_law_299 : decode code 299 = .ok (.iaload, 1) := by decide +kernel
theorem d_law_300 : decode code 300 = .ok (.aload_n 0, 1) := by decide +kernel
theorem d_law_301 : decode code 301 = .ok (.iload_n 3, 1) := by decide +kernel
theorem d_law_302 : decode code 302 = .ok (.iconst 3, 1) := by decide +kernel
theorem d_law_303 : decode code 303 = .ok (.iadd, 1) := by decide +kernel
theorem d_law_304 : decode code 304 = .ok (.iaload, 1) := by decide +kernel
theorem d_law_305 : decode code 305 = .ok (.invokevirtual 27, 3) := by decide +kernel
theorem d_law_308 : decode code 308 = .ok (.if_icmp .eq 1033, 3) := by decide +kernel
theorem d_law_311 : decode code 311 = .ok (.iconst 0, 1) := by decide +kernel
theorem d_law_312 : decode code 312 = .ok (.ireturn, 1) := by decide +kernel
theorem d_law_313 : decode code 313 = .ok (.aload_n 1, 1) := by decide +kernel
theorem d_law_314 : decode code 314 = .ok (.aload_n 0, 1) := by decide +kernel
theorem d_law_315 : decode code 315 = .ok (.iload_n 3, 1) := by decide +kernel
theorem d_law_316 : decode code 316 = .ok (.iconst 1, 1) := by decide +kernel
theorem d_law_317 : decode code 317 = .ok (.iadd, 1) := by decide +kernel
theorem d_law_318 : decode code 318 = .ok (.iaload, 1) := by decide +kernel
theorem d_law_319 : decode code 319 = .ok (.invokevirtual 28, 3) := by decide +kernel
theorem d_law_322 : decode code 322 = .ok (.aload_n 2, 1) := by decide +kernel
theorem d_law_323 : decode code 323 = .ok (.aload_n 0, 1) := by decide +kernel
theorem d_law_324 : decode code 324 = .ok (.iload_n 3, 1) := by decide +kernel
theorem d_law_325 : decode code 325 = .ok (.iconst 1, 1) := by decide +kernel
theorem d_law_326 : decode code 326 = .ok (.iadd, 1) := by decide +kernel
theorem d_law_327 : decode code 327 = .ok (.iaload, 1) := by decide +kernel
theorem d_law_328 : decode code 328 = .ok (.invokevirtual 31, 3) := by decide +kernel
theorem d_law_331 : decode code 331 = .ok (.if_icmp .eq 1010, 3) := by decide +kernel
theorem d_law_334 : decode code 334 = .ok (.iconst 0, 1) := by decide +kernel
theorem d_law_335 : decode code 335 = .ok (.ireturn, 1) := by decide +kernel
theorem d_law_336 : decode code 336 = .ok (.aload_n 1, 1) := by decide +kernel
theorem d_law_337 : decode code 337 = .ok (.aload_n 0, 1) := by decide +kernel
theorem d_law_338 : decode code 338 = .ok (.iload_n 3, 1) := by decide +kernel
theorem d_law_339 : decode code 339 = .ok (.iconst 1, 1) := by decide +kernel
theorem d_law_340 : decode code 340 = .ok (.iadd, 1) := by decide +kernel
theorem d_law_341 : decode code 341 = .ok (.iaload, 1) := by decide +kernel
theorem d_law_342 : decode code 342 = .ok (.aload_n 0, 1) := by decide +kernel
theorem d_law_343 : decode code 343 = .ok (.iload_n 3, 1) := by decide +kernel
theorem d_law_344 : decode code 344 = .ok (.iconst 2, 1) := by decide +kernel
theorem d_law_345 : decode code 345 = .ok (.iadd, 1) := by decide +kernel
theorem d_law_346 : decode code 346 = .ok (.iaload, 1) := by decide +kernel
theorem d_law_347 : decode code 347 = .ok (.aload_n 0, 1) := by decide +kernel
theorem d_law_348 : decode code 348 = .ok (.iload_n 3, 1) := by decide +kernel
theorem d_law_349 : decode code 349 = .ok (.iconst 3, 1) := by decide +kernel
theorem d_law_350 : decode code 350 = .ok (.iadd, 1) := by decide +kernel
theorem d_law_351 : decode code 351 = .ok (.iaload, 1) := by decide +kernel
theorem d_law_352 : decode code 352 = .ok (.aload_n 0, 1) := by decide +kernel
theorem d_law_353 : decode code 353 = .ok (.iload_n 3, 1) := by decide +kernel
theorem d_law_354 : decode code 354 = .ok (.iconst 4, 1) := by decide +kernel
theorem d_law_355 : decode code 355 = .ok (.iadd, 1) := by decide +kernel
theorem d_law_356 : decode code 356 = .ok (.iaload, 1) := by decide +kernel
theorem d_law_357 : decode code 357 = .ok (.aload_n 0, 1) := by decide +kernel
theorem d_law_358 : decode code 358 = .ok (.iload_n 3, 1) := by decide +kernel
theorem d_law_359 : decode code 359 = .ok (.iconst 5, 1) := by decide +kernel
theorem d_law_360 : decode code 360 = .ok (.iadd, 1) := by decide +kernel
theorem d_law_361 : decode code 361 = .ok (.iaload, 1) := by decide +kernel
theorem d_law_362 : decode code 362 = .ok (.invokevirtual 32, 3) := by decide +kernel
theorem d_law_365 : decode code 365 = .ok (.aload_n 2, 1) := by decide +kernel
theorem d_law_366 : decode code 366 = .ok (.aload_n 0, 1) := by decide +kernel
theorem d_law_367 : decode code 367 = .ok (.iload_n 3, 1) := by decide +kernel
theorem d_law_368 : decode code 368 = .ok (.iconst 1, 1) := by decide +kernel
theorem d_law_369 : decode code 369 = .ok (.iadd, 1) := by decide +kernel
theorem d_law_370 : decode code 370 = .ok (.iaload, 1) := by decide +kernel
theorem d_law_371 : decode code 371 = .ok (.aload_n 0, 1) := by decide +kernel
theorem d_law_372 : decode code 372 = .ok (.iload_n 3, 1) := by decide +kernel
theorem d_law_373 : decode code 373 = .ok (.iconst 2, 1) := by decide +kernel
theorem d_law_374 : decode code 374 = .ok (.iadd, 1) := by decide +kernel
theorem d_law_375 : decode code 375 = .ok (.iaload, 1) := by decide +kernel
theorem d_law_376 : decode code 376 = .ok (.aload_n 0, 1) := by decide +kernel
theorem d_law_377 : decode code 377 = .ok (.iload_n 3, 1) := by decide +kernel
theorem d_law_378 : decode code 378 = .ok (.iconst 3, 1) := by decide +kernel
theorem d_law_379 : decode code 379 = .ok (.iadd, 1) := by decide +kernel
theorem d_law_380 : decode code 380 = .ok (.iaload, 1) := by decide +kernel
theorem d_law_381 : decode code 381 = .ok (.aload_n 0, 1) := by decide +kernel
theorem d_law_382 : decode code 382 = .ok (.iload_n 3, 1) := by decide +kernel
theorem d_law_383 : decode code 383 = .ok (.iconst 4, 1) := by decide +kernel
theorem d_law_384 : decode code 384 = .ok (.iadd, 1) := by decide +kernel
theorem d_law_385 : decode code 385 = .ok (.iaload, 1) := by decide +kernel
theorem d_law_386 : decode code 386 = .ok (.aload_n 0, 1) := by decide +kernel
theorem d_law_387 : decode code 387 = .ok (.iload_n 3, 1) := by decide +kernel
theorem d_law_388 : decode code 388 = .ok (.iconst 5, 1) := by decide +kernel
theorem d_law_389 : decode code 389 = .ok (.iadd, 1) := by decide +kernel
theorem d_law_390 : decode code 390 = .ok (.iaload, 1) := by decide +kernel
theorem d_law_391 : decode code 391 = .ok (.invokevirtual 36, 3) := by decide +kernel
theorem d_law_394 : decode code 394 = .ok (.if_icmp .eq 947, 3) := by decide +kernel
theorem d_law_397 : decode code 397 = .ok (.iconst 0, 1) := by decide +kernel
theorem d_law_398 : decode code 398 = .ok (.ireturn, 1) := by decide +kernel
theorem d_law_399 : decode code 399 = .ok (.aload_n 1, 1) := by decide +kernel
theorem d_law_400 : decode code 400 = .ok (.aload_n 0, 1) := by decide +kernel
theorem d_law_401 : decode code 401 = .ok (.iload_n 3, 1) := by decide +kernel
theorem d_law_402 : decode code 402 = .ok (.iconst 1, 1) := by decide +kernel
theorem d_law_403 : decode code 403 = .ok (.iadd, 1) := by decide +kernel
theorem d_law_404 : decode code 404 = .ok (.iaload, 1) := by decide +kernel
theorem d_law_405 : decode code 405 = .ok (.invokevirtual 37, 3) := by decide +kernel
theorem d_law_408 : decode code 408 = .ok (.aload_n 2, 1) := by decide +kernel
theorem d_law_409 : decode code 409 = .ok (.aload_n 0, 1) := by decide +kernel
theorem d_law_410 : decode code 410 = .ok (.iload_n 3, 1) := by decide +kernel
theorem d_law_411 : decode code 411 = .ok (.iconst 1, 1) := by decide +kernel
theorem d_law_412 : decode code 412 = .ok (.iadd, 1) := by decide +kernel
theorem d_law_413 : decode code 413 = .ok (.iaload, 1) := by decide +kernel
theorem d_law_414 : decode code 414 = .ok (.invokevirtual 41, 3) := by decide +kernel
theorem d_law_417 : decode code 417 = .ok (.if_icmp .eq 924, 3) := by decide +kernel
theorem d_law_420 : decode code 420 = .ok (.iconst 0, 1) := by decide +kernel
theorem d_law_421 : decode code 421 = .ok (.ireturn, 1) := by decide +kernel
theorem d_law_422 : decode code 422 = .ok (.aload_n 1, 1) := by decide +kernel
theorem d_law_423 : decode code 423 = .ok (.aload_n 0, 1) := by decide +kernel
theorem d_law_424 : decode code 424 = .ok (.iload_n 3, 1) := by decide +kernel
theorem d_law_425 : decode code 425 = .ok (.iconst 1, 1) := by decide +kernel
theorem d_law_426 : decode code 426 = .ok (.iadd, 1) := by decide +kernel
theorem d_law_427 : decode code 427 = .ok (.iaload, 1) := by decide +kernel
theorem d_law_428 : decode code 428 = .ok (.aload_n 0, 1) := by decide +kernel
theorem d_law_429 : decode code 429 = .ok (.iload_n 3, 1) := by decide +kernel
theorem d_law_430 : decode code 430 = .ok (.iconst 2, 1) := by decide +kernel
theorem d_law_431 : decode code 431 = .ok (.iadd, 1) := by decide +kernel
theorem d_law_432 : decode code 432 = .ok (.iaload, 1) := by decide +kernel
theorem d_law_433 : decode code 433 = .ok (.invokevirtual 42, 3) := by decide +kernel
theorem d_law_436 : decode code 436 = .ok (.aload_n 2, 1) := by decide +kernel
theorem d_law_437 : decode code 437 = .ok (.aload_n 0, 1) := by decide +kernel
theorem d_law_438 : decode code 438 = .ok (.iload_n 3, 1) := by decide +kernel
theorem d_law_439 : decode code 439 = .ok (.iconst 1, 1) := by decide +kernel
theorem d_law_440 : decode code 440 = .ok (.iadd, 1) := by decide +kernel
theorem d_law_441 : decode code 441 = .ok (.iaload, 1) := by decide +kernel
theorem d_law_442 : decode code 442 = .ok (.aload_n 0, 1) := by decide +kernel
theorem d_law_443 : decode code 443 = .ok (.iload_n 3, 1) := by decide +kernel
theorem d_law_444 : decode code 444 = .ok (.iconst 2, 1) := by decide +kernel
theorem d_law_445 : decode code 445 = .ok (.iadd, 1) := by decide +kernel
theorem d_law_446 : decode code 446 = .ok (.iaload, 1) := by decide +kernel
theorem d_law_447 : decode code 447 = .ok (.invokevirtual 46, 3) := by decide +kernel
theorem d_law_450 : decode code 450 = .ok (.if_icmp .eq 891, 3) := by decide +kernel
theorem d_law_453 : decode code 453 = .ok (.iconst 0, 1) := by decide +kernel
theorem d_law_454 : decode code 454 = .ok (.ireturn, 1) := by decide +kernel
theorem d_law_455 : decode code 455 = .ok (.aload_n 1, 1) := by decide +kernel
theorem d_law_456 : decode code 456 = .ok (.aload_n 0, 1) := by decide +kernel
theorem d_law_457 : decode code 457 = .ok (.iload_n 3, 1) := by decide +kernel
theorem d_law_458 : decode code 458 = .ok (.iconst 1, 1) := by decide +kernel
theorem d_law_459 : decode code 459 = .ok (.iadd, 1) := by decide +kernel
theorem d_law_460 : decode code 460 = .ok (.iaload, 1) := by decide +kernel
theorem d_law_461 : decode code 461 = .ok (.invokevirtual 47, 3) := by decide +kernel
theorem d_law_464 : decode code 464 = .ok (.aload_n 2, 1) := by decide +kernel
theorem d_law_465 : decode code 465 = .ok (.aload_n 0, 1) := by decide +kernel
theorem d_law_466 : decode code 466 = .ok (.iload_n 3, 1) := by decide +kernel
theorem d_law_467 : decode code 467 = .ok (.iconst 1, 1) := by decide +kernel
theorem d_law_468 : decode code 468 = .ok (.iadd, 1) := by decide +kernel
theorem d_law_469 : decode code 469 = .ok (.iaload, 1) := by decide +kernel
theorem d_law_470 : decode code 470 = .ok (.invokevirtual 50, 3) := by decide +kernel
theorem d_law_473 : decode code 473 = .ok (.if_icmp .eq 868, 3) := by decide +kernel
theorem d_law_476 : decode code 476 = .ok (.iconst 0, 1) := by decide +kernel
theorem d_law_477 : decode code 477 = .ok (.ireturn, 1) := by decide +kernel
theorem d_law_478 : decode code 478 = .ok (.aload_n 1, 1) := by decide +kernel
theorem d_law_479 : decode code 479 = .ok (.aload_n 0, 1) := by decide +kernel
theorem d_law_480 : decode code 480 = .ok (.iload_n 3, 1) := by decide +kernel
theorem d_law_481 : decode code 481 = .ok (.iconst 1, 1) := by decide +kernel
theorem d_law_482 : decode code 482 = .ok (.iadd, 1) := by decide +kernel
theorem d_law_483 : decode code 483 = .ok (.iaload, 1) := by decide +kernel
theorem d_law_484 : decode code 484 = .ok (.invokevirtual 51, 3) := by decide +kernel
theorem d_law_487 : decode code 487 = .ok (.aload_n 2, 1) := by decide +kernel
theorem d_law_488 : decode code 488 = .ok (.aload_n 0, 1) := by decide +kernel
theorem d_law_489 : decode code 489 = .ok (.iload_n 3, 1) := by decide +kernel
theorem d_law_490 : decode code 490 = .ok (.iconst 1, 1) := by decide +kernel
theorem d_law_491 : decode code 491 = .ok (.iadd, 1) := by decide +kernel
theorem d_law_492 : decode code 492 = .ok (.iaload, 1) := by decide +kernel
theorem d_law_493 : decode code 493 = .ok (.invokevirtual 54, 3) := by decide +kernel
theorem d_law_496 : decode code 496 = .ok (.if_icmp .eq 845, 3) := by decide +kernel
theorem d_law_499 : decode code 499 = .ok (.iconst 0, 1) := by decide +kernel
theorem d_law_500 : decode code 500 = .ok (.ireturn, 1) := by decide +kernel
theorem d_law_501 : decode code 501 = .ok (.aload_n 1, 1) := by decide +kernel
theorem d_law_502 : decode code 502 = .ok (.aload_n 0, 1) := by decide +kernel
theorem d_law_503 : decode code 503 = .ok (.iload_n 3, 1) := by decide +kernel
theorem d_law_504 : decode code 504 = .ok (.iconst 1, 1) := by decide +kernel
theorem d_law_505 : decode code 505 = .ok (.iadd, 1) := by decide +kernel
theorem d_law_506 : decode code 506 = .ok (.iaload, 1) := by decide +kernel
theorem d_law_507 : decode code 507 = .ok (.aload_n 0, 1) := by decide +kernel
theorem d_law_508 : decode code 508 = .ok (.iload_n 3, 1) := by decide +kernel
theorem d_law_509 : decode code 509 = .ok (.iconst 2, 1) := by decide +kernel
theorem d_law_510 : decode code 510 = .ok (.iadd, 1) := by decide +kernel
theorem d_law_511 : decode code 511 = .ok (.iaload, 1) := by decide +kernel
theorem d_law_512 : decode code 512 = .ok (.invokevirtual 55, 3) := by decide +kernel
theorem d_law_515 : decode code 515 = .ok (.aload_n 2, 1) := by decide +kernel
theorem d_law_516 : decode code 516 = .ok (.aload_n 0, 1) := by decide +kernel
theorem d_law_517 : decode code 517 = .ok (.iload_n 3, 1) := by decide +kernel
theorem d_law_518 : decode code 518 = .ok (.iconst 1, 1) := by decide +kernel
theorem d_law_519 : decode code 519 = .ok (.iadd, 1) := by decide +kernel
theorem d_law_520 : decode code 520 = .ok (.iaload, 1) := by decide +kernel
theorem d_law_521 : decode code 521 = .ok (.aload_n 0, 1) := by decide +kernel
theorem d_law_522 : decode code 522 = .ok (.iload_n 3, 1) := by decide +kernel
theorem d_law_523 : decode code 523 = .ok (.iconst 2, 1) := by decide +kernel
theorem d_law_524 : decode code 524 = .ok (.iadd, 1) := by decide +kernel
theorem d_law_525 : decode code 525 = .ok (.iaload, 1) := by decide +kernel
theorem d_law_526 : decode code 526 = .ok (.invokevirtual 58, 3) := by decide +kernel
theorem d_law_529 : decode code 529 = .ok (.if_icmp .eq 812, 3) := by decide +kernel
theorem d_law_532 : decode code 532 = .ok (.iconst 0, 1) := by decide +kernel
theorem d_law_533 : decode code 533 = .ok (.ireturn, 1) := by decide +kernel
theorem d_law_534 : decode code 534 = .ok (.aload_n 1, 1) := by decide +kernel
theorem d_law_535 : decode code 535 = .ok (.aload_n 0, 1) := by decide +kernel
theorem d_law_536 : decode code 536 = .ok (.iload_n 3, 1) := by decide +kernel
theorem d_law_537 : decode code 537 = .ok (.iconst 1, 1) := by decide +kernel
theorem d_law_538 : decode code 538 = .ok (.iadd, 1) := by decide +kernel
theorem d_law_539 : decode code 539 = .ok (.iaload, 1) := by decide +kernel
theorem d_law_540 : decode code 540 = .ok (.aload_n 0, 1) := by decide +kernel
theorem d_law_541 : decode code 541 = .ok (.iload_n 3, 1) := by decide +kernel
theorem d_law_542 : decode code 542 = .ok (.iconst 2, 1) := by decide +kernel
theorem d_law_543 : decode code 543 = .ok (.iadd, 1) := by decide +kernel
theorem d_law_544 : decode code 544 = .ok (.iaload, 1) := by decide +kernel
theorem d_law_545 : decode code 545 = .ok (.invokevirtual 59, 3) := by decide +kernel
theorem d_law_548 : decode code 548 = .ok (.aload_n 2, 1) := by decide +kernel
theorem d_law_549 : decode code 549 = .ok (.aload_n 0, 1) := by decide +kernel
theorem d_law_550 : decode code 550 = .ok (.iload_n 3, 1) := by decide +kernel
theorem d_law_551 : decode code 551 = .ok (.iconst 1, 1) := by decide +kernel
theorem d_law_552 : decode code 552 = .ok (.iadd, 1) := by decide +kernel
theorem d_law_553 : decode code 553 = .ok (.iaload, 1) := by decide +kernel
theorem d_law_554 : decode code 554 = .ok (.aload_n 0, 1) := by decide +kernel
theorem d_law_555 : decode code 555 = .ok (.iload_n 3, 1) := by decide +kernel
theorem d_law_556 : decode code 556 = .ok (.iconst 2, 1) := by decide +kernel
theorem d_law_557 : decode code 557 = .ok (.iadd, 1) := by decide +kernel
theorem d_law_558 : decode code 558 = .ok (.iaload, 1) := by decide +kernel
theorem d_law_559 : decode code 559 = .ok (.invokevirtual 62, 3) := by decide +kernel
theorem d_law_562 : decode code 562 = .ok (.if_icmp .eq 779, 3) := by decide +kernel
theorem d_law_565 : decode code 565 = .ok (.iconst 0, 1) := by decide +kernel
theorem d_law_566 : decode code 566 = .ok (.ireturn, 1) := by decide +kernel
theorem d_law_567 : decode code 567 = .ok (.aload_n 1, 1) := by decide +kernel
theorem d_law_568 : decode code 568 = .ok (.aload_n 0, 1) := by decide +kernel
theorem d_law_569 : decode code 569 = .ok (.iload_n 3, 1) := by decide +kernel
theorem d_law_570 : decode code 570 = .ok (.iconst 1, 1) := by decide +kernel
theorem d_law_571 : decode code 571 = .ok (.iadd, 1) := by decide +kernel
theorem d_law_572 : decode code 572 = .ok (.iaload, 1) := by decide +kernel
theorem d_law_573 : decode code 573 = .ok (.aload_n 0, 1) := by decide +kernel
theorem d_law_574 : decode code 574 = .ok (.iload_n 3, 1) := by decide +kernel
theorem d_law_575 : decode code 575 = .ok (.iconst 2, 1) := by decide +kernel
theorem d_law_576 : decode code 576 = .ok (.iadd, 1) := by decide +kernel
theorem d_law_577 : decode code 577 = .ok (.iaload, 1) := by decide +kernel
theorem d_law_578 : decode code 578 = .ok (.invokevirtual 63, 3) := by decide +kernel
theorem d_law_581 : decode code 581 = .ok (.aload_n 2, 1) := by decide +kernel
theorem d_law_582 : decode code 582 = .ok (.aload_n 0, 1) := by decide +kernel
theorem d_law_583 : decode code 583 = .ok (.iload_n 3, 1) := by decide +kernel
theorem d_law_584 : decode code 584 = .ok (.iconst 1, 1) := by decide +kernel
theorem d_law_585 : decode code 585 = .ok (.iadd, 1) := by decide +kernel
theorem d_law_586 : decode code 586 = .ok (.iaload, 1) := by decide +kernel
theorem d_law_587 : decode code 587 = .ok (.aload_n 0, 1) := by decide +kernel
theorem d_law_588 : decode code 588 = .ok (.iload_n 3, 1) := by decide +kernel
theorem d_law_589 : decode code 589 = .ok (.iconst 2, 1) := by decide +kernel
theorem d_law_590 : decode code 590 = .ok (.iadd, 1) := by decide +kernel
theorem d_law_591 : decode code 591 = .ok (.iaload, 1) := by decide +kernel
theorem d_law_592 : decode code 592 = .ok (.invokevirtual 66, 3) := by decide +kernel
theorem d_law_595 : decode code 595 = .ok (.if_icmp .eq 746, 3) := by decide +kernel
theorem d_law_598 : decode code 598 = .ok (.iconst 0, 1) := by decide +kernel
theorem d_law_599 : decode code 599 = .ok (.ireturn, 1) := by decide +kernel
theorem d_law_600 : decode code 600 = .ok (.aload_n 1, 1) := by decide +kernel
theorem d_law_601 : decode code 601 = .ok (.aload_n 0, 1) := by decide +kernel
theorem d_law_602 : decode code 602 = .ok (.iload_n 3, 1) := by decide +kernel
theorem d_law_603 : decode code 603 = .ok (.iconst 1, 1) := by decide +kernel
theorem d_law_604 : decode code 604 = .ok (.iadd, 1) := by decide +kernel
theorem d_law_605 : decode code 605 = .ok (.iaload, 1) := by decide +kernel
theorem d_law_606 : decode code 606 = .ok (.aload_n 0, 1) := by decide +kernel
theorem d_law_607 : decode code 607 = .ok (.iload_n 3, 1) := by decide +kernel
theorem d_law_608 : decode code 608 = .ok (.iconst 2, 1) := by decide +kernel
theorem d_law_609 : decode code 609 = .ok (.iadd, 1) := by decide +kernel
theorem d_law_610 : decode code 610 = .ok (.iaload, 1) := by decide +kernel
theorem d_law_611 : decode code 611 = .ok (.invokevirtual 67, 3) := by decide +kernel
theorem d_law_614 : decode code 614 = .ok (.aload_n 2, 1) := by decide +kernel
theorem d_law_615 : decode code 615 = .ok (.aload_n 0, 1) := by decide +kernel
theorem d_law_616 : decode code 616 = .ok (.iload_n 3, 1) := by decide +kernel
theorem d_law_617 : decode code 617 = .ok (.iconst 1, 1) := by decide +kernel
theorem d_law_618 : decode code 618 = .ok (.iadd, 1) := by decide +kernel
theorem d_law_619 : decode code 619 = .ok (.iaload, 1) := by decide +kernel
theorem d_law_620 : decode code 620 = .ok (.aload_n 0, 1) := by decide +kernel
theorem d_law_621 : decode code 621 = .ok (.iload_n 3, 1) := by decide +kernel
theorem d_law_622 : decode code 622 = .ok (.iconst 2, 1) := by decide +kernel
theorem d_law_623 : decode code 623 = .ok (.iadd, 1) := by decide +kernel
theorem d_law_624 : decode code 624 = .ok (.iaload, 1) := by decide +kernel
theorem d_law_625 : decode code 625 = .ok (.invokevirtual 70, 3) := by decide +kernel
theorem d_law_628 : decode code 628 = .ok (.if_icmp .eq 713, 3) := by decide +kernel
theorem d_law_631 : decode code 631 = .ok (.iconst 0, 1) := by decide +kernel
theorem d_law_632 : decode code 632 = .ok (.ireturn, 1) := by decide +kernel
theorem d_law_633 : decode code 633 = .ok (.aload_n 1, 1) := by decide +kernel
theorem d_law_634 : decode code 634 = .ok (.aload_n 0, 1) := by decide +kernel
theorem d_law_635 : decode code 635 = .ok (.iload_n 3, 1) := by decide +kernel
theorem d_law_636 : decode code 636 = .ok (.iconst 1, 1) := by decide +kernel
theorem d_law_637 : decode code 637 = .ok (.iadd, 1) := by decide +kernel
theorem d_law_638 : decode code 638 = .ok (.iaload, 1) := by decide +kernel
theorem d_law_639 : decode code 639 = .ok (.aload_n 0, 1) := by decide +kernel
theorem d_law_640 : decode code 640 = .ok (.iload_n 3, 1) := by decide +kernel
theorem d_law_641 : decode code 641 = .ok (.iconst 2, 1) := by decide +kernel
theorem d_law_642 : decode code 642 = .ok (.iadd, 1) := by decide +kernel
theorem d_law_643 : decode code 643 = .ok (.iaload, 1) := by decide +kernel
theorem d_law_644 : decode code 644 = .ok (.invokevirtual 71, 3) := by decide +kernel
theorem d_law_647 : decode code 647 = .ok (.aload_n 2, 1) := by decide +kernel
theorem d_law_648 : decode code 648 = .ok (.aload_n 0, 1) := by decide +kernel
theorem d_law_649 : decode code 649 = .ok (.iload_n 3, 1) := by decide +kernel
theorem d_law_650 : decode code 650 = .ok (.iconst 1, 1) := by decide +kernel
theorem d_law_651 : decode code 651 = .ok (.iadd, 1) := by decide +kernel
theorem d_law_652 : decode code 652 = .ok (.iaload, 1) := by decide +kernel
theorem d_law_653 : decode code 653 = .ok (.aload_n 0, 1) := by decide +kernel
theorem d_law_654 : decode code 654 = .ok (.iload_n 3, 1) := by decide +kernel
theorem d_law_655 : decode code 655 = .ok (.iconst 2, 1) := by decide +kernel
theorem d_law_656 : decode code 656 = .ok (.iadd, 1) := by decide +kernel
theorem d_law_657 : decode code 657 = .ok (.iaload, 1) := by decide +kernel
theorem d_law_658 : decode code 658 = .ok (.invokevirtual 74, 3) := by decide +kernel
theorem d_law_661 : decode code 661 = .ok (.if_icmp .eq 680, 3) := by decide +kernel
theorem d_law_664 : decode code 664 = .ok (.iconst 0, 1) := by decide +kernel
theorem d_law_665 : decode code 665 = .ok (.ireturn, 1) := by decide +kernel
theorem d_law_666 : decode code 666 = .ok (.aload_n 1, 1) := by decide +kernel
theorem d_law_667 : decode code 667 = .ok (.aload_n 0, 1) := by decide +kernel
theorem d_law_668 : decode code 668 = .ok (.iload_n 3, 1) := by decide +kernel
theorem d_law_669 : decode code 669 = .ok (.iconst 1, 1) := by decide +kernel
theorem d_law_670 : decode code 670 = .ok (.iadd, 1) := by decide +kernel
theorem d_law_671 : decode code 671 = .ok (.iaload, 1) := by decide +kernel
theorem d_law_672 : decode code 672 = .ok (.aload_n 0, 1) := by decide +kernel
theorem d_law_673 : decode code 673 = .ok (.iload_n 3, 1) := by decide +kernel
theorem d_law_674 : decode code 674 = .ok (.iconst 2, 1) := by decide +kernel
theorem d_law_675 : decode code 675 = .ok (.iadd, 1) := by decide +kernel
theorem d_law_676 : decode code 676 = .ok (.iaload, 1) := by decide +kernel
theorem d_law_677 : decode code 677 = .ok (.invokevirtual 75, 3) := by decide +kernel
theorem d_law_680 : decode code 680 = .ok (.aload_n 2, 1) := by decide +kernel
theorem d_law_681 : decode code 681 = .ok (.aload_n 0, 1) := by decide +kernel
theorem d_law_682 : decode code 682 = .ok (.iload_n 3, 1) := by decide +kernel
theorem d_law_683 : decode code 683 = .ok (.iconst 1, 1) := by decide +kernel
theorem d_law_684 : decode code 684 = .ok (.iadd, 1) := by decide +kernel
theorem d_law_685 : decode code 685 = .ok (.iaload, 1) := by decide +kernel
theorem d_law_686 : decode code 686 = .ok (.aload_n 0, 1) := by decide +kernel
theorem d_law_687 : decode code 687 = .ok (.iload_n 3, 1) := by decide +kernel
theorem d_law_688 : decode code 688 = .ok (.iconst 2, 1) := by decide +kernel
theorem d_law_689 : decode code 689 = .ok (.iadd, 1) := by decide +kernel
theorem d_law_690 : decode code 690 = .ok (.iaload, 1) := by decide +kernel
theorem d_law_691 : decode code 691 = .ok (.invokevirtual 78, 3) := by decide +kernel
theorem d_law_694 : decode code 694 = .ok (.if_icmp .eq 647, 3) := by decide +kernel
theorem d_law_697 : decode code 697 = .ok (.iconst 0, 1) := by decide +kernel
theorem d_law_698 : decode code 698 = .ok (.ireturn, 1) := by decide +kernel
theorem d_law_699 : decode code 699 = .ok (.aload_n 1, 1) := by decide +kernel
theorem d_law_700 : decode code 700 = .ok (.aload_n 0, 1) := by decide +kernel
theorem d_law_701 : decode code 701 = .ok (.iload_n 3, 1) := by decide +kernel
theorem d_law_702 : decode code 702 = .ok (.iconst 1, 1) := by decide +kernel
theorem d_law_703 : decode code 703 = .ok (.iadd, 1) := by decide +kernel
theorem d_law_704 : decode code 704 = .ok (.iaload, 1) := by decide +kernel
theorem d_law_705 : decode code 705 = .ok (.aload_n 0, 1) := by decide +kernel
theorem d_law_706 : decode code 706 = .ok (.iload_n 3, 1) := by decide +kernel
theorem d_law_707 : decode code 707 = .ok (.iconst 2, 1) := by decide +kernel
theorem d_law_708 : decode code 708 = .ok (.iadd, 1) := by decide +kernel
theorem d_law_709 : decode code 709 = .ok (.iaload, 1) := by decide +kernel
theorem d_law_710 : decode code 710 = .ok (.invokevirtual 79, 3) := by decide +kernel
theorem d_law_713 : decode code 713 = .ok (.aload_n 2, 1) := by decide +kernel
theorem d_law_714 : decode code 714 = .ok (.aload_n 0, 1) := by decide +kernel
theorem d_law_715 : decode code 715 = .ok (.iload_n 3, 1) := by decide +kernel
theorem d_law_716 : decode code 716 = .ok (.iconst 1, 1) := by decide +kernel
theorem d_law_717 : decode code 717 = .ok (.iadd, 1) := by decide +kernel
theorem d_law_718 : decode code 718 = .ok (.iaload, 1) := by decide +kernel
theorem d_law_719 : decode code 719 = .ok (.aload_n 0, 1) := by decide +kernel
theorem d_law_720 : decode code 720 = .ok (.iload_n 3, 1) := by decide +kernel
theorem d_law_721 : decode code 721 = .ok (.iconst 2, 1) := by decide +kernel
theorem d_law_722 : decode code 722 = .ok (.iadd, 1) := by decide +kernel
theorem d_law_723 : decode code 723 = .ok (.iaload, 1) := by decide +kernel
theorem d_law_724 : decode code 724 = .ok (.invokevirtual 82, 3) := by decide +kernel
theorem d_law_727 : decode code 727 = .ok (.if_icmp .eq 614, 3) := by decide +kernel
theorem d_law_730 : decode code 730 = .ok (.iconst 0, 1) := by decide +kernel
theorem d_law_731 : decode code 731 = .ok (.ireturn, 1) := by decide +kernel
theorem d_law_732 : decode code 732 = .ok (.aload_n 1, 1) := by decide +kernel
theorem d_law_733 : decode code 733 = .ok (.aload_n 0, 1) := by decide +kernel
theorem d_law_734 : decode code 734 = .ok (.iload_n 3, 1) := by decide +kernel
theorem d_law_735 : decode code 735 = .ok (.iconst 1, 1) := by decide +kernel
theorem d_law_736 : decode code 736 = .ok (.iadd, 1) := by decide +kernel
theorem d_law_737 : decode code 737 = .ok (.iaload, 1) := by decide +kernel
theorem d_law_738 : decode code 738 = .ok (.aload_n 0, 1) := by decide +kernel
theorem d_law_739 : decode code 739 = .ok (.iload_n 3, 1) := by decide +kernel
theorem d_law_740 : decode code 740 = .ok (.iconst 2, 1) := by decide +kernel
theorem d_law_741 : decode code 741 = .ok (.iadd, 1) := by decide +kernel
theorem d_law_742 : decode code 742 = .ok (.iaload, 1) := by decide +kernel
theorem d_law_743 : decode code 743 = .ok (.invokevirtual 83, 3) := by decide +kernel
theorem d_law_746 : decode code 746 = .ok (.aload_n 2, 1) := by decide +kernel
theorem d_law_747 : decode code 747 = .ok (.aload_n 0, 1) := by decide +kernel
theorem d_law_748 : decode code 748 = .ok (.iload_n 3, 1) := by decide +kernel
theorem d_law_749 : decode code 749 = .ok (.iconst 1, 1) := by decide +kernel
theorem d_law_750 : decode code 750 = .ok (.iadd, 1) := by decide +kernel
theorem d_law_751 : decode code 751 = .ok (.iaload, 1) := by decide +kernel
theorem d_law_752 : decode code 752 = .ok (.aload_n 0, 1) := by decide +kernel
theorem d_law_753 : decode code 753 = .ok (.iload_n 3, 1) := by decide +kernel
theorem d_law_754 : decode code 754 = .ok (.iconst 2, 1) := by decide +kernel
theorem d_law_755 : decode code 755 = .ok (.iadd, 1) := by decide +kernel
theorem d_law_756 : decode code 756 = .ok (.iaload, 1) := by decide +kernel
theorem d_law_757 : decode code 757 = .ok (.invokevirtual 86, 3) := by decide +kernel
theorem d_law_760 : decode code 760 = .ok (.if_icmp .eq 581, 3) := by decide +kernel
theorem d_law_763 : decode code 763 = .ok (.iconst 0, 1) := by decide +kernel
theorem d_law_764 : decode code 764 = .ok (.ireturn, 1) := by decide +kernel
theorem d_law_765 : decode code 765 = .ok (.aload_n 1, 1) := by decide +kernel
theorem d_law_766 : decode code 766 = .ok (.aload_n 0, 1) := by decide +kernel
theorem d_law_767 : decode code 767 = .ok (.iload_n 3, 1) := by decide +kernel
theorem d_law_768 : decode code 768 = .ok (.iconst 1, 1) := by decide +kernel
theorem d_law_769 : decode code 769 = .ok (.iadd, 1) := by decide +kernel
theorem d_law_770 : decode code 770 = .ok (.iaload, 1) := by decide +kernel
theorem d_law_771 : decode code 771 = .ok (.aload_n 0, 1) := by decide +kernel
theorem d_law_772 : decode code 772 = .ok (.iload_n 3, 1) := by decide +kernel
theorem d_law_773 : decode code 773 = .ok (.iconst 2, 1) := by decide +kernel
theorem d_law_774 : decode code 774 = .ok (.iadd, 1) := by decide +kernel
theorem d_law_775 : decode code 775 = .ok (.iaload, 1) := by decide +kernel
theorem d_law_776 : decode code 776 = .ok (.invokevirtual 87, 3) := by decide +kernel
theorem d_law_779 : decode code 779 = .ok (.aload_n 2, 1) := by decide +kernel
theorem d_law_780 : decode code 780 = .ok (.aload_n 0, 1) := by decide +kernel
theorem d_law_781 : decode code 781 = .ok (.iload_n 3, 1) := by decide +kernel
theorem d_law_782 : decode code 782 = .ok (.iconst 1, 1) := by decide +kernel
theorem d_law_783 : decode code 783 = .ok (.iadd, 1) := by decide +kernel
theorem d_law_784 : decode code 784 = .ok (.iaload, 1) := by decide +kernel
theorem d_law_785 : decode code 785 = .ok (.aload_n 0, 1) := by decide +kernel
theorem d_law_786 : decode code 786 = .ok (.iload_n 3, 1) := by decide +kernel
theorem d_law_787 : decode code 787 = .ok (.iconst 2, 1) := by decide +kernel
theorem d_law_788 : decode code 788 = .ok (.iadd, 1) := by decide +kernel
theorem d_law_789 : decode code 789 = .ok (.iaload, 1) := by decide +kernel
theorem d_law_790 : decode code 790 = .ok (.invokevirtual 90, 3) := by decide +kernel
theorem d_law_793 : decode code 793 = .ok (.if_icmp .eq 548, 3) := by decide +kernel
theorem d_law_796 : decode code 796 = .ok (.iconst 0, 1) := by decide +kernel
theorem d_law_797 : decode code 797 = .ok (.ireturn, 1) := by decide +kernel
theorem d_law_798 : decode code 798 = .ok (.aload_n 1, 1) := by decide +kernel
theorem d_law_799 : decode code 799 = .ok (.aload_n 0, 1) := by decide +kernel
theorem d_law_800 : decode code 800 = .ok (.iload_n 3, 1) := by decide +kernel
theorem d_law_801 : decode code 801 = .ok (.iconst 1, 1) := by decide +kernel
theorem d_law_802 : decode code 802 = .ok (.iadd, 1) := by decide +kernel
theorem d_law_803 : decode code 803 = .ok (.iaload, 1) := by decide +kernel
theorem d_law_804 : decode code 804 = .ok (.aload_n 0, 1) := by decide +kernel
theorem d_law_805 : decode code 805 = .ok (.iload_n 3, 1) := by decide +kernel
theorem d_law_806 : decode code 806 = .ok (.iconst 2, 1) := by decide +kernel
theorem d_law_807 : decode code 807 = .ok (.iadd, 1) := by decide +kernel
theorem d_law_808 : decode code 808 = .ok (.iaload, 1) := by decide +kernel
theorem d_law_809 : decode code 809 = .ok (.invokevirtual 91, 3) := by decide +kernel
theorem d_law_812 : decode code 812 = .ok (.aload_n 2, 1) := by decide +kernel
theorem d_law_813 : decode code 813 = .ok (.aload_n 0, 1) := by decide +kernel
theorem d_law_814 : decode code 814 = .ok (.iload_n 3, 1) := by decide +kernel
theorem d_law_815 : decode code 815 = .ok (.iconst 1, 1) := by decide +kernel
theorem d_law_816 : decode code 816 = .ok (.iadd, 1) := by decide +kernel
theorem d_law_817 : decode code 817 = .ok (.iaload, 1) := by decide +kernel
theorem d_law_818 : decode code 818 = .ok (.aload_n 0, 1) := by decide +kernel
theorem d_law_819 : decode code 819 = .ok (.iload_n 3, 1) := by decide +kernel
theorem d_law_820 : decode code 820 = .ok (.iconst 2, 1) := by decide +kernel
theorem d_law_821 : decode code 821 = .ok (.iadd, 1) := by decide +kernel
theorem d_law_822 : decode code 822 = .ok (.iaload, 1) := by decide +kernel
theorem d_law_823 : decode code 823 = .ok (.invokevirtual 94, 3) := by decide +kernel
theorem d_law_826 : decode code 826 = .ok (.if_icmp .eq 515, 3) := by decide +kernel
theorem d_law_829 : decode code 829 = .ok (.iconst 0, 1) := by decide +kernel
theorem d_law_830 : decode code 830 = .ok (.ireturn, 1) := by decide +kernel
theorem d_law_831 : decode code 831 = .ok (.aload_n 1, 1) := by decide +kernel
theorem d_law_832 : decode code 832 = .ok (.invokevirtual 95, 3) := by decide +kernel
theorem d_law_835 : decode code 835 = .ok (.aload_n 2, 1) := by decide +kernel
theorem d_law_836 : decode code 836 = .ok (.invokevirtual 99, 3) := by decide +kernel
theorem d_law_839 : decode code 839 = .ok (.if_icmp .eq 502, 3) := by decide +kernel
theorem d_law_842 : decode code 842 = .ok (.iconst 0, 1) := by decide +kernel
theorem d_law_843 : decode code 843 = .ok (.ireturn, 1) := by decide +kernel
theorem d_law_844 : decode code 844 = .ok (.aload_n 1, 1) := by decide +kernel
theorem d_law_845 : decode code 845 = .ok (.aload_n 0, 1) := by decide +kernel
theorem d_law_846 : decode code 846 = .ok (.iload_n 3, 1) := by decide +kernel
theorem d_law_847 : decode code 847 = .ok (.iconst 1, 1) := by decide +kernel
theorem d_law_848 : decode code 848 = .ok (.iadd, 1) := by decide +kernel
theorem d_law_849 : decode code 849 = .ok (.iaload, 1) := by decide +kernel
theorem d_law_850 : decode code 850 = .ok (.aload_n 0, 1) := by decide +kernel
theorem d_law_851 : decode code 851 = .ok (.iload_n 3, 1) := by decide +kernel
theorem d_law_852 : decode code 852 = .ok (.iconst 2, 1) := by decide +kernel
theorem d_law_853 : decode code 853 = .ok (.iadd, 1) := by decide +kernel
theorem d_law_854 : decode code 854 = .ok (.iaload, 1) := by decide +kernel
theorem d_law_855 : decode code 855 = .ok (.invokevirtual 100, 3) := by decide +kernel
theorem d_law_858 : decode code 858 = .ok (.aload_n 2, 1) := by decide +kernel
theorem d_law_859 : decode code 859 = .ok (.aload_n 0, 1) := by decide +kernel
theorem d_law_860 : decode code 860 = .ok (.iload_n 3, 1) := by decide +kernel
theorem d_law_861 : decode code 861 = .ok (.iconst 1, 1) := by decide +kernel
theorem d_law_862 : decode code 862 = .ok (.iadd, 1) := by decide +kernel
theorem d_law_863 : decode code 863 = .ok (.iaload, 1) := by decide +kernel
theorem d_law_864 : decode code 864 = .ok (.aload_n 0, 1) := by decide +kernel
theorem d_law_865 : decode code 865 = .ok (.iload_n 3, 1) := by decide +kernel
theorem d_law_866 : decode code 866 = .ok (.iconst 2, 1) := by decide +kernel
theorem d_law_867 : decode code 867 = .ok (.iadd, 1) := by decide +kernel
theorem d_law_868 : decode code 868 = .ok (.iaload, 1) := by decide +kernel
theorem d_law_869 : decode code 869 = .ok (.invokevirtual 103, 3) := by decide +kernel
theorem d_law_872 : decode code 872 = .ok (.if_icmp .eq 469, 3) := by decide +kernel
theorem d_law_875 : decode code 875 = .ok (.iconst 0, 1) := by decide +kernel
theorem d_law_876 : decode code 876 = .ok (.ireturn, 1) := by decide +kernel
theorem d_law_877 : decode code 877 = .ok (.aload_n 1, 1) := by decide +kernel
theorem d_law_878 : decode code 878 = .ok (.aload_n 0, 1) := by decide +kernel
theorem d_law_879 : decode code 879 = .ok (.iload_n 3, 1) := by decide +kernel
theorem d_law_880 : decode code 880 = .ok (.iconst 1, 1) := by decide +kernel
theorem d_law_881 : decode code 881 = .ok (.iadd, 1) := by decide +kernel
theorem d_law_882 : decode code 882 = .ok (.iaload, 1) := by decide +kernel
theorem d_law_883 : decode code 883 = .ok (.aload_n 0, 1) := by decide +kernel
theorem d_law_884 : decode code 884 = .ok (.iload_n 3, 1) := by decide +kernel
theorem d_law_885 : decode code 885 = .ok (.iconst 2, 1) := by decide +kernel
theorem d_law_886 : decode code 886 = .ok (.iadd, 1) := by decide +kernel
theorem d_law_887 : decode code 887 = .ok (.iaload, 1) := by decide +kernel
theorem d_law_888 : decode code 888 = .ok (.aload_n 0, 1) := by decide +kernel
theorem d_law_889 : decode code 889 = .ok (.iload_n 3, 1) := by decide +kernel
theorem d_law_890 : decode code 890 = .ok (.iconst 3, 1) := by decide +kernel
theorem d_law_891 : decode code 891 = .ok (.iadd, 1) := by decide +kernel
theorem d_law_892 : decode code 892 = .ok (.iaload, 1) := by decide +kernel
theorem d_law_893 : decode code 893 = .ok (.invokevirtual 104, 3) := by decide +kernel
theorem d_law_896 : decode code 896 = .ok (.aload_n 2, 1) := by decide +kernel
theorem d_law_897 : decode code 897 = .ok (.aload_n 0, 1) := by decide +kernel
theorem d_law_898 : decode code 898 = .ok (.iload_n 3, 1) := by decide +kernel
theorem d_law_899 : decode code 899 = .ok (.iconst 1, 1) := by decide +kernel
theorem d_law_900 : decode code 900 = .ok (.iadd, 1) := by decide +kernel
theorem d_law_901 : decode code 901 = .ok (.iaload, 1) := by decide +kernel
theorem d_law_902 : decode code 902 = .ok (.aload_n 0, 1) := by decide +kernel
theorem d_law_903 : decode code 903 = .ok (.iload_n 3, 1) := by decide +kernel
theorem d_law_904 : decode code 904 = .ok (.iconst 2, 1) := by decide +kernel
theorem d_law_905 : decode code 905 = .ok (.iadd, 1) := by decide +kernel
theorem d_law_906 : decode code 906 = .ok (.iaload, 1) := by decide +kernel
theorem d_law_907 : decode code 907 = .ok (.aload_n 0, 1) := by decide +kernel
theorem d_law_908 : decode code 908 = .ok (.iload_n 3, 1) := by decide +kernel
theorem d_law_909 : decode code 909 = .ok (.iconst 3, 1) := by decide +kernel
theorem d_law_910 : decode code 910 = .ok (.iadd, 1) := by decide +kernel
theorem d_law_911 : decode code 911 = .ok (.iaload, 1) := by decide +kernel
theorem d_law_912 : decode code 912 = .ok (.invokevirtual 108, 3) := by decide +kernel
theorem d_law_915 : decode code 915 = .ok (.if_icmp .eq 426, 3) := by decide +kernel
theorem d_law_918 : decode code 918 = .ok (.iconst 0, 1) := by decide +kernel
theorem d_law_919 : decode code 919 = .ok (.ireturn, 1) := by decide +kernel
theorem d_law_920 : decode code 920 = .ok (.aload_n 1, 1) := by decide +kernel
theorem d_law_921 : decode code 921 = .ok (.aload_n 0, 1) := by decide +kernel
theorem d_law_922 : decode code 922 = .ok (.iload_n 3, 1) := by decide +kernel
theorem d_law_923 : decode code 923 = .ok (.iconst 1, 1) := by decide +kernel
theorem d_law_924 : decode code 924 = .ok (.iadd, 1) := by decide +kernel
theorem d_law_925 : decode code 925 = .ok (.iaload, 1) := by decide +kernel
theorem d_law_926 : decode code 926 = .ok (.aload_n 0, 1) := by decide +kernel
theorem d_law_927 : decode code 927 = .ok (.iload_n 3, 1) := by decide +kernel
theorem d_law_928 : decode code 928 = .ok (.iconst 2, 1) := by decide +kernel
theorem d_law_929 : decode code 929 = .ok (.iadd, 1) := by decide +kernel
theorem d_law_930 : decode code 930 = .ok (.iaload, 1) := by decide +kernel
theorem d_law_931 : decode code 931 = .ok (.invokevirtual 109, 3) := by decide +kernel
theorem d_law_934 : decode code 934 = .ok (.aload_n 2, 1) := by decide +kernel
theorem d_law_935 : decode code 935 = .ok (.aload_n 0, 1) := by decide +kernel
theorem d_law_936 : decode code 936 = .ok (.iload_n 3, 1) := by decide +kernel
theorem d_law_937 : decode code 937 = .ok (.iconst 1, 1) := by decide +kernel
theorem d_law_938 : decode code 938 = .ok (.iadd, 1) := by decide +kernel
theorem d_law_939 : decode code 939 = .ok (.iaload, 1) := by decide +kernel
theorem d_law_940 : decode code 940 = .ok (.aload_n 0, 1) := by decide +kernel
theorem d_law_941 : decode code 941 = .ok (.iload_n 3, 1) := by decide +kernel
theorem d_law_942 : decode code 942 = .ok (.iconst 2, 1) := by decide +kernel
theorem d_law_943 : decode code 943 = .ok (.iadd, 1) := by decide +kernel
theorem d_law_944 : decode code 944 = .ok (.iaload, 1) := by decide +kernel
theorem d_law_945 : decode code 945 = .ok (.invokevirtual 112, 3) := by decide +kernel
theorem d_law_948 : decode code 948 = .ok (.if_icmp .eq 393, 3) := by decide +kernel
theorem d_law_951 : decode code 951 = .ok (.iconst 0, 1) := by decide +kernel
theorem d_law_952 : decode code 952 = .ok (.ireturn, 1) := by decide +kernel
theorem d_law_953 : decode code 953 = .ok (.aload_n 1, 1) := by decide +kernel
theorem d_law_954 : decode code 954 = .ok (.aload_n 0, 1) := by decide +kernel
theorem d_law_955 : decode code 955 = .ok (.iload_n 3, 1) := by decide +kernel
theorem d_law_956 : decode code 956 = .ok (.iconst 1, 1) := by decide +kernel
theorem d_law_957 : decode code 957 = .ok (.iadd, 1) := by decide +kernel
theorem d_law_958 : decode code 958 = .ok (.iaload, 1) := by decide +kernel
theorem d_law_959 : decode code 959 = .ok (.aload_n 0, 1) := by decide +kernel
theorem d_law_960 : decode code 960 = .ok (.iload_n 3, 1) := by decide +kernel
theorem d_law_961 : decode code 961 = .ok (.iconst 2, 1) := by decide +kernel
theorem d_law_962 : decode code 962 = .ok (.iadd, 1) := by decide +kernel
theorem d_law_963 : decode code 963 = .ok (.iaload, 1) := by decide +kernel
theorem d_law_964 : decode code 964 = .ok (.invokevirtual 113, 3) := by decide +kernel
theorem d_law_967 : decode code 967 = .ok (.aload_n 2, 1) := by decide +kernel
theorem d_law_968 : decode code 968 = .ok (.aload_n 0, 1) := by decide +kernel
theorem d_law_969 : decode code 969 = .ok (.iload_n 3, 1) := by decide +kernel
theorem d_law_970 : decode code 970 = .ok (.iconst 1, 1) := by decide +kernel
theorem d_law_971 : decode code 971 = .ok (.iadd, 1) := by decide +kernel
theorem d_law_972 : decode code 972 = .ok (.iaload, 1) := by decide +kernel
theorem d_law_973 : decode code 973 = .ok (.aload_n 0, 1) := by decide +kernel
theorem d_law_974 : decode code 974 = .ok (.iload_n 3, 1) := by decide +kernel
theorem d_law_975 : decode code 975 = .ok (.iconst 2, 1) := by decide +kernel
theorem d_law_976 : decode code 976 = .ok (.iadd, 1) := by decide +kernel
theorem d_law_977 : decode code 977 = .ok (.iaload, 1) := by decide +kernel
theorem d_law_978 : decode code 978 = .ok (.invokevirtual 116, 3) := by decide +kernel
theorem d_law_981 : decode code 981 = .ok (.if_icmp .eq 360, 3) := by decide +kernel
theorem d_law_984 : decode code 984 = .ok (.iconst 0, 1) := by decide +kernel
theorem d_law_985 : decode code 985 = .ok (.ireturn, 1) := by decide +kernel
theorem d_law_986 : decode code 986 = .ok (.aload_n 1, 1) := by decide +kernel
theorem d_law_987 : decode code 987 = .ok (.aload_n 0, 1) := by decide +kernel
theorem d_law_988 : decode code 988 = .ok (.iload_n 3, 1) := by decide +kernel
theorem d_law_989 : decode code 989 = .ok (.iconst 1, 1) := by decide +kernel
theorem d_law_990 : decode code 990 = .ok (.iadd, 1) := by decide +kernel
theorem d_law_991 : decode code 991 = .ok (.iaload, 1) := by decide +kernel
theorem d_law_992 : decode code 992 = .ok (.aload_n 0, 1) := by decide +kernel
theorem d_law_993 : decode code 993 = .ok (.iload_n 3, 1) := by decide +kernel
theorem d_law_994 : decode code 994 = .ok (.iconst 2, 1) := by decide +kernel
theorem d_law_995 : decode code 995 = .ok (.iadd, 1) := by decide +kernel
theorem d_law_996 : decode code 996 = .ok (.iaload, 1) := by decide +kernel
theorem d_law_997 : decode code 997 = .ok (.invokevirtual 117, 3) := by decide +kernel
theorem d_law_1000 : decode code 1000 = .ok (.aload_n 2, 1) := by decide +kernel
theorem d_law_1001 : decode code 1001 = .ok (.aload_n 0, 1) := by decide +kernel
theorem d_law_1002 : decode code 1002 = .ok (.iload_n 3, 1) := by decide +kernel
theorem d_law_1003 : decode code 1003 = .ok (.iconst 1, 1) := by decide +kernel
theorem d_law_1004 : decode code 1004 = .ok (.iadd, 1) := by decide +kernel
theorem d_law_1005 : decode code 1005 = .ok (.iaload, 1) := by decide +kernel
theorem d_law_1006 : decode code 1006 = .ok (.aload_n 0, 1) := by decide +kernel
theorem d_law_1007 : decode code 1007 = .ok (.iload_n 3, 1) := by decide +kernel
theorem d_law_1008 : decode code 1008 = .ok (.iconst 2, 1) := by decide +kernel
theorem d_law_1009 : decode code 1009 = .ok (.iadd, 1) := by decide +kernel
theorem d_law_1010 : decode code 1010 = .ok (.iaload, 1) := by decide +kernel
theorem d_law_1011 : decode code 1011 = .ok (.invokevirtual 120, 3) := by decide +kernel
theorem d_law_1014 : decode code 1014 = .ok (.if_icmp .eq 327, 3) := by decide +kernel
theorem d_law_1017 : decode code 1017 = .ok (.iconst 0, 1) := by decide +kernel
theorem d_law_1018 : decode code 1018 = .ok (.ireturn, 1) := by decide +kernel
theorem d_law_1019 : decode code 1019 = .ok (.aload_n 1, 1) := by decide +kernel
theorem d_law_1020 : decode code 1020 = .ok (.aload_n 0, 1) := by decide +kernel
theorem d_law_1021 : decode code 1021 = .ok (.iload_n 3, 1) := by decide +kernel
theorem d_law_1022 : decode code 1022 = .ok (.iconst 1, 1) := by decide +kernel
theorem d_law_1023 : decode code 1023 = .ok (.iadd, 1) := by decide +kernel
theorem d_law_1024 : decode code 1024 = .ok (.iaload, 1) := by decide +kernel
theorem d_law_1025 : decode code 1025 = .ok (.aload_n 0, 1) := by decide +kernel
theorem d_law_1026 : decode code 1026 = .ok (.iload_n 3, 1) := by decide +kernel
theorem d_law_1027 : decode code 1027 = .ok (.iconst 2, 1) := by decide +kernel
theorem d_law_1028 : decode code 1028 = .ok (.iadd, 1) := by decide +kernel
theorem d_law_1029 : decode code 1029 = .ok (.iaload, 1) := by decide +kernel
theorem d_law_1030 : decode code 1030 = .ok (.aload_n 0, 1) := by decide +kernel
theorem d_law_1031 : decode code 1031 = .ok (.iload_n 3, 1) := by decide +kernel
theorem d_law_1032 : decode code 1032 = .ok (.iconst 3, 1) := by decide +kernel
theorem d_law_1033 : decode code 1033 = .ok (.iadd, 1) := by decide +kernel
theorem d_law_1034 : decode code 1034 = .ok (.iaload, 1) := by decide +kernel
theorem d_law_1035 : decode code 1035 = .ok (.invokevirtual 121, 3) := by decide +kernel
theorem d_law_1038 : decode code 1038 = .ok (.aload_n 2, 1) := by decide +kernel
theorem d_law_1039 : decode code 1039 = .ok (.aload_n 0, 1) := by decide +kernel
theorem d_law_1040 : decode code 1040 = .ok (.iload_n 3, 1) := by decide +kernel
theorem d_law_1041 : decode code 1041 = .ok (.iconst 1, 1) := by decide +kernel
theorem d_law_1042 : decode code 1042 = .ok (.iadd, 1) := by decide +kernel
theorem d_law_1043 : decode code 1043 = .ok (.iaload, 1) := by decide +kernel
theorem d_law_1044 : decode code 1044 = .ok (.aload_n 0, 1) := by decide +kernel
theorem d_law_1045 : decode code 1045 = .ok (.iload_n 3, 1) := by decide +kernel
theorem d_law_1046 : decode code 1046 = .ok (.iconst 2, 1) := by decide +kernel
theorem d_law_1047 : decode code 1047 = .ok (.iadd, 1) := by decide +kernel
theorem d_law_1048 : decode code 1048 = .ok (.iaload, 1) := by decide +kernel
theorem d_law_1049 : decode code 1049 = .ok (.aload_n 0, 1) := by decide +kernel
theorem d_law_1050 : decode code 1050 = .ok (.iload_n 3, 1) := by decide +kernel
theorem d_law_1051 : decode code 1051 = .ok (.iconst 3, 1) := by decide +kernel
theorem d_law_1052 : decode code 1052 = .ok (.iadd, 1) := by decide +kernel
theorem d_law_1053 : decode code 1053 = .ok (.iaload, 1) := by decide +kernel
theorem d_law_1054 : decode code 1054 = .ok (.invokevirtual 124, 3) := by decide +kernel
theorem d_law_1057 : decode code 1057 = .ok (.if_icmp .eq 284, 3) := by decide +kernel
theorem d_law_1060 : decode code 1060 = .ok (.iconst 0, 1) := by decide +kernel
theorem d_law_1061 : decode code 1061 = .ok (.ireturn, 1) := by decide +kernel
theorem d_law_1062 : decode code 1062 = .ok (.aload_n 1, 1) := by decide +kernel
theorem d_law_1063 : decode code 1063 = .ok (.aload_n 0, 1) := by decide +kernel
theorem d_law_1064 : decode code 1064 = .ok (.iload_n 3, 1) := by decide +kernel
theorem d_law_1065 : decode code 1065 = .ok (.iconst 1, 1) := by decide +kernel
theorem d_law_1066 : decode code 1066 = .ok (.iadd, 1) := by decide +kernel
theorem d_law_1067 : decode code 1067 = .ok (.iaload, 1) := by decide +kernel
theorem d_law_1068 : decode code 1068 = .ok (.aload_n 0, 1) := by decide +kernel
theorem d_law_1069 : decode code 1069 = .ok (.iload_n 3, 1) := by decide +kernel
theorem d_law_1070 : decode code 1070 = .ok (.iconst 2, 1) := by decide +kernel
theorem d_law_1071 : decode code 1071 = .ok (.iadd, 1) := by decide +kernel
theorem d_law_1072 : decode code 1072 = .ok (.iaload, 1) := by decide +kernel
theorem d_law_1073 : decode code 1073 = .ok (.aload_n 0, 1) := by decide +kernel
theorem d_law_1074 : decode code 1074 = .ok (.iload_n 3, 1) := by decide +kernel
theorem d_law_1075 : decode code 1075 = .ok (.iconst 3, 1) := by decide +kernel
theorem d_law_1076 : decode code 1076 = .ok (.iadd, 1) := by decide +kernel
theorem d_law_1077 : decode code 1077 = .ok (.iaload, 1) := by decide +kernel
theorem d_law_1078 : decode code 1078 = .ok (.aload_n 0, 1) := by decide +kernel
theorem d_law_1079 : decode code 1079 = .ok (.iload_n 3, 1) := by decide +kernel
theorem d_law_1080 : decode code 1080 = .ok (.iconst 4, 1) := by decide +kernel
theorem d_law_1081 : decode code 1081 = .ok (.iadd, 1) := by decide +kernel
theorem d_law_1082 : decode code 1082 = .ok (.iaload, 1) := by decide +kernel
theorem d_law_1083 : decode code 1083 = .ok (.aload_n 0, 1) := by decide +kernel
theorem d_law_1084 : decode code 1084 = .ok (.iload_n 3, 1) := by decide +kernel
theorem d_law_1085 : decode code 1085 = .ok (.iconst 5, 1) := by decide +kernel
theorem d_law_1086 : decode code 1086 = .ok (.iadd, 1) := by decide +kernel
theorem d_law_1087 : decode code 1087 = .ok (.iaload, 1) := by decide +kernel
theorem d_law_1088 : decode code 1088 = .ok (.aload_n 0, 1) := by decide +kernel
theorem d_law_1089 : decode code 1089 = .ok (.iload_n 3, 1) := by decide +kernel
theorem d_law_1090 : decode code 1090 = .ok (.bipush 6, 2) := by decide +kernel
theorem d_law_1092 : decode code 1092 = .ok (.iadd, 1) := by decide +kernel
theorem d_law_1093 : decode code 1093 = .ok (.iaload, 1) := by decide +kernel
theorem d_law_1094 : decode code 1094 = .ok (.invokevirtual 125, 3) := by decide +kernel
theorem d_law_1097 : decode code 1097 = .ok (.aload_n 2, 1) := by decide +kernel
theorem d_law_1098 : decode code 1098 = .ok (.aload_n 0, 1) := by decide +kernel
theorem d_law_1099 : decode code 1099 = .ok (.iload_n 3, 1) := by decide +kernel
theorem d_law_1100 : decode code 1100 = .ok (.iconst 1, 1) := by decide +kernel
theorem d_law_1101 : decode code 1101 = .ok (.iadd, 1) := by decide +kernel
theorem d_law_1102 : decode code 1102 = .ok (.iaload, 1) := by decide +kernel
theorem d_law_1103 : decode code 1103 = .ok (.aload_n 0, 1) := by decide +kernel
theorem d_law_1104 : decode code 1104 = .ok (.iload_n 3, 1) := by decide +kernel
theorem d_law_1105 : decode code 1105 = .ok (.iconst 2, 1) := by decide +kernel
theorem d_law_1106 : decode code 1106 = .ok (.iadd, 1) := by decide +kernel
theorem d_law_1107 : decode code 1107 = .ok (.iaload, 1) := by decide +kernel
theorem d_law_1108 : decode code 1108 = .ok (.aload_n 0, 1) := by decide +kernel
theorem d_law_1109 : decode code 1109 = .ok (.iload_n 3, 1) := by decide +kernel
theorem d_law_1110 : decode code 1110 = .ok (.iconst 3, 1) := by decide +kernel
theorem d_law_1111 : decode code 1111 = .ok (.iadd, 1) := by decide +kernel
theorem d_law_1112 : decode code 1112 = .ok (.iaload, 1) := by decide +kernel
theorem d_law_1113 : decode code 1113 = .ok (.aload_n 0, 1) := by decide +kernel
theorem d_law_1114 : decode code 1114 = .ok (.iload_n 3, 1) := by decide +kernel
theorem d_law_1115 : decode code 1115 = .ok (.iconst 4, 1) := by decide +kernel
theorem d_law_1116 : decode code 1116 = .ok (.iadd, 1) := by decide +kernel
theorem d_law_1117 : decode code 1117 = .ok (.iaload, 1) := by decide +kernel
theorem d_law_1118 : decode code 1118 = .ok (.aload_n 0, 1) := by decide +kernel
theorem d_law_1119 : decode code 1119 = .ok (.iload_n 3, 1) := by decide +kernel
theorem d_law_1120 : decode code 1120 = .ok (.iconst 5, 1) := by decide +kernel
theorem d_law_1121 : decode code 1121 = .ok (.iadd, 1) := by decide +kernel
theorem d_law_1122 : decode code 1122 = .ok (.iaload, 1) := by decide +kernel
theorem d_law_1123 : decode code 1123 = .ok (.aload_n 0, 1) := by decide +kernel
theorem d_law_1124 : decode code 1124 = .ok (.iload_n 3, 1) := by decide +kernel
theorem d_law_1125 : decode code 1125 = .ok (.bipush 6, 2) := by decide +kernel
theorem d_law_1127 : decode code 1127 = .ok (.iadd, 1) := by decide +kernel
theorem d_law_1128 : decode code 1128 = .ok (.iaload, 1) := by decide +kernel
theorem d_law_1129 : decode code 1129 = .ok (.invokevirtual 129, 3) := by decide +kernel
theorem d_law_1132 : decode code 1132 = .ok (.if_icmp .eq 209, 3) := by decide +kernel
theorem d_law_1135 : decode code 1135 = .ok (.iconst 0, 1) := by decide +kernel
theorem d_law_1136 : decode code 1136 = .ok (.ireturn, 1) := by decide +kernel
theorem d_law_1137 : decode code 1137 = .ok (.aload_n 1, 1) := by decide +kernel
theorem d_law_1138 : decode code 1138 = .ok (.aload_n 0, 1) := by decide +kernel
theorem d_law_1139 : decode code 1139 = .ok (.iload_n 3, 1) := by decide +kernel
theorem d_law_1140 : decode code 1140 = .ok (.iconst 1, 1) := by decide +kernel
theorem d_law_1141 : decode code 1141 = .ok (.iadd, 1) := by decide +kernel
theorem d_law_1142 : decode code 1142 = .ok (.iaload, 1) := by decide +kernel
theorem d_law_1143 : decode code 1143 = .ok (.aload_n 0, 1) := by decide +kernel
theorem d_law_1144 : decode code 1144 = .ok (.iload_n 3, 1) := by decide +kernel
theorem d_law_1145 : decode code 1145 = .ok (.iconst 2, 1) := by decide +kernel
theorem d_law_1146 : decode code 1146 = .ok (.iadd, 1) := by decide +kernel
theorem d_law_1147 : decode code 1147 = .ok (.iaload, 1) := by decide +kernel
theorem d_law_1148 : decode code 1148 = .ok (.aload_n 0, 1) := by decide +kernel
theorem d_law_1149 : decode code 1149 = .ok (.iload_n 3, 1) := by decide +kernel
theorem d_law_1150 : decode code 1150 = .ok (.iconst 3, 1) := by decide +kernel
theorem d_law_1151 : decode code 1151 = .ok (.iadd, 1) := by decide +kernel
theorem d_law_1152 : decode code 1152 = .ok (.iaload, 1) := by decide +kernel
theorem d_law_1153 : decode code 1153 = .ok (.aload_n 0, 1) := by decide +kernel
theorem d_law_1154 : decode code 1154 = .ok (.iload_n 3, 1) := by decide +kernel
theorem d_law_1155 : decode code 1155 = .ok (.iconst 4, 1) := by decide +kernel
theorem d_law_1156 : decode code 1156 = .ok (.iadd, 1) := by decide +kernel
theorem d_law_1157 : decode code 1157 = .ok (.iaload, 1) := by decide +kernel
theorem d_law_1158 : decode code 1158 = .ok (.invokevirtual 130, 3) := by decide +kernel
theorem d_law_1161 : decode code 1161 = .ok (.aload_n 2, 1) := by decide +kernel
theorem d_law_1162 : decode code 1162 = .ok (.aload_n 0, 1) := by decide +kernel
theorem d_law_1163 : decode code 1163 = .ok (.iload_n 3, 1) := by decide +kernel
theorem d_law_1164 : decode code 1164 = .ok (.iconst 1, 1) := by decide +kernel
theorem d_law_1165 : decode code 1165 = .ok (.iadd, 1) := by decide +kernel
theorem d_law_1166 : decode code 1166 = .ok (.iaload, 1) := by decide +kernel
theorem d_law_1167 : decode code 1167 = .ok (.aload_n 0, 1) := by decide +kernel
theorem d_law_1168 : decode code 1168 = .ok (.iload_n 3, 1) := by decide +kernel
theorem d_law_1169 : decode code 1169 = .ok (.iconst 2, 1) := by decide +kernel
theorem d_law_1170 : decode code 1170 = .ok (.iadd, 1) := by decide +kernel
theorem d_law_1171 : decode code 1171 = .ok (.iaload, 1) := by decide +kernel
theorem d_law_1172 : decode code 1172 = .ok (.aload_n 0, 1) := by decide +kernel
theorem d_law_1173 : decode code 1173 = .ok (.iload_n 3, 1) := by decide +kernel
theorem d_law_1174 : decode code 1174 = .ok (.iconst 3, 1) := by decide +kernel
theorem d_law_1175 : decode code 1175 = .ok (.iadd, 1) := by decide +kernel
theorem d_law_1176 : decode code 1176 = .ok (.iaload, 1) := by decide +kernel
theorem d_law_1177 : decode code 1177 = .ok (.aload_n 0, 1) := by decide +kernel
theorem d_law_1178 : decode code 1178 = .ok (.iload_n 3, 1) := by decide +kernel
theorem d_law_1179 : decode code 1179 = .ok (.iconst 4, 1) := by decide +kernel
theorem d_law_1180 : decode code 1180 = .ok (.iadd, 1) := by decide +kernel
theorem d_law_1181 : decode code 1181 = .ok (.iaload, 1) := by decide +kernel
theorem d_law_1182 : decode code 1182 = .ok (.invokevirtual 134, 3) := by decide +kernel
theorem d_law_1185 : decode code 1185 = .ok (.if_icmp .eq 156, 3) := by decide +kernel
theorem d_law_1188 : decode code 1188 = .ok (.iconst 0, 1) := by decide +kernel
theorem d_law_1189 : decode code 1189 = .ok (.ireturn, 1) := by decide +kernel
theorem d_law_1190 : decode code 1190 = .ok (.aload_n 1, 1) := by decide +kernel
theorem d_law_1191 : decode code 1191 = .ok (.aload_n 0, 1) := by decide +kernel
theorem d_law_1192 : decode code 1192 = .ok (.iload_n 3, 1) := by decide +kernel
theorem d_law_1193 : decode code 1193 = .ok (.iconst 1, 1) := by decide +kernel
theorem d_law_1194 : decode code 1194 = .ok (.iadd, 1) := by decide +kernel
theorem d_law_1195 : decode code 1195 = .ok (.iaload, 1) := by decide +kernel
theorem d_law_1196 : decode code 1196 = .ok (.invokevirtual 135, 3) := by decide +kernel
theorem d_law_1199 : decode code 1199 = .ok (.aload_n 2, 1) := by decide +kernel
theorem d_law_1200 : decode code 1200 = .ok (.aload_n 0, 1) := by decide +kernel
theorem d_law_1201 : decode code 1201 = .ok (.iload_n 3, 1) := by decide +kernel
theorem d_law_1202 : decode code 1202 = .ok (.iconst 1, 1) := by decide +kernel
theorem d_law_1203 : decode code 1203 = .ok (.iadd, 1) := by decide +kernel
theorem d_law_1204 : decode code 1204 = .ok (.iaload, 1) := by decide +kernel
theorem d_law_1205 : decode code 1205 = .ok (.invokevirtual 138, 3) := by decide +kernel
theorem d_law_1208 : decode code 1208 = .ok (.if_icmp .eq 133, 3) := by decide +kernel
theorem d_law_1211 : decode code 1211 = .ok (.iconst 0, 1) := by decide +kernel
theorem d_law_1212 : decode code 1212 = .ok (.ireturn, 1) := by decide +kernel
theorem d_law_1213 : decode code 1213 = .ok (.aload_n 1, 1) := by decide +kernel
theorem d_law_1214 : decode code 1214 = .ok (.aload_n 0, 1) := by decide +kernel
theorem d_law_1215 : decode code 1215 = .ok (.iload_n 3, 1) := by decide +kernel
theorem d_law_1216 : decode code 1216 = .ok (.iconst 1, 1) := by decide +kernel
theorem d_law_1217 : decode code 1217 = .ok (.iadd, 1) := by decide +kernel
theorem d_law_1218 : decode code 1218 = .ok (.iaload, 1) := by decide +kernel
theorem d_law_1219 : decode code 1219 = .ok (.aload_n 0, 1) := by decide +kernel
theorem d_law_1220 : decode code 1220 = .ok (.iload_n 3, 1) := by decide +kernel
theorem d_law_1221 : decode code 1221 = .ok (.iconst 2, 1) := by decide +kernel
theorem d_law_1222 : decode code 1222 = .ok (.iadd, 1) := by decide +kernel
theorem d_law_1223 : decode code 1223 = .ok (.iaload, 1) := by decide +kernel
theorem d_law_1224 : decode code 1224 = .ok (.invokevirtual 139, 3) := by decide +kernel
theorem d_law_1227 : decode code 1227 = .ok (.aload_n 2, 1) := by decide +kernel
theorem d_law_1228 : decode code 1228 = .ok (.aload_n 0, 1) := by decide +kernel
theorem d_law_1229 : decode code 1229 = .ok (.iload_n 3, 1) := by decide +kernel
theorem d_law_1230 : decode code 1230 = .ok (.iconst 1, 1) := by decide +kernel
theorem d_law_1231 : decode code 1231 = .ok (.iadd, 1) := by decide +kernel
theorem d_law_1232 : decode code 1232 = .ok (.iaload, 1) := by decide +kernel
theorem d_law_1233 : decode code 1233 = .ok (.aload_n 0, 1) := by decide +kernel
theorem d_law_1234 : decode code 1234 = .ok (.iload_n 3, 1) := by decide +kernel
theorem d_law_1235 : decode code 1235 = .ok (.iconst 2, 1) := by decide +kernel
theorem d_law_1236 : decode code 1236 = .ok (.iadd, 1) := by decide +kernel
theorem d_law_1237 : decode code 1237 = .ok (.iaload, 1) := by decide +kernel
theorem d_law_1238 : decode code 1238 = .ok (.invokevirtual 142, 3) := by decide +kernel
theorem d_law_1241 : decode code 1241 = .ok (.if_icmp .eq 100, 3) := by decide +kernel
theorem d_law_1244 : decode code 1244 = .ok (.iconst 0, 1) := by decide +kernel
theorem d_law_1245 : decode code 1245 = .ok (.ireturn, 1) := by decide +kernel
theorem d_law_1246 : decode code 1246 = .ok (.aload_n 1, 1) := by decide +kernel
theorem d_law_1247 : decode code 1247 = .ok (.aload_n 0, 1) := by decide +kernel
theorem d_law_1248 : decode code 1248 = .ok (.iload_n 3, 1) := by decide +kernel
theorem d_law_1249 : decode code 1249 = .ok (.iconst 1, 1) := by decide +kernel
theorem d_law_1250 : decode code 1250 = .ok (.iadd, 1) := by decide +kernel
theorem d_law_1251 : decode code 1251 = .ok (.iaload, 1) := by decide +kernel
theorem d_law_1252 : decode code 1252 = .ok (.invokevirtual 143, 3) := by decide +kernel
theorem d_law_1255 : decode code 1255 = .ok (.aload_n 2, 1) := by decide +kernel
theorem d_law_1256 : decode code 1256 = .ok (.aload_n 0, 1) := by decide +kernel
theorem d_law_1257 : decode code 1257 = .ok (.iload_n 3, 1) := by decide +kernel
theorem d_law_1258 : decode code 1258 = .ok (.iconst 1, 1) := by decide +kernel
theorem d_law_1259 : decode code 1259 = .ok (.iadd, 1) := by decide +kernel
theorem d_law_1260 : decode code 1260 = .ok (.iaload, 1) := by decide +kernel
theorem d_law_1261 : decode code 1261 = .ok (.invokevirtual 146, 3) := by decide +kernel
theorem d_law_1264 : decode code 1264 = .ok (.if_icmp .eq 77, 3) := by decide +kernel
theorem d_law_1267 : decode code 1267 = .ok (.iconst 0, 1) := by decide +kernel
theorem d_law_1268 : decode code 1268 = .ok (.ireturn, 1) := by decide +kernel
theorem d_law_1269 : decode code 1269 = .ok (.aload_n 1, 1) := by decide +kernel
theorem d_law_1270 : decode code 1270 = .ok (.invokevirtual 147, 3) := by decide +kernel
theorem d_law_1273 : decode code 1273 = .ok (.aload_n 2, 1) := by decide +kernel
theorem d_law_1274 : decode code 1274 = .ok (.invokevirtual 150, 3) := by decide +kernel
theorem d_law_1277 : decode code 1277 = .ok (.if_icmp .eq 64, 3) := by decide +kernel
theorem d_law_1280 : decode code 1280 = .ok (.iconst 0, 1) := by decide +kernel
theorem d_law_1281 : decode code 1281 = .ok (.ireturn, 1) := by decide +kernel
theorem d_law_1282 : decode code 1282 = .ok (.aload_n 1, 1) := by decide +kernel
theorem d_law_1283 : decode code 1283 = .ok (.invokevirtual 151, 3) := by decide +kernel
theorem d_law_1286 : decode code 1286 = .ok (.aload_n 2, 1) := by decide +kernel
theorem d_law_1287 : decode code 1287 = .ok (.invokevirtual 155, 3) := by decide +kernel
theorem d_law_1290 : decode code 1290 = .ok (.if_icmp .eq 51, 3) := by decide +kernel
theorem d_law_1293 : decode code 1293 = .ok (.iconst 0, 1) := by decide +kernel
theorem d_law_1294 : decode code 1294 = .ok (.ireturn, 1) := by decide +kernel
theorem d_law_1295 : decode code 1295 = .ok (.aload_n 1, 1) := by decide +kernel
theorem d_law_1296 : decode code 1296 = .ok (.aload_n 0, 1) := by decide +kernel
theorem d_law_1297 : decode code 1297 = .ok (.iload_n 3, 1) := by decide +kernel
theorem d_law_1298 : decode code 1298 = .ok (.iconst 1, 1) := by decide +kernel
theorem d_law_1299 : decode code 1299 = .ok (.iadd, 1) := by decide +kernel
theorem d_law_1300 : decode code 1300 = .ok (.iaload, 1) := by decide +kernel
theorem d_law_1301 : decode code 1301 = .ok (.invokevirtual 156, 3) := by decide +kernel
theorem d_law_1304 : decode code 1304 = .ok (.aload_n 2, 1) := by decide +kernel
theorem d_law_1305 : decode code 1305 = .ok (.aload_n 0, 1) := by decide +kernel
theorem d_law_1306 : decode code 1306 = .ok (.iload_n 3, 1) := by decide +kernel
theorem d_law_1307 : decode code 1307 = .ok (.iconst 1, 1) := by decide +kernel
theorem d_law_1308 : decode code 1308 = .ok (.iadd, 1) := by decide +kernel
theorem d_law_1309 : decode code 1309 = .ok (.iaload, 1) := by decide +kernel
theorem d_law_1310 : decode code 1310 = .ok (.invokevirtual 159, 3) := by decide +kernel
theorem d_law_1313 : decode code 1313 = .ok (.if_icmp .eq 28, 3) := by decide +kernel
theorem d_law_1316 : decode code 1316 = .ok (.iconst 0, 1) := by decide +kernel
theorem d_law_1317 : decode code 1317 = .ok (.ireturn, 1) := by decide +kernel
theorem d_law_1318 : decode code 1318 = .ok (.aload_n 1, 1) := by decide +kernel
theorem d_law_1319 : decode code 1319 = .ok (.aload_n 0, 1) := by decide +kernel
theorem d_law_1320 : decode code 1320 = .ok (.iload_n 3, 1) := by decide +kernel
theorem d_law_1321 : decode code 1321 = .ok (.iconst 1, 1) := by decide +kernel
theorem d_law_1322 : decode code 1322 = .ok (.iadd, 1) := by decide +kernel
theorem d_law_1323 : decode code 1323 = .ok (.iaload, 1) := by decide +kernel
theorem d_law_1324 : decode code 1324 = .ok (.invokevirtual 160, 3) := by decide +kernel
theorem d_law_1327 : decode code 1327 = .ok (.aload_n 2, 1) := by decide +kernel
theorem d_law_1328 : decode code 1328 = .ok (.aload_n 0, 1) := by decide +kernel
theorem d_law_1329 : decode code 1329 = .ok (.iload_n 3, 1) := by decide +kernel
theorem d_law_1330 : decode code 1330 = .ok (.iconst 1, 1) := by decide +kernel
theorem d_law_1331 : decode code 1331 = .ok (.iadd, 1) := by decide +kernel
theorem d_law_1332 : decode code 1332 = .ok (.iaload, 1) := by decide +kernel
theorem d_law_1333 : decode code 1333 = .ok (.invokevirtual 163, 3) := by decide +kernel
theorem d_law_1336 : decode code 1336 = .ok (.if_icmp .eq 5, 3) := by decide +kernel
theorem d_law_1339 : decode code 1339 = .ok (.iconst 0, 1) := by decide +kernel
theorem d_law_1340 : decode code 1340 = .ok (.ireturn, 1) := by decide +kernel
theorem d_law_1341 : decode code 1341 = .ok (.iinc 3 7, 3) := by decide +kernel
theorem d_law_1344 : decode code 1344 = .ok (.goto (-1326), 3) := by decide +kernel
theorem d_law_1347 : decode code 1347 = .ok (.iconst 1, 1) := by decide +kernel
theorem d_law_1348 : decode code 1348 = .ok (.ireturn, 1) := by decide +kernel
set_option maxRecDepth 100000 in
theorem lw_w0 : (Jvm.Cond.methodLink "WolfKnightLaw" (13 : Nat) ({ cls := "WolfKnight", name := "place", desc := "(I)Z" } : Jvm.MethodName)) ∈ wk_gt := wk_tbl (List.mem_append_right _ (List.mem_append_left _ (List.mem_of_getElem? (i := 50) (by decide +kernel)))) rfl
set_option maxRecDepth 100000 in
theorem lw_w1 : (Jvm.Cond.selects "WolfKnight" ({ cls := "WolfKnight", name := "place", desc := "(I)Z" } : Jvm.MethodName) ({ cls := "WolfKnight", name := "place", desc := "(I)Z" } : Jvm.MethodName)) ∈ wk_gt := wk_tbl (List.mem_append_right _ (List.mem_append_left _ (List.mem_of_getElem? (i := 52) (by decide +kernel)))) rfl
set_option maxRecDepth 100000 in
theorem lw_w2 : (Jvm.Cond.methodLink "WolfKnightLaw" (17 : Nat) ({ cls := "WolfKnightModel", name := "place", desc := "(I)Z" } : Jvm.MethodName)) ∈ wk_gt := wk_tbl (List.mem_append_right _ (List.mem_append_right _ (List.mem_append_right _ (List.mem_append_right _ (List.mem_append_left _ (List.mem_of_getElem? (i := 224) (by decide +kernel))))))) rfl
set_option maxRecDepth 100000 in
theorem lw_w3 : (Jvm.Cond.selects "WolfKnightModel" ({ cls := "WolfKnightModel", name := "place", desc := "(I)Z" } : Jvm.MethodName) ({ cls := "WolfKnightModel", name := "place", desc := "(I)Z" } : Jvm.MethodName)) ∈ wk_gt := wk_tbl (List.mem_append_right _ (List.mem_append_right _ (List.mem_append_right _ (List.mem_append_right _ (List.mem_append_left _ (List.mem_of_getElem? (i := 226) (by decide +kernel))))))) rfl
def lw_op_0 (Inv : wk_St → wk_St → Prop) : Prop := ∀ (a0 : Int32) σC σM, Inv σC σM → ∃ (r : Int32) (σC2 σM2 : wk_St), wk_T wk_shC 200 0 [.ref 0, .int a0] σC (some (.int r), σC2) ∧ wk_T wk_shM 200 52 [.ref 0, .int a0] σM (some (.int r), σM2) ∧ Inv σC2 σM2
set_option maxHeartbeats 4000000 in
set_option maxRecDepth 100000 in
theorem lw_case_0 {Inv : wk_St → wk_St → Prop} (hop : lw_op_0 Inv) {p : Program} {l : Launch} {e : Env} {s : State} {m : MethodId} {below : List Frame} {meth : Method} {c : Code} {b L : Nat} {xs : Nat → Int32} (C0 : lw_At p s m meth c b L xs) {G : lw_G} (hg : lw_Ok G s) {i : Nat} {xi : Int32} (hi : xi = nI i) (hiL : i + 7 ≤ L) (hL : L ≤ 3584) {H : Heap} {locs : List Loc} {ls : Array Slot} {σC σM : wk_St} (hI : Inv σC σM)
    (hPC : va_P G.1 wk_cls (lw_wC G σC) H) (hPM : va_P G.1 wk_cls (lw_wM G σM) H) (hS : va_S (fun q : Nat => s.heap.size ≤ q) s.heap H locs) (hl : lv_has ls 4 [(0, .ref b), (1, .ref (G.2.1 0)), (2, .ref (G.2.2.1 0)), (3, .int xi)])
    (hend : ∀ (σC2 σM2 : wk_St), Inv σC2 σM2 → ∀ (H2 : Heap) (locs2 : List Loc), va_P G.1 wk_cls (lw_wC G σC2) H2 → va_P G.1 wk_cls (lw_wM G σM2) H2 → va_S (fun q : Nat => s.heap.size ≤ q) s.heap H2 locs2 → ∀ ls2 : Array Slot, lv_has ls2 4 [(0, .ref b), (1, .ref (G.2.1 0)), (2, .ref (G.2.2.1 0)), (3, .int xi)] → W p l e room_1 s m #[Value.ref b] below meth c H2 locs2 600000 7302250 (lw_Z below #[Value.ref b] s) (F0 m 1341 ls2 [])) :
    W p l e room_1 s m #[Value.ref b] below meth c H locs 600000 7302250 (lw_Z below #[Value.ref b] s) (F0 m 188 ls []) := by
  obtain ⟨hx, hb, hr, hml, hown, hts, hX, hbl, hlocks, hgv⟩ := id C0
  have hbA : ¬ s.heap.size ≤ b := Nat.not_le.mpr hbl
  have hin : ∀ k : Nat, k < 7 → vp_in (xi + nI k) L := fun k hk => by rw [hi, nI_add]; exact vp_in_nI (by omega) (by omega)
  have hDC := hg.2.2.1
  have hDM := hg.2.2.2.1
  have hA0C := hg.2.2.2.2.2.1
  have hA0M := hg.2.2.2.2.2.2.1
  have hapart := hg.2.2.2.2.2.2.2.1
  refine lv_aload_n hx hb d_law_188 rfl (lv_at hl 1 rfl) ?_
  refine lv_aload_n hx hb d_law_189 rfl (lv_at hl 0 rfl) ?_
  refine lv_iload_n hx hb d_law_190 rfl (lv_at hl 3 rfl) ?_
  refine lv_iconst (v := 1) hx hb d_law_191 (by decide) ?_
  refine lv_iadd hx hb d_law_192 ?_
  refine va_sld hx hb hX hbl hbA hS (hin 1 (by decide)) d_law_193 ?_
  obtain ⟨r, σC2, σM2, hTC, hTM, hI2⟩ := hop (xs (xi + (1 : Int32)).toNatClampNeg) _ _ hI
  refine lw_call C0 hg.1 hg.2.2.2.2.1 hg.2.2.2.2.2.2.2.2.2 hg.2.2.2.2.2.2.2.2.1.1 hA0C (f := 0) (as := [.int (xs (xi + (1 : Int32)).toNatClampNeg)]) (rest := []) (by decide) rfl (Nat.le_of_ble_eq_true rfl) hTC hPC (hDC _) hS lw_w0 lw_w1 rfl (by decide +kernel) (by decide) rfl hl.1 (Nat.le_of_ble_eq_true rfl) rfl d_law_194 (fun H1 locs1 hPC hk1 hS => ?_)
  have hPM := hPM.kept (fun k q hq => hk1 q.1 (hPM k q hq).lt (fun hh => hapart _ hh ((hDM _).2 k q hq)))
  refine lv_aload_n hx hb d_law_197 rfl (lv_at hl 2 rfl) ?_
  refine lv_aload_n hx hb d_law_198 rfl (lv_at hl 0 rfl) ?_
  refine lv_iload_n hx hb d_law_199 rfl (lv_at hl 3 rfl) ?_
  refine lv_iconst (v := 1) hx hb d_law_200 (by decide) ?_
  refine lv_iadd hx hb d_law_201 ?_
  refine va_sld hx hb hX hbl hbA hS (hin 1 (by decide)) d_law_202 ?_
  refine lw_call C0 hg.2.1 hg.2.2.2.2.1 hg.2.2.2.2.2.2.2.2.2 hg.2.2.2.2.2.2.2.2.1.2 hA0M (f := 52) (as := [.int (xs (xi + (1 : Int32)).toNatClampNeg)]) (rest := [.int r]) (by decide) rfl (Nat.le_of_ble_eq_true rfl) hTM hPM (hDM _) hS lw_w2 lw_w3 rfl (by decide +kernel) (by decide) rfl hl.1 (Nat.le_of_ble_eq_true rfl) rfl d_law_203 (fun H1 locs1 hPM hk1 hS => ?_)
  have hPC := hPC.kept (fun k q hq => hk1 q.1 (hPC k q hq).lt (fun hh => hapart _ ((hDC _).2 k q hq) hh))
  refine lv_icmp_eq (tgt := 1341) hx hb d_law_206 (by decide) (fun h0 => ?_) (fun h0 => absurd rfl h0)
  exact hend _ _ hI2 _ _ hPC hPM hS ls hl
set_option maxRecDepth 100000 in
theorem lw_w4 : (Jvm.Cond.methodLink "WolfKnightLaw" (18 : Nat) ({ cls := "WolfKnight", name := "next", desc := "(IIZ)Z" } : Jvm.MethodName)) ∈ wk_gt := wk_tbl (List.mem_append_right _ (List.mem_append_left _ (List.mem_of_getElem? (i := 76) (by decide +kernel)))) rfl
set_option maxRecDepth 100000 in
theorem lw_w5 : (Jvm.Cond.selects "WolfKnight" ({ cls := "WolfKnight", name := "next", desc := "(IIZ)Z" } : Jvm.MethodName) ({ cls := "WolfKnight", name := "next", desc := "(IIZ)Z" } : Jvm.MethodName)) ∈ wk_gt := wk_tbl (List.mem_append_right _ (List.mem_append_left _ (List.mem_of_getElem? (i := 78) (by decide +kernel)))) rfl
set_option maxRecDepth 100000 in
theorem lw_w6 : (Jvm.Cond.methodLink "WolfKnightLaw" (22 : Nat) ({ cls := "WolfKnightModel", name := "next", desc := "(IIZ)Z" } : Jvm.MethodName)) ∈ wk_gt := wk_tbl (List.mem_append_right _ (List.mem_append_right _ (List.mem_append_right _ (List.mem_append_right _ (List.mem_append_left _ (List.mem_of_getElem? (i := 231) (by decide +kernel))))))) rfl
set_option maxRecDepth 100000 in
theorem lw_w7 : (Jvm.Cond.selects "WolfKnightModel" ({ cls := "WolfKnightModel", name := "next", desc := "(IIZ)Z" } : Jvm.MethodName) ({ cls := "WolfKnightModel", name := "next", desc := "(IIZ)Z" } : Jvm.MethodName)) ∈ wk_gt := wk_tbl (List.mem_append_right _ (List.mem_append_right _ (List.mem_append_right _ (List.mem_append_right _ (List.mem_append_left _ (List.mem_of_getElem? (i := 233) (by decide +kernel))))))) rfl
def lw_op_1 (Inv : wk_St → wk_St → Prop) : Prop := ∀ (a0 : Int32) (a1 : Int32) (a2 : Int32) σC σM, (a2 = 0 ∨ a2 = 1) → Inv σC σM → ∃ (r : Int32) (σC2 σM2 : wk_St), wk_T wk_shC 200 1 [.ref 0, .int a0, .int a1, .int a2] σC (some (.int r), σC2) ∧ wk_T wk_shM 200 53 [.ref 0, .int a0, .int a1, .int a2] σM (some (.int r), σM2) ∧ Inv σC2 σM2
set_option maxHeartbeats 4000000 in
set_option maxRecDepth 100000 in
theorem lw_case_1 {Inv : wk_St → wk_St → Prop} (hop : lw_op_1 Inv) {p : Program} {l : Launch} {e : Env} {s : State} {m : MethodId} {below : List Frame} {meth : Method} {c : Code} {b L : Nat} {xs : Nat → Int32} (C0 : lw_At p s m meth c b L xs) {G : lw_G} (hg : lw_Ok G s) {i : Nat} {xi : Int32} (hi : xi = nI i) (hiL : i + 7 ≤ L) (hL : L ≤ 3584) {H : Heap} {locs : List Loc} {ls : Array Slot} {σC σM : wk_St} (hI : Inv σC σM)
    (hPC : va_P G.1 wk_cls (lw_wC G σC) H) (hPM : va_P G.1 wk_cls (lw_wM G σM) H) (hS : va_S (fun q : Nat => s.heap.size ≤ q) s.heap H locs) (hl : lv_has ls 4 [(0, .ref b), (1, .ref (G.2.1 0)), (2, .ref (G.2.2.1 0)), (3, .int xi)])
    (hend : ∀ (σC2 σM2 : wk_St), Inv σC2 σM2 → ∀ (H2 : Heap) (locs2 : List Loc), va_P G.1 wk_cls (lw_wC G σC2) H2 → va_P G.1 wk_cls (lw_wM G σM2) H2 → va_S (fun q : Nat => s.heap.size ≤ q) s.heap H2 locs2 → ∀ ls2 : Array Slot, lv_has ls2 4 [(0, .ref b), (1, .ref (G.2.1 0)), (2, .ref (G.2.2.1 0)), (3, .int xi)] → W p l e room_1 s m #[Value.ref b] below meth c H2 locs2 600000 7302250 (lw_Z below #[Value.ref b] s) (F0 m 1341 ls2 [])) :
    W p l e room_1 s m #[Value.ref b] below meth c H locs 600000 7302250 (lw_Z below #[Value.ref b] s) (F0 m 211 ls []) := by
  obtain ⟨hx, hb, hr, hml, hown, hts, hX, hbl, hlocks, hgv⟩ := id C0
  have hbA : ¬ s.heap.size ≤ b := Nat.not_le.mpr hbl
  have hin : ∀ k : Nat, k < 7 → vp_in (xi + nI k) L := fun k hk => by rw [hi, nI_add]; exact vp_in_nI (by omega) (by omega)
  have hDC := hg.2.2.1
  have hDM := hg.2.2.2.1
  have hA0C := hg.2.2.2.2.2.1
  have hA0M := hg.2.2.2.2.2.2.1
  have hapart := hg.2.2.2.2.2.2.2.1
  refine lv_aload_n hx hb d_law_211 rfl (lv_at hl 1 rfl) ?_
  refine lv_aload_n hx hb d_law_212 rfl (lv_at hl 0 rfl) ?_
  refine lv_iload_n hx hb d_law_213 rfl (lv_at hl 3 rfl) ?_
  refine lv_iconst (v := 1) hx hb d_law_214 (by decide) ?_
  refine lv_iadd hx hb d_law_215 ?_
  refine va_sld hx hb hX hbl hbA hS (hin 1 (by decide)) d_law_216 ?_
  refine lv_aload_n hx hb d_law_217 rfl (lv_at hl 0 rfl) ?_
  refine lv_iload_n hx hb d_law_218 rfl (lv_at hl 3 rfl) ?_
  refine lv_iconst (v := 2) hx hb d_law_219 (by decide) ?_
  refine lv_iadd hx hb d_law_220 ?_
  refine va_sld hx hb hX hbl hbA hS (hin 2 (by decide)) d_law_221 ?_
  refine lv_aload_n hx hb d_law_222 rfl (lv_at hl 0 rfl) ?_
  refine lv_iload_n hx hb d_law_223 rfl (lv_at hl 3 rfl) ?_
  refine lv_iconst (v := 3) hx hb d_law_224 (by decide) ?_
  refine lv_iadd hx hb d_law_225 ?_
  refine va_sld hx hb hX hbl hbA hS (hin 3 (by decide)) d_law_226 ?_
  refine lv_if_eq (tgt := 234) hx hb d_law_227 (by decide) (fun hz0 => ?_) (fun hz0 => ?_)
  · skip
    refine lv_iconst (v := 0) hx hb d_law_234 (by decide) ?_
    obtain ⟨r, σC2, σM2, hTC, hTM, hI2⟩ := hop (xs (xi + (1 : Int32)).toNatClampNeg) (xs (xi + (2 : Int32)).toNatClampNeg) (0 : Int32) _ _ (by decide) hI
    refine lw_call C0 hg.1 hg.2.2.2.2.1 hg.2.2.2.2.2.2.2.2.2 hg.2.2.2.2.2.2.2.2.1.1 hA0C (f := 1) (as := [.int (xs (xi + (1 : Int32)).toNatClampNeg), .int (xs (xi + (2 : Int32)).toNatClampNeg), .int (0 : Int32)]) (rest := []) (by decide) rfl (Nat.le_of_ble_eq_true rfl) hTC hPC (hDC _) hS lw_w4 lw_w5 rfl (by decide +kernel) (by decide) rfl hl.1 (Nat.le_of_ble_eq_true rfl) rfl d_law_235 (fun H1 locs1 hPC hk1 hS => ?_)
    have hPM := hPM.kept (fun k q hq => hk1 q.1 (hPM k q hq).lt (fun hh => hapart _ hh ((hDM _).2 k q hq)))
    refine lv_aload_n hx hb d_law_238 rfl (lv_at hl 2 rfl) ?_
    refine lv_aload_n hx hb d_law_239 rfl (lv_at hl 0 rfl) ?_
    refine lv_iload_n hx hb d_law_240 rfl (lv_at hl 3 rfl) ?_
    refine lv_iconst (v := 1) hx hb d_law_241 (by decide) ?_
    refine lv_iadd hx hb d_law_242 ?_
    refine va_sld hx hb hX hbl hbA hS (hin 1 (by decide)) d_law_243 ?_
    refine lv_aload_n hx hb d_law_244 rfl (lv_at hl 0 rfl) ?_
    refine lv_iload_n hx hb d_law_245 rfl (lv_at hl 3 rfl) ?_
    refine lv_iconst (v := 2) hx hb d_law_246 (by decide) ?_
    refine lv_iadd hx hb d_law_247 ?_
    refine va_sld hx hb hX hbl hbA hS (hin 2 (by decide)) d_law_248 ?_
    refine lv_aload_n hx hb d_law_249 rfl (lv_at hl 0 rfl) ?_
    refine lv_iload_n hx hb d_law_250 rfl (lv_at hl 3 rfl) ?_
    refine lv_iconst (v := 3) hx hb d_law_251 (by decide) ?_
    refine lv_iadd hx hb d_law_252 ?_
    refine va_sld hx hb hX hbl hbA hS (hin 3 (by decide)) d_law_253 ?_
    refine lv_if_eq (tgt := 261) hx hb d_law_254 (by decide) (fun hz2 => ?_) (fun hz2 => ?_)
    · skip
      refine lv_iconst (v := 0) hx hb d_law_261 (by decide) ?_
      refine lw_call C0 hg.2.1 hg.2.2.2.2.1 hg.2.2.2.2.2.2.2.2.2 hg.2.2.2.2.2.2.2.2.1.2 hA0M (f := 53) (as := [.int (xs (xi + (1 : Int32)).toNatClampNeg), .int (xs (xi + (2 : Int32)).toNatClampNeg), .int (0 : Int32)]) (rest := [.int r]) (by decide) rfl (Nat.le_of_ble_eq_true rfl) hTM hPM (hDM _) hS lw_w6 lw_w7 rfl (by decide +kernel) (by decide) rfl hl.1 (Nat.le_of_ble_eq_true rfl) rfl d_law_262 (fun H1 locs1 hPM hk1 hS => ?_)
      have hPC := hPC.kept (fun k q hq => hk1 q.1 (hPC k q hq).lt (fun hh => hapart _ ((hDC _).2 k q hq) hh))
      refine lv_icmp_eq (tgt := 1341) hx hb d_law_265 (by decide) (fun h0 => ?_) (fun h0 => absurd rfl h0)
      exact hend _ _ hI2 _ _ hPC hPM hS ls hl
    · skip
      exact absurd hz0 hz2
  · skip
    refine lv_iconst (v := 1) hx hb d_law_230 (by decide) ?_
    refine lv_goto (tgt := 235) hx hb d_law_231 (by decide) ?_
    obtain ⟨r, σC2, σM2, hTC, hTM, hI2⟩ := hop (xs (xi + (1 : Int32)).toNatClampNeg) (xs (xi + (2 : Int32)).toNatClampNeg) (1 : Int32) _ _ (by decide) hI
    refine lw_call C0 hg.1 hg.2.2.2.2.1 hg.2.2.2.2.2.2.2.2.2 hg.2.2.2.2.2.2.2.2.1.1 hA0C (f := 1) (as := [.int (xs (xi + (1 : Int32)).toNatClampNeg), .int (xs (xi + (2 : Int32)).toNatClampNeg), .int (1 : Int32)]) (rest := []) (by decide) rfl (Nat.le_of_ble_eq_true rfl) hTC hPC (hDC _) hS lw_w4 lw_w5 rfl (by decide +kernel) (by decide) rfl hl.1 (Nat.le_of_ble_eq_true rfl) rfl d_law_235 (fun H1 locs1 hPC hk1 hS => ?_)
    have hPM := hPM.kept (fun k q hq => hk1 q.1 (hPM k q hq).lt (fun hh => hapart _ hh ((hDM _).2 k q hq)))
    refine lv_aload_n hx hb d_law_238 rfl (lv_at hl 2 rfl) ?_
    refine lv_aload_n hx hb d_law_239 rfl (lv_at hl 0 rfl) ?_
    refine lv_iload_n hx hb d_law_240 rfl (lv_at hl 3 rfl) ?_
    refine lv_iconst (v := 1) hx hb d_law_241 (by decide) ?_
    refine lv_iadd hx hb d_law_242 ?_
    refine va_sld hx hb hX hbl hbA hS (hin 1 (by decide)) d_law_243 ?_
    refine lv_aload_n hx hb d_law_244 rfl (lv_at hl 0 rfl) ?_
    refine lv_iload_n hx hb d_law_245 rfl (lv_at hl 3 rfl) ?_
    refine lv_iconst (v := 2) hx hb d_law_246 (by decide) ?_
    refine lv_iadd hx hb d_law_247 ?_
    refine va_sld hx hb hX hbl hbA hS (hin 2 (by decide)) d_law_248 ?_
    refine lv_aload_n hx hb d_law_249 rfl (lv_at hl 0 rfl) ?_
    refine lv_iload_n hx hb d_law_250 rfl (lv_at hl 3 rfl) ?_
    refine lv_iconst (v := 3) hx hb d_law_251 (by decide) ?_
    refine lv_iadd hx hb d_law_252 ?_
    refine va_sld hx hb hX hbl hbA hS (hin 3 (by decide)) d_law_253 ?_
    refine lv_if_eq (tgt := 261) hx hb d_law_254 (by decide) (fun hz2 => ?_) (fun hz2 => ?_)
    · skip
      exact absurd hz2 hz0
    · skip
      refine lv_iconst (v := 1) hx hb d_law_257 (by decide) ?_
      refine lv_goto (tgt := 262) hx hb d_law_258 (by decide) ?_
      refine lw_call C0 hg.2.1 hg.2.2.2.2.1 hg.2.2.2.2.2.2.2.2.2 hg.2.2.2.2.2.2.2.2.1.2 hA0M (f := 53) (as := [.int (xs (xi + (1 : Int32)).toNatClampNeg), .int (xs (xi + (2 : Int32)).toNatClampNeg), .int (1 : Int32)]) (rest := [.int r]) (by decide) rfl (Nat.le_of_ble_eq_true rfl) hTM hPM (hDM _) hS lw_w6 lw_w7 rfl (by decide +kernel) (by decide) rfl hl.1 (Nat.le_of_ble_eq_true rfl) rfl d_law_262 (fun H1 locs1 hPM hk1 hS => ?_)
      have hPC := hPC.kept (fun k q hq => hk1 q.1 (hPC k q hq).lt (fun hh => hapart _ ((hDC _).2 k q hq) hh))
      refine lv_icmp_eq (tgt := 1341) hx hb d_law_265 (by decide) (fun h0 => ?_) (fun h0 => absurd rfl h0)
      exact hend _ _ hI2 _ _ hPC hPM hS ls hl
set_option maxRecDepth 100000 in
theorem lw_w8 : (Jvm.Cond.methodLink "WolfKnightLaw" (23 : Nat) ({ cls := "WolfKnight", name := "knight", desc := "(III)Z" } : Jvm.MethodName)) ∈ wk_gt := wk_tbl (List.mem_append_right _ (List.mem_append_left _ (List.mem_of_getElem? (i := 92) (by decide +kernel)))) rfl
set_option maxRecDepth 100000 in
theorem lw_w9 : (Jvm.Cond.selects "WolfKnight" ({ cls := "WolfKnight", name := "knight", desc := "(III)Z" } : Jvm.MethodName) ({ cls := "WolfKnight", name := "knight", desc := "(III)Z" } : Jvm.MethodName)) ∈ wk_gt := wk_tbl (List.mem_append_right _ (List.mem_append_left _ (List.mem_of_getElem? (i := 94) (by decide +kernel)))) rfl
set_option maxRecDepth 100000 in
theorem lw_w10 : (Jvm.Cond.methodLink "WolfKnightLaw" (27 : Nat) ({ cls := "WolfKnightModel", name := "knight", desc := "(III)Z" } : Jvm.MethodName)) ∈ wk_gt := wk_tbl (List.mem_append_right _ (List.mem_append_right _ (List.mem_append_right _ (List.mem_append_right _ (List.mem_append_right _ (List.mem_append_left _ (List.mem_of_getElem? (i := 2) (by decide +kernel)))))))) rfl
set_option maxRecDepth 100000 in
theorem lw_w11 : (Jvm.Cond.selects "WolfKnightModel" ({ cls := "WolfKnightModel", name := "knight", desc := "(III)Z" } : Jvm.MethodName) ({ cls := "WolfKnightModel", name := "knight", desc := "(III)Z" } : Jvm.MethodName)) ∈ wk_gt := wk_tbl (List.mem_append_right _ (List.mem_append_right _ (List.mem_append_right _ (List.mem_append_right _ (List.mem_append_right _ (List.mem_append_left _ (List.mem_of_getElem? (i := 4) (by decide +kernel)))))))) rfl
def lw_op_2 (Inv : wk_St → wk_St → Prop) : Prop := ∀ (a0 : Int32) (a1 : Int32) (a2 : Int32) σC σM, Inv σC σM → ∃ (r : Int32) (σC2 σM2 : wk_St), wk_T wk_shC 200 2 [.ref 0, .int a0, .int a1, .int a2] σC (some (.int r), σC2) ∧ wk_T wk_shM 200 54 [.ref 0, .int a0, .int a1, .int a2] σM (some (.int r), σM2) ∧ Inv σC2 σM2
set_option maxHeartbeats 4000000 in
set_option maxRecDepth 100000 in
theorem lw_case_2 {Inv : wk_St → wk_St → Prop} (hop : lw_op_2 Inv) {p : Program} {l : Launch} {e : Env} {s : State} {m : MethodId} {below : List Frame} {meth : Method} {c : Code} {b L : Nat} {xs : Nat → Int32} (C0 : lw_At p s m meth c b L xs) {G : lw_G} (hg : lw_Ok G s) {i : Nat} {xi : Int32} (hi : xi = nI i) (hiL : i + 7 ≤ L) (hL : L ≤ 3584) {H : Heap} {locs : List Loc} {ls : Array Slot} {σC σM : wk_St} (hI : Inv σC σM)
    (hPC : va_P G.1 wk_cls (lw_wC G σC) H) (hPM : va_P G.1 wk_cls (lw_wM G σM) H) (hS : va_S (fun q : Nat => s.heap.size ≤ q) s.heap H locs) (hl : lv_has ls 4 [(0, .ref b), (1, .ref (G.2.1 0)), (2, .ref (G.2.2.1 0)), (3, .int xi)])
    (hend : ∀ (σC2 σM2 : wk_St), Inv σC2 σM2 → ∀ (H2 : Heap) (locs2 : List Loc), va_P G.1 wk_cls (lw_wC G σC2) H2 → va_P G.1 wk_cls (lw_wM G σM2) H2 → va_S (fun q : Nat => s.heap.size ≤ q) s.heap H2 locs2 → ∀ ls2 : Array Slot, lv_has ls2 4 [(0, .ref b), (1, .ref (G.2.1 0)), (2, .ref (G.2.2.1 0)), (3, .int xi)] → W p l e room_1 s m #[Value.ref b] below meth c H2 locs2 600000 7302250 (lw_Z below #[Value.ref b] s) (F0 m 1341 ls2 [])) :
    W p l e room_1 s m #[Value.ref b] below meth c H locs 600000 7302250 (lw_Z below #[Value.ref b] s) (F0 m 270 ls []) := by
  obtain ⟨hx, hb, hr, hml, hown, hts, hX, hbl, hlocks, hgv⟩ := id C0
  have hbA : ¬ s.heap.size ≤ b := Nat.not_le.mpr hbl
  have hin : ∀ k : Nat, k < 7 → vp_in (xi + nI k) L := fun k hk => by rw [hi, nI_add]; exact vp_in_nI (by omega) (by omega)
  have hDC := hg.2.2.1
  have hDM := hg.2.2.2.1
  have hA0C := hg.2.2.2.2.2.1
  have hA0M := hg.2.2.2.2.2.2.1
  have hapart := hg.2.2.2.2.2.2.2.1
  refine lv_aload_n hx hb d_law_270 rfl (lv_at hl 1 rfl) ?_
  refine lv_aload_n hx hb d_law_271 rfl (lv_at hl 0 rfl) ?_
  refine lv_iload_n hx hb d_law_272 rfl (lv_at hl 3 rfl) ?_
  refine lv_iconst (v := 1) hx hb d_law_273 (by decide) ?_
  refine lv_iadd hx hb d_law_274 ?_
  refine va_sld hx hb hX hbl hbA hS (hin 1 (by decide)) d_law_275 ?_
  refine lv_aload_n hx hb d_law_276 rfl (lv_at hl 0 rfl) ?_
  refine lv_iload_n hx hb d_law_277 rfl (lv_at hl 3 rfl) ?_
  refine lv_iconst (v := 2) hx hb d_law_278 (by decide) ?_
  refine lv_iadd hx hb d_law_279 ?_
  refine va_sld hx hb hX hbl hbA hS (hin 2 (by decide)) d_law_280 ?_
  refine lv_aload_n hx hb d_law_281 rfl (lv_at hl 0 rfl) ?_
  refine lv_iload_n hx hb d_law_282 rfl (lv_at hl 3 rfl) ?_
  refine lv_iconst (v := 3) hx hb d_law_283 (by decide) ?_
  refine lv_iadd hx hb d_law_284 ?_
  refine va_sld hx hb hX hbl hbA hS (hin 3 (by decide)) d_law_285 ?_
  obtain ⟨r, σC2, σM2, hTC, hTM, hI2⟩ := hop (xs (xi + (1 : Int32)).toNatClampNeg) (xs (xi + (2 : Int32)).toNatClampNeg) (xs (xi + (3 : Int32)).toNatClampNeg) _ _ hI
  refine lw_call C0 hg.1 hg.2.2.2.2.1 hg.2.2.2.2.2.2.2.2.2 hg.2.2.2.2.2.2.2.2.1.1 hA0C (f := 2) (as := [.int (xs (xi + (1 : Int32)).toNatClampNeg), .int (xs (xi + (2 : Int32)).toNatClampNeg), .int (xs (xi + (3 : Int32)).toNatClampNeg)]) (rest := []) (by decide) rfl (Nat.le_of_ble_eq_true rfl) hTC hPC (hDC _) hS lw_w8 lw_w9 rfl (by decide +kernel) (by decide) rfl hl.1 (Nat.le_of_ble_eq_true rfl) rfl d_law_286 (fun H1 locs1 hPC hk1 hS => ?_)
  have hPM := hPM.kept (fun k q hq => hk1 q.1 (hPM k q hq).lt (fun hh => hapart _ hh ((hDM _).2 k q hq)))
  refine lv_aload_n hx hb d_law_289 rfl (lv_at hl 2 rfl) ?_
  refine lv_aload_n hx hb d_law_290 rfl (lv_at hl 0 rfl) ?_
  refine lv_iload_n hx hb d_law_291 rfl (lv_at hl 3 rfl) ?_
  refine lv_iconst (v := 1) hx hb d_law_292 (by decide) ?_
  refine lv_iadd hx hb d_law_293 ?_
  refine va_sld hx hb hX hbl hbA hS (hin 1 (by decide)) d_law_294 ?_
  refine lv_aload_n hx hb d_law_295 rfl (lv_at hl 0 rfl) ?_
  refine lv_iload_n hx hb d_law_296 rfl (lv_at hl 3 rfl) ?_
  refine lv_iconst (v := 2) hx hb d_law_297 (by decide) ?_
  refine lv_iadd hx hb d_law_298 ?_
  refine va_sld hx hb hX hbl hbA hS (hin 2 (by decide)) d_law_299 ?_
  refine lv_aload_n hx hb d_law_300 rfl (lv_at hl 0 rfl) ?_
  refine lv_iload_n hx hb d_law_301 rfl (lv_at hl 3 rfl) ?_
  refine lv_iconst (v := 3) hx hb d_law_302 (by decide) ?_
  refine lv_iadd hx hb d_law_303 ?_
  refine va_sld hx hb hX hbl hbA hS (hin 3 (by decide)) d_law_304 ?_
  refine lw_call C0 hg.2.1 hg.2.2.2.2.1 hg.2.2.2.2.2.2.2.2.2 hg.2.2.2.2.2.2.2.2.1.2 hA0M (f := 54) (as := [.int (xs (xi + (1 : Int32)).toNatClampNeg), .int (xs (xi + (2 : Int32)).toNatClampNeg), .int (xs (xi + (3 : Int32)).toNatClampNeg)]) (rest := [.int r]) (by decide) rfl (Nat.le_of_ble_eq_true rfl) hTM hPM (hDM _) hS lw_w10 lw_w11 rfl (by decide +kernel) (by decide) rfl hl.1 (Nat.le_of_ble_eq_true rfl) rfl d_law_305 (fun H1 locs1 hPM hk1 hS => ?_)
  have hPC := hPC.kept (fun k q hq => hk1 q.1 (hPC k q hq).lt (fun hh => hapart _ ((hDC _).2 k q hq) hh))
  refine lv_icmp_eq (tgt := 1341) hx hb d_law_308 (by decide) (fun h0 => ?_) (fun h0 => absurd rfl h0)
  exact hend _ _ hI2 _ _ hPC hPM hS ls hl
set_option maxRecDepth 100000 in
theorem lw_w12 : (Jvm.Cond.methodLink "WolfKnightLaw" (28 : Nat) ({ cls := "WolfKnight", name := "first", desc := "(I)Z" } : Jvm.MethodName)) ∈ wk_gt := wk_tbl (List.mem_append_right _ (List.mem_append_left _ (List.mem_of_getElem? (i := 103) (by decide +kernel)))) rfl
set_option maxRecDepth 100000 in
theorem lw_w13 : (Jvm.Cond.selects "WolfKnight" ({ cls := "WolfKnight", name := "first", desc := "(I)Z" } : Jvm.MethodName) ({ cls := "WolfKnight", name := "first", desc := "(I)Z" } : Jvm.MethodName)) ∈ wk_gt := wk_tbl (List.mem_append_right _ (List.mem_append_left _ (List.mem_of_getElem? (i := 105) (by decide +kernel)))) rfl
set_option maxRecDepth 100000 in
theorem lw_w14 : (Jvm.Cond.methodLink "WolfKnightLaw" (31 : Nat) ({ cls := "WolfKnightModel", name := "first", desc := "(I)Z" } : Jvm.MethodName)) ∈ wk_gt := wk_tbl (List.mem_append_right _ (List.mem_append_right _ (List.mem_append_right _ (List.mem_append_right _ (List.mem_append_right _ (List.mem_append_left _ (List.mem_of_getElem? (i := 6) (by decide +kernel)))))))) rfl
set_option maxRecDepth 100000 in
theorem lw_w15 : (Jvm.Cond.selects "WolfKnightModel" ({ cls := "WolfKnightModel", name := "first", desc := "(I)Z" } : Jvm.MethodName) ({ cls := "WolfKnightModel", name := "first", desc := "(I)Z" } : Jvm.MethodName)) ∈ wk_gt := wk_tbl (List.mem_append_right _ (List.mem_append_right _ (List.mem_append_right _ (List.mem_append_right _ (List.mem_append_right _ (List.mem_append_left _ (List.mem_of_getElem? (i := 8) (by decide +kernel)))))))) rfl
def lw_op_3 (Inv : wk_St → wk_St → Prop) : Prop := ∀ (a0 : Int32) σC σM, Inv σC σM → ∃ (r : Int32) (σC2 σM2 : wk_St), wk_T wk_shC 200 3 [.ref 0, .int a0] σC (some (.int r), σC2) ∧ wk_T wk_shM 200 55 [.ref 0, .int a0] σM (some (.int r), σM2) ∧ Inv σC2 σM2
set_option maxHeartbeats 4000000 in
set_option maxRecDepth 100000 in
theorem lw_case_3 {Inv : wk_St → wk_St → Prop} (hop : lw_op_3 Inv) {p : Program} {l : Launch} {e : Env} {s : State} {m : MethodId} {below : List Frame} {meth : Method} {c : Code} {b L : Nat} {xs : Nat → Int32} (C0 : lw_At p s m meth c b L xs) {G : lw_G} (hg : lw_Ok G s) {i : Nat} {xi : Int32} (hi : xi = nI i) (hiL : i + 7 ≤ L) (hL : L ≤ 3584) {H : Heap} {locs : List Loc} {ls : Array Slot} {σC σM : wk_St} (hI : Inv σC σM)
    (hPC : va_P G.1 wk_cls (lw_wC G σC) H) (hPM : va_P G.1 wk_cls (lw_wM G σM) H) (hS : va_S (fun q : Nat => s.heap.size ≤ q) s.heap H locs) (hl : lv_has ls 4 [(0, .ref b), (1, .ref (G.2.1 0)), (2, .ref (G.2.2.1 0)), (3, .int xi)])
    (hend : ∀ (σC2 σM2 : wk_St), Inv σC2 σM2 → ∀ (H2 : Heap) (locs2 : List Loc), va_P G.1 wk_cls (lw_wC G σC2) H2 → va_P G.1 wk_cls (lw_wM G σM2) H2 → va_S (fun q : Nat => s.heap.size ≤ q) s.heap H2 locs2 → ∀ ls2 : Array Slot, lv_has ls2 4 [(0, .ref b), (1, .ref (G.2.1 0)), (2, .ref (G.2.2.1 0)), (3, .int xi)] → W p l e room_1 s m #[Value.ref b] below meth c H2 locs2 600000 7302250 (lw_Z below #[Value.ref b] s) (F0 m 1341 ls2 [])) :
    W p l e room_1 s m #[Value.ref b] below meth c H locs 600000 7302250 (lw_Z below #[Value.ref b] s) (F0 m 313 ls []) := by
  obtain ⟨hx, hb, hr, hml, hown, hts, hX, hbl, hlocks, hgv⟩ := id C0
  have hbA : ¬ s.heap.size ≤ b := Nat.not_le.mpr hbl
  have hin : ∀ k : Nat, k < 7 → vp_in (xi + nI k) L := fun k hk => by rw [hi, nI_add]; exact vp_in_nI (by omega) (by omega)
  have hDC := hg.2.2.1
  have hDM := hg.2.2.2.1
  have hA0C := hg.2.2.2.2.2.1
  have hA0M := hg.2.2.2.2.2.2.1
  have hapart := hg.2.2.2.2.2.2.2.1
  refine lv_aload_n hx hb d_law_313 rfl (lv_at hl 1 rfl) ?_
  refine lv_aload_n hx hb d_law_314 rfl (lv_at hl 0 rfl) ?_
  refine lv_iload_n hx hb d_law_315 rfl (lv_at hl 3 rfl) ?_
  refine lv_iconst (v := 1) hx hb d_law_316 (by decide) ?_
  refine lv_iadd hx hb d_law_317 ?_
  refine va_sld hx hb hX hbl hbA hS (hin 1 (by decide)) d_law_318 ?_
  obtain ⟨r, σC2, σM2, hTC, hTM, hI2⟩ := hop (xs (xi + (1 : Int32)).toNatClampNeg) _ _ hI
  refine lw_call C0 hg.1 hg.2.2.2.2.1 hg.2.2.2.2.2.2.2.2.2 hg.2.2.2.2.2.2.2.2.1.1 hA0C (f := 3) (as := [.int (xs (xi + (1 : Int32)).toNatClampNeg)]) (rest := []) (by decide) rfl (Nat.le_of_ble_eq_true rfl) hTC hPC (hDC _) hS lw_w12 lw_w13 rfl (by decide +kernel) (by decide) rfl hl.1 (Nat.le_of_ble_eq_true rfl) rfl d_law_319 (fun H1 locs1 hPC hk1 hS => ?_)
  have hPM := hPM.kept (fun k q hq => hk1 q.1 (hPM k q hq).lt (fun hh => hapart _ hh ((hDM _).2 k q hq)))
  refine lv_aload_n hx hb d_law_322 rfl (lv_at hl 2 rfl) ?_
  refine lv_aload_n hx hb d_law_323 rfl (lv_at hl 0 rfl) ?_
  refine lv_iload_n hx hb d_law_324 rfl (lv_at hl 3 rfl) ?_
  refine lv_iconst (v := 1) hx hb d_law_325 (by decide) ?_
  refine lv_iadd hx hb d_law_326 ?_
  refine va_sld hx hb hX hbl hbA hS (hin 1 (by decide)) d_law_327 ?_
  refine lw_call C0 hg.2.1 hg.2.2.2.2.1 hg.2.2.2.2.2.2.2.2.2 hg.2.2.2.2.2.2.2.2.1.2 hA0M (f := 55) (as := [.int (xs (xi + (1 : Int32)).toNatClampNeg)]) (rest := [.int r]) (by decide) rfl (Nat.le_of_ble_eq_true rfl) hTM hPM (hDM _) hS lw_w14 lw_w15 rfl (by decide +kernel) (by decide) rfl hl.1 (Nat.le_of_ble_eq_true rfl) rfl d_law_328 (fun H1 locs1 hPM hk1 hS => ?_)
  have hPC := hPC.kept (fun k q hq => hk1 q.1 (hPC k q hq).lt (fun hh => hapart _ ((hDC _).2 k q hq) hh))
  refine lv_icmp_eq (tgt := 1341) hx hb d_law_331 (by decide) (fun h0 => ?_) (fun h0 => absurd rfl h0)
  exact hend _ _ hI2 _ _ hPC hPM hS ls hl
set_option maxRecDepth 100000 in
theorem lw_w16 : (Jvm.Cond.methodLink "WolfKnightLaw" (32 : Nat) ({ cls := "WolfKnight", name := "feed", desc := "(IIIII)I" } : Jvm.MethodName)) ∈ wk_gt := wk_tbl (List.mem_append_right _ (List.mem_append_left _ (List.mem_of_getElem? (i := 116) (by decide +kernel)))) rfl
set_option maxRecDepth 100000 in
theorem lw_w17 : (Jvm.Cond.selects "WolfKnight" ({ cls := "WolfKnight", name := "feed", desc := "(IIIII)I" } : Jvm.MethodName) ({ cls := "WolfKnight", name := "feed", desc := "(IIIII)I" } : Jvm.MethodName)) ∈ wk_gt := wk_tbl (List.mem_append_right _ (List.mem_append_left _ (List.mem_of_getElem? (i := 118) (by decide +kernel)))) rfl
set_option maxRecDepth 100000 in
theorem lw_w18 : (Jvm.Cond.methodLink "WolfKnightLaw" (36 : Nat) ({ cls := "WolfKnightModel", name := "feed", desc := "(IIIII)I" } : Jvm.MethodName)) ∈ wk_gt := wk_tbl (List.mem_append_right _ (List.mem_append_right _ (List.mem_append_right _ (List.mem_append_right _ (List.mem_append_right _ (List.mem_append_left _ (List.mem_of_getElem? (i := 10) (by decide +kernel)))))))) rfl
set_option maxRecDepth 100000 in
theorem lw_w19 : (Jvm.Cond.selects "WolfKnightModel" ({ cls := "WolfKnightModel", name := "feed", desc := "(IIIII)I" } : Jvm.MethodName) ({ cls := "WolfKnightModel", name := "feed", desc := "(IIIII)I" } : Jvm.MethodName)) ∈ wk_gt := wk_tbl (List.mem_append_right _ (List.mem_append_right _ (List.mem_append_right _ (List.mem_append_right _ (List.mem_append_right _ (List.mem_append_left _ (List.mem_of_getElem? (i := 12) (by decide +kernel)))))))) rfl
def lw_op_4 (Inv : wk_St → wk_St → Prop) : Prop := ∀ (a0 : Int32) (a1 : Int32) (a2 : Int32) (a3 : Int32) (a4 : Int32) σC σM, Inv σC σM → ∃ (r : Int32) (σC2 σM2 : wk_St), wk_T wk_shC 200 5 [.ref 0, .int a0, .int a1, .int a2, .int a3, .int a4] σC (some (.int r), σC2) ∧ wk_T wk_shM 200 60 [.ref 0, .int a0, .int a1, .int a2, .int a3, .int a4] σM (some (.int r), σM2) ∧ Inv σC2 σM2
set_option maxHeartbeats 4000000 in
set_option maxRecDepth 100000 in
theorem lw_case_4 {Inv : wk_St → wk_St → Prop} (hop : lw_op_4 Inv) {p : Program} {l : Launch} {e : Env} {s : State} {m : MethodId} {below : List Frame} {meth : Method} {c : Code} {b L : Nat} {xs : Nat → Int32} (C0 : lw_At p s m meth c b L xs) {G : lw_G} (hg : lw_Ok G s) {i : Nat} {xi : Int32} (hi : xi = nI i) (hiL : i + 7 ≤ L) (hL : L ≤ 3584) {H : Heap} {locs : List Loc} {ls : Array Slot} {σC σM : wk_St} (hI : Inv σC σM)
    (hPC : va_P G.1 wk_cls (lw_wC G σC) H) (hPM : va_P G.1 wk_cls (lw_wM G σM) H) (hS : va_S (fun q : Nat => s.heap.size ≤ q) s.heap H locs) (hl : lv_has ls 4 [(0, .ref b), (1, .ref (G.2.1 0)), (2, .ref (G.2.2.1 0)), (3, .int xi)])
    (hend : ∀ (σC2 σM2 : wk_St), Inv σC2 σM2 → ∀ (H2 : Heap) (locs2 : List Loc), va_P G.1 wk_cls (lw_wC G σC2) H2 → va_P G.1 wk_cls (lw_wM G σM2) H2 → va_S (fun q : Nat => s.heap.size ≤ q) s.heap H2 locs2 → ∀ ls2 : Array Slot, lv_has ls2 4 [(0, .ref b), (1, .ref (G.2.1 0)), (2, .ref (G.2.2.1 0)), (3, .int xi)] → W p l e room_1 s m #[Value.ref b] below meth c H2 locs2 600000 7302250 (lw_Z below #[Value.ref b] s) (F0 m 1341 ls2 [])) :
    W p l e room_1 s m #[Value.ref b] below meth c H locs 600000 7302250 (lw_Z below #[Value.ref b] s) (F0 m 336 ls []) := by
  obtain ⟨hx, hb, hr, hml, hown, hts, hX, hbl, hlocks, hgv⟩ := id C0
  have hbA : ¬ s.heap.size ≤ b := Nat.not_le.mpr hbl
  have hin : ∀ k : Nat, k < 7 → vp_in (xi + nI k) L := fun k hk => by rw [hi, nI_add]; exact vp_in_nI (by omega) (by omega)
  have hDC := hg.2.2.1
  have hDM := hg.2.2.2.1
  have hA0C := hg.2.2.2.2.2.1
  have hA0M := hg.2.2.2.2.2.2.1
  have hapart := hg.2.2.2.2.2.2.2.1
  refine lv_aload_n hx hb d_law_336 rfl (lv_at hl 1 rfl) ?_
  refine lv_aload_n hx hb d_law_337 rfl (lv_at hl 0 rfl) ?_
  refine lv_iload_n hx hb d_law_338 rfl (lv_at hl 3 rfl) ?_
  refine lv_iconst (v := 1) hx hb d_law_339 (by decide) ?_
  refine lv_iadd hx hb d_law_340 ?_
  refine va_sld hx hb hX hbl hbA hS (hin 1 (by decide)) d_law_341 ?_
  refine lv_aload_n hx hb d_law_342 rfl (lv_at hl 0 rfl) ?_
  refine lv_iload_n hx hb d_law_343 rfl (lv_at hl 3 rfl) ?_
  refine lv_iconst (v := 2) hx hb d_law_344 (by decide) ?_
  refine lv_iadd hx hb d_law_345 ?_
  refine va_sld hx hb hX hbl hbA hS (hin 2 (by decide)) d_law_346 ?_
  refine lv_aload_n hx hb d_law_347 rfl (lv_at hl 0 rfl) ?_
  refine lv_iload_n hx hb d_law_348 rfl (lv_at hl 3 rfl) ?_
  refine lv_iconst (v := 3) hx hb d_law_349 (by decide) ?_
  refine lv_iadd hx hb d_law_350 ?_
  refine va_sld hx hb hX hbl hbA hS (hin 3 (by decide)) d_law_351 ?_
  refine lv_aload_n hx hb d_law_352 rfl (lv_at hl 0 rfl) ?_
  refine lv_iload_n hx hb d_law_353 rfl (lv_at hl 3 rfl) ?_
  refine lv_iconst (v := 4) hx hb d_law_354 (by decide) ?_
  refine lv_iadd hx hb d_law_355 ?_
  refine va_sld hx hb hX hbl hbA hS (hin 4 (by decide)) d_law_356 ?_
  refine lv_aload_n hx hb d_law_357 rfl (lv_at hl 0 rfl) ?_
  refine lv_iload_n hx hb d_law_358 rfl (lv_at hl 3 rfl) ?_
  refine lv_iconst (v := 5) hx hb d_law_359 (by decide) ?_
  refine lv_iadd hx hb d_law_360 ?_
  refine va_sld hx hb hX hbl hbA hS (hin 5 (by decide)) d_law_361 ?_
  obtain ⟨r, σC2, σM2, hTC, hTM, hI2⟩ := hop (xs (xi + (1 : Int32)).toNatClampNeg) (xs (xi + (2 : Int32)).toNatClampNeg) (xs (xi + (3 : Int32)).toNatClampNeg) (xs (xi + (4 : Int32)).toNatClampNeg) (xs (xi + (5 : Int32)).toNatClampNeg) _ _ hI
  refine lw_call C0 hg.1 hg.2.2.2.2.1 hg.2.2.2.2.2.2.2.2.2 hg.2.2.2.2.2.2.2.2.1.1 hA0C (f := 5) (as := [.int (xs (xi + (1 : Int32)).toNatClampNeg), .int (xs (xi + (2 : Int32)).toNatClampNeg), .int (xs (xi + (3 : Int32)).toNatClampNeg), .int (xs (xi + (4 : Int32)).toNatClampNeg), .int (xs (xi + (5 : Int32)).toNatClampNeg)]) (rest := []) (by decide) rfl (Nat.le_of_ble_eq_true rfl) hTC hPC (hDC _) hS lw_w16 lw_w17 rfl (by decide +kernel) (by decide) rfl hl.1 (Nat.le_of_ble_eq_true rfl) rfl d_law_362 (fun H1 locs1 hPC hk1 hS => ?_)
  have hPM := hPM.kept (fun k q hq => hk1 q.1 (hPM k q hq).lt (fun hh => hapart _ hh ((hDM _).2 k q hq)))
  refine lv_aload_n hx hb d_law_365 rfl (lv_at hl 2 rfl) ?_
  refine lv_aload_n hx hb d_law_366 rfl (lv_at hl 0 rfl) ?_
  refine lv_iload_n hx hb d_law_367 rfl (lv_at hl 3 rfl) ?_
  refine lv_iconst (v := 1) hx hb d_law_368 (by decide) ?_
  refine lv_iadd hx hb d_law_369 ?_
  refine va_sld hx hb hX hbl hbA hS (hin 1 (by decide)) d_law_370 ?_
  refine lv_aload_n hx hb d_law_371 rfl (lv_at hl 0 rfl) ?_
  refine lv_iload_n hx hb d_law_372 rfl (lv_at hl 3 rfl) ?_
  refine lv_iconst (v := 2) hx hb d_law_373 (by decide) ?_
  refine lv_iadd hx hb d_law_374 ?_
  refine va_sld hx hb hX hbl hbA hS (hin 2 (by decide)) d_law_375 ?_
  refine lv_aload_n hx hb d_law_376 rfl (lv_at hl 0 rfl) ?_
  refine lv_iload_n hx hb d_law_377 rfl (lv_at hl 3 rfl) ?_
  refine lv_iconst (v := 3) hx hb d_law_378 (by decide) ?_
  refine lv_iadd hx hb d_law_379 ?_
  refine va_sld hx hb hX hbl hbA hS (hin 3 (by decide)) d_law_380 ?_
  refine lv_aload_n hx hb d_law_381 rfl (lv_at hl 0 rfl) ?_
  refine lv_iload_n hx hb d_law_382 rfl (lv_at hl 3 rfl) ?_
  refine lv_iconst (v := 4) hx hb d_law_383 (by decide) ?_
  refine lv_iadd hx hb d_law_384 ?_
  refine va_sld hx hb hX hbl hbA hS (hin 4 (by decide)) d_law_385 ?_
  refine lv_aload_n hx hb d_law_386 rfl (lv_at hl 0 rfl) ?_
  refine lv_iload_n hx hb d_law_387 rfl (lv_at hl 3 rfl) ?_
  refine lv_iconst (v := 5) hx hb d_law_388 (by decide) ?_
  refine lv_iadd hx hb d_law_389 ?_
  refine va_sld hx hb hX hbl hbA hS (hin 5 (by decide)) d_law_390 ?_
  refine lw_call C0 hg.2.1 hg.2.2.2.2.1 hg.2.2.2.2.2.2.2.2.2 hg.2.2.2.2.2.2.2.2.1.2 hA0M (f := 60) (as := [.int (xs (xi + (1 : Int32)).toNatClampNeg), .int (xs (xi + (2 : Int32)).toNatClampNeg), .int (xs (xi + (3 : Int32)).toNatClampNeg), .int (xs (xi + (4 : Int32)).toNatClampNeg), .int (xs (xi + (5 : Int32)).toNatClampNeg)]) (rest := [.int r]) (by decide) rfl (Nat.le_of_ble_eq_true rfl) hTM hPM (hDM _) hS lw_w18 lw_w19 rfl (by decide +kernel) (by decide) rfl hl.1 (Nat.le_of_ble_eq_true rfl) rfl d_law_391 (fun H1 locs1 hPM hk1 hS => ?_)
  have hPC := hPC.kept (fun k q hq => hk1 q.1 (hPC k q hq).lt (fun hh => hapart _ ((hDC _).2 k q hq) hh))
  refine lv_icmp_eq (tgt := 1341) hx hb d_law_394 (by decide) (fun h0 => ?_) (fun h0 => absurd rfl h0)
  exact hend _ _ hI2 _ _ hPC hPM hS ls hl
set_option maxRecDepth 100000 in
theorem lw_w20 : (Jvm.Cond.methodLink "WolfKnightLaw" (37 : Nat) ({ cls := "WolfKnight", name := "law", desc := "(I)I" } : Jvm.MethodName)) ∈ wk_gt := wk_tbl (List.mem_append_right _ (List.mem_append_left _ (List.mem_of_getElem? (i := 128) (by decide +kernel)))) rfl
set_option maxRecDepth 100000 in
theorem lw_w21 : (Jvm.Cond.selects "WolfKnight" ({ cls := "WolfKnight", name := "law", desc := "(I)I" } : Jvm.MethodName) ({ cls := "WolfKnight", name := "law", desc := "(I)I" } : Jvm.MethodName)) ∈ wk_gt := wk_tbl (List.mem_append_right _ (List.mem_append_left _ (List.mem_of_getElem? (i := 130) (by decide +kernel)))) rfl
set_option maxRecDepth 100000 in
theorem lw_w22 : (Jvm.Cond.methodLink "WolfKnightLaw" (41 : Nat) ({ cls := "WolfKnightModel", name := "law", desc := "(I)I" } : Jvm.MethodName)) ∈ wk_gt := wk_tbl (List.mem_append_right _ (List.mem_append_right _ (List.mem_append_right _ (List.mem_append_right _ (List.mem_append_right _ (List.mem_append_left _ (List.mem_of_getElem? (i := 18) (by decide +kernel)))))))) rfl
set_option maxRecDepth 100000 in
theorem lw_w23 : (Jvm.Cond.selects "WolfKnightModel" ({ cls := "WolfKnightModel", name := "law", desc := "(I)I" } : Jvm.MethodName) ({ cls := "WolfKnightModel", name := "law", desc := "(I)I" } : Jvm.MethodName)) ∈ wk_gt := wk_tbl (List.mem_append_right _ (List.mem_append_right _ (List.mem_append_right _ (List.mem_append_right _ (List.mem_append_right _ (List.mem_append_left _ (List.mem_of_getElem? (i := 20) (by decide +kernel)))))))) rfl
def lw_op_5 (Inv : wk_St → wk_St → Prop) : Prop := ∀ (a0 : Int32) σC σM, Inv σC σM → ∃ (r : Int32) (σC2 σM2 : wk_St), wk_T wk_shC 200 6 [.ref 0, .int a0] σC (some (.int r), σC2) ∧ wk_T wk_shM 200 83 [.ref 0, .int a0] σM (some (.int r), σM2) ∧ Inv σC2 σM2
set_option maxHeartbeats 4000000 in
set_option maxRecDepth 100000 in
theorem lw_case_5 {Inv : wk_St → wk_St → Prop} (hop : lw_op_5 Inv) {p : Program} {l : Launch} {e : Env} {s : State} {m : MethodId} {below : List Frame} {meth : Method} {c : Code} {b L : Nat} {xs : Nat → Int32} (C0 : lw_At p s m meth c b L xs) {G : lw_G} (hg : lw_Ok G s) {i : Nat} {xi : Int32} (hi : xi = nI i) (hiL : i + 7 ≤ L) (hL : L ≤ 3584) {H : Heap} {locs : List Loc} {ls : Array Slot} {σC σM : wk_St} (hI : Inv σC σM)
    (hPC : va_P G.1 wk_cls (lw_wC G σC) H) (hPM : va_P G.1 wk_cls (lw_wM G σM) H) (hS : va_S (fun q : Nat => s.heap.size ≤ q) s.heap H locs) (hl : lv_has ls 4 [(0, .ref b), (1, .ref (G.2.1 0)), (2, .ref (G.2.2.1 0)), (3, .int xi)])
    (hend : ∀ (σC2 σM2 : wk_St), Inv σC2 σM2 → ∀ (H2 : Heap) (locs2 : List Loc), va_P G.1 wk_cls (lw_wC G σC2) H2 → va_P G.1 wk_cls (lw_wM G σM2) H2 → va_S (fun q : Nat => s.heap.size ≤ q) s.heap H2 locs2 → ∀ ls2 : Array Slot, lv_has ls2 4 [(0, .ref b), (1, .ref (G.2.1 0)), (2, .ref (G.2.2.1 0)), (3, .int xi)] → W p l e room_1 s m #[Value.ref b] below meth c H2 locs2 600000 7302250 (lw_Z below #[Value.ref b] s) (F0 m 1341 ls2 [])) :
    W p l e room_1 s m #[Value.ref b] below meth c H locs 600000 7302250 (lw_Z below #[Value.ref b] s) (F0 m 399 ls []) := by
  obtain ⟨hx, hb, hr, hml, hown, hts, hX, hbl, hlocks, hgv⟩ := id C0
  have hbA : ¬ s.heap.size ≤ b := Nat.not_le.mpr hbl
  have hin : ∀ k : Nat, k < 7 → vp_in (xi + nI k) L := fun k hk => by rw [hi, nI_add]; exact vp_in_nI (by omega) (by omega)
  have hDC := hg.2.2.1
  have hDM := hg.2.2.2.1
  have hA0C := hg.2.2.2.2.2.1
  have hA0M := hg.2.2.2.2.2.2.1
  have hapart := hg.2.2.2.2.2.2.2.1
  refine lv_aload_n hx hb d_law_399 rfl (lv_at hl 1 rfl) ?_
  refine lv_aload_n hx hb d_law_400 rfl (lv_at hl 0 rfl) ?_
  refine lv_iload_n hx hb d_law_401 rfl (lv_at hl 3 rfl) ?_
  refine lv_iconst (v := 1) hx hb d_law_402 (by decide) ?_
  refine lv_iadd hx hb d_law_403 ?_
  refine va_sld hx hb hX hbl hbA hS (hin 1 (by decide)) d_law_404 ?_
  obtain ⟨r, σC2, σM2, hTC, hTM, hI2⟩ := hop (xs (xi + (1 : Int32)).toNatClampNeg) _ _ hI
  refine lw_call C0 hg.1 hg.2.2.2.2.1 hg.2.2.2.2.2.2.2.2.2 hg.2.2.2.2.2.2.2.2.1.1 hA0C (f := 6) (as := [.int (xs (xi + (1 : Int32)).toNatClampNeg)]) (rest := []) (by decide) rfl (Nat.le_of_ble_eq_true rfl) hTC hPC (hDC _) hS lw_w20 lw_w21 rfl (by decide +kernel) (by decide) rfl hl.1 (Nat.le_of_ble_eq_true rfl) rfl d_law_405 (fun H1 locs1 hPC hk1 hS => ?_)
  have hPM := hPM.kept (fun k q hq => hk1 q.1 (hPM k q hq).lt (fun hh => hapart _ hh ((hDM _).2 k q hq)))
  refine lv_aload_n hx hb d_law_408 rfl (lv_at hl 2 rfl) ?_
  refine lv_aload_n hx hb d_law_409 rfl (lv_at hl 0 rfl) ?_
  refine lv_iload_n hx hb d_law_410 rfl (lv_at hl 3 rfl) ?_
  refine lv_iconst (v := 1) hx hb d_law_411 (by decide) ?_
  refine lv_iadd hx hb d_law_412 ?_
  refine va_sld hx hb hX hbl hbA hS (hin 1 (by decide)) d_law_413 ?_
  refine lw_call C0 hg.2.1 hg.2.2.2.2.1 hg.2.2.2.2.2.2.2.2.2 hg.2.2.2.2.2.2.2.2.1.2 hA0M (f := 83) (as := [.int (xs (xi + (1 : Int32)).toNatClampNeg)]) (rest := [.int r]) (by decide) rfl (Nat.le_of_ble_eq_true rfl) hTM hPM (hDM _) hS lw_w22 lw_w23 rfl (by decide +kernel) (by decide) rfl hl.1 (Nat.le_of_ble_eq_true rfl) rfl d_law_414 (fun H1 locs1 hPM hk1 hS => ?_)
  have hPC := hPC.kept (fun k q hq => hk1 q.1 (hPC k q hq).lt (fun hh => hapart _ ((hDC _).2 k q hq) hh))
  refine lv_icmp_eq (tgt := 1341) hx hb d_law_417 (by decide) (fun h0 => ?_) (fun h0 => absurd rfl h0)
  exact hend _ _ hI2 _ _ hPC hPM hS ls hl
set_option maxRecDepth 100000 in
theorem lw_w24 : (Jvm.Cond.methodLink "WolfKnightLaw" (42 : Nat) ({ cls := "WolfKnight", name := "hunts", desc := "(II)I" } : Jvm.MethodName)) ∈ wk_gt := wk_tbl (List.mem_append_right _ (List.mem_append_right _ (List.mem_append_left _ (List.mem_of_getElem? (i := 15) (by decide +kernel))))) rfl
set_option maxRecDepth 100000 in
theorem lw_w25 : (Jvm.Cond.selects "WolfKnight" ({ cls := "WolfKnight", name := "hunts", desc := "(II)I" } : Jvm.MethodName) ({ cls := "WolfKnight", name := "hunts", desc := "(II)I" } : Jvm.MethodName)) ∈ wk_gt := wk_tbl (List.mem_append_right _ (List.mem_append_right _ (List.mem_append_left _ (List.mem_of_getElem? (i := 17) (by decide +kernel))))) rfl
set_option maxRecDepth 100000 in
theorem lw_w26 : (Jvm.Cond.methodLink "WolfKnightLaw" (46 : Nat) ({ cls := "WolfKnightModel", name := "hunts", desc := "(II)I" } : Jvm.MethodName)) ∈ wk_gt := wk_tbl (List.mem_append_right _ (List.mem_append_right _ (List.mem_append_right _ (List.mem_append_right _ (List.mem_append_right _ (List.mem_append_left _ (List.mem_of_getElem? (i := 105) (by decide +kernel)))))))) rfl
set_option maxRecDepth 100000 in
theorem lw_w27 : (Jvm.Cond.selects "WolfKnightModel" ({ cls := "WolfKnightModel", name := "hunts", desc := "(II)I" } : Jvm.MethodName) ({ cls := "WolfKnightModel", name := "hunts", desc := "(II)I" } : Jvm.MethodName)) ∈ wk_gt := wk_tbl (List.mem_append_right _ (List.mem_append_right _ (List.mem_append_right _ (List.mem_append_right _ (List.mem_append_right _ (List.mem_append_left _ (List.mem_of_getElem? (i := 107) (by decide +kernel)))))))) rfl
def lw_op_6 (Inv : wk_St → wk_St → Prop) : Prop := ∀ (a0 : Int32) (a1 : Int32) σC σM, Inv σC σM → ∃ (r : Int32) (σC2 σM2 : wk_St), wk_T wk_shC 200 7 [.ref 0, .int a0, .int a1] σC (some (.int r), σC2) ∧ wk_T wk_shM 200 93 [.ref 0, .int a0, .int a1] σM (some (.int r), σM2) ∧ Inv σC2 σM2
set_option maxHeartbeats 4000000 in
set_option maxRecDepth 100000 in
theorem lw_case_6 {Inv : wk_St → wk_St → Prop} (hop : lw_op_6 Inv) {p : Program} {l : Launch} {e : Env} {s : State} {m : MethodId} {below : List Frame} {meth : Method} {c : Code} {b L : Nat} {xs : Nat → Int32} (C0 : lw_At p s m meth c b L xs) {G : lw_G} (hg : lw_Ok G s) {i : Nat} {xi : Int32} (hi : xi = nI i) (hiL : i + 7 ≤ L) (hL : L ≤ 3584) {H : Heap} {locs : List Loc} {ls : Array Slot} {σC σM : wk_St} (hI : Inv σC σM)
    (hPC : va_P G.1 wk_cls (lw_wC G σC) H) (hPM : va_P G.1 wk_cls (lw_wM G σM) H) (hS : va_S (fun q : Nat => s.heap.size ≤ q) s.heap H locs) (hl : lv_has ls 4 [(0, .ref b), (1, .ref (G.2.1 0)), (2, .ref (G.2.2.1 0)), (3, .int xi)])
    (hend : ∀ (σC2 σM2 : wk_St), Inv σC2 σM2 → ∀ (H2 : Heap) (locs2 : List Loc), va_P G.1 wk_cls (lw_wC G σC2) H2 → va_P G.1 wk_cls (lw_wM G σM2) H2 → va_S (fun q : Nat => s.heap.size ≤ q) s.heap H2 locs2 → ∀ ls2 : Array Slot, lv_has ls2 4 [(0, .ref b), (1, .ref (G.2.1 0)), (2, .ref (G.2.2.1 0)), (3, .int xi)] → W p l e room_1 s m #[Value.ref b] below meth c H2 locs2 600000 7302250 (lw_Z below #[Value.ref b] s) (F0 m 1341 ls2 [])) :
    W p l e room_1 s m #[Value.ref b] below meth c H locs 600000 7302250 (lw_Z below #[Value.ref b] s) (F0 m 422 ls []) := by
  obtain ⟨hx, hb, hr, hml, hown, hts, hX, hbl, hlocks, hgv⟩ := id C0
  have hbA : ¬ s.heap.size ≤ b := Nat.not_le.mpr hbl
  have hin : ∀ k : Nat, k < 7 → vp_in (xi + nI k) L := fun k hk => by rw [hi, nI_add]; exact vp_in_nI (by omega) (by omega)
  have hDC := hg.2.2.1
  have hDM := hg.2.2.2.1
  have hA0C := hg.2.2.2.2.2.1
  have hA0M := hg.2.2.2.2.2.2.1
  have hapart := hg.2.2.2.2.2.2.2.1
  refine lv_aload_n hx hb d_law_422 rfl (lv_at hl 1 rfl) ?_
  refine lv_aload_n hx hb d_law_423 rfl (lv_at hl 0 rfl) ?_
  refine lv_iload_n hx hb d_law_424 rfl (lv_at hl 3 rfl) ?_
  refine lv_iconst (v := 1) hx hb d_law_425 (by decide) ?_
  refine lv_iadd hx hb d_law_426 ?_
  refine va_sld hx hb hX hbl hbA hS (hin 1 (by decide)) d_law_427 ?_
  refine lv_aload_n hx hb d_law_428 rfl (lv_at hl 0 rfl) ?_
  refine lv_iload_n hx hb d_law_429 rfl (lv_at hl 3 rfl) ?_
  refine lv_iconst (v := 2) hx hb d_law_430 (by decide) ?_
  refine lv_iadd hx hb d_law_431 ?_
  refine va_sld hx hb hX hbl hbA hS (hin 2 (by decide)) d_law_432 ?_
  obtain ⟨r, σC2, σM2, hTC, hTM, hI2⟩ := hop (xs (xi + (1 : Int32)).toNatClampNeg) (xs (xi + (2 : Int32)).toNatClampNeg) _ _ hI
  refine lw_call C0 hg.1 hg.2.2.2.2.1 hg.2.2.2.2.2.2.2.2.2 hg.2.2.2.2.2.2.2.2.1.1 hA0C (f := 7) (as := [.int (xs (xi + (1 : Int32)).toNatClampNeg), .int (xs (xi + (2 : Int32)).toNatClampNeg)]) (rest := []) (by decide) rfl (Nat.le_of_ble_eq_true rfl) hTC hPC (hDC _) hS lw_w24 lw_w25 rfl (by decide +kernel) (by decide) rfl hl.1 (Nat.le_of_ble_eq_true rfl) rfl d_law_433 (fun H1 locs1 hPC hk1 hS => ?_)
  have hPM := hPM.kept (fun k q hq => hk1 q.1 (hPM k q hq).lt (fun hh => hapart _ hh ((hDM _).2 k q hq)))
  refine lv_aload_n hx hb d_law_436 rfl (lv_at hl 2 rfl) ?_
  refine lv_aload_n hx hb d_law_437 rfl (lv_at hl 0 rfl) ?_
  refine lv_iload_n hx hb d_law_438 rfl (lv_at hl 3 rfl) ?_
  refine lv_iconst (v := 1) hx hb d_law_439 (by decide) ?_
  refine lv_iadd hx hb d_law_440 ?_
  refine va_sld hx hb hX hbl hbA hS (hin 1 (by decide)) d_law_441 ?_
  refine lv_aload_n hx hb d_law_442 rfl (lv_at hl 0 rfl) ?_
  refine lv_iload_n hx hb d_law_443 rfl (lv_at hl 3 rfl) ?_
  refine lv_iconst (v := 2) hx hb d_law_444 (by decide) ?_
  refine lv_iadd hx hb d_law_445 ?_
  refine va_sld hx hb hX hbl hbA hS (hin 2 (by decide)) d_law_446 ?_
  refine lw_call C0 hg.2.1 hg.2.2.2.2.1 hg.2.2.2.2.2.2.2.2.2 hg.2.2.2.2.2.2.2.2.1.2 hA0M (f := 93) (as := [.int (xs (xi + (1 : Int32)).toNatClampNeg), .int (xs (xi + (2 : Int32)).toNatClampNeg)]) (rest := [.int r]) (by decide) rfl (Nat.le_of_ble_eq_true rfl) hTM hPM (hDM _) hS lw_w26 lw_w27 rfl (by decide +kernel) (by decide) rfl hl.1 (Nat.le_of_ble_eq_true rfl) rfl d_law_447 (fun H1 locs1 hPM hk1 hS => ?_)
  have hPC := hPC.kept (fun k q hq => hk1 q.1 (hPC k q hq).lt (fun hh => hapart _ ((hDC _).2 k q hq) hh))
  refine lv_icmp_eq (tgt := 1341) hx hb d_law_450 (by decide) (fun h0 => ?_) (fun h0 => absurd rfl h0)
  exact hend _ _ hI2 _ _ hPC hPM hS ls hl
set_option maxRecDepth 100000 in
theorem lw_w28 : (Jvm.Cond.methodLink "WolfKnightLaw" (47 : Nat) ({ cls := "WolfKnight", name := "diary", desc := "(I)I" } : Jvm.MethodName)) ∈ wk_gt := wk_tbl (List.mem_append_right _ (List.mem_append_right _ (List.mem_append_left _ (List.mem_of_getElem? (i := 64) (by decide +kernel))))) rfl
set_option maxRecDepth 100000 in
theorem lw_w29 : (Jvm.Cond.selects "WolfKnight" ({ cls := "WolfKnight", name := "diary", desc := "(I)I" } : Jvm.MethodName) ({ cls := "WolfKnight", name := "diary", desc := "(I)I" } : Jvm.MethodName)) ∈ wk_gt := wk_tbl (List.mem_append_right _ (List.mem_append_right _ (List.mem_append_left _ (List.mem_of_getElem? (i := 66) (by decide +kernel))))) rfl
set_option maxRecDepth 100000 in
theorem lw_w30 : (Jvm.Cond.methodLink "WolfKnightLaw" (50 : Nat) ({ cls := "WolfKnightModel", name := "diary", desc := "(I)I" } : Jvm.MethodName)) ∈ wk_gt := wk_tbl (List.mem_append_right _ (List.mem_append_right _ (List.mem_append_right _ (List.mem_append_right _ (List.mem_append_right _ (List.mem_append_left _ (List.mem_of_getElem? (i := 129) (by decide +kernel)))))))) rfl
set_option maxRecDepth 100000 in
theorem lw_w31 : (Jvm.Cond.selects "WolfKnightModel" ({ cls := "WolfKnightModel", name := "diary", desc := "(I)I" } : Jvm.MethodName) ({ cls := "WolfKnightModel", name := "diary", desc := "(I)I" } : Jvm.MethodName)) ∈ wk_gt := wk_tbl (List.mem_append_right _ (List.mem_append_right _ (List.mem_append_right _ (List.mem_append_right _ (List.mem_append_right _ (List.mem_append_left _ (List.mem_of_getElem? (i := 131) (by decide +kernel)))))))) rfl
def lw_op_7 (Inv : wk_St → wk_St → Prop) : Prop := ∀ (a0 : Int32) σC σM, Inv σC σM → ∃ (r : Int32) (σC2 σM2 : wk_St), wk_T wk_shC 200 8 [.ref 0, .int a0] σC (some (.int r), σC2) ∧ wk_T wk_shM 200 99 [.ref 0, .int a0] σM (some (.int r), σM2) ∧ Inv σC2 σM2
set_option maxHeartbeats 4000000 in
set_option maxRecDepth 100000 in
theorem lw_case_7 {Inv : wk_St → wk_St → Prop} (hop : lw_op_7 Inv) {p : Program} {l : Launch} {e : Env} {s : State} {m : MethodId} {below : List Frame} {meth : Method} {c : Code} {b L : Nat} {xs : Nat → Int32} (C0 : lw_At p s m meth c b L xs) {G : lw_G} (hg : lw_Ok G s) {i : Nat} {xi : Int32} (hi : xi = nI i) (hiL : i + 7 ≤ L) (hL : L ≤ 3584) {H : Heap} {locs : List Loc} {ls : Array Slot} {σC σM : wk_St} (hI : Inv σC σM)
    (hPC : va_P G.1 wk_cls (lw_wC G σC) H) (hPM : va_P G.1 wk_cls (lw_wM G σM) H) (hS : va_S (fun q : Nat => s.heap.size ≤ q) s.heap H locs) (hl : lv_has ls 4 [(0, .ref b), (1, .ref (G.2.1 0)), (2, .ref (G.2.2.1 0)), (3, .int xi)])
    (hend : ∀ (σC2 σM2 : wk_St), Inv σC2 σM2 → ∀ (H2 : Heap) (locs2 : List Loc), va_P G.1 wk_cls (lw_wC G σC2) H2 → va_P G.1 wk_cls (lw_wM G σM2) H2 → va_S (fun q : Nat => s.heap.size ≤ q) s.heap H2 locs2 → ∀ ls2 : Array Slot, lv_has ls2 4 [(0, .ref b), (1, .ref (G.2.1 0)), (2, .ref (G.2.2.1 0)), (3, .int xi)] → W p l e room_1 s m #[Value.ref b] below meth c H2 locs2 600000 7302250 (lw_Z below #[Value.ref b] s) (F0 m 1341 ls2 [])) :
    W p l e room_1 s m #[Value.ref b] below meth c H locs 600000 7302250 (lw_Z below #[Value.ref b] s) (F0 m 455 ls []) := by
  obtain ⟨hx, hb, hr, hml, hown, hts, hX, hbl, hlocks, hgv⟩ := id C0
  have hbA : ¬ s.heap.size ≤ b := Nat.not_le.mpr hbl
  have hin : ∀ k : Nat, k < 7 → vp_in (xi + nI k) L := fun k hk => by rw [hi, nI_add]; exact vp_in_nI (by omega) (by omega)
  have hDC := hg.2.2.1
  have hDM := hg.2.2.2.1
  have hA0C := hg.2.2.2.2.2.1
  have hA0M := hg.2.2.2.2.2.2.1
  have hapart := hg.2.2.2.2.2.2.2.1
  refine lv_aload_n hx hb d_law_455 rfl (lv_at hl 1 rfl) ?_
  refine lv_aload_n hx hb d_law_456 rfl (lv_at hl 0 rfl) ?_
  refine lv_iload_n hx hb d_law_457 rfl (lv_at hl 3 rfl) ?_
  refine lv_iconst (v := 1) hx hb d_law_458 (by decide) ?_
  refine lv_iadd hx hb d_law_459 ?_
  refine va_sld hx hb hX hbl hbA hS (hin 1 (by decide)) d_law_460 ?_
  obtain ⟨r, σC2, σM2, hTC, hTM, hI2⟩ := hop (xs (xi + (1 : Int32)).toNatClampNeg) _ _ hI
  refine lw_call C0 hg.1 hg.2.2.2.2.1 hg.2.2.2.2.2.2.2.2.2 hg.2.2.2.2.2.2.2.2.1.1 hA0C (f := 8) (as := [.int (xs (xi + (1 : Int32)).toNatClampNeg)]) (rest := []) (by decide) rfl (Nat.le_of_ble_eq_true rfl) hTC hPC (hDC _) hS lw_w28 lw_w29 rfl (by decide +kernel) (by decide) rfl hl.1 (Nat.le_of_ble_eq_true rfl) rfl d_law_461 (fun H1 locs1 hPC hk1 hS => ?_)
  have hPM := hPM.kept (fun k q hq => hk1 q.1 (hPM k q hq).lt (fun hh => hapart _ hh ((hDM _).2 k q hq)))
  refine lv_aload_n hx hb d_law_464 rfl (lv_at hl 2 rfl) ?_
  refine lv_aload_n hx hb d_law_465 rfl (lv_at hl 0 rfl) ?_
  refine lv_iload_n hx hb d_law_466 rfl (lv_at hl 3 rfl) ?_
  refine lv_iconst (v := 1) hx hb d_law_467 (by decide) ?_
  refine lv_iadd hx hb d_law_468 ?_
  refine va_sld hx hb hX hbl hbA hS (hin 1 (by decide)) d_law_469 ?_
  refine lw_call C0 hg.2.1 hg.2.2.2.2.1 hg.2.2.2.2.2.2.2.2.2 hg.2.2.2.2.2.2.2.2.1.2 hA0M (f := 99) (as := [.int (xs (xi + (1 : Int32)).toNatClampNeg)]) (rest := [.int r]) (by decide) rfl (Nat.le_of_ble_eq_true rfl) hTM hPM (hDM _) hS lw_w30 lw_w31 rfl (by decide +kernel) (by decide) rfl hl.1 (Nat.le_of_ble_eq_true rfl) rfl d_law_470 (fun H1 locs1 hPM hk1 hS => ?_)
  have hPC := hPC.kept (fun k q hq => hk1 q.1 (hPC k q hq).lt (fun hh => hapart _ ((hDC _).2 k q hq) hh))
  refine lv_icmp_eq (tgt := 1341) hx hb d_law_473 (by decide) (fun h0 => ?_) (fun h0 => absurd rfl h0)
  exact hend _ _ hI2 _ _ hPC hPM hS ls hl
set_option maxRecDepth 100000 in
theorem lw_w32 : (Jvm.Cond.methodLink "WolfKnightLaw" (51 : Nat) ({ cls := "WolfKnight", name := "days", desc := "(I)I" } : Jvm.MethodName)) ∈ wk_gt := wk_tbl (List.mem_append_right _ (List.mem_append_right _ (List.mem_append_left _ (List.mem_of_getElem? (i := 138) (by decide +kernel))))) rfl
set_option maxRecDepth 100000 in
theorem lw_w33 : (Jvm.Cond.selects "WolfKnight" ({ cls := "WolfKnight", name := "days", desc := "(I)I" } : Jvm.MethodName) ({ cls := "WolfKnight", name := "days", desc := "(I)I" } : Jvm.MethodName)) ∈ wk_gt := wk_tbl (List.mem_append_right _ (List.mem_append_right _ (List.mem_append_left _ (List.mem_of_getElem? (i := 140) (by decide +kernel))))) rfl
set_option maxRecDepth 100000 in
theorem lw_w34 : (Jvm.Cond.methodLink "WolfKnightLaw" (54 : Nat) ({ cls := "WolfKnightModel", name := "days", desc := "(I)I" } : Jvm.MethodName)) ∈ wk_gt := wk_tbl (List.mem_append_right _ (List.mem_append_right _ (List.mem_append_right _ (List.mem_append_right _ (List.mem_append_right _ (List.mem_append_left _ (List.mem_of_getElem? (i := 156) (by decide +kernel)))))))) rfl
set_option maxRecDepth 100000 in
theorem lw_w35 : (Jvm.Cond.selects "WolfKnightModel" ({ cls := "WolfKnightModel", name := "days", desc := "(I)I" } : Jvm.MethodName) ({ cls := "WolfKnightModel", name := "days", desc := "(I)I" } : Jvm.MethodName)) ∈ wk_gt := wk_tbl (List.mem_append_right _ (List.mem_append_right _ (List.mem_append_right _ (List.mem_append_right _ (List.mem_append_right _ (List.mem_append_left _ (List.mem_of_getElem? (i := 158) (by decide +kernel)))))))) rfl
def lw_op_8 (Inv : wk_St → wk_St → Prop) : Prop := ∀ (a0 : Int32) σC σM, Inv σC σM → ∃ (r : Int32) (σC2 σM2 : wk_St), wk_T wk_shC 200 9 [.ref 0, .int a0] σC (some (.int r), σC2) ∧ wk_T wk_shM 200 107 [.ref 0, .int a0] σM (some (.int r), σM2) ∧ Inv σC2 σM2
set_option maxHeartbeats 4000000 in
set_option maxRecDepth 100000 in
theorem lw_case_8 {Inv : wk_St → wk_St → Prop} (hop : lw_op_8 Inv) {p : Program} {l : Launch} {e : Env} {s : State} {m : MethodId} {below : List Frame} {meth : Method} {c : Code} {b L : Nat} {xs : Nat → Int32} (C0 : lw_At p s m meth c b L xs) {G : lw_G} (hg : lw_Ok G s) {i : Nat} {xi : Int32} (hi : xi = nI i) (hiL : i + 7 ≤ L) (hL : L ≤ 3584) {H : Heap} {locs : List Loc} {ls : Array Slot} {σC σM : wk_St} (hI : Inv σC σM)
    (hPC : va_P G.1 wk_cls (lw_wC G σC) H) (hPM : va_P G.1 wk_cls (lw_wM G σM) H) (hS : va_S (fun q : Nat => s.heap.size ≤ q) s.heap H locs) (hl : lv_has ls 4 [(0, .ref b), (1, .ref (G.2.1 0)), (2, .ref (G.2.2.1 0)), (3, .int xi)])
    (hend : ∀ (σC2 σM2 : wk_St), Inv σC2 σM2 → ∀ (H2 : Heap) (locs2 : List Loc), va_P G.1 wk_cls (lw_wC G σC2) H2 → va_P G.1 wk_cls (lw_wM G σM2) H2 → va_S (fun q : Nat => s.heap.size ≤ q) s.heap H2 locs2 → ∀ ls2 : Array Slot, lv_has ls2 4 [(0, .ref b), (1, .ref (G.2.1 0)), (2, .ref (G.2.2.1 0)), (3, .int xi)] → W p l e room_1 s m #[Value.ref b] below meth c H2 locs2 600000 7302250 (lw_Z below #[Value.ref b] s) (F0 m 1341 ls2 [])) :
    W p l e room_1 s m #[Value.ref b] below meth c H locs 600000 7302250 (lw_Z below #[Value.ref b] s) (F0 m 478 ls []) := by
  obtain ⟨hx, hb, hr, hml, hown, hts, hX, hbl, hlocks, hgv⟩ := id C0
  have hbA : ¬ s.heap.size ≤ b := Nat.not_le.mpr hbl
  have hin : ∀ k : Nat, k < 7 → vp_in (xi + nI k) L := fun k hk => by rw [hi, nI_add]; exact vp_in_nI (by omega) (by omega)
  have hDC := hg.2.2.1
  have hDM := hg.2.2.2.1
  have hA0C := hg.2.2.2.2.2.1
  have hA0M := hg.2.2.2.2.2.2.1
  have hapart := hg.2.2.2.2.2.2.2.1
  refine lv_aload_n hx hb d_law_478 rfl (lv_at hl 1 rfl) ?_
  refine lv_aload_n hx hb d_law_479 rfl (lv_at hl 0 rfl) ?_
  refine lv_iload_n hx hb d_law_480 rfl (lv_at hl 3 rfl) ?_
  refine lv_iconst (v := 1) hx hb d_law_481 (by decide) ?_
  refine lv_iadd hx hb d_law_482 ?_
  refine va_sld hx hb hX hbl hbA hS (hin 1 (by decide)) d_law_483 ?_
  obtain ⟨r, σC2, σM2, hTC, hTM, hI2⟩ := hop (xs (xi + (1 : Int32)).toNatClampNeg) _ _ hI
  refine lw_call C0 hg.1 hg.2.2.2.2.1 hg.2.2.2.2.2.2.2.2.2 hg.2.2.2.2.2.2.2.2.1.1 hA0C (f := 9) (as := [.int (xs (xi + (1 : Int32)).toNatClampNeg)]) (rest := []) (by decide) rfl (Nat.le_of_ble_eq_true rfl) hTC hPC (hDC _) hS lw_w32 lw_w33 rfl (by decide +kernel) (by decide) rfl hl.1 (Nat.le_of_ble_eq_true rfl) rfl d_law_484 (fun H1 locs1 hPC hk1 hS => ?_)
  have hPM := hPM.kept (fun k q hq => hk1 q.1 (hPM k q hq).lt (fun hh => hapart _ hh ((hDM _).2 k q hq)))
  refine lv_aload_n hx hb d_law_487 rfl (lv_at hl 2 rfl) ?_
  refine lv_aload_n hx hb d_law_488 rfl (lv_at hl 0 rfl) ?_
  refine lv_iload_n hx hb d_law_489 rfl (lv_at hl 3 rfl) ?_
  refine lv_iconst (v := 1) hx hb d_law_490 (by decide) ?_
  refine lv_iadd hx hb d_law_491 ?_
  refine va_sld hx hb hX hbl hbA hS (hin 1 (by decide)) d_law_492 ?_
  refine lw_call C0 hg.2.1 hg.2.2.2.2.1 hg.2.2.2.2.2.2.2.2.2 hg.2.2.2.2.2.2.2.2.1.2 hA0M (f := 107) (as := [.int (xs (xi + (1 : Int32)).toNatClampNeg)]) (rest := [.int r]) (by decide) rfl (Nat.le_of_ble_eq_true rfl) hTM hPM (hDM _) hS lw_w34 lw_w35 rfl (by decide +kernel) (by decide) rfl hl.1 (Nat.le_of_ble_eq_true rfl) rfl d_law_493 (fun H1 locs1 hPM hk1 hS => ?_)
  have hPC := hPC.kept (fun k q hq => hk1 q.1 (hPC k q hq).lt (fun hh => hapart _ ((hDC _).2 k q hq) hh))
  refine lv_icmp_eq (tgt := 1341) hx hb d_law_496 (by decide) (fun h0 => ?_) (fun h0 => absurd rfl h0)
  exact hend _ _ hI2 _ _ hPC hPM hS ls hl
set_option maxRecDepth 100000 in
theorem lw_w36 : (Jvm.Cond.methodLink "WolfKnightLaw" (55 : Nat) ({ cls := "WolfKnight", name := "tried", desc := "(II)I" } : Jvm.MethodName)) ∈ wk_gt := wk_tbl (List.mem_append_right _ (List.mem_append_right _ (List.mem_append_right _ (List.mem_append_left _ (List.mem_of_getElem? (i := 19) (by decide +kernel)))))) rfl
set_option maxRecDepth 100000 in
theorem lw_w37 : (Jvm.Cond.selects "WolfKnight" ({ cls := "WolfKnight", name := "tried", desc := "(II)I" } : Jvm.MethodName) ({ cls := "WolfKnight", name := "tried", desc := "(II)I" } : Jvm.MethodName)) ∈ wk_gt := wk_tbl (List.mem_append_right _ (List.mem_append_right _ (List.mem_append_right _ (List.mem_append_left _ (List.mem_of_getElem? (i := 21) (by decide +kernel)))))) rfl
set_option maxRecDepth 100000 in
theorem lw_w38 : (Jvm.Cond.methodLink "WolfKnightLaw" (58 : Nat) ({ cls := "WolfKnightModel", name := "tried", desc := "(II)I" } : Jvm.MethodName)) ∈ wk_gt := wk_tbl (List.mem_append_right _ (List.mem_append_right _ (List.mem_append_right _ (List.mem_append_right _ (List.mem_append_right _ (List.mem_append_left _ (List.mem_of_getElem? (i := 228) (by decide +kernel)))))))) rfl
set_option maxRecDepth 100000 in
theorem lw_w39 : (Jvm.Cond.selects "WolfKnightModel" ({ cls := "WolfKnightModel", name := "tried", desc := "(II)I" } : Jvm.MethodName) ({ cls := "WolfKnightModel", name := "tried", desc := "(II)I" } : Jvm.MethodName)) ∈ wk_gt := wk_tbl (List.mem_append_right _ (List.mem_append_right _ (List.mem_append_right _ (List.mem_append_right _ (List.mem_append_right _ (List.mem_append_left _ (List.mem_of_getElem? (i := 230) (by decide +kernel)))))))) rfl
def lw_op_9 (Inv : wk_St → wk_St → Prop) : Prop := ∀ (a0 : Int32) (a1 : Int32) σC σM, Inv σC σM → ∃ (r : Int32) (σC2 σM2 : wk_St), wk_T wk_shC 200 10 [.ref 0, .int a0, .int a1] σC (some (.int r), σC2) ∧ wk_T wk_shM 200 108 [.ref 0, .int a0, .int a1] σM (some (.int r), σM2) ∧ Inv σC2 σM2
set_option maxHeartbeats 4000000 in
set_option maxRecDepth 100000 in
theorem lw_case_9 {Inv : wk_St → wk_St → Prop} (hop : lw_op_9 Inv) {p : Program} {l : Launch} {e : Env} {s : State} {m : MethodId} {below : List Frame} {meth : Method} {c : Code} {b L : Nat} {xs : Nat → Int32} (C0 : lw_At p s m meth c b L xs) {G : lw_G} (hg : lw_Ok G s) {i : Nat} {xi : Int32} (hi : xi = nI i) (hiL : i + 7 ≤ L) (hL : L ≤ 3584) {H : Heap} {locs : List Loc} {ls : Array Slot} {σC σM : wk_St} (hI : Inv σC σM)
    (hPC : va_P G.1 wk_cls (lw_wC G σC) H) (hPM : va_P G.1 wk_cls (lw_wM G σM) H) (hS : va_S (fun q : Nat => s.heap.size ≤ q) s.heap H locs) (hl : lv_has ls 4 [(0, .ref b), (1, .ref (G.2.1 0)), (2, .ref (G.2.2.1 0)), (3, .int xi)])
    (hend : ∀ (σC2 σM2 : wk_St), Inv σC2 σM2 → ∀ (H2 : Heap) (locs2 : List Loc), va_P G.1 wk_cls (lw_wC G σC2) H2 → va_P G.1 wk_cls (lw_wM G σM2) H2 → va_S (fun q : Nat => s.heap.size ≤ q) s.heap H2 locs2 → ∀ ls2 : Array Slot, lv_has ls2 4 [(0, .ref b), (1, .ref (G.2.1 0)), (2, .ref (G.2.2.1 0)), (3, .int xi)] → W p l e room_1 s m #[Value.ref b] below meth c H2 locs2 600000 7302250 (lw_Z below #[Value.ref b] s) (F0 m 1341 ls2 [])) :
    W p l e room_1 s m #[Value.ref b] below meth c H locs 600000 7302250 (lw_Z below #[Value.ref b] s) (F0 m 501 ls []) := by
  obtain ⟨hx, hb, hr, hml, hown, hts, hX, hbl, hlocks, hgv⟩ := id C0
  have hbA : ¬ s.heap.size ≤ b := Nat.not_le.mpr hbl
  have hin : ∀ k : Nat, k < 7 → vp_in (xi + nI k) L := fun k hk => by rw [hi, nI_add]; exact vp_in_nI (by omega) (by omega)
  have hDC := hg.2.2.1
  have hDM := hg.2.2.2.1
  have hA0C := hg.2.2.2.2.2.1
  have hA0M := hg.2.2.2.2.2.2.1
  have hapart := hg.2.2.2.2.2.2.2.1
  refine lv_aload_n hx hb d_law_501 rfl (lv_at hl 1 rfl) ?_
  refine lv_aload_n hx hb d_law_502 rfl (lv_at hl 0 rfl) ?_
  refine lv_iload_n hx hb d_law_503 rfl (lv_at hl 3 rfl) ?_
  refine lv_iconst (v := 1) hx hb d_law_504 (by decide) ?_
  refine lv_iadd hx hb d_law_505 ?_
  refine va_sld hx hb hX hbl hbA hS (hin 1 (by decide)) d_law_506 ?_
  refine lv_aload_n hx hb d_law_507 rfl (lv_at hl 0 rfl) ?_
  refine lv_iload_n hx hb d_law_508 rfl (lv_at hl 3 rfl) ?_
  refine lv_iconst (v := 2) hx hb d_law_509 (by decide) ?_
  refine lv_iadd hx hb d_law_510 ?_
  refine va_sld hx hb hX hbl hbA hS (hin 2 (by decide)) d_law_511 ?_
  obtain ⟨r, σC2, σM2, hTC, hTM, hI2⟩ := hop (xs (xi + (1 : Int32)).toNatClampNeg) (xs (xi + (2 : Int32)).toNatClampNeg) _ _ hI
  refine lw_call C0 hg.1 hg.2.2.2.2.1 hg.2.2.2.2.2.2.2.2.2 hg.2.2.2.2.2.2.2.2.1.1 hA0C (f := 10) (as := [.int (xs (xi + (1 : Int32)).toNatClampNeg), .int (xs (xi + (2 : Int32)).toNatClampNeg)]) (rest := []) (by decide) rfl (Nat.le_of_ble_eq_true rfl) hTC hPC (hDC _) hS lw_w36 lw_w37 rfl (by decide +kernel) (by decide) rfl hl.1 (Nat.le_of_ble_eq_true rfl) rfl d_law_512 (fun H1 locs1 hPC hk1 hS => ?_)
  have hPM := hPM.kept (fun k q hq => hk1 q.1 (hPM k q hq).lt (fun hh => hapart _ hh ((hDM _).2 k q hq)))
  refine lv_aload_n hx hb d_law_515 rfl (lv_at hl 2 rfl) ?_
  refine lv_aload_n hx hb d_law_516 rfl (lv_at hl 0 rfl) ?_
  refine lv_iload_n hx hb d_law_517 rfl (lv_at hl 3 rfl) ?_
  refine lv_iconst (v := 1) hx hb d_law_518 (by decide) ?_
  refine lv_iadd hx hb d_law_519 ?_
  refine va_sld hx hb hX hbl hbA hS (hin 1 (by decide)) d_law_520 ?_
  refine lv_aload_n hx hb d_law_521 rfl (lv_at hl 0 rfl) ?_
  refine lv_iload_n hx hb d_law_522 rfl (lv_at hl 3 rfl) ?_
  refine lv_iconst (v := 2) hx hb d_law_523 (by decide) ?_
  refine lv_iadd hx hb d_law_524 ?_
  refine va_sld hx hb hX hbl hbA hS (hin 2 (by decide)) d_law_525 ?_
  refine lw_call C0 hg.2.1 hg.2.2.2.2.1 hg.2.2.2.2.2.2.2.2.2 hg.2.2.2.2.2.2.2.2.1.2 hA0M (f := 108) (as := [.int (xs (xi + (1 : Int32)).toNatClampNeg), .int (xs (xi + (2 : Int32)).toNatClampNeg)]) (rest := [.int r]) (by decide) rfl (Nat.le_of_ble_eq_true rfl) hTM hPM (hDM _) hS lw_w38 lw_w39 rfl (by decide +kernel) (by decide) rfl hl.1 (Nat.le_of_ble_eq_true rfl) rfl d_law_526 (fun H1 locs1 hPM hk1 hS => ?_)
  have hPC := hPC.kept (fun k q hq => hk1 q.1 (hPC k q hq).lt (fun hh => hapart _ ((hDC _).2 k q hq) hh))
  refine lv_icmp_eq (tgt := 1341) hx hb d_law_529 (by decide) (fun h0 => ?_) (fun h0 => absurd rfl h0)
  exact hend _ _ hI2 _ _ hPC hPM hS ls hl
set_option maxRecDepth 100000 in
theorem lw_w40 : (Jvm.Cond.methodLink "WolfKnightLaw" (59 : Nat) ({ cls := "WolfKnight", name := "knightIs", desc := "(II)I" } : Jvm.MethodName)) ∈ wk_gt := wk_tbl (List.mem_append_right _ (List.mem_append_right _ (List.mem_append_right _ (List.mem_append_left _ (List.mem_of_getElem? (i := 26) (by decide +kernel)))))) rfl
set_option maxRecDepth 100000 in
theorem lw_w41 : (Jvm.Cond.selects "WolfKnight" ({ cls := "WolfKnight", name := "knightIs", desc := "(II)I" } : Jvm.MethodName) ({ cls := "WolfKnight", name := "knightIs", desc := "(II)I" } : Jvm.MethodName)) ∈ wk_gt := wk_tbl (List.mem_append_right _ (List.mem_append_right _ (List.mem_append_right _ (List.mem_append_left _ (List.mem_of_getElem? (i := 28) (by decide +kernel)))))) rfl
set_option maxRecDepth 100000 in
theorem lw_w42 : (Jvm.Cond.methodLink "WolfKnightLaw" (62 : Nat) ({ cls := "WolfKnightModel", name := "knightIs", desc := "(II)I" } : Jvm.MethodName)) ∈ wk_gt := wk_tbl (List.mem_append_right _ (List.mem_append_right _ (List.mem_append_right _ (List.mem_append_right _ (List.mem_append_right _ (List.mem_append_left _ (List.mem_of_getElem? (i := 232) (by decide +kernel)))))))) rfl
set_option maxRecDepth 100000 in
theorem lw_w43 : (Jvm.Cond.selects "WolfKnightModel" ({ cls := "WolfKnightModel", name := "knightIs", desc := "(II)I" } : Jvm.MethodName) ({ cls := "WolfKnightModel", name := "knightIs", desc := "(II)I" } : Jvm.MethodName)) ∈ wk_gt := wk_tbl (List.mem_append_right _ (List.mem_append_right _ (List.mem_append_right _ (List.mem_append_right _ (List.mem_append_right _ (List.mem_append_left _ (List.mem_of_getElem? (i := 234) (by decide +kernel)))))))) rfl
def lw_op_10 (Inv : wk_St → wk_St → Prop) : Prop := ∀ (a0 : Int32) (a1 : Int32) σC σM, Inv σC σM → ∃ (r : Int32) (σC2 σM2 : wk_St), wk_T wk_shC 200 11 [.ref 0, .int a0, .int a1] σC (some (.int r), σC2) ∧ wk_T wk_shM 200 109 [.ref 0, .int a0, .int a1] σM (some (.int r), σM2) ∧ Inv σC2 σM2
set_option maxHeartbeats 4000000 in
set_option maxRecDepth 100000 in
theorem lw_case_10 {Inv : wk_St → wk_St → Prop} (hop : lw_op_10 Inv) {p : Program} {l : Launch} {e : Env} {s : State} {m : MethodId} {below : List Frame} {meth : Method} {c : Code} {b L : Nat} {xs : Nat → Int32} (C0 : lw_At p s m meth c b L xs) {G : lw_G} (hg : lw_Ok G s) {i : Nat} {xi : Int32} (hi : xi = nI i) (hiL : i + 7 ≤ L) (hL : L ≤ 3584) {H : Heap} {locs : List Loc} {ls : Array Slot} {σC σM : wk_St} (hI : Inv σC σM)
    (hPC : va_P G.1 wk_cls (lw_wC G σC) H) (hPM : va_P G.1 wk_cls (lw_wM G σM) H) (hS : va_S (fun q : Nat => s.heap.size ≤ q) s.heap H locs) (hl : lv_has ls 4 [(0, .ref b), (1, .ref (G.2.1 0)), (2, .ref (G.2.2.1 0)), (3, .int xi)])
    (hend : ∀ (σC2 σM2 : wk_St), Inv σC2 σM2 → ∀ (H2 : Heap) (locs2 : List Loc), va_P G.1 wk_cls (lw_wC G σC2) H2 → va_P G.1 wk_cls (lw_wM G σM2) H2 → va_S (fun q : Nat => s.heap.size ≤ q) s.heap H2 locs2 → ∀ ls2 : Array Slot, lv_has ls2 4 [(0, .ref b), (1, .ref (G.2.1 0)), (2, .ref (G.2.2.1 0)), (3, .int xi)] → W p l e room_1 s m #[Value.ref b] below meth c H2 locs2 600000 7302250 (lw_Z below #[Value.ref b] s) (F0 m 1341 ls2 [])) :
    W p l e room_1 s m #[Value.ref b] below meth c H locs 600000 7302250 (lw_Z below #[Value.ref b] s) (F0 m 534 ls []) := by
  obtain ⟨hx, hb, hr, hml, hown, hts, hX, hbl, hlocks, hgv⟩ := id C0
  have hbA : ¬ s.heap.size ≤ b := Nat.not_le.mpr hbl
  have hin : ∀ k : Nat, k < 7 → vp_in (xi + nI k) L := fun k hk => by rw [hi, nI_add]; exact vp_in_nI (by omega) (by omega)
  have hDC := hg.2.2.1
  have hDM := hg.2.2.2.1
  have hA0C := hg.2.2.2.2.2.1
  have hA0M := hg.2.2.2.2.2.2.1
  have hapart := hg.2.2.2.2.2.2.2.1
  refine lv_aload_n hx hb d_law_534 rfl (lv_at hl 1 rfl) ?_
  refine lv_aload_n hx hb d_law_535 rfl (lv_at hl 0 rfl) ?_
  refine lv_iload_n hx hb d_law_536 rfl (lv_at hl 3 rfl) ?_
  refine lv_iconst (v := 1) hx hb d_law_537 (by decide) ?_
  refine lv_iadd hx hb d_law_538 ?_
  refine va_sld hx hb hX hbl hbA hS (hin 1 (by decide)) d_law_539 ?_
  refine lv_aload_n hx hb d_law_540 rfl (lv_at hl 0 rfl) ?_
  refine lv_iload_n hx hb d_law_541 rfl (lv_at hl 3 rfl) ?_
  refine lv_iconst (v := 2) hx hb d_law_542 (by decide) ?_
  refine lv_iadd hx hb d_law_543 ?_
  refine va_sld hx hb hX hbl hbA hS (hin 2 (by decide)) d_law_544 ?_
  obtain ⟨r, σC2, σM2, hTC, hTM, hI2⟩ := hop (xs (xi + (1 : Int32)).toNatClampNeg) (xs (xi + (2 : Int32)).toNatClampNeg) _ _ hI
  refine lw_call C0 hg.1 hg.2.2.2.2.1 hg.2.2.2.2.2.2.2.2.2 hg.2.2.2.2.2.2.2.2.1.1 hA0C (f := 11) (as := [.int (xs (xi + (1 : Int32)).toNatClampNeg), .int (xs (xi + (2 : Int32)).toNatClampNeg)]) (rest := []) (by decide) rfl (Nat.le_of_ble_eq_true rfl) hTC hPC (hDC _) hS lw_w40 lw_w41 rfl (by decide +kernel) (by decide) rfl hl.1 (Nat.le_of_ble_eq_true rfl) rfl d_law_545 (fun H1 locs1 hPC hk1 hS => ?_)
  have hPM := hPM.kept (fun k q hq => hk1 q.1 (hPM k q hq).lt (fun hh => hapart _ hh ((hDM _).2 k q hq)))
  refine lv_aload_n hx hb d_law_548 rfl (lv_at hl 2 rfl) ?_
  refine lv_aload_n hx hb d_law_549 rfl (lv_at hl 0 rfl) ?_
  refine lv_iload_n hx hb d_law_550 rfl (lv_at hl 3 rfl) ?_
  refine lv_iconst (v := 1) hx hb d_law_551 (by decide) ?_
  refine lv_iadd hx hb d_law_552 ?_
  refine va_sld hx hb hX hbl hbA hS (hin 1 (by decide)) d_law_553 ?_
  refine lv_aload_n hx hb d_law_554 rfl (lv_at hl 0 rfl) ?_
  refine lv_iload_n hx hb d_law_555 rfl (lv_at hl 3 rfl) ?_
  refine lv_iconst (v := 2) hx hb d_law_556 (by decide) ?_
  refine lv_iadd hx hb d_law_557 ?_
  refine va_sld hx hb hX hbl hbA hS (hin 2 (by decide)) d_law_558 ?_
  refine lw_call C0 hg.2.1 hg.2.2.2.2.1 hg.2.2.2.2.2.2.2.2.2 hg.2.2.2.2.2.2.2.2.1.2 hA0M (f := 109) (as := [.int (xs (xi + (1 : Int32)).toNatClampNeg), .int (xs (xi + (2 : Int32)).toNatClampNeg)]) (rest := [.int r]) (by decide) rfl (Nat.le_of_ble_eq_true rfl) hTM hPM (hDM _) hS lw_w42 lw_w43 rfl (by decide +kernel) (by decide) rfl hl.1 (Nat.le_of_ble_eq_true rfl) rfl d_law_559 (fun H1 locs1 hPM hk1 hS => ?_)
  have hPC := hPC.kept (fun k q hq => hk1 q.1 (hPC k q hq).lt (fun hh => hapart _ ((hDC _).2 k q hq) hh))
  refine lv_icmp_eq (tgt := 1341) hx hb d_law_562 (by decide) (fun h0 => ?_) (fun h0 => absurd rfl h0)
  exact hend _ _ hI2 _ _ hPC hPM hS ls hl
set_option maxRecDepth 100000 in
theorem lw_w44 : (Jvm.Cond.methodLink "WolfKnightLaw" (63 : Nat) ({ cls := "WolfKnight", name := "hunted", desc := "(II)I" } : Jvm.MethodName)) ∈ wk_gt := wk_tbl (List.mem_append_right _ (List.mem_append_right _ (List.mem_append_right _ (List.mem_append_left _ (List.mem_of_getElem? (i := 33) (by decide +kernel)))))) rfl
set_option maxRecDepth 100000 in
theorem lw_w45 : (Jvm.Cond.selects "WolfKnight" ({ cls := "WolfKnight", name := "hunted", desc := "(II)I" } : Jvm.MethodName) ({ cls := "WolfKnight", name := "hunted", desc := "(II)I" } : Jvm.MethodName)) ∈ wk_gt := wk_tbl (List.mem_append_right _ (List.mem_append_right _ (List.mem_append_right _ (List.mem_append_left _ (List.mem_of_getElem? (i := 35) (by decide +kernel)))))) rfl
set_option maxRecDepth 100000 in
theorem lw_w46 : (Jvm.Cond.methodLink "WolfKnightLaw" (66 : Nat) ({ cls := "WolfKnightModel", name := "hunted", desc := "(II)I" } : Jvm.MethodName)) ∈ wk_gt := wk_tbl (List.mem_append_right _ (List.mem_append_right _ (List.mem_append_right _ (List.mem_append_right _ (List.mem_append_right _ (List.mem_append_left _ (List.mem_of_getElem? (i := 121) (by decide +kernel)))))))) rfl
set_option maxRecDepth 100000 in
theorem lw_w47 : (Jvm.Cond.selects "WolfKnightModel" ({ cls := "WolfKnightModel", name := "hunted", desc := "(II)I" } : Jvm.MethodName) ({ cls := "WolfKnightModel", name := "hunted", desc := "(II)I" } : Jvm.MethodName)) ∈ wk_gt := wk_tbl (List.mem_append_right _ (List.mem_append_right _ (List.mem_append_right _ (List.mem_append_right _ (List.mem_append_right _ (List.mem_append_left _ (List.mem_of_getElem? (i := 123) (by decide +kernel)))))))) rfl
def lw_op_11 (Inv : wk_St → wk_St → Prop) : Prop := ∀ (a0 : Int32) (a1 : Int32) σC σM, Inv σC σM → ∃ (r : Int32) (σC2 σM2 : wk_St), wk_T wk_shC 200 12 [.ref 0, .int a0, .int a1] σC (some (.int r), σC2) ∧ wk_T wk_shM 200 95 [.ref 0, .int a0, .int a1] σM (some (.int r), σM2) ∧ Inv σC2 σM2
set_option maxHeartbeats 4000000 in
set_option maxRecDepth 100000 in
theorem lw_case_11 {Inv : wk_St → wk_St → Prop} (hop : lw_op_11 Inv) {p : Program} {l : Launch} {e : Env} {s : State} {m : MethodId} {below : List Frame} {meth : Method} {c : Code} {b L : Nat} {xs : Nat → Int32} (C0 : lw_At p s m meth c b L xs) {G : lw_G} (hg : lw_Ok G s) {i : Nat} {xi : Int32} (hi : xi = nI i) (hiL : i + 7 ≤ L) (hL : L ≤ 3584) {H : Heap} {locs : List Loc} {ls : Array Slot} {σC σM : wk_St} (hI : Inv σC σM)
    (hPC : va_P G.1 wk_cls (lw_wC G σC) H) (hPM : va_P G.1 wk_cls (lw_wM G σM) H) (hS : va_S (fun q : Nat => s.heap.size ≤ q) s.heap H locs) (hl : lv_has ls 4 [(0, .ref b), (1, .ref (G.2.1 0)), (2, .ref (G.2.2.1 0)), (3, .int xi)])
    (hend : ∀ (σC2 σM2 : wk_St), Inv σC2 σM2 → ∀ (H2 : Heap) (locs2 : List Loc), va_P G.1 wk_cls (lw_wC G σC2) H2 → va_P G.1 wk_cls (lw_wM G σM2) H2 → va_S (fun q : Nat => s.heap.size ≤ q) s.heap H2 locs2 → ∀ ls2 : Array Slot, lv_has ls2 4 [(0, .ref b), (1, .ref (G.2.1 0)), (2, .ref (G.2.2.1 0)), (3, .int xi)] → W p l e room_1 s m #[Value.ref b] below meth c H2 locs2 600000 7302250 (lw_Z below #[Value.ref b] s) (F0 m 1341 ls2 [])) :
    W p l e room_1 s m #[Value.ref b] below meth c H locs 600000 7302250 (lw_Z below #[Value.ref b] s) (F0 m 567 ls []) := by
  obtain ⟨hx, hb, hr, hml, hown, hts, hX, hbl, hlocks, hgv⟩ := id C0
  have hbA : ¬ s.heap.size ≤ b := Nat.not_le.mpr hbl
  have hin : ∀ k : Nat, k < 7 → vp_in (xi + nI k) L := fun k hk => by rw [hi, nI_add]; exact vp_in_nI (by omega) (by omega)
  have hDC := hg.2.2.1
  have hDM := hg.2.2.2.1
  have hA0C := hg.2.2.2.2.2.1
  have hA0M := hg.2.2.2.2.2.2.1
  have hapart := hg.2.2.2.2.2.2.2.1
  refine lv_aload_n hx hb d_law_567 rfl (lv_at hl 1 rfl) ?_
  refine lv_aload_n hx hb d_law_568 rfl (lv_at hl 0 rfl) ?_
  refine lv_iload_n hx hb d_law_569 rfl (lv_at hl 3 rfl) ?_
  refine lv_iconst (v := 1) hx hb d_law_570 (by decide) ?_
  refine lv_iadd hx hb d_law_571 ?_
  refine va_sld hx hb hX hbl hbA hS (hin 1 (by decide)) d_law_572 ?_
  refine lv_aload_n hx hb d_law_573 rfl (lv_at hl 0 rfl) ?_
  refine lv_iload_n hx hb d_law_574 rfl (lv_at hl 3 rfl) ?_
  refine lv_iconst (v := 2) hx hb d_law_575 (by decide) ?_
  refine lv_iadd hx hb d_law_576 ?_
  refine va_sld hx hb hX hbl hbA hS (hin 2 (by decide)) d_law_577 ?_
  obtain ⟨r, σC2, σM2, hTC, hTM, hI2⟩ := hop (xs (xi + (1 : Int32)).toNatClampNeg) (xs (xi + (2 : Int32)).toNatClampNeg) _ _ hI
  refine lw_call C0 hg.1 hg.2.2.2.2.1 hg.2.2.2.2.2.2.2.2.2 hg.2.2.2.2.2.2.2.2.1.1 hA0C (f := 12) (as := [.int (xs (xi + (1 : Int32)).toNatClampNeg), .int (xs (xi + (2 : Int32)).toNatClampNeg)]) (rest := []) (by decide) rfl (Nat.le_of_ble_eq_true rfl) hTC hPC (hDC _) hS lw_w44 lw_w45 rfl (by decide +kernel) (by decide) rfl hl.1 (Nat.le_of_ble_eq_true rfl) rfl d_law_578 (fun H1 locs1 hPC hk1 hS => ?_)
  have hPM := hPM.kept (fun k q hq => hk1 q.1 (hPM k q hq).lt (fun hh => hapart _ hh ((hDM _).2 k q hq)))
  refine lv_aload_n hx hb d_law_581 rfl (lv_at hl 2 rfl) ?_
  refine lv_aload_n hx hb d_law_582 rfl (lv_at hl 0 rfl) ?_
  refine lv_iload_n hx hb d_law_583 rfl (lv_at hl 3 rfl) ?_
  refine lv_iconst (v := 1) hx hb d_law_584 (by decide) ?_
  refine lv_iadd hx hb d_law_585 ?_
  refine va_sld hx hb hX hbl hbA hS (hin 1 (by decide)) d_law_586 ?_
  refine lv_aload_n hx hb d_law_587 rfl (lv_at hl 0 rfl) ?_
  refine lv_iload_n hx hb d_law_588 rfl (lv_at hl 3 rfl) ?_
  refine lv_iconst (v := 2) hx hb d_law_589 (by decide) ?_
  refine lv_iadd hx hb d_law_590 ?_
  refine va_sld hx hb hX hbl hbA hS (hin 2 (by decide)) d_law_591 ?_
  refine lw_call C0 hg.2.1 hg.2.2.2.2.1 hg.2.2.2.2.2.2.2.2.2 hg.2.2.2.2.2.2.2.2.1.2 hA0M (f := 95) (as := [.int (xs (xi + (1 : Int32)).toNatClampNeg), .int (xs (xi + (2 : Int32)).toNatClampNeg)]) (rest := [.int r]) (by decide) rfl (Nat.le_of_ble_eq_true rfl) hTM hPM (hDM _) hS lw_w46 lw_w47 rfl (by decide +kernel) (by decide) rfl hl.1 (Nat.le_of_ble_eq_true rfl) rfl d_law_592 (fun H1 locs1 hPM hk1 hS => ?_)
  have hPC := hPC.kept (fun k q hq => hk1 q.1 (hPC k q hq).lt (fun hh => hapart _ ((hDC _).2 k q hq) hh))
  refine lv_icmp_eq (tgt := 1341) hx hb d_law_595 (by decide) (fun h0 => ?_) (fun h0 => absurd rfl h0)
  exact hend _ _ hI2 _ _ hPC hPM hS ls hl
set_option maxRecDepth 100000 in
theorem lw_w48 : (Jvm.Cond.methodLink "WolfKnightLaw" (67 : Nat) ({ cls := "WolfKnight", name := "likes", desc := "(II)I" } : Jvm.MethodName)) ∈ wk_gt := wk_tbl (List.mem_append_right _ (List.mem_append_right _ (List.mem_append_right _ (List.mem_append_left _ (List.mem_of_getElem? (i := 38) (by decide +kernel)))))) rfl
set_option maxRecDepth 100000 in
theorem lw_w49 : (Jvm.Cond.selects "WolfKnight" ({ cls := "WolfKnight", name := "likes", desc := "(II)I" } : Jvm.MethodName) ({ cls := "WolfKnight", name := "likes", desc := "(II)I" } : Jvm.MethodName)) ∈ wk_gt := wk_tbl (List.mem_append_right _ (List.mem_append_right _ (List.mem_append_right _ (List.mem_append_left _ (List.mem_of_getElem? (i := 40) (by decide +kernel)))))) rfl
set_option maxRecDepth 100000 in
theorem lw_w50 : (Jvm.Cond.methodLink "WolfKnightLaw" (70 : Nat) ({ cls := "WolfKnightModel", name := "likes", desc := "(II)I" } : Jvm.MethodName)) ∈ wk_gt := wk_tbl (List.mem_append_right _ (List.mem_append_right _ (List.mem_append_right _ (List.mem_append_right _ (List.mem_append_right _ (List.mem_append_left _ (List.mem_of_getElem? (i := 236) (by decide +kernel)))))))) rfl
set_option maxRecDepth 100000 in
theorem lw_w51 : (Jvm.Cond.selects "WolfKnightModel" ({ cls := "WolfKnightModel", name := "likes", desc := "(II)I" } : Jvm.MethodName) ({ cls := "WolfKnightModel", name := "likes", desc := "(II)I" } : Jvm.MethodName)) ∈ wk_gt := wk_tbl (List.mem_append_right _ (List.mem_append_right _ (List.mem_append_right _ (List.mem_append_right _ (List.mem_append_right _ (List.mem_append_left _ (List.mem_of_getElem? (i := 238) (by decide +kernel)))))))) rfl
def lw_op_12 (Inv : wk_St → wk_St → Prop) : Prop := ∀ (a0 : Int32) (a1 : Int32) σC σM, Inv σC σM → ∃ (r : Int32) (σC2 σM2 : wk_St), wk_T wk_shC 200 13 [.ref 0, .int a0, .int a1] σC (some (.int r), σC2) ∧ wk_T wk_shM 200 110 [.ref 0, .int a0, .int a1] σM (some (.int r), σM2) ∧ Inv σC2 σM2
set_option maxHeartbeats 4000000 in
set_option maxRecDepth 100000 in
theorem lw_case_12 {Inv : wk_St → wk_St → Prop} (hop : lw_op_12 Inv) {p : Program} {l : Launch} {e : Env} {s : State} {m : MethodId} {below : List Frame} {meth : Method} {c : Code} {b L : Nat} {xs : Nat → Int32} (C0 : lw_At p s m meth c b L xs) {G : lw_G} (hg : lw_Ok G s) {i : Nat} {xi : Int32} (hi : xi = nI i) (hiL : i + 7 ≤ L) (hL : L ≤ 3584) {H : Heap} {locs : List Loc} {ls : Array Slot} {σC σM : wk_St} (hI : Inv σC σM)
    (hPC : va_P G.1 wk_cls (lw_wC G σC) H) (hPM : va_P G.1 wk_cls (lw_wM G σM) H) (hS : va_S (fun q : Nat => s.heap.size ≤ q) s.heap H locs) (hl : lv_has ls 4 [(0, .ref b), (1, .ref (G.2.1 0)), (2, .ref (G.2.2.1 0)), (3, .int xi)])
    (hend : ∀ (σC2 σM2 : wk_St), Inv σC2 σM2 → ∀ (H2 : Heap) (locs2 : List Loc), va_P G.1 wk_cls (lw_wC G σC2) H2 → va_P G.1 wk_cls (lw_wM G σM2) H2 → va_S (fun q : Nat => s.heap.size ≤ q) s.heap H2 locs2 → ∀ ls2 : Array Slot, lv_has ls2 4 [(0, .ref b), (1, .ref (G.2.1 0)), (2, .ref (G.2.2.1 0)), (3, .int xi)] → W p l e room_1 s m #[Value.ref b] below meth c H2 locs2 600000 7302250 (lw_Z below #[Value.ref b] s) (F0 m 1341 ls2 [])) :
    W p l e room_1 s m #[Value.ref b] below meth c H locs 600000 7302250 (lw_Z below #[Value.ref b] s) (F0 m 600 ls []) := by
  obtain ⟨hx, hb, hr, hml, hown, hts, hX, hbl, hlocks, hgv⟩ := id C0
  have hbA : ¬ s.heap.size ≤ b := Nat.not_le.mpr hbl
  have hin : ∀ k : Nat, k < 7 → vp_in (xi + nI k) L := fun k hk => by rw [hi, nI_add]; exact vp_in_nI (by omega) (by omega)
  have hDC := hg.2.2.1
  have hDM := hg.2.2.2.1
  have hA0C := hg.2.2.2.2.2.1
  have hA0M := hg.2.2.2.2.2.2.1
  have hapart := hg.2.2.2.2.2.2.2.1
  refine lv_aload_n hx hb d_law_600 rfl (lv_at hl 1 rfl) ?_
  refine lv_aload_n hx hb d_law_601 rfl (lv_at hl 0 rfl) ?_
  refine lv_iload_n hx hb d_law_602 rfl (lv_at hl 3 rfl) ?_
  refine lv_iconst (v := 1) hx hb d_law_603 (by decide) ?_
  refine lv_iadd hx hb d_law_604 ?_
  refine va_sld hx hb hX hbl hbA hS (hin 1 (by decide)) d_law_605 ?_
  refine lv_aload_n hx hb d_law_606 rfl (lv_at hl 0 rfl) ?_
  refine lv_iload_n hx hb d_law_607 rfl (lv_at hl 3 rfl) ?_
  refine lv_iconst (v := 2) hx hb d_law_608 (by decide) ?_
  refine lv_iadd hx hb d_law_609 ?_
  refine va_sld hx hb hX hbl hbA hS (hin 2 (by decide)) d_law_610 ?_
  obtain ⟨r, σC2, σM2, hTC, hTM, hI2⟩ := hop (xs (xi + (1 : Int32)).toNatClampNeg) (xs (xi + (2 : Int32)).toNatClampNeg) _ _ hI
  refine lw_call C0 hg.1 hg.2.2.2.2.1 hg.2.2.2.2.2.2.2.2.2 hg.2.2.2.2.2.2.2.2.1.1 hA0C (f := 13) (as := [.int (xs (xi + (1 : Int32)).toNatClampNeg), .int (xs (xi + (2 : Int32)).toNatClampNeg)]) (rest := []) (by decide) rfl (Nat.le_of_ble_eq_true rfl) hTC hPC (hDC _) hS lw_w48 lw_w49 rfl (by decide +kernel) (by decide) rfl hl.1 (Nat.le_of_ble_eq_true rfl) rfl d_law_611 (fun H1 locs1 hPC hk1 hS => ?_)
  have hPM := hPM.kept (fun k q hq => hk1 q.1 (hPM k q hq).lt (fun hh => hapart _ hh ((hDM _).2 k q hq)))
  refine lv_aload_n hx hb d_law_614 rfl (lv_at hl 2 rfl) ?_
  refine lv_aload_n hx hb d_law_615 rfl (lv_at hl 0 rfl) ?_
  refine lv_iload_n hx hb d_law_616 rfl (lv_at hl 3 rfl) ?_
  refine lv_iconst (v := 1) hx hb d_law_617 (by decide) ?_
  refine lv_iadd hx hb d_law_618 ?_
  refine va_sld hx hb hX hbl hbA hS (hin 1 (by decide)) d_law_619 ?_
  refine lv_aload_n hx hb d_law_620 rfl (lv_at hl 0 rfl) ?_
  refine lv_iload_n hx hb d_law_621 rfl (lv_at hl 3 rfl) ?_
  refine lv_iconst (v := 2) hx hb d_law_622 (by decide) ?_
  refine lv_iadd hx hb d_law_623 ?_
  refine va_sld hx hb hX hbl hbA hS (hin 2 (by decide)) d_law_624 ?_
  refine lw_call C0 hg.2.1 hg.2.2.2.2.1 hg.2.2.2.2.2.2.2.2.2 hg.2.2.2.2.2.2.2.2.1.2 hA0M (f := 110) (as := [.int (xs (xi + (1 : Int32)).toNatClampNeg), .int (xs (xi + (2 : Int32)).toNatClampNeg)]) (rest := [.int r]) (by decide) rfl (Nat.le_of_ble_eq_true rfl) hTM hPM (hDM _) hS lw_w50 lw_w51 rfl (by decide +kernel) (by decide) rfl hl.1 (Nat.le_of_ble_eq_true rfl) rfl d_law_625 (fun H1 locs1 hPM hk1 hS => ?_)
  have hPC := hPC.kept (fun k q hq => hk1 q.1 (hPC k q hq).lt (fun hh => hapart _ ((hDC _).2 k q hq) hh))
  refine lv_icmp_eq (tgt := 1341) hx hb d_law_628 (by decide) (fun h0 => ?_) (fun h0 => absurd rfl h0)
  exact hend _ _ hI2 _ _ hPC hPM hS ls hl
set_option maxRecDepth 100000 in
theorem lw_w52 : (Jvm.Cond.methodLink "WolfKnightLaw" (71 : Nat) ({ cls := "WolfKnight", name := "manAgain", desc := "(II)I" } : Jvm.MethodName)) ∈ wk_gt := wk_tbl (List.mem_append_right _ (List.mem_append_right _ (List.mem_append_right _ (List.mem_append_left _ (List.mem_of_getElem? (i := 44) (by decide +kernel)))))) rfl
set_option maxRecDepth 100000 in
theorem lw_w53 : (Jvm.Cond.selects "WolfKnight" ({ cls := "WolfKnight", name := "manAgain", desc := "(II)I" } : Jvm.MethodName) ({ cls := "WolfKnight", name := "manAgain", desc := "(II)I" } : Jvm.MethodName)) ∈ wk_gt := wk_tbl (List.mem_append_right _ (List.mem_append_right _ (List.mem_append_right _ (List.mem_append_left _ (List.mem_of_getElem? (i := 46) (by decide +kernel)))))) rfl
set_option maxRecDepth 100000 in
theorem lw_w54 : (Jvm.Cond.methodLink "WolfKnightLaw" (74 : Nat) ({ cls := "WolfKnightModel", name := "manAgain", desc := "(II)I" } : Jvm.MethodName)) ∈ wk_gt := wk_tbl (List.mem_append_right _ (List.mem_append_right _ (List.mem_append_right _ (List.mem_append_right _ (List.mem_append_right _ (List.mem_append_right _ (List.mem_of_getElem? (i := 0) (by decide +kernel)))))))) rfl
set_option maxRecDepth 100000 in
theorem lw_w55 : (Jvm.Cond.selects "WolfKnightModel" ({ cls := "WolfKnightModel", name := "manAgain", desc := "(II)I" } : Jvm.MethodName) ({ cls := "WolfKnightModel", name := "manAgain", desc := "(II)I" } : Jvm.MethodName)) ∈ wk_gt := wk_tbl (List.mem_append_right _ (List.mem_append_right _ (List.mem_append_right _ (List.mem_append_right _ (List.mem_append_right _ (List.mem_append_right _ (List.mem_of_getElem? (i := 2) (by decide +kernel)))))))) rfl
def lw_op_13 (Inv : wk_St → wk_St → Prop) : Prop := ∀ (a0 : Int32) (a1 : Int32) σC σM, Inv σC σM → ∃ (r : Int32) (σC2 σM2 : wk_St), wk_T wk_shC 200 14 [.ref 0, .int a0, .int a1] σC (some (.int r), σC2) ∧ wk_T wk_shM 200 111 [.ref 0, .int a0, .int a1] σM (some (.int r), σM2) ∧ Inv σC2 σM2
set_option maxHeartbeats 4000000 in
set_option maxRecDepth 100000 in
theorem lw_case_13 {Inv : wk_St → wk_St → Prop} (hop : lw_op_13 Inv) {p : Program} {l : Launch} {e : Env} {s : State} {m : MethodId} {below : List Frame} {meth : Method} {c : Code} {b L : Nat} {xs : Nat → Int32} (C0 : lw_At p s m meth c b L xs) {G : lw_G} (hg : lw_Ok G s) {i : Nat} {xi : Int32} (hi : xi = nI i) (hiL : i + 7 ≤ L) (hL : L ≤ 3584) {H : Heap} {locs : List Loc} {ls : Array Slot} {σC σM : wk_St} (hI : Inv σC σM)
    (hPC : va_P G.1 wk_cls (lw_wC G σC) H) (hPM : va_P G.1 wk_cls (lw_wM G σM) H) (hS : va_S (fun q : Nat => s.heap.size ≤ q) s.heap H locs) (hl : lv_has ls 4 [(0, .ref b), (1, .ref (G.2.1 0)), (2, .ref (G.2.2.1 0)), (3, .int xi)])
    (hend : ∀ (σC2 σM2 : wk_St), Inv σC2 σM2 → ∀ (H2 : Heap) (locs2 : List Loc), va_P G.1 wk_cls (lw_wC G σC2) H2 → va_P G.1 wk_cls (lw_wM G σM2) H2 → va_S (fun q : Nat => s.heap.size ≤ q) s.heap H2 locs2 → ∀ ls2 : Array Slot, lv_has ls2 4 [(0, .ref b), (1, .ref (G.2.1 0)), (2, .ref (G.2.2.1 0)), (3, .int xi)] → W p l e room_1 s m #[Value.ref b] below meth c H2 locs2 600000 7302250 (lw_Z below #[Value.ref b] s) (F0 m 1341 ls2 [])) :
    W p l e room_1 s m #[Value.ref b] below meth c H locs 600000 7302250 (lw_Z below #[Value.ref b] s) (F0 m 633 ls []) := by
  obtain ⟨hx, hb, hr, hml, hown, hts, hX, hbl, hlocks, hgv⟩ := id C0
  have hbA : ¬ s.heap.size ≤ b := Nat.not_le.mpr hbl
  have hin : ∀ k : Nat, k < 7 → vp_in (xi + nI k) L := fun k hk => by rw [hi, nI_add]; exact vp_in_nI (by omega) (by omega)
  have hDC := hg.2.2.1
  have hDM := hg.2.2.2.1
  have hA0C := hg.2.2.2.2.2.1
  have hA0M := hg.2.2.2.2.2.2.1
  have hapart := hg.2.2.2.2.2.2.2.1
  refine lv_aload_n hx hb d_law_633 rfl (lv_at hl 1 rfl) ?_
  refine lv_aload_n hx hb d_law_634 rfl (lv_at hl 0 rfl) ?_
  refine lv_iload_n hx hb d_law_635 rfl (lv_at hl 3 rfl) ?_
  refine lv_iconst (v := 1) hx hb d_law_636 (by decide) ?_
  refine lv_iadd hx hb d_law_637 ?_
  refine va_sld hx hb hX hbl hbA hS (hin 1 (by decide)) d_law_638 ?_
  refine lv_aload_n hx hb d_law_639 rfl (lv_at hl 0 rfl) ?_
  refine lv_iload_n hx hb d_law_640 rfl (lv_at hl 3 rfl) ?_
  refine lv_iconst (v := 2) hx hb d_law_641 (by decide) ?_
  refine lv_iadd hx hb d_law_642 ?_
  refine va_sld hx hb hX hbl hbA hS (hin 2 (by decide)) d_law_643 ?_
  obtain ⟨r, σC2, σM2, hTC, hTM, hI2⟩ := hop (xs (xi + (1 : Int32)).toNatClampNeg) (xs (xi + (2 : Int32)).toNatClampNeg) _ _ hI
  refine lw_call C0 hg.1 hg.2.2.2.2.1 hg.2.2.2.2.2.2.2.2.2 hg.2.2.2.2.2.2.2.2.1.1 hA0C (f := 14) (as := [.int (xs (xi + (1 : Int32)).toNatClampNeg), .int (xs (xi + (2 : Int32)).toNatClampNeg)]) (rest := []) (by decide) rfl (Nat.le_of_ble_eq_true rfl) hTC hPC (hDC _) hS lw_w52 lw_w53 rfl (by decide +kernel) (by decide) rfl hl.1 (Nat.le_of_ble_eq_true rfl) rfl d_law_644 (fun H1 locs1 hPC hk1 hS => ?_)
  have hPM := hPM.kept (fun k q hq => hk1 q.1 (hPM k q hq).lt (fun hh => hapart _ hh ((hDM _).2 k q hq)))
  refine lv_aload_n hx hb d_law_647 rfl (lv_at hl 2 rfl) ?_
  refine lv_aload_n hx hb d_law_648 rfl (lv_at hl 0 rfl) ?_
  refine lv_iload_n hx hb d_law_649 rfl (lv_at hl 3 rfl) ?_
  refine lv_iconst (v := 1) hx hb d_law_650 (by decide) ?_
  refine lv_iadd hx hb d_law_651 ?_
  refine va_sld hx hb hX hbl hbA hS (hin 1 (by decide)) d_law_652 ?_
  refine lv_aload_n hx hb d_law_653 rfl (lv_at hl 0 rfl) ?_
  refine lv_iload_n hx hb d_law_654 rfl (lv_at hl 3 rfl) ?_
  refine lv_iconst (v := 2) hx hb d_law_655 (by decide) ?_
  refine lv_iadd hx hb d_law_656 ?_
  refine va_sld hx hb hX hbl hbA hS (hin 2 (by decide)) d_law_657 ?_
  refine lw_call C0 hg.2.1 hg.2.2.2.2.1 hg.2.2.2.2.2.2.2.2.2 hg.2.2.2.2.2.2.2.2.1.2 hA0M (f := 111) (as := [.int (xs (xi + (1 : Int32)).toNatClampNeg), .int (xs (xi + (2 : Int32)).toNatClampNeg)]) (rest := [.int r]) (by decide) rfl (Nat.le_of_ble_eq_true rfl) hTM hPM (hDM _) hS lw_w54 lw_w55 rfl (by decide +kernel) (by decide) rfl hl.1 (Nat.le_of_ble_eq_true rfl) rfl d_law_658 (fun H1 locs1 hPM hk1 hS => ?_)
  have hPC := hPC.kept (fun k q hq => hk1 q.1 (hPC k q hq).lt (fun hh => hapart _ ((hDC _).2 k q hq) hh))
  refine lv_icmp_eq (tgt := 1341) hx hb d_law_661 (by decide) (fun h0 => ?_) (fun h0 => absurd rfl h0)
  exact hend _ _ hI2 _ _ hPC hPM hS ls hl
set_option maxRecDepth 100000 in
theorem lw_w56 : (Jvm.Cond.methodLink "WolfKnightLaw" (75 : Nat) ({ cls := "WolfKnight", name := "deadFirst", desc := "(II)I" } : Jvm.MethodName)) ∈ wk_gt := wk_tbl (List.mem_append_right _ (List.mem_append_right _ (List.mem_append_right _ (List.mem_append_left _ (List.mem_of_getElem? (i := 48) (by decide +kernel)))))) rfl
set_option maxRecDepth 100000 in
theorem lw_w57 : (Jvm.Cond.selects "WolfKnight" ({ cls := "WolfKnight", name := "deadFirst", desc := "(II)I" } : Jvm.MethodName) ({ cls := "WolfKnight", name := "deadFirst", desc := "(II)I" } : Jvm.MethodName)) ∈ wk_gt := wk_tbl (List.mem_append_right _ (List.mem_append_right _ (List.mem_append_right _ (List.mem_append_left _ (List.mem_of_getElem? (i := 50) (by decide +kernel)))))) rfl
set_option maxRecDepth 100000 in
theorem lw_w58 : (Jvm.Cond.methodLink "WolfKnightLaw" (78 : Nat) ({ cls := "WolfKnightModel", name := "deadFirst", desc := "(II)I" } : Jvm.MethodName)) ∈ wk_gt := wk_tbl (List.mem_append_right _ (List.mem_append_right _ (List.mem_append_right _ (List.mem_append_right _ (List.mem_append_right _ (List.mem_append_right _ (List.mem_of_getElem? (i := 4) (by decide +kernel)))))))) rfl
set_option maxRecDepth 100000 in
theorem lw_w59 : (Jvm.Cond.selects "WolfKnightModel" ({ cls := "WolfKnightModel", name := "deadFirst", desc := "(II)I" } : Jvm.MethodName) ({ cls := "WolfKnightModel", name := "deadFirst", desc := "(II)I" } : Jvm.MethodName)) ∈ wk_gt := wk_tbl (List.mem_append_right _ (List.mem_append_right _ (List.mem_append_right _ (List.mem_append_right _ (List.mem_append_right _ (List.mem_append_right _ (List.mem_of_getElem? (i := 6) (by decide +kernel)))))))) rfl
def lw_op_14 (Inv : wk_St → wk_St → Prop) : Prop := ∀ (a0 : Int32) (a1 : Int32) σC σM, Inv σC σM → ∃ (r : Int32) (σC2 σM2 : wk_St), wk_T wk_shC 200 15 [.ref 0, .int a0, .int a1] σC (some (.int r), σC2) ∧ wk_T wk_shM 200 112 [.ref 0, .int a0, .int a1] σM (some (.int r), σM2) ∧ Inv σC2 σM2
set_option maxHeartbeats 4000000 in
set_option maxRecDepth 100000 in
theorem lw_case_14 {Inv : wk_St → wk_St → Prop} (hop : lw_op_14 Inv) {p : Program} {l : Launch} {e : Env} {s : State} {m : MethodId} {below : List Frame} {meth : Method} {c : Code} {b L : Nat} {xs : Nat → Int32} (C0 : lw_At p s m meth c b L xs) {G : lw_G} (hg : lw_Ok G s) {i : Nat} {xi : Int32} (hi : xi = nI i) (hiL : i + 7 ≤ L) (hL : L ≤ 3584) {H : Heap} {locs : List Loc} {ls : Array Slot} {σC σM : wk_St} (hI : Inv σC σM)
    (hPC : va_P G.1 wk_cls (lw_wC G σC) H) (hPM : va_P G.1 wk_cls (lw_wM G σM) H) (hS : va_S (fun q : Nat => s.heap.size ≤ q) s.heap H locs) (hl : lv_has ls 4 [(0, .ref b), (1, .ref (G.2.1 0)), (2, .ref (G.2.2.1 0)), (3, .int xi)])
    (hend : ∀ (σC2 σM2 : wk_St), Inv σC2 σM2 → ∀ (H2 : Heap) (locs2 : List Loc), va_P G.1 wk_cls (lw_wC G σC2) H2 → va_P G.1 wk_cls (lw_wM G σM2) H2 → va_S (fun q : Nat => s.heap.size ≤ q) s.heap H2 locs2 → ∀ ls2 : Array Slot, lv_has ls2 4 [(0, .ref b), (1, .ref (G.2.1 0)), (2, .ref (G.2.2.1 0)), (3, .int xi)] → W p l e room_1 s m #[Value.ref b] below meth c H2 locs2 600000 7302250 (lw_Z below #[Value.ref b] s) (F0 m 1341 ls2 [])) :
    W p l e room_1 s m #[Value.ref b] below meth c H locs 600000 7302250 (lw_Z below #[Value.ref b] s) (F0 m 666 ls []) := by
  obtain ⟨hx, hb, hr, hml, hown, hts, hX, hbl, hlocks, hgv⟩ := id C0
  have hbA : ¬ s.heap.size ≤ b := Nat.not_le.mpr hbl
  have hin : ∀ k : Nat, k < 7 → vp_in (xi + nI k) L := fun k hk => by rw [hi, nI_add]; exact vp_in_nI (by omega) (by omega)
  have hDC := hg.2.2.1
  have hDM := hg.2.2.2.1
  have hA0C := hg.2.2.2.2.2.1
  have hA0M := hg.2.2.2.2.2.2.1
  have hapart := hg.2.2.2.2.2.2.2.1
  refine lv_aload_n hx hb d_law_666 rfl (lv_at hl 1 rfl) ?_
  refine lv_aload_n hx hb d_law_667 rfl (lv_at hl 0 rfl) ?_
  refine lv_iload_n hx hb d_law_668 rfl (lv_at hl 3 rfl) ?_
  refine lv_iconst (v := 1) hx hb d_law_669 (by decide) ?_
  refine lv_iadd hx hb d_law_670 ?_
  refine va_sld hx hb hX hbl hbA hS (hin 1 (by decide)) d_law_671 ?_
  refine lv_aload_n hx hb d_law_672 rfl (lv_at hl 0 rfl) ?_
  refine lv_iload_n hx hb d_law_673 rfl (lv_at hl 3 rfl) ?_
  refine lv_iconst (v := 2) hx hb d_law_674 (by decide) ?_
  refine lv_iadd hx hb d_law_675 ?_
  refine va_sld hx hb hX hbl hbA hS (hin 2 (by decide)) d_law_676 ?_
  obtain ⟨r, σC2, σM2, hTC, hTM, hI2⟩ := hop (xs (xi + (1 : Int32)).toNatClampNeg) (xs (xi + (2 : Int32)).toNatClampNeg) _ _ hI
  refine lw_call C0 hg.1 hg.2.2.2.2.1 hg.2.2.2.2.2.2.2.2.2 hg.2.2.2.2.2.2.2.2.1.1 hA0C (f := 15) (as := [.int (xs (xi + (1 : Int32)).toNatClampNeg), .int (xs (xi + (2 : Int32)).toNatClampNeg)]) (rest := []) (by decide) rfl (Nat.le_of_ble_eq_true rfl) hTC hPC (hDC _) hS lw_w56 lw_w57 rfl (by decide +kernel) (by decide) rfl hl.1 (Nat.le_of_ble_eq_true rfl) rfl d_law_677 (fun H1 locs1 hPC hk1 hS => ?_)
  have hPM := hPM.kept (fun k q hq => hk1 q.1 (hPM k q hq).lt (fun hh => hapart _ hh ((hDM _).2 k q hq)))
  refine lv_aload_n hx hb d_law_680 rfl (lv_at hl 2 rfl) ?_
  refine lv_aload_n hx hb d_law_681 rfl (lv_at hl 0 rfl) ?_
  refine lv_iload_n hx hb d_law_682 rfl (lv_at hl 3 rfl) ?_
  refine lv_iconst (v := 1) hx hb d_law_683 (by decide) ?_
  refine lv_iadd hx hb d_law_684 ?_
  refine va_sld hx hb hX hbl hbA hS (hin 1 (by decide)) d_law_685 ?_
  refine lv_aload_n hx hb d_law_686 rfl (lv_at hl 0 rfl) ?_
  refine lv_iload_n hx hb d_law_687 rfl (lv_at hl 3 rfl) ?_
  refine lv_iconst (v := 2) hx hb d_law_688 (by decide) ?_
  refine lv_iadd hx hb d_law_689 ?_
  refine va_sld hx hb hX hbl hbA hS (hin 2 (by decide)) d_law_690 ?_
  refine lw_call C0 hg.2.1 hg.2.2.2.2.1 hg.2.2.2.2.2.2.2.2.2 hg.2.2.2.2.2.2.2.2.1.2 hA0M (f := 112) (as := [.int (xs (xi + (1 : Int32)).toNatClampNeg), .int (xs (xi + (2 : Int32)).toNatClampNeg)]) (rest := [.int r]) (by decide) rfl (Nat.le_of_ble_eq_true rfl) hTM hPM (hDM _) hS lw_w58 lw_w59 rfl (by decide +kernel) (by decide) rfl hl.1 (Nat.le_of_ble_eq_true rfl) rfl d_law_691 (fun H1 locs1 hPM hk1 hS => ?_)
  have hPC := hPC.kept (fun k q hq => hk1 q.1 (hPC k q hq).lt (fun hh => hapart _ ((hDC _).2 k q hq) hh))
  refine lv_icmp_eq (tgt := 1341) hx hb d_law_694 (by decide) (fun h0 => ?_) (fun h0 => absurd rfl h0)
  exact hend _ _ hI2 _ _ hPC hPM hS ls hl
set_option maxRecDepth 100000 in
theorem lw_w60 : (Jvm.Cond.methodLink "WolfKnightLaw" (79 : Nat) ({ cls := "WolfKnight", name := "home", desc := "(II)I" } : Jvm.MethodName)) ∈ wk_gt := wk_tbl (List.mem_append_right _ (List.mem_append_right _ (List.mem_append_right _ (List.mem_append_left _ (List.mem_of_getElem? (i := 52) (by decide +kernel)))))) rfl
set_option maxRecDepth 100000 in
theorem lw_w61 : (Jvm.Cond.selects "WolfKnight" ({ cls := "WolfKnight", name := "home", desc := "(II)I" } : Jvm.MethodName) ({ cls := "WolfKnight", name := "home", desc := "(II)I" } : Jvm.MethodName)) ∈ wk_gt := wk_tbl (List.mem_append_right _ (List.mem_append_right _ (List.mem_append_right _ (List.mem_append_left _ (List.mem_of_getElem? (i := 54) (by decide +kernel)))))) rfl
set_option maxRecDepth 100000 in
theorem lw_w62 : (Jvm.Cond.methodLink "WolfKnightLaw" (82 : Nat) ({ cls := "WolfKnightModel", name := "home", desc := "(II)I" } : Jvm.MethodName)) ∈ wk_gt := wk_tbl (List.mem_append_right _ (List.mem_append_right _ (List.mem_append_right _ (List.mem_append_right _ (List.mem_append_right _ (List.mem_append_right _ (List.mem_of_getElem? (i := 8) (by decide +kernel)))))))) rfl
set_option maxRecDepth 100000 in
theorem lw_w63 : (Jvm.Cond.selects "WolfKnightModel" ({ cls := "WolfKnightModel", name := "home", desc := "(II)I" } : Jvm.MethodName) ({ cls := "WolfKnightModel", name := "home", desc := "(II)I" } : Jvm.MethodName)) ∈ wk_gt := wk_tbl (List.mem_append_right _ (List.mem_append_right _ (List.mem_append_right _ (List.mem_append_right _ (List.mem_append_right _ (List.mem_append_right _ (List.mem_of_getElem? (i := 10) (by decide +kernel)))))))) rfl
def lw_op_15 (Inv : wk_St → wk_St → Prop) : Prop := ∀ (a0 : Int32) (a1 : Int32) σC σM, Inv σC σM → ∃ (r : Int32) (σC2 σM2 : wk_St), wk_T wk_shC 200 16 [.ref 0, .int a0, .int a1] σC (some (.int r), σC2) ∧ wk_T wk_shM 200 114 [.ref 0, .int a0, .int a1] σM (some (.int r), σM2) ∧ Inv σC2 σM2
set_option maxHeartbeats 4000000 in
set_option maxRecDepth 100000 in
theorem lw_case_15 {Inv : wk_St → wk_St → Prop} (hop : lw_op_15 Inv) {p : Program} {l : Launch} {e : Env} {s : State} {m : MethodId} {below : List Frame} {meth : Method} {c : Code} {b L : Nat} {xs : Nat → Int32} (C0 : lw_At p s m meth c b L xs) {G : lw_G} (hg : lw_Ok G s) {i : Nat} {xi : Int32} (hi : xi = nI i) (hiL : i + 7 ≤ L) (hL : L ≤ 3584) {H : Heap} {locs : List Loc} {ls : Array Slot} {σC σM : wk_St} (hI : Inv σC σM)
    (hPC : va_P G.1 wk_cls (lw_wC G σC) H) (hPM : va_P G.1 wk_cls (lw_wM G σM) H) (hS : va_S (fun q : Nat => s.heap.size ≤ q) s.heap H locs) (hl : lv_has ls 4 [(0, .ref b), (1, .ref (G.2.1 0)), (2, .ref (G.2.2.1 0)), (3, .int xi)])
    (hend : ∀ (σC2 σM2 : wk_St), Inv σC2 σM2 → ∀ (H2 : Heap) (locs2 : List Loc), va_P G.1 wk_cls (lw_wC G σC2) H2 → va_P G.1 wk_cls (lw_wM G σM2) H2 → va_S (fun q : Nat => s.heap.size ≤ q) s.heap H2 locs2 → ∀ ls2 : Array Slot, lv_has ls2 4 [(0, .ref b), (1, .ref (G.2.1 0)), (2, .ref (G.2.2.1 0)), (3, .int xi)] → W p l e room_1 s m #[Value.ref b] below meth c H2 locs2 600000 7302250 (lw_Z below #[Value.ref b] s) (F0 m 1341 ls2 [])) :
    W p l e room_1 s m #[Value.ref b] below meth c H locs 600000 7302250 (lw_Z below #[Value.ref b] s) (F0 m 699 ls []) := by
  obtain ⟨hx, hb, hr, hml, hown, hts, hX, hbl, hlocks, hgv⟩ := id C0
  have hbA : ¬ s.heap.size ≤ b := Nat.not_le.mpr hbl
  have hin : ∀ k : Nat, k < 7 → vp_in (xi + nI k) L := fun k hk => by rw [hi, nI_add]; exact vp_in_nI (by omega) (by omega)
  have hDC := hg.2.2.1
  have hDM := hg.2.2.2.1
  have hA0C := hg.2.2.2.2.2.1
  have hA0M := hg.2.2.2.2.2.2.1
  have hapart := hg.2.2.2.2.2.2.2.1
  refine lv_aload_n hx hb d_law_699 rfl (lv_at hl 1 rfl) ?_
  refine lv_aload_n hx hb d_law_700 rfl (lv_at hl 0 rfl) ?_
  refine lv_iload_n hx hb d_law_701 rfl (lv_at hl 3 rfl) ?_
  refine lv_iconst (v := 1) hx hb d_law_702 (by decide) ?_
  refine lv_iadd hx hb d_law_703 ?_
  refine va_sld hx hb hX hbl hbA hS (hin 1 (by decide)) d_law_704 ?_
  refine lv_aload_n hx hb d_law_705 rfl (lv_at hl 0 rfl) ?_
  refine lv_iload_n hx hb d_law_706 rfl (lv_at hl 3 rfl) ?_
  refine lv_iconst (v := 2) hx hb d_law_707 (by decide) ?_
  refine lv_iadd hx hb d_law_708 ?_
  refine va_sld hx hb hX hbl hbA hS (hin 2 (by decide)) d_law_709 ?_
  obtain ⟨r, σC2, σM2, hTC, hTM, hI2⟩ := hop (xs (xi + (1 : Int32)).toNatClampNeg) (xs (xi + (2 : Int32)).toNatClampNeg) _ _ hI
  refine lw_call C0 hg.1 hg.2.2.2.2.1 hg.2.2.2.2.2.2.2.2.2 hg.2.2.2.2.2.2.2.2.1.1 hA0C (f := 16) (as := [.int (xs (xi + (1 : Int32)).toNatClampNeg), .int (xs (xi + (2 : Int32)).toNatClampNeg)]) (rest := []) (by decide) rfl (Nat.le_of_ble_eq_true rfl) hTC hPC (hDC _) hS lw_w60 lw_w61 rfl (by decide +kernel) (by decide) rfl hl.1 (Nat.le_of_ble_eq_true rfl) rfl d_law_710 (fun H1 locs1 hPC hk1 hS => ?_)
  have hPM := hPM.kept (fun k q hq => hk1 q.1 (hPM k q hq).lt (fun hh => hapart _ hh ((hDM _).2 k q hq)))
  refine lv_aload_n hx hb d_law_713 rfl (lv_at hl 2 rfl) ?_
  refine lv_aload_n hx hb d_law_714 rfl (lv_at hl 0 rfl) ?_
  refine lv_iload_n hx hb d_law_715 rfl (lv_at hl 3 rfl) ?_
  refine lv_iconst (v := 1) hx hb d_law_716 (by decide) ?_
  refine lv_iadd hx hb d_law_717 ?_
  refine va_sld hx hb hX hbl hbA hS (hin 1 (by decide)) d_law_718 ?_
  refine lv_aload_n hx hb d_law_719 rfl (lv_at hl 0 rfl) ?_
  refine lv_iload_n hx hb d_law_720 rfl (lv_at hl 3 rfl) ?_
  refine lv_iconst (v := 2) hx hb d_law_721 (by decide) ?_
  refine lv_iadd hx hb d_law_722 ?_
  refine va_sld hx hb hX hbl hbA hS (hin 2 (by decide)) d_law_723 ?_
  refine lw_call C0 hg.2.1 hg.2.2.2.2.1 hg.2.2.2.2.2.2.2.2.2 hg.2.2.2.2.2.2.2.2.1.2 hA0M (f := 114) (as := [.int (xs (xi + (1 : Int32)).toNatClampNeg), .int (xs (xi + (2 : Int32)).toNatClampNeg)]) (rest := [.int r]) (by decide) rfl (Nat.le_of_ble_eq_true rfl) hTM hPM (hDM _) hS lw_w62 lw_w63 rfl (by decide +kernel) (by decide) rfl hl.1 (Nat.le_of_ble_eq_true rfl) rfl d_law_724 (fun H1 locs1 hPM hk1 hS => ?_)
  have hPC := hPC.kept (fun k q hq => hk1 q.1 (hPC k q hq).lt (fun hh => hapart _ ((hDC _).2 k q hq) hh))
  refine lv_icmp_eq (tgt := 1341) hx hb d_law_727 (by decide) (fun h0 => ?_) (fun h0 => absurd rfl h0)
  exact hend _ _ hI2 _ _ hPC hPM hS ls hl
set_option maxRecDepth 100000 in
theorem lw_w64 : (Jvm.Cond.methodLink "WolfKnightLaw" (83 : Nat) ({ cls := "WolfKnight", name := "safest", desc := "(II)I" } : Jvm.MethodName)) ∈ wk_gt := wk_tbl (List.mem_append_right _ (List.mem_append_right _ (List.mem_append_right _ (List.mem_append_left _ (List.mem_of_getElem? (i := 88) (by decide +kernel)))))) rfl
set_option maxRecDepth 100000 in
theorem lw_w65 : (Jvm.Cond.selects "WolfKnight" ({ cls := "WolfKnight", name := "safest", desc := "(II)I" } : Jvm.MethodName) ({ cls := "WolfKnight", name := "safest", desc := "(II)I" } : Jvm.MethodName)) ∈ wk_gt := wk_tbl (List.mem_append_right _ (List.mem_append_right _ (List.mem_append_right _ (List.mem_append_left _ (List.mem_of_getElem? (i := 90) (by decide +kernel)))))) rfl
set_option maxRecDepth 100000 in
theorem lw_w66 : (Jvm.Cond.methodLink "WolfKnightLaw" (86 : Nat) ({ cls := "WolfKnightModel", name := "safest", desc := "(II)I" } : Jvm.MethodName)) ∈ wk_gt := wk_tbl (List.mem_append_right _ (List.mem_append_right _ (List.mem_append_right _ (List.mem_append_right _ (List.mem_append_right _ (List.mem_append_right _ (List.mem_of_getElem? (i := 16) (by decide +kernel)))))))) rfl
set_option maxRecDepth 100000 in
theorem lw_w67 : (Jvm.Cond.selects "WolfKnightModel" ({ cls := "WolfKnightModel", name := "safest", desc := "(II)I" } : Jvm.MethodName) ({ cls := "WolfKnightModel", name := "safest", desc := "(II)I" } : Jvm.MethodName)) ∈ wk_gt := wk_tbl (List.mem_append_right _ (List.mem_append_right _ (List.mem_append_right _ (List.mem_append_right _ (List.mem_append_right _ (List.mem_append_right _ (List.mem_of_getElem? (i := 18) (by decide +kernel)))))))) rfl
def lw_op_16 (Inv : wk_St → wk_St → Prop) : Prop := ∀ (a0 : Int32) (a1 : Int32) σC σM, Inv σC σM → ∃ (r : Int32) (σC2 σM2 : wk_St), wk_T wk_shC 200 17 [.ref 0, .int a0, .int a1] σC (some (.int r), σC2) ∧ wk_T wk_shM 200 116 [.ref 0, .int a0, .int a1] σM (some (.int r), σM2) ∧ Inv σC2 σM2
set_option maxHeartbeats 4000000 in
set_option maxRecDepth 100000 in
theorem lw_case_16 {Inv : wk_St → wk_St → Prop} (hop : lw_op_16 Inv) {p : Program} {l : Launch} {e : Env} {s : State} {m : MethodId} {below : List Frame} {meth : Method} {c : Code} {b L : Nat} {xs : Nat → Int32} (C0 : lw_At p s m meth c b L xs) {G : lw_G} (hg : lw_Ok G s) {i : Nat} {xi : Int32} (hi : xi = nI i) (hiL : i + 7 ≤ L) (hL : L ≤ 3584) {H : Heap} {locs : List Loc} {ls : Array Slot} {σC σM : wk_St} (hI : Inv σC σM)
    (hPC : va_P G.1 wk_cls (lw_wC G σC) H) (hPM : va_P G.1 wk_cls (lw_wM G σM) H) (hS : va_S (fun q : Nat => s.heap.size ≤ q) s.heap H locs) (hl : lv_has ls 4 [(0, .ref b), (1, .ref (G.2.1 0)), (2, .ref (G.2.2.1 0)), (3, .int xi)])
    (hend : ∀ (σC2 σM2 : wk_St), Inv σC2 σM2 → ∀ (H2 : Heap) (locs2 : List Loc), va_P G.1 wk_cls (lw_wC G σC2) H2 → va_P G.1 wk_cls (lw_wM G σM2) H2 → va_S (fun q : Nat => s.heap.size ≤ q) s.heap H2 locs2 → ∀ ls2 : Array Slot, lv_has ls2 4 [(0, .ref b), (1, .ref (G.2.1 0)), (2, .ref (G.2.2.1 0)), (3, .int xi)] → W p l e room_1 s m #[Value.ref b] below meth c H2 locs2 600000 7302250 (lw_Z below #[Value.ref b] s) (F0 m 1341 ls2 [])) :
    W p l e room_1 s m #[Value.ref b] below meth c H locs 600000 7302250 (lw_Z below #[Value.ref b] s) (F0 m 732 ls []) := by
  obtain ⟨hx, hb, hr, hml, hown, hts, hX, hbl, hlocks, hgv⟩ := id C0
  have hbA : ¬ s.heap.size ≤ b := Nat.not_le.mpr hbl
  have hin : ∀ k : Nat, k < 7 → vp_in (xi + nI k) L := fun k hk => by rw [hi, nI_add]; exact vp_in_nI (by omega) (by omega)
  have hDC := hg.2.2.1
  have hDM := hg.2.2.2.1
  have hA0C := hg.2.2.2.2.2.1
  have hA0M := hg.2.2.2.2.2.2.1
  have hapart := hg.2.2.2.2.2.2.2.1
  refine lv_aload_n hx hb d_law_732 rfl (lv_at hl 1 rfl) ?_
  refine lv_aload_n hx hb d_law_733 rfl (lv_at hl 0 rfl) ?_
  refine lv_iload_n hx hb d_law_734 rfl (lv_at hl 3 rfl) ?_
  refine lv_iconst (v := 1) hx hb d_law_735 (by decide) ?_
  refine lv_iadd hx hb d_law_736 ?_
  refine va_sld hx hb hX hbl hbA hS (hin 1 (by decide)) d_law_737 ?_
  refine lv_aload_n hx hb d_law_738 rfl (lv_at hl 0 rfl) ?_
  refine lv_iload_n hx hb d_law_739 rfl (lv_at hl 3 rfl) ?_
  refine lv_iconst (v := 2) hx hb d_law_740 (by decide) ?_
  refine lv_iadd hx hb d_law_741 ?_
  refine va_sld hx hb hX hbl hbA hS (hin 2 (by decide)) d_law_742 ?_
  obtain ⟨r, σC2, σM2, hTC, hTM, hI2⟩ := hop (xs (xi + (1 : Int32)).toNatClampNeg) (xs (xi + (2 : Int32)).toNatClampNeg) _ _ hI
  refine lw_call C0 hg.1 hg.2.2.2.2.1 hg.2.2.2.2.2.2.2.2.2 hg.2.2.2.2.2.2.2.2.1.1 hA0C (f := 17) (as := [.int (xs (xi + (1 : Int32)).toNatClampNeg), .int (xs (xi + (2 : Int32)).toNatClampNeg)]) (rest := []) (by decide) rfl (Nat.le_of_ble_eq_true rfl) hTC hPC (hDC _) hS lw_w64 lw_w65 rfl (by decide +kernel) (by decide) rfl hl.1 (Nat.le_of_ble_eq_true rfl) rfl d_law_743 (fun H1 locs1 hPC hk1 hS => ?_)
  have hPM := hPM.kept (fun k q hq => hk1 q.1 (hPM k q hq).lt (fun hh => hapart _ hh ((hDM _).2 k q hq)))
  refine lv_aload_n hx hb d_law_746 rfl (lv_at hl 2 rfl) ?_
  refine lv_aload_n hx hb d_law_747 rfl (lv_at hl 0 rfl) ?_
  refine lv_iload_n hx hb d_law_748 rfl (lv_at hl 3 rfl) ?_
  refine lv_iconst (v := 1) hx hb d_law_749 (by decide) ?_
  refine lv_iadd hx hb d_law_750 ?_
  refine va_sld hx hb hX hbl hbA hS (hin 1 (by decide)) d_law_751 ?_
  refine lv_aload_n hx hb d_law_752 rfl (lv_at hl 0 rfl) ?_
  refine lv_iload_n hx hb d_law_753 rfl (lv_at hl 3 rfl) ?_
  refine lv_iconst (v := 2) hx hb d_law_754 (by decide) ?_
  refine lv_iadd hx hb d_law_755 ?_
  refine va_sld hx hb hX hbl hbA hS (hin 2 (by decide)) d_law_756 ?_
  refine lw_call C0 hg.2.1 hg.2.2.2.2.1 hg.2.2.2.2.2.2.2.2.2 hg.2.2.2.2.2.2.2.2.1.2 hA0M (f := 116) (as := [.int (xs (xi + (1 : Int32)).toNatClampNeg), .int (xs (xi + (2 : Int32)).toNatClampNeg)]) (rest := [.int r]) (by decide) rfl (Nat.le_of_ble_eq_true rfl) hTM hPM (hDM _) hS lw_w66 lw_w67 rfl (by decide +kernel) (by decide) rfl hl.1 (Nat.le_of_ble_eq_true rfl) rfl d_law_757 (fun H1 locs1 hPM hk1 hS => ?_)
  have hPC := hPC.kept (fun k q hq => hk1 q.1 (hPC k q hq).lt (fun hh => hapart _ ((hDC _).2 k q hq) hh))
  refine lv_icmp_eq (tgt := 1341) hx hb d_law_760 (by decide) (fun h0 => ?_) (fun h0 => absurd rfl h0)
  exact hend _ _ hI2 _ _ hPC hPM hS ls hl
set_option maxRecDepth 100000 in
theorem lw_w68 : (Jvm.Cond.methodLink "WolfKnightLaw" (87 : Nat) ({ cls := "WolfKnight", name := "calm", desc := "(II)I" } : Jvm.MethodName)) ∈ wk_gt := wk_tbl (List.mem_append_right _ (List.mem_append_right _ (List.mem_append_right _ (List.mem_append_left _ (List.mem_of_getElem? (i := 96) (by decide +kernel)))))) rfl
set_option maxRecDepth 100000 in
theorem lw_w69 : (Jvm.Cond.selects "WolfKnight" ({ cls := "WolfKnight", name := "calm", desc := "(II)I" } : Jvm.MethodName) ({ cls := "WolfKnight", name := "calm", desc := "(II)I" } : Jvm.MethodName)) ∈ wk_gt := wk_tbl (List.mem_append_right _ (List.mem_append_right _ (List.mem_append_right _ (List.mem_append_left _ (List.mem_of_getElem? (i := 98) (by decide +kernel)))))) rfl
set_option maxRecDepth 100000 in
theorem lw_w70 : (Jvm.Cond.methodLink "WolfKnightLaw" (90 : Nat) ({ cls := "WolfKnightModel", name := "calm", desc := "(II)I" } : Jvm.MethodName)) ∈ wk_gt := wk_tbl (List.mem_append_right _ (List.mem_append_right _ (List.mem_append_right _ (List.mem_append_right _ (List.mem_append_right _ (List.mem_append_right _ (List.mem_of_getElem? (i := 24) (by decide +kernel)))))))) rfl
set_option maxRecDepth 100000 in
theorem lw_w71 : (Jvm.Cond.selects "WolfKnightModel" ({ cls := "WolfKnightModel", name := "calm", desc := "(II)I" } : Jvm.MethodName) ({ cls := "WolfKnightModel", name := "calm", desc := "(II)I" } : Jvm.MethodName)) ∈ wk_gt := wk_tbl (List.mem_append_right _ (List.mem_append_right _ (List.mem_append_right _ (List.mem_append_right _ (List.mem_append_right _ (List.mem_append_right _ (List.mem_of_getElem? (i := 26) (by decide +kernel)))))))) rfl
def lw_op_17 (Inv : wk_St → wk_St → Prop) : Prop := ∀ (a0 : Int32) (a1 : Int32) σC σM, Inv σC σM → ∃ (r : Int32) (σC2 σM2 : wk_St), wk_T wk_shC 200 18 [.ref 0, .int a0, .int a1] σC (some (.int r), σC2) ∧ wk_T wk_shM 200 117 [.ref 0, .int a0, .int a1] σM (some (.int r), σM2) ∧ Inv σC2 σM2
set_option maxHeartbeats 4000000 in
set_option maxRecDepth 100000 in
theorem lw_case_17 {Inv : wk_St → wk_St → Prop} (hop : lw_op_17 Inv) {p : Program} {l : Launch} {e : Env} {s : State} {m : MethodId} {below : List Frame} {meth : Method} {c : Code} {b L : Nat} {xs : Nat → Int32} (C0 : lw_At p s m meth c b L xs) {G : lw_G} (hg : lw_Ok G s) {i : Nat} {xi : Int32} (hi : xi = nI i) (hiL : i + 7 ≤ L) (hL : L ≤ 3584) {H : Heap} {locs : List Loc} {ls : Array Slot} {σC σM : wk_St} (hI : Inv σC σM)
    (hPC : va_P G.1 wk_cls (lw_wC G σC) H) (hPM : va_P G.1 wk_cls (lw_wM G σM) H) (hS : va_S (fun q : Nat => s.heap.size ≤ q) s.heap H locs) (hl : lv_has ls 4 [(0, .ref b), (1, .ref (G.2.1 0)), (2, .ref (G.2.2.1 0)), (3, .int xi)])
    (hend : ∀ (σC2 σM2 : wk_St), Inv σC2 σM2 → ∀ (H2 : Heap) (locs2 : List Loc), va_P G.1 wk_cls (lw_wC G σC2) H2 → va_P G.1 wk_cls (lw_wM G σM2) H2 → va_S (fun q : Nat => s.heap.size ≤ q) s.heap H2 locs2 → ∀ ls2 : Array Slot, lv_has ls2 4 [(0, .ref b), (1, .ref (G.2.1 0)), (2, .ref (G.2.2.1 0)), (3, .int xi)] → W p l e room_1 s m #[Value.ref b] below meth c H2 locs2 600000 7302250 (lw_Z below #[Value.ref b] s) (F0 m 1341 ls2 [])) :
    W p l e room_1 s m #[Value.ref b] below meth c H locs 600000 7302250 (lw_Z below #[Value.ref b] s) (F0 m 765 ls []) := by
  obtain ⟨hx, hb, hr, hml, hown, hts, hX, hbl, hlocks, hgv⟩ := id C0
  have hbA : ¬ s.heap.size ≤ b := Nat.not_le.mpr hbl
  have hin : ∀ k : Nat, k < 7 → vp_in (xi + nI k) L := fun k hk => by rw [hi, nI_add]; exact vp_in_nI (by omega) (by omega)
  have hDC := hg.2.2.1
  have hDM := hg.2.2.2.1
  have hA0C := hg.2.2.2.2.2.1
  have hA0M := hg.2.2.2.2.2.2.1
  have hapart := hg.2.2.2.2.2.2.2.1
  refine lv_aload_n hx hb d_law_765 rfl (lv_at hl 1 rfl) ?_
  refine lv_aload_n hx hb d_law_766 rfl (lv_at hl 0 rfl) ?_
  refine lv_iload_n hx hb d_law_767 rfl (lv_at hl 3 rfl) ?_
  refine lv_iconst (v := 1) hx hb d_law_768 (by decide) ?_
  refine lv_iadd hx hb d_law_769 ?_
  refine va_sld hx hb hX hbl hbA hS (hin 1 (by decide)) d_law_770 ?_
  refine lv_aload_n hx hb d_law_771 rfl (lv_at hl 0 rfl) ?_
  refine lv_iload_n hx hb d_law_772 rfl (lv_at hl 3 rfl) ?_
  refine lv_iconst (v := 2) hx hb d_law_773 (by decide) ?_
  refine lv_iadd hx hb d_law_774 ?_
  refine va_sld hx hb hX hbl hbA hS (hin 2 (by decide)) d_law_775 ?_
  obtain ⟨r, σC2, σM2, hTC, hTM, hI2⟩ := hop (xs (xi + (1 : Int32)).toNatClampNeg) (xs (xi + (2 : Int32)).toNatClampNeg) _ _ hI
  refine lw_call C0 hg.1 hg.2.2.2.2.1 hg.2.2.2.2.2.2.2.2.2 hg.2.2.2.2.2.2.2.2.1.1 hA0C (f := 18) (as := [.int (xs (xi + (1 : Int32)).toNatClampNeg), .int (xs (xi + (2 : Int32)).toNatClampNeg)]) (rest := []) (by decide) rfl (Nat.le_of_ble_eq_true rfl) hTC hPC (hDC _) hS lw_w68 lw_w69 rfl (by decide +kernel) (by decide) rfl hl.1 (Nat.le_of_ble_eq_true rfl) rfl d_law_776 (fun H1 locs1 hPC hk1 hS => ?_)
  have hPM := hPM.kept (fun k q hq => hk1 q.1 (hPM k q hq).lt (fun hh => hapart _ hh ((hDM _).2 k q hq)))
  refine lv_aload_n hx hb d_law_779 rfl (lv_at hl 2 rfl) ?_
  refine lv_aload_n hx hb d_law_780 rfl (lv_at hl 0 rfl) ?_
  refine lv_iload_n hx hb d_law_781 rfl (lv_at hl 3 rfl) ?_
  refine lv_iconst (v := 1) hx hb d_law_782 (by decide) ?_
  refine lv_iadd hx hb d_law_783 ?_
  refine va_sld hx hb hX hbl hbA hS (hin 1 (by decide)) d_law_784 ?_
  refine lv_aload_n hx hb d_law_785 rfl (lv_at hl 0 rfl) ?_
  refine lv_iload_n hx hb d_law_786 rfl (lv_at hl 3 rfl) ?_
  refine lv_iconst (v := 2) hx hb d_law_787 (by decide) ?_
  refine lv_iadd hx hb d_law_788 ?_
  refine va_sld hx hb hX hbl hbA hS (hin 2 (by decide)) d_law_789 ?_
  refine lw_call C0 hg.2.1 hg.2.2.2.2.1 hg.2.2.2.2.2.2.2.2.2 hg.2.2.2.2.2.2.2.2.1.2 hA0M (f := 117) (as := [.int (xs (xi + (1 : Int32)).toNatClampNeg), .int (xs (xi + (2 : Int32)).toNatClampNeg)]) (rest := [.int r]) (by decide) rfl (Nat.le_of_ble_eq_true rfl) hTM hPM (hDM _) hS lw_w70 lw_w71 rfl (by decide +kernel) (by decide) rfl hl.1 (Nat.le_of_ble_eq_true rfl) rfl d_law_790 (fun H1 locs1 hPM hk1 hS => ?_)
  have hPC := hPC.kept (fun k q hq => hk1 q.1 (hPC k q hq).lt (fun hh => hapart _ ((hDC _).2 k q hq) hh))
  refine lv_icmp_eq (tgt := 1341) hx hb d_law_793 (by decide) (fun h0 => ?_) (fun h0 => absurd rfl h0)
  exact hend _ _ hI2 _ _ hPC hPM hS ls hl
set_option maxRecDepth 100000 in
theorem lw_w72 : (Jvm.Cond.methodLink "WolfKnightLaw" (91 : Nat) ({ cls := "WolfKnight", name := "rumour", desc := "(II)I" } : Jvm.MethodName)) ∈ wk_gt := wk_tbl (List.mem_append_right _ (List.mem_append_right _ (List.mem_append_right _ (List.mem_append_left _ (List.mem_of_getElem? (i := 107) (by decide +kernel)))))) rfl
set_option maxRecDepth 100000 in
theorem lw_w73 : (Jvm.Cond.selects "WolfKnight" ({ cls := "WolfKnight", name := "rumour", desc := "(II)I" } : Jvm.MethodName) ({ cls := "WolfKnight", name := "rumour", desc := "(II)I" } : Jvm.MethodName)) ∈ wk_gt := wk_tbl (List.mem_append_right _ (List.mem_append_right _ (List.mem_append_right _ (List.mem_append_left _ (List.mem_of_getElem? (i := 109) (by decide +kernel)))))) rfl
set_option maxRecDepth 100000 in
theorem lw_w74 : (Jvm.Cond.methodLink "WolfKnightLaw" (94 : Nat) ({ cls := "WolfKnightModel", name := "rumour", desc := "(II)I" } : Jvm.MethodName)) ∈ wk_gt := wk_tbl (List.mem_append_right _ (List.mem_append_right _ (List.mem_append_right _ (List.mem_append_right _ (List.mem_append_right _ (List.mem_append_right _ (List.mem_of_getElem? (i := 28) (by decide +kernel)))))))) rfl
set_option maxRecDepth 100000 in
theorem lw_w75 : (Jvm.Cond.selects "WolfKnightModel" ({ cls := "WolfKnightModel", name := "rumour", desc := "(II)I" } : Jvm.MethodName) ({ cls := "WolfKnightModel", name := "rumour", desc := "(II)I" } : Jvm.MethodName)) ∈ wk_gt := wk_tbl (List.mem_append_right _ (List.mem_append_right _ (List.mem_append_right _ (List.mem_append_right _ (List.mem_append_right _ (List.mem_append_right _ (List.mem_of_getElem? (i := 30) (by decide +kernel)))))))) rfl
def lw_op_18 (Inv : wk_St → wk_St → Prop) : Prop := ∀ (a0 : Int32) (a1 : Int32) σC σM, Inv σC σM → ∃ (r : Int32) (σC2 σM2 : wk_St), wk_T wk_shC 200 19 [.ref 0, .int a0, .int a1] σC (some (.int r), σC2) ∧ wk_T wk_shM 200 119 [.ref 0, .int a0, .int a1] σM (some (.int r), σM2) ∧ Inv σC2 σM2
set_option maxHeartbeats 4000000 in
set_option maxRecDepth 100000 in
theorem lw_case_18 {Inv : wk_St → wk_St → Prop} (hop : lw_op_18 Inv) {p : Program} {l : Launch} {e : Env} {s : State} {m : MethodId} {below : List Frame} {meth : Method} {c : Code} {b L : Nat} {xs : Nat → Int32} (C0 : lw_At p s m meth c b L xs) {G : lw_G} (hg : lw_Ok G s) {i : Nat} {xi : Int32} (hi : xi = nI i) (hiL : i + 7 ≤ L) (hL : L ≤ 3584) {H : Heap} {locs : List Loc} {ls : Array Slot} {σC σM : wk_St} (hI : Inv σC σM)
    (hPC : va_P G.1 wk_cls (lw_wC G σC) H) (hPM : va_P G.1 wk_cls (lw_wM G σM) H) (hS : va_S (fun q : Nat => s.heap.size ≤ q) s.heap H locs) (hl : lv_has ls 4 [(0, .ref b), (1, .ref (G.2.1 0)), (2, .ref (G.2.2.1 0)), (3, .int xi)])
    (hend : ∀ (σC2 σM2 : wk_St), Inv σC2 σM2 → ∀ (H2 : Heap) (locs2 : List Loc), va_P G.1 wk_cls (lw_wC G σC2) H2 → va_P G.1 wk_cls (lw_wM G σM2) H2 → va_S (fun q : Nat => s.heap.size ≤ q) s.heap H2 locs2 → ∀ ls2 : Array Slot, lv_has ls2 4 [(0, .ref b), (1, .ref (G.2.1 0)), (2, .ref (G.2.2.1 0)), (3, .int xi)] → W p l e room_1 s m #[Value.ref b] below meth c H2 locs2 600000 7302250 (lw_Z below #[Value.ref b] s) (F0 m 1341 ls2 [])) :
    W p l e room_1 s m #[Value.ref b] below meth c H locs 600000 7302250 (lw_Z below #[Value.ref b] s) (F0 m 798 ls []) := by
  obtain ⟨hx, hb, hr, hml, hown, hts, hX, hbl, hlocks, hgv⟩ := id C0
  have hbA : ¬ s.heap.size ≤ b := Nat.not_le.mpr hbl
  have hin : ∀ k : Nat, k < 7 → vp_in (xi + nI k) L := fun k hk => by rw [hi, nI_add]; exact vp_in_nI (by omega) (by omega)
  have hDC := hg.2.2.1
  have hDM := hg.2.2.2.1
  have hA0C := hg.2.2.2.2.2.1
  have hA0M := hg.2.2.2.2.2.2.1
  have hapart := hg.2.2.2.2.2.2.2.1
  refine lv_aload_n hx hb d_law_798 rfl (lv_at hl 1 rfl) ?_
  refine lv_aload_n hx hb d_law_799 rfl (lv_at hl 0 rfl) ?_
  refine lv_iload_n hx hb d_law_800 rfl (lv_at hl 3 rfl) ?_
  refine lv_iconst (v := 1) hx hb d_law_801 (by decide) ?_
  refine lv_iadd hx hb d_law_802 ?_
  refine va_sld hx hb hX hbl hbA hS (hin 1 (by decide)) d_law_803 ?_
  refine lv_aload_n hx hb d_law_804 rfl (lv_at hl 0 rfl) ?_
  refine lv_iload_n hx hb d_law_805 rfl (lv_at hl 3 rfl) ?_
  refine lv_iconst (v := 2) hx hb d_law_806 (by decide) ?_
  refine lv_iadd hx hb d_law_807 ?_
  refine va_sld hx hb hX hbl hbA hS (hin 2 (by decide)) d_law_808 ?_
  obtain ⟨r, σC2, σM2, hTC, hTM, hI2⟩ := hop (xs (xi + (1 : Int32)).toNatClampNeg) (xs (xi + (2 : Int32)).toNatClampNeg) _ _ hI
  refine lw_call C0 hg.1 hg.2.2.2.2.1 hg.2.2.2.2.2.2.2.2.2 hg.2.2.2.2.2.2.2.2.1.1 hA0C (f := 19) (as := [.int (xs (xi + (1 : Int32)).toNatClampNeg), .int (xs (xi + (2 : Int32)).toNatClampNeg)]) (rest := []) (by decide) rfl (Nat.le_of_ble_eq_true rfl) hTC hPC (hDC _) hS lw_w72 lw_w73 rfl (by decide +kernel) (by decide) rfl hl.1 (Nat.le_of_ble_eq_true rfl) rfl d_law_809 (fun H1 locs1 hPC hk1 hS => ?_)
  have hPM := hPM.kept (fun k q hq => hk1 q.1 (hPM k q hq).lt (fun hh => hapart _ hh ((hDM _).2 k q hq)))
  refine lv_aload_n hx hb d_law_812 rfl (lv_at hl 2 rfl) ?_
  refine lv_aload_n hx hb d_law_813 rfl (lv_at hl 0 rfl) ?_
  refine lv_iload_n hx hb d_law_814 rfl (lv_at hl 3 rfl) ?_
  refine lv_iconst (v := 1) hx hb d_law_815 (by decide) ?_
  refine lv_iadd hx hb d_law_816 ?_
  refine va_sld hx hb hX hbl hbA hS (hin 1 (by decide)) d_law_817 ?_
  refine lv_aload_n hx hb d_law_818 rfl (lv_at hl 0 rfl) ?_
  refine lv_iload_n hx hb d_law_819 rfl (lv_at hl 3 rfl) ?_
  refine lv_iconst (v := 2) hx hb d_law_820 (by decide) ?_
  refine lv_iadd hx hb d_law_821 ?_
  refine va_sld hx hb hX hbl hbA hS (hin 2 (by decide)) d_law_822 ?_
  refine lw_call C0 hg.2.1 hg.2.2.2.2.1 hg.2.2.2.2.2.2.2.2.2 hg.2.2.2.2.2.2.2.2.1.2 hA0M (f := 119) (as := [.int (xs (xi + (1 : Int32)).toNatClampNeg), .int (xs (xi + (2 : Int32)).toNatClampNeg)]) (rest := [.int r]) (by decide) rfl (Nat.le_of_ble_eq_true rfl) hTM hPM (hDM _) hS lw_w74 lw_w75 rfl (by decide +kernel) (by decide) rfl hl.1 (Nat.le_of_ble_eq_true rfl) rfl d_law_823 (fun H1 locs1 hPM hk1 hS => ?_)
  have hPC := hPC.kept (fun k q hq => hk1 q.1 (hPC k q hq).lt (fun hh => hapart _ ((hDC _).2 k q hq) hh))
  refine lv_icmp_eq (tgt := 1341) hx hb d_law_826 (by decide) (fun h0 => ?_) (fun h0 => absurd rfl h0)
  exact hend _ _ hI2 _ _ hPC hPM hS ls hl
set_option maxRecDepth 100000 in
theorem lw_w76 : (Jvm.Cond.methodLink "WolfKnightLaw" (95 : Nat) ({ cls := "WolfKnight", name := "middle", desc := "()I" } : Jvm.MethodName)) ∈ wk_gt := wk_tbl (List.mem_append_right _ (List.mem_append_right _ (List.mem_append_right _ (List.mem_append_left _ (List.mem_of_getElem? (i := 126) (by decide +kernel)))))) rfl
set_option maxRecDepth 100000 in
theorem lw_w77 : (Jvm.Cond.selects "WolfKnight" ({ cls := "WolfKnight", name := "middle", desc := "()I" } : Jvm.MethodName) ({ cls := "WolfKnight", name := "middle", desc := "()I" } : Jvm.MethodName)) ∈ wk_gt := wk_tbl (List.mem_append_right _ (List.mem_append_right _ (List.mem_append_right _ (List.mem_append_left _ (List.mem_of_getElem? (i := 128) (by decide +kernel)))))) rfl
set_option maxRecDepth 100000 in
theorem lw_w78 : (Jvm.Cond.methodLink "WolfKnightLaw" (99 : Nat) ({ cls := "WolfKnightModel", name := "middle", desc := "()I" } : Jvm.MethodName)) ∈ wk_gt := wk_tbl (List.mem_append_right _ (List.mem_append_right _ (List.mem_append_right _ (List.mem_append_right _ (List.mem_append_right _ (List.mem_append_right _ (List.mem_of_getElem? (i := 39) (by decide +kernel)))))))) rfl
set_option maxRecDepth 100000 in
theorem lw_w79 : (Jvm.Cond.selects "WolfKnightModel" ({ cls := "WolfKnightModel", name := "middle", desc := "()I" } : Jvm.MethodName) ({ cls := "WolfKnightModel", name := "middle", desc := "()I" } : Jvm.MethodName)) ∈ wk_gt := wk_tbl (List.mem_append_right _ (List.mem_append_right _ (List.mem_append_right _ (List.mem_append_right _ (List.mem_append_right _ (List.mem_append_right _ (List.mem_of_getElem? (i := 41) (by decide +kernel)))))))) rfl
def lw_op_19 (Inv : wk_St → wk_St → Prop) : Prop := ∀ σC σM, Inv σC σM → ∃ (r : Int32) (σC2 σM2 : wk_St), wk_T wk_shC 200 20 [.ref 0] σC (some (.int r), σC2) ∧ wk_T wk_shM 200 120 [.ref 0] σM (some (.int r), σM2) ∧ Inv σC2 σM2
set_option maxHeartbeats 4000000 in
set_option maxRecDepth 100000 in
theorem lw_case_19 {Inv : wk_St → wk_St → Prop} (hop : lw_op_19 Inv) {p : Program} {l : Launch} {e : Env} {s : State} {m : MethodId} {below : List Frame} {meth : Method} {c : Code} {b L : Nat} {xs : Nat → Int32} (C0 : lw_At p s m meth c b L xs) {G : lw_G} (hg : lw_Ok G s) {i : Nat} {xi : Int32} (hi : xi = nI i) (hiL : i + 7 ≤ L) (hL : L ≤ 3584) {H : Heap} {locs : List Loc} {ls : Array Slot} {σC σM : wk_St} (hI : Inv σC σM)
    (hPC : va_P G.1 wk_cls (lw_wC G σC) H) (hPM : va_P G.1 wk_cls (lw_wM G σM) H) (hS : va_S (fun q : Nat => s.heap.size ≤ q) s.heap H locs) (hl : lv_has ls 4 [(0, .ref b), (1, .ref (G.2.1 0)), (2, .ref (G.2.2.1 0)), (3, .int xi)])
    (hend : ∀ (σC2 σM2 : wk_St), Inv σC2 σM2 → ∀ (H2 : Heap) (locs2 : List Loc), va_P G.1 wk_cls (lw_wC G σC2) H2 → va_P G.1 wk_cls (lw_wM G σM2) H2 → va_S (fun q : Nat => s.heap.size ≤ q) s.heap H2 locs2 → ∀ ls2 : Array Slot, lv_has ls2 4 [(0, .ref b), (1, .ref (G.2.1 0)), (2, .ref (G.2.2.1 0)), (3, .int xi)] → W p l e room_1 s m #[Value.ref b] below meth c H2 locs2 600000 7302250 (lw_Z below #[Value.ref b] s) (F0 m 1341 ls2 [])) :
    W p l e room_1 s m #[Value.ref b] below meth c H locs 600000 7302250 (lw_Z below #[Value.ref b] s) (F0 m 831 ls []) := by
  obtain ⟨hx, hb, hr, hml, hown, hts, hX, hbl, hlocks, hgv⟩ := id C0
  have hbA : ¬ s.heap.size ≤ b := Nat.not_le.mpr hbl
  have hin : ∀ k : Nat, k < 7 → vp_in (xi + nI k) L := fun k hk => by rw [hi, nI_add]; exact vp_in_nI (by omega) (by omega)
  have hDC := hg.2.2.1
  have hDM := hg.2.2.2.1
  have hA0C := hg.2.2.2.2.2.1
  have hA0M := hg.2.2.2.2.2.2.1
  have hapart := hg.2.2.2.2.2.2.2.1
  refine lv_aload_n hx hb d_law_831 rfl (lv_at hl 1 rfl) ?_
  obtain ⟨r, σC2, σM2, hTC, hTM, hI2⟩ := hop _ _ hI
  refine lw_call C0 hg.1 hg.2.2.2.2.1 hg.2.2.2.2.2.2.2.2.2 hg.2.2.2.2.2.2.2.2.1.1 hA0C (f := 20) (as := []) (rest := []) (by decide) rfl (Nat.le_of_ble_eq_true rfl) hTC hPC (hDC _) hS lw_w76 lw_w77 rfl (by decide +kernel) (by decide) rfl hl.1 (Nat.le_of_ble_eq_true rfl) rfl d_law_832 (fun H1 locs1 hPC hk1 hS => ?_)
  have hPM := hPM.kept (fun k q hq => hk1 q.1 (hPM k q hq).lt (fun hh => hapart _ hh ((hDM _).2 k q hq)))
  refine lv_aload_n hx hb d_law_835 rfl (lv_at hl 2 rfl) ?_
  refine lw_call C0 hg.2.1 hg.2.2.2.2.1 hg.2.2.2.2.2.2.2.2.2 hg.2.2.2.2.2.2.2.2.1.2 hA0M (f := 120) (as := []) (rest := [.int r]) (by decide) rfl (Nat.le_of_ble_eq_true rfl) hTM hPM (hDM _) hS lw_w78 lw_w79 rfl (by decide +kernel) (by decide) rfl hl.1 (Nat.le_of_ble_eq_true rfl) rfl d_law_836 (fun H1 locs1 hPM hk1 hS => ?_)
  have hPC := hPC.kept (fun k q hq => hk1 q.1 (hPC k q hq).lt (fun hh => hapart _ ((hDC _).2 k q hq) hh))
  refine lv_icmp_eq (tgt := 1341) hx hb d_law_839 (by decide) (fun h0 => ?_) (fun h0 => absurd rfl h0)
  exact hend _ _ hI2 _ _ hPC hPM hS ls hl
set_option maxRecDepth 100000 in
theorem lw_w80 : (Jvm.Cond.methodLink "WolfKnightLaw" (100 : Nat) ({ cls := "WolfKnight", name := "between", desc := "(II)I" } : Jvm.MethodName)) ∈ wk_gt := wk_tbl (List.mem_append_right _ (List.mem_append_right _ (List.mem_append_right _ (List.mem_append_left _ (List.mem_of_getElem? (i := 130) (by decide +kernel)))))) rfl
set_option maxRecDepth 100000 in
theorem lw_w81 : (Jvm.Cond.selects "WolfKnight" ({ cls := "WolfKnight", name := "between", desc := "(II)I" } : Jvm.MethodName) ({ cls := "WolfKnight", name := "between", desc := "(II)I" } : Jvm.MethodName)) ∈ wk_gt := wk_tbl (List.mem_append_right _ (List.mem_append_right _ (List.mem_append_right _ (List.mem_append_left _ (List.mem_of_getElem? (i := 132) (by decide +kernel)))))) rfl
set_option maxRecDepth 100000 in
theorem lw_w82 : (Jvm.Cond.methodLink "WolfKnightLaw" (103 : Nat) ({ cls := "WolfKnightModel", name := "between", desc := "(II)I" } : Jvm.MethodName)) ∈ wk_gt := wk_tbl (List.mem_append_right _ (List.mem_append_right _ (List.mem_append_right _ (List.mem_append_right _ (List.mem_append_right _ (List.mem_append_right _ (List.mem_of_getElem? (i := 43) (by decide +kernel)))))))) rfl
set_option maxRecDepth 100000 in
theorem lw_w83 : (Jvm.Cond.selects "WolfKnightModel" ({ cls := "WolfKnightModel", name := "between", desc := "(II)I" } : Jvm.MethodName) ({ cls := "WolfKnightModel", name := "between", desc := "(II)I" } : Jvm.MethodName)) ∈ wk_gt := wk_tbl (List.mem_append_right _ (List.mem_append_right _ (List.mem_append_right _ (List.mem_append_right _ (List.mem_append_right _ (List.mem_append_right _ (List.mem_of_getElem? (i := 45) (by decide +kernel)))))))) rfl
def lw_op_20 (Inv : wk_St → wk_St → Prop) : Prop := ∀ (a0 : Int32) (a1 : Int32) σC σM, Inv σC σM → ∃ (r : Int32) (σC2 σM2 : wk_St), wk_T wk_shC 200 21 [.ref 0, .int a0, .int a1] σC (some (.int r), σC2) ∧ wk_T wk_shM 200 121 [.ref 0, .int a0, .int a1] σM (some (.int r), σM2) ∧ Inv σC2 σM2
set_option maxHeartbeats 4000000 in
set_option maxRecDepth 100000 in
theorem lw_case_20 {Inv : wk_St → wk_St → Prop} (hop : lw_op_20 Inv) {p : Program} {l : Launch} {e : Env} {s : State} {m : MethodId} {below : List Frame} {meth : Method} {c : Code} {b L : Nat} {xs : Nat → Int32} (C0 : lw_At p s m meth c b L xs) {G : lw_G} (hg : lw_Ok G s) {i : Nat} {xi : Int32} (hi : xi = nI i) (hiL : i + 7 ≤ L) (hL : L ≤ 3584) {H : Heap} {locs : List Loc} {ls : Array Slot} {σC σM : wk_St} (hI : Inv σC σM)
    (hPC : va_P G.1 wk_cls (lw_wC G σC) H) (hPM : va_P G.1 wk_cls (lw_wM G σM) H) (hS : va_S (fun q : Nat => s.heap.size ≤ q) s.heap H locs) (hl : lv_has ls 4 [(0, .ref b), (1, .ref (G.2.1 0)), (2, .ref (G.2.2.1 0)), (3, .int xi)])
    (hend : ∀ (σC2 σM2 : wk_St), Inv σC2 σM2 → ∀ (H2 : Heap) (locs2 : List Loc), va_P G.1 wk_cls (lw_wC G σC2) H2 → va_P G.1 wk_cls (lw_wM G σM2) H2 → va_S (fun q : Nat => s.heap.size ≤ q) s.heap H2 locs2 → ∀ ls2 : Array Slot, lv_has ls2 4 [(0, .ref b), (1, .ref (G.2.1 0)), (2, .ref (G.2.2.1 0)), (3, .int xi)] → W p l e room_1 s m #[Value.ref b] below meth c H2 locs2 600000 7302250 (lw_Z below #[Value.ref b] s) (F0 m 1341 ls2 [])) :
    W p l e room_1 s m #[Value.ref b] below meth c H locs 600000 7302250 (lw_Z below #[Value.ref b] s) (F0 m 844 ls []) := by
  obtain ⟨hx, hb, hr, hml, hown, hts, hX, hbl, hlocks, hgv⟩ := id C0
  have hbA : ¬ s.heap.size ≤ b := Nat.not_le.mpr hbl
  have hin : ∀ k : Nat, k < 7 → vp_in (xi + nI k) L := fun k hk => by rw [hi, nI_add]; exact vp_in_nI (by omega) (by omega)
  have hDC := hg.2.2.1
  have hDM := hg.2.2.2.1
  have hA0C := hg.2.2.2.2.2.1
  have hA0M := hg.2.2.2.2.2.2.1
  have hapart := hg.2.2.2.2.2.2.2.1
  refine lv_aload_n hx hb d_law_844 rfl (lv_at hl 1 rfl) ?_
  refine lv_aload_n hx hb d_law_845 rfl (lv_at hl 0 rfl) ?_
  refine lv_iload_n hx hb d_law_846 rfl (lv_at hl 3 rfl) ?_
  refine lv_iconst (v := 1) hx hb d_law_847 (by decide) ?_
  refine lv_iadd hx hb d_law_848 ?_
  refine va_sld hx hb hX hbl hbA hS (hin 1 (by decide)) d_law_849 ?_
  refine lv_aload_n hx hb d_law_850 rfl (lv_at hl 0 rfl) ?_
  refine lv_iload_n hx hb d_law_851 rfl (lv_at hl 3 rfl) ?_
  refine lv_iconst (v := 2) hx hb d_law_852 (by decide) ?_
  refine lv_iadd hx hb d_law_853 ?_
  refine va_sld hx hb hX hbl hbA hS (hin 2 (by decide)) d_law_854 ?_
  obtain ⟨r, σC2, σM2, hTC, hTM, hI2⟩ := hop (xs (xi + (1 : Int32)).toNatClampNeg) (xs (xi + (2 : Int32)).toNatClampNeg) _ _ hI
  refine lw_call C0 hg.1 hg.2.2.2.2.1 hg.2.2.2.2.2.2.2.2.2 hg.2.2.2.2.2.2.2.2.1.1 hA0C (f := 21) (as := [.int (xs (xi + (1 : Int32)).toNatClampNeg), .int (xs (xi + (2 : Int32)).toNatClampNeg)]) (rest := []) (by decide) rfl (Nat.le_of_ble_eq_true rfl) hTC hPC (hDC _) hS lw_w80 lw_w81 rfl (by decide +kernel) (by decide) rfl hl.1 (Nat.le_of_ble_eq_true rfl) rfl d_law_855 (fun H1 locs1 hPC hk1 hS => ?_)
  have hPM := hPM.kept (fun k q hq => hk1 q.1 (hPM k q hq).lt (fun hh => hapart _ hh ((hDM _).2 k q hq)))
  refine lv_aload_n hx hb d_law_858 rfl (lv_at hl 2 rfl) ?_
  refine lv_aload_n hx hb d_law_859 rfl (lv_at hl 0 rfl) ?_
  refine lv_iload_n hx hb d_law_860 rfl (lv_at hl 3 rfl) ?_
  refine lv_iconst (v := 1) hx hb d_law_861 (by decide) ?_
  refine lv_iadd hx hb d_law_862 ?_
  refine va_sld hx hb hX hbl hbA hS (hin 1 (by decide)) d_law_863 ?_
  refine lv_aload_n hx hb d_law_864 rfl (lv_at hl 0 rfl) ?_
  refine lv_iload_n hx hb d_law_865 rfl (lv_at hl 3 rfl) ?_
  refine lv_iconst (v := 2) hx hb d_law_866 (by decide) ?_
  refine lv_iadd hx hb d_law_867 ?_
  refine va_sld hx hb hX hbl hbA hS (hin 2 (by decide)) d_law_868 ?_
  refine lw_call C0 hg.2.1 hg.2.2.2.2.1 hg.2.2.2.2.2.2.2.2.2 hg.2.2.2.2.2.2.2.2.1.2 hA0M (f := 121) (as := [.int (xs (xi + (1 : Int32)).toNatClampNeg), .int (xs (xi + (2 : Int32)).toNatClampNeg)]) (rest := [.int r]) (by decide) rfl (Nat.le_of_ble_eq_true rfl) hTM hPM (hDM _) hS lw_w82 lw_w83 rfl (by decide +kernel) (by decide) rfl hl.1 (Nat.le_of_ble_eq_true rfl) rfl d_law_869 (fun H1 locs1 hPM hk1 hS => ?_)
  have hPC := hPC.kept (fun k q hq => hk1 q.1 (hPC k q hq).lt (fun hh => hapart _ ((hDC _).2 k q hq) hh))
  refine lv_icmp_eq (tgt := 1341) hx hb d_law_872 (by decide) (fun h0 => ?_) (fun h0 => absurd rfl h0)
  exact hend _ _ hI2 _ _ hPC hPM hS ls hl
set_option maxRecDepth 100000 in
theorem lw_w84 : (Jvm.Cond.methodLink "WolfKnightLaw" (104 : Nat) ({ cls := "WolfKnight", name := "boots", desc := "(III)I" } : Jvm.MethodName)) ∈ wk_gt := wk_tbl (List.mem_append_right _ (List.mem_append_right _ (List.mem_append_right _ (List.mem_append_left _ (List.mem_of_getElem? (i := 134) (by decide +kernel)))))) rfl
set_option maxRecDepth 100000 in
theorem lw_w85 : (Jvm.Cond.selects "WolfKnight" ({ cls := "WolfKnight", name := "boots", desc := "(III)I" } : Jvm.MethodName) ({ cls := "WolfKnight", name := "boots", desc := "(III)I" } : Jvm.MethodName)) ∈ wk_gt := wk_tbl (List.mem_append_right _ (List.mem_append_right _ (List.mem_append_right _ (List.mem_append_left _ (List.mem_of_getElem? (i := 136) (by decide +kernel)))))) rfl
set_option maxRecDepth 100000 in
theorem lw_w86 : (Jvm.Cond.methodLink "WolfKnightLaw" (108 : Nat) ({ cls := "WolfKnightModel", name := "boots", desc := "(III)I" } : Jvm.MethodName)) ∈ wk_gt := wk_tbl (List.mem_append_right _ (List.mem_append_right _ (List.mem_append_right _ (List.mem_append_right _ (List.mem_append_right _ (List.mem_append_right _ (List.mem_of_getElem? (i := 47) (by decide +kernel)))))))) rfl
set_option maxRecDepth 100000 in
theorem lw_w87 : (Jvm.Cond.selects "WolfKnightModel" ({ cls := "WolfKnightModel", name := "boots", desc := "(III)I" } : Jvm.MethodName) ({ cls := "WolfKnightModel", name := "boots", desc := "(III)I" } : Jvm.MethodName)) ∈ wk_gt := wk_tbl (List.mem_append_right _ (List.mem_append_right _ (List.mem_append_right _ (List.mem_append_right _ (List.mem_append_right _ (List.mem_append_right _ (List.mem_of_getElem? (i := 49) (by decide +kernel)))))))) rfl
def lw_op_21 (Inv : wk_St → wk_St → Prop) : Prop := ∀ (a0 : Int32) (a1 : Int32) (a2 : Int32) σC σM, Inv σC σM → ∃ (r : Int32) (σC2 σM2 : wk_St), wk_T wk_shC 200 22 [.ref 0, .int a0, .int a1, .int a2] σC (some (.int r), σC2) ∧ wk_T wk_shM 200 124 [.ref 0, .int a0, .int a1, .int a2] σM (some (.int r), σM2) ∧ Inv σC2 σM2
set_option maxHeartbeats 4000000 in
set_option maxRecDepth 100000 in
theorem lw_case_21 {Inv : wk_St → wk_St → Prop} (hop : lw_op_21 Inv) {p : Program} {l : Launch} {e : Env} {s : State} {m : MethodId} {below : List Frame} {meth : Method} {c : Code} {b L : Nat} {xs : Nat → Int32} (C0 : lw_At p s m meth c b L xs) {G : lw_G} (hg : lw_Ok G s) {i : Nat} {xi : Int32} (hi : xi = nI i) (hiL : i + 7 ≤ L) (hL : L ≤ 3584) {H : Heap} {locs : List Loc} {ls : Array Slot} {σC σM : wk_St} (hI : Inv σC σM)
    (hPC : va_P G.1 wk_cls (lw_wC G σC) H) (hPM : va_P G.1 wk_cls (lw_wM G σM) H) (hS : va_S (fun q : Nat => s.heap.size ≤ q) s.heap H locs) (hl : lv_has ls 4 [(0, .ref b), (1, .ref (G.2.1 0)), (2, .ref (G.2.2.1 0)), (3, .int xi)])
    (hend : ∀ (σC2 σM2 : wk_St), Inv σC2 σM2 → ∀ (H2 : Heap) (locs2 : List Loc), va_P G.1 wk_cls (lw_wC G σC2) H2 → va_P G.1 wk_cls (lw_wM G σM2) H2 → va_S (fun q : Nat => s.heap.size ≤ q) s.heap H2 locs2 → ∀ ls2 : Array Slot, lv_has ls2 4 [(0, .ref b), (1, .ref (G.2.1 0)), (2, .ref (G.2.2.1 0)), (3, .int xi)] → W p l e room_1 s m #[Value.ref b] below meth c H2 locs2 600000 7302250 (lw_Z below #[Value.ref b] s) (F0 m 1341 ls2 [])) :
    W p l e room_1 s m #[Value.ref b] below meth c H locs 600000 7302250 (lw_Z below #[Value.ref b] s) (F0 m 877 ls []) := by
  obtain ⟨hx, hb, hr, hml, hown, hts, hX, hbl, hlocks, hgv⟩ := id C0
  have hbA : ¬ s.heap.size ≤ b := Nat.not_le.mpr hbl
  have hin : ∀ k : Nat, k < 7 → vp_in (xi + nI k) L := fun k hk => by rw [hi, nI_add]; exact vp_in_nI (by omega) (by omega)
  have hDC := hg.2.2.1
  have hDM := hg.2.2.2.1
  have hA0C := hg.2.2.2.2.2.1
  have hA0M := hg.2.2.2.2.2.2.1
  have hapart := hg.2.2.2.2.2.2.2.1
  refine lv_aload_n hx hb d_law_877 rfl (lv_at hl 1 rfl) ?_
  refine lv_aload_n hx hb d_law_878 rfl (lv_at hl 0 rfl) ?_
  refine lv_iload_n hx hb d_law_879 rfl (lv_at hl 3 rfl) ?_
  refine lv_iconst (v := 1) hx hb d_law_880 (by decide) ?_
  refine lv_iadd hx hb d_law_881 ?_
  refine va_sld hx hb hX hbl hbA hS (hin 1 (by decide)) d_law_882 ?_
  refine lv_aload_n hx hb d_law_883 rfl (lv_at hl 0 rfl) ?_
  refine lv_iload_n hx hb d_law_884 rfl (lv_at hl 3 rfl) ?_
  refine lv_iconst (v := 2) hx hb d_law_885 (by decide) ?_
  refine lv_iadd hx hb d_law_886 ?_
  refine va_sld hx hb hX hbl hbA hS (hin 2 (by decide)) d_law_887 ?_
  refine lv_aload_n hx hb d_law_888 rfl (lv_at hl 0 rfl) ?_
  refine lv_iload_n hx hb d_law_889 rfl (lv_at hl 3 rfl) ?_
  refine lv_iconst (v := 3) hx hb d_law_890 (by decide) ?_
  refine lv_iadd hx hb d_law_891 ?_
  refine va_sld hx hb hX hbl hbA hS (hin 3 (by decide)) d_law_892 ?_
  obtain ⟨r, σC2, σM2, hTC, hTM, hI2⟩ := hop (xs (xi + (1 : Int32)).toNatClampNeg) (xs (xi + (2 : Int32)).toNatClampNeg) (xs (xi + (3 : Int32)).toNatClampNeg) _ _ hI
  refine lw_call C0 hg.1 hg.2.2.2.2.1 hg.2.2.2.2.2.2.2.2.2 hg.2.2.2.2.2.2.2.2.1.1 hA0C (f := 22) (as := [.int (xs (xi + (1 : Int32)).toNatClampNeg), .int (xs (xi + (2 : Int32)).toNatClampNeg), .int (xs (xi + (3 : Int32)).toNatClampNeg)]) (rest := []) (by decide) rfl (Nat.le_of_ble_eq_true rfl) hTC hPC (hDC _) hS lw_w84 lw_w85 rfl (by decide +kernel) (by decide) rfl hl.1 (Nat.le_of_ble_eq_true rfl) rfl d_law_893 (fun H1 locs1 hPC hk1 hS => ?_)
  have hPM := hPM.kept (fun k q hq => hk1 q.1 (hPM k q hq).lt (fun hh => hapart _ hh ((hDM _).2 k q hq)))
  refine lv_aload_n hx hb d_law_896 rfl (lv_at hl 2 rfl) ?_
  refine lv_aload_n hx hb d_law_897 rfl (lv_at hl 0 rfl) ?_
  refine lv_iload_n hx hb d_law_898 rfl (lv_at hl 3 rfl) ?_
  refine lv_iconst (v := 1) hx hb d_law_899 (by decide) ?_
  refine lv_iadd hx hb d_law_900 ?_
  refine va_sld hx hb hX hbl hbA hS (hin 1 (by decide)) d_law_901 ?_
  refine lv_aload_n hx hb d_law_902 rfl (lv_at hl 0 rfl) ?_
  refine lv_iload_n hx hb d_law_903 rfl (lv_at hl 3 rfl) ?_
  refine lv_iconst (v := 2) hx hb d_law_904 (by decide) ?_
  refine lv_iadd hx hb d_law_905 ?_
  refine va_sld hx hb hX hbl hbA hS (hin 2 (by decide)) d_law_906 ?_
  refine lv_aload_n hx hb d_law_907 rfl (lv_at hl 0 rfl) ?_
  refine lv_iload_n hx hb d_law_908 rfl (lv_at hl 3 rfl) ?_
  refine lv_iconst (v := 3) hx hb d_law_909 (by decide) ?_
  refine lv_iadd hx hb d_law_910 ?_
  refine va_sld hx hb hX hbl hbA hS (hin 3 (by decide)) d_law_911 ?_
  refine lw_call C0 hg.2.1 hg.2.2.2.2.1 hg.2.2.2.2.2.2.2.2.2 hg.2.2.2.2.2.2.2.2.1.2 hA0M (f := 124) (as := [.int (xs (xi + (1 : Int32)).toNatClampNeg), .int (xs (xi + (2 : Int32)).toNatClampNeg), .int (xs (xi + (3 : Int32)).toNatClampNeg)]) (rest := [.int r]) (by decide) rfl (Nat.le_of_ble_eq_true rfl) hTM hPM (hDM _) hS lw_w86 lw_w87 rfl (by decide +kernel) (by decide) rfl hl.1 (Nat.le_of_ble_eq_true rfl) rfl d_law_912 (fun H1 locs1 hPM hk1 hS => ?_)
  have hPC := hPC.kept (fun k q hq => hk1 q.1 (hPC k q hq).lt (fun hh => hapart _ ((hDC _).2 k q hq) hh))
  refine lv_icmp_eq (tgt := 1341) hx hb d_law_915 (by decide) (fun h0 => ?_) (fun h0 => absurd rfl h0)
  exact hend _ _ hI2 _ _ hPC hPM hS ls hl
set_option maxRecDepth 100000 in
theorem lw_w88 : (Jvm.Cond.methodLink "WolfKnightLaw" (109 : Nat) ({ cls := "WolfKnight", name := "absences", desc := "(II)I" } : Jvm.MethodName)) ∈ wk_gt := wk_tbl (List.mem_append_right _ (List.mem_append_right _ (List.mem_append_right _ (List.mem_append_left _ (List.mem_of_getElem? (i := 168) (by decide +kernel)))))) rfl
set_option maxRecDepth 100000 in
theorem lw_w89 : (Jvm.Cond.selects "WolfKnight" ({ cls := "WolfKnight", name := "absences", desc := "(II)I" } : Jvm.MethodName) ({ cls := "WolfKnight", name := "absences", desc := "(II)I" } : Jvm.MethodName)) ∈ wk_gt := wk_tbl (List.mem_append_right _ (List.mem_append_right _ (List.mem_append_right _ (List.mem_append_left _ (List.mem_of_getElem? (i := 170) (by decide +kernel)))))) rfl
set_option maxRecDepth 100000 in
theorem lw_w90 : (Jvm.Cond.methodLink "WolfKnightLaw" (112 : Nat) ({ cls := "WolfKnightModel", name := "absences", desc := "(II)I" } : Jvm.MethodName)) ∈ wk_gt := wk_tbl (List.mem_append_right _ (List.mem_append_right _ (List.mem_append_right _ (List.mem_append_right _ (List.mem_append_right _ (List.mem_append_right _ (List.mem_of_getElem? (i := 66) (by decide +kernel)))))))) rfl
set_option maxRecDepth 100000 in
theorem lw_w91 : (Jvm.Cond.selects "WolfKnightModel" ({ cls := "WolfKnightModel", name := "absences", desc := "(II)I" } : Jvm.MethodName) ({ cls := "WolfKnightModel", name := "absences", desc := "(II)I" } : Jvm.MethodName)) ∈ wk_gt := wk_tbl (List.mem_append_right _ (List.mem_append_right _ (List.mem_append_right _ (List.mem_append_right _ (List.mem_append_right _ (List.mem_append_right _ (List.mem_of_getElem? (i := 68) (by decide +kernel)))))))) rfl
def lw_op_22 (Inv : wk_St → wk_St → Prop) : Prop := ∀ (a0 : Int32) (a1 : Int32) σC σM, Inv σC σM → ∃ (r : Int32) (σC2 σM2 : wk_St), wk_T wk_shC 200 23 [.ref 0, .int a0, .int a1] σC (some (.int r), σC2) ∧ wk_T wk_shM 200 126 [.ref 0, .int a0, .int a1] σM (some (.int r), σM2) ∧ Inv σC2 σM2
set_option maxHeartbeats 4000000 in
set_option maxRecDepth 100000 in
theorem lw_case_22 {Inv : wk_St → wk_St → Prop} (hop : lw_op_22 Inv) {p : Program} {l : Launch} {e : Env} {s : State} {m : MethodId} {below : List Frame} {meth : Method} {c : Code} {b L : Nat} {xs : Nat → Int32} (C0 : lw_At p s m meth c b L xs) {G : lw_G} (hg : lw_Ok G s) {i : Nat} {xi : Int32} (hi : xi = nI i) (hiL : i + 7 ≤ L) (hL : L ≤ 3584) {H : Heap} {locs : List Loc} {ls : Array Slot} {σC σM : wk_St} (hI : Inv σC σM)
    (hPC : va_P G.1 wk_cls (lw_wC G σC) H) (hPM : va_P G.1 wk_cls (lw_wM G σM) H) (hS : va_S (fun q : Nat => s.heap.size ≤ q) s.heap H locs) (hl : lv_has ls 4 [(0, .ref b), (1, .ref (G.2.1 0)), (2, .ref (G.2.2.1 0)), (3, .int xi)])
    (hend : ∀ (σC2 σM2 : wk_St), Inv σC2 σM2 → ∀ (H2 : Heap) (locs2 : List Loc), va_P G.1 wk_cls (lw_wC G σC2) H2 → va_P G.1 wk_cls (lw_wM G σM2) H2 → va_S (fun q : Nat => s.heap.size ≤ q) s.heap H2 locs2 → ∀ ls2 : Array Slot, lv_has ls2 4 [(0, .ref b), (1, .ref (G.2.1 0)), (2, .ref (G.2.2.1 0)), (3, .int xi)] → W p l e room_1 s m #[Value.ref b] below meth c H2 locs2 600000 7302250 (lw_Z below #[Value.ref b] s) (F0 m 1341 ls2 [])) :
    W p l e room_1 s m #[Value.ref b] below meth c H locs 600000 7302250 (lw_Z below #[Value.ref b] s) (F0 m 920 ls []) := by
  obtain ⟨hx, hb, hr, hml, hown, hts, hX, hbl, hlocks, hgv⟩ := id C0
  have hbA : ¬ s.heap.size ≤ b := Nat.not_le.mpr hbl
  have hin : ∀ k : Nat, k < 7 → vp_in (xi + nI k) L := fun k hk => by rw [hi, nI_add]; exact vp_in_nI (by omega) (by omega)
  have hDC := hg.2.2.1
  have hDM := hg.2.2.2.1
  have hA0C := hg.2.2.2.2.2.1
  have hA0M := hg.2.2.2.2.2.2.1
  have hapart := hg.2.2.2.2.2.2.2.1
  refine lv_aload_n hx hb d_law_920 rfl (lv_at hl 1 rfl) ?_
  refine lv_aload_n hx hb d_law_921 rfl (lv_at hl 0 rfl) ?_
  refine lv_iload_n hx hb d_law_922 rfl (lv_at hl 3 rfl) ?_
  refine lv_iconst (v := 1) hx hb d_law_923 (by decide) ?_
  refine lv_iadd hx hb d_law_924 ?_
  refine va_sld hx hb hX hbl hbA hS (hin 1 (by decide)) d_law_925 ?_
  refine lv_aload_n hx hb d_law_926 rfl (lv_at hl 0 rfl) ?_
  refine lv_iload_n hx hb d_law_927 rfl (lv_at hl 3 rfl) ?_
  refine lv_iconst (v := 2) hx hb d_law_928 (by decide) ?_
  refine lv_iadd hx hb d_law_929 ?_
  refine va_sld hx hb hX hbl hbA hS (hin 2 (by decide)) d_law_930 ?_
  obtain ⟨r, σC2, σM2, hTC, hTM, hI2⟩ := hop (xs (xi + (1 : Int32)).toNatClampNeg) (xs (xi + (2 : Int32)).toNatClampNeg) _ _ hI
  refine lw_call C0 hg.1 hg.2.2.2.2.1 hg.2.2.2.2.2.2.2.2.2 hg.2.2.2.2.2.2.2.2.1.1 hA0C (f := 23) (as := [.int (xs (xi + (1 : Int32)).toNatClampNeg), .int (xs (xi + (2 : Int32)).toNatClampNeg)]) (rest := []) (by decide) rfl (Nat.le_of_ble_eq_true rfl) hTC hPC (hDC _) hS lw_w88 lw_w89 rfl (by decide +kernel) (by decide) rfl hl.1 (Nat.le_of_ble_eq_true rfl) rfl d_law_931 (fun H1 locs1 hPC hk1 hS => ?_)
  have hPM := hPM.kept (fun k q hq => hk1 q.1 (hPM k q hq).lt (fun hh => hapart _ hh ((hDM _).2 k q hq)))
  refine lv_aload_n hx hb d_law_934 rfl (lv_at hl 2 rfl) ?_
  refine lv_aload_n hx hb d_law_935 rfl (lv_at hl 0 rfl) ?_
  refine lv_iload_n hx hb d_law_936 rfl (lv_at hl 3 rfl) ?_
  refine lv_iconst (v := 1) hx hb d_law_937 (by decide) ?_
  refine lv_iadd hx hb d_law_938 ?_
  refine va_sld hx hb hX hbl hbA hS (hin 1 (by decide)) d_law_939 ?_
  refine lv_aload_n hx hb d_law_940 rfl (lv_at hl 0 rfl) ?_
  refine lv_iload_n hx hb d_law_941 rfl (lv_at hl 3 rfl) ?_
  refine lv_iconst (v := 2) hx hb d_law_942 (by decide) ?_
  refine lv_iadd hx hb d_law_943 ?_
  refine va_sld hx hb hX hbl hbA hS (hin 2 (by decide)) d_law_944 ?_
  refine lw_call C0 hg.2.1 hg.2.2.2.2.1 hg.2.2.2.2.2.2.2.2.2 hg.2.2.2.2.2.2.2.2.1.2 hA0M (f := 126) (as := [.int (xs (xi + (1 : Int32)).toNatClampNeg), .int (xs (xi + (2 : Int32)).toNatClampNeg)]) (rest := [.int r]) (by decide) rfl (Nat.le_of_ble_eq_true rfl) hTM hPM (hDM _) hS lw_w90 lw_w91 rfl (by decide +kernel) (by decide) rfl hl.1 (Nat.le_of_ble_eq_true rfl) rfl d_law_945 (fun H1 locs1 hPM hk1 hS => ?_)
  have hPC := hPC.kept (fun k q hq => hk1 q.1 (hPC k q hq).lt (fun hh => hapart _ ((hDC _).2 k q hq) hh))
  refine lv_icmp_eq (tgt := 1341) hx hb d_law_948 (by decide) (fun h0 => ?_) (fun h0 => absurd rfl h0)
  exact hend _ _ hI2 _ _ hPC hPM hS ls hl
set_option maxRecDepth 100000 in
theorem lw_w92 : (Jvm.Cond.methodLink "WolfKnightLaw" (113 : Nat) ({ cls := "WolfKnight", name := "hated", desc := "(II)I" } : Jvm.MethodName)) ∈ wk_gt := wk_tbl (List.mem_append_right _ (List.mem_append_right _ (List.mem_append_right _ (List.mem_append_left _ (List.mem_of_getElem? (i := 181) (by decide +kernel)))))) rfl
set_option maxRecDepth 100000 in
theorem lw_w93 : (Jvm.Cond.selects "WolfKnight" ({ cls := "WolfKnight", name := "hated", desc := "(II)I" } : Jvm.MethodName) ({ cls := "WolfKnight", name := "hated", desc := "(II)I" } : Jvm.MethodName)) ∈ wk_gt := wk_tbl (List.mem_append_right _ (List.mem_append_right _ (List.mem_append_right _ (List.mem_append_left _ (List.mem_of_getElem? (i := 183) (by decide +kernel)))))) rfl
set_option maxRecDepth 100000 in
theorem lw_w94 : (Jvm.Cond.methodLink "WolfKnightLaw" (116 : Nat) ({ cls := "WolfKnightModel", name := "hated", desc := "(II)I" } : Jvm.MethodName)) ∈ wk_gt := wk_tbl (List.mem_append_right _ (List.mem_append_right _ (List.mem_append_right _ (List.mem_append_right _ (List.mem_append_right _ (List.mem_append_right _ (List.mem_of_getElem? (i := 74) (by decide +kernel)))))))) rfl
set_option maxRecDepth 100000 in
theorem lw_w95 : (Jvm.Cond.selects "WolfKnightModel" ({ cls := "WolfKnightModel", name := "hated", desc := "(II)I" } : Jvm.MethodName) ({ cls := "WolfKnightModel", name := "hated", desc := "(II)I" } : Jvm.MethodName)) ∈ wk_gt := wk_tbl (List.mem_append_right _ (List.mem_append_right _ (List.mem_append_right _ (List.mem_append_right _ (List.mem_append_right _ (List.mem_append_right _ (List.mem_of_getElem? (i := 76) (by decide +kernel)))))))) rfl
def lw_op_23 (Inv : wk_St → wk_St → Prop) : Prop := ∀ (a0 : Int32) (a1 : Int32) σC σM, Inv σC σM → ∃ (r : Int32) (σC2 σM2 : wk_St), wk_T wk_shC 200 26 [.ref 0, .int a0, .int a1] σC (some (.int r), σC2) ∧ wk_T wk_shM 200 129 [.ref 0, .int a0, .int a1] σM (some (.int r), σM2) ∧ Inv σC2 σM2
set_option maxHeartbeats 4000000 in
set_option maxRecDepth 100000 in
theorem lw_case_23 {Inv : wk_St → wk_St → Prop} (hop : lw_op_23 Inv) {p : Program} {l : Launch} {e : Env} {s : State} {m : MethodId} {below : List Frame} {meth : Method} {c : Code} {b L : Nat} {xs : Nat → Int32} (C0 : lw_At p s m meth c b L xs) {G : lw_G} (hg : lw_Ok G s) {i : Nat} {xi : Int32} (hi : xi = nI i) (hiL : i + 7 ≤ L) (hL : L ≤ 3584) {H : Heap} {locs : List Loc} {ls : Array Slot} {σC σM : wk_St} (hI : Inv σC σM)
    (hPC : va_P G.1 wk_cls (lw_wC G σC) H) (hPM : va_P G.1 wk_cls (lw_wM G σM) H) (hS : va_S (fun q : Nat => s.heap.size ≤ q) s.heap H locs) (hl : lv_has ls 4 [(0, .ref b), (1, .ref (G.2.1 0)), (2, .ref (G.2.2.1 0)), (3, .int xi)])
    (hend : ∀ (σC2 σM2 : wk_St), Inv σC2 σM2 → ∀ (H2 : Heap) (locs2 : List Loc), va_P G.1 wk_cls (lw_wC G σC2) H2 → va_P G.1 wk_cls (lw_wM G σM2) H2 → va_S (fun q : Nat => s.heap.size ≤ q) s.heap H2 locs2 → ∀ ls2 : Array Slot, lv_has ls2 4 [(0, .ref b), (1, .ref (G.2.1 0)), (2, .ref (G.2.2.1 0)), (3, .int xi)] → W p l e room_1 s m #[Value.ref b] below meth c H2 locs2 600000 7302250 (lw_Z below #[Value.ref b] s) (F0 m 1341 ls2 [])) :
    W p l e room_1 s m #[Value.ref b] below meth c H locs 600000 7302250 (lw_Z below #[Value.ref b] s) (F0 m 953 ls []) := by
  obtain ⟨hx, hb, hr, hml, hown, hts, hX, hbl, hlocks, hgv⟩ := id C0
  have hbA : ¬ s.heap.size ≤ b := Nat.not_le.mpr hbl
  have hin : ∀ k : Nat, k < 7 → vp_in (xi + nI k) L := fun k hk => by rw [hi, nI_add]; exact vp_in_nI (by omega) (by omega)
  have hDC := hg.2.2.1
  have hDM := hg.2.2.2.1
  have hA0C := hg.2.2.2.2.2.1
  have hA0M := hg.2.2.2.2.2.2.1
  have hapart := hg.2.2.2.2.2.2.2.1
  refine lv_aload_n hx hb d_law_953 rfl (lv_at hl 1 rfl) ?_
  refine lv_aload_n hx hb d_law_954 rfl (lv_at hl 0 rfl) ?_
  refine lv_iload_n hx hb d_law_955 rfl (lv_at hl 3 rfl) ?_
  refine lv_iconst (v := 1) hx hb d_law_956 (by decide) ?_
  refine lv_iadd hx hb d_law_957 ?_
  refine va_sld hx hb hX hbl hbA hS (hin 1 (by decide)) d_law_958 ?_
  refine lv_aload_n hx hb d_law_959 rfl (lv_at hl 0 rfl) ?_
  refine lv_iload_n hx hb d_law_960 rfl (lv_at hl 3 rfl) ?_
  refine lv_iconst (v := 2) hx hb d_law_961 (by decide) ?_
  refine lv_iadd hx hb d_law_962 ?_
  refine va_sld hx hb hX hbl hbA hS (hin 2 (by decide)) d_law_963 ?_
  obtain ⟨r, σC2, σM2, hTC, hTM, hI2⟩ := hop (xs (xi + (1 : Int32)).toNatClampNeg) (xs (xi + (2 : Int32)).toNatClampNeg) _ _ hI
  refine lw_call C0 hg.1 hg.2.2.2.2.1 hg.2.2.2.2.2.2.2.2.2 hg.2.2.2.2.2.2.2.2.1.1 hA0C (f := 26) (as := [.int (xs (xi + (1 : Int32)).toNatClampNeg), .int (xs (xi + (2 : Int32)).toNatClampNeg)]) (rest := []) (by decide) rfl (Nat.le_of_ble_eq_true rfl) hTC hPC (hDC _) hS lw_w92 lw_w93 rfl (by decide +kernel) (by decide) rfl hl.1 (Nat.le_of_ble_eq_true rfl) rfl d_law_964 (fun H1 locs1 hPC hk1 hS => ?_)
  have hPM := hPM.kept (fun k q hq => hk1 q.1 (hPM k q hq).lt (fun hh => hapart _ hh ((hDM _).2 k q hq)))
  refine lv_aload_n hx hb d_law_967 rfl (lv_at hl 2 rfl) ?_
  refine lv_aload_n hx hb d_law_968 rfl (lv_at hl 0 rfl) ?_
  refine lv_iload_n hx hb d_law_969 rfl (lv_at hl 3 rfl) ?_
  refine lv_iconst (v := 1) hx hb d_law_970 (by decide) ?_
  refine lv_iadd hx hb d_law_971 ?_
  refine va_sld hx hb hX hbl hbA hS (hin 1 (by decide)) d_law_972 ?_
  refine lv_aload_n hx hb d_law_973 rfl (lv_at hl 0 rfl) ?_
  refine lv_iload_n hx hb d_law_974 rfl (lv_at hl 3 rfl) ?_
  refine lv_iconst (v := 2) hx hb d_law_975 (by decide) ?_
  refine lv_iadd hx hb d_law_976 ?_
  refine va_sld hx hb hX hbl hbA hS (hin 2 (by decide)) d_law_977 ?_
  refine lw_call C0 hg.2.1 hg.2.2.2.2.1 hg.2.2.2.2.2.2.2.2.2 hg.2.2.2.2.2.2.2.2.1.2 hA0M (f := 129) (as := [.int (xs (xi + (1 : Int32)).toNatClampNeg), .int (xs (xi + (2 : Int32)).toNatClampNeg)]) (rest := [.int r]) (by decide) rfl (Nat.le_of_ble_eq_true rfl) hTM hPM (hDM _) hS lw_w94 lw_w95 rfl (by decide +kernel) (by decide) rfl hl.1 (Nat.le_of_ble_eq_true rfl) rfl d_law_978 (fun H1 locs1 hPM hk1 hS => ?_)
  have hPC := hPC.kept (fun k q hq => hk1 q.1 (hPC k q hq).lt (fun hh => hapart _ ((hDC _).2 k q hq) hh))
  refine lv_icmp_eq (tgt := 1341) hx hb d_law_981 (by decide) (fun h0 => ?_) (fun h0 => absurd rfl h0)
  exact hend _ _ hI2 _ _ hPC hPM hS ls hl
set_option maxRecDepth 100000 in
theorem lw_w96 : (Jvm.Cond.methodLink "WolfKnightLaw" (117 : Nat) ({ cls := "WolfKnight", name := "suits", desc := "(II)I" } : Jvm.MethodName)) ∈ wk_gt := wk_tbl (List.mem_append_right _ (List.mem_append_right _ (List.mem_append_right _ (List.mem_append_left _ (List.mem_of_getElem? (i := 194) (by decide +kernel)))))) rfl
set_option maxRecDepth 100000 in
theorem lw_w97 : (Jvm.Cond.selects "WolfKnight" ({ cls := "WolfKnight", name := "suits", desc := "(II)I" } : Jvm.MethodName) ({ cls := "WolfKnight", name := "suits", desc := "(II)I" } : Jvm.MethodName)) ∈ wk_gt := wk_tbl (List.mem_append_right _ (List.mem_append_right _ (List.mem_append_right _ (List.mem_append_left _ (List.mem_of_getElem? (i := 196) (by decide +kernel)))))) rfl
set_option maxRecDepth 100000 in
theorem lw_w98 : (Jvm.Cond.methodLink "WolfKnightLaw" (120 : Nat) ({ cls := "WolfKnightModel", name := "suits", desc := "(II)I" } : Jvm.MethodName)) ∈ wk_gt := wk_tbl (List.mem_append_right _ (List.mem_append_right _ (List.mem_append_right _ (List.mem_append_right _ (List.mem_append_right _ (List.mem_append_right _ (List.mem_of_getElem? (i := 86) (by decide +kernel)))))))) rfl
set_option maxRecDepth 100000 in
theorem lw_w99 : (Jvm.Cond.selects "WolfKnightModel" ({ cls := "WolfKnightModel", name := "suits", desc := "(II)I" } : Jvm.MethodName) ({ cls := "WolfKnightModel", name := "suits", desc := "(II)I" } : Jvm.MethodName)) ∈ wk_gt := wk_tbl (List.mem_append_right _ (List.mem_append_right _ (List.mem_append_right _ (List.mem_append_right _ (List.mem_append_right _ (List.mem_append_right _ (List.mem_of_getElem? (i := 88) (by decide +kernel)))))))) rfl
def lw_op_24 (Inv : wk_St → wk_St → Prop) : Prop := ∀ (a0 : Int32) (a1 : Int32) σC σM, Inv σC σM → ∃ (r : Int32) (σC2 σM2 : wk_St), wk_T wk_shC 200 28 [.ref 0, .int a0, .int a1] σC (some (.int r), σC2) ∧ wk_T wk_shM 200 130 [.ref 0, .int a0, .int a1] σM (some (.int r), σM2) ∧ Inv σC2 σM2
set_option maxHeartbeats 4000000 in
set_option maxRecDepth 100000 in
theorem lw_case_24 {Inv : wk_St → wk_St → Prop} (hop : lw_op_24 Inv) {p : Program} {l : Launch} {e : Env} {s : State} {m : MethodId} {below : List Frame} {meth : Method} {c : Code} {b L : Nat} {xs : Nat → Int32} (C0 : lw_At p s m meth c b L xs) {G : lw_G} (hg : lw_Ok G s) {i : Nat} {xi : Int32} (hi : xi = nI i) (hiL : i + 7 ≤ L) (hL : L ≤ 3584) {H : Heap} {locs : List Loc} {ls : Array Slot} {σC σM : wk_St} (hI : Inv σC σM)
    (hPC : va_P G.1 wk_cls (lw_wC G σC) H) (hPM : va_P G.1 wk_cls (lw_wM G σM) H) (hS : va_S (fun q : Nat => s.heap.size ≤ q) s.heap H locs) (hl : lv_has ls 4 [(0, .ref b), (1, .ref (G.2.1 0)), (2, .ref (G.2.2.1 0)), (3, .int xi)])
    (hend : ∀ (σC2 σM2 : wk_St), Inv σC2 σM2 → ∀ (H2 : Heap) (locs2 : List Loc), va_P G.1 wk_cls (lw_wC G σC2) H2 → va_P G.1 wk_cls (lw_wM G σM2) H2 → va_S (fun q : Nat => s.heap.size ≤ q) s.heap H2 locs2 → ∀ ls2 : Array Slot, lv_has ls2 4 [(0, .ref b), (1, .ref (G.2.1 0)), (2, .ref (G.2.2.1 0)), (3, .int xi)] → W p l e room_1 s m #[Value.ref b] below meth c H2 locs2 600000 7302250 (lw_Z below #[Value.ref b] s) (F0 m 1341 ls2 [])) :
    W p l e room_1 s m #[Value.ref b] below meth c H locs 600000 7302250 (lw_Z below #[Value.ref b] s) (F0 m 986 ls []) := by
  obtain ⟨hx, hb, hr, hml, hown, hts, hX, hbl, hlocks, hgv⟩ := id C0
  have hbA : ¬ s.heap.size ≤ b := Nat.not_le.mpr hbl
  have hin : ∀ k : Nat, k < 7 → vp_in (xi + nI k) L := fun k hk => by rw [hi, nI_add]; exact vp_in_nI (by omega) (by omega)
  have hDC := hg.2.2.1
  have hDM := hg.2.2.2.1
  have hA0C := hg.2.2.2.2.2.1
  have hA0M := hg.2.2.2.2.2.2.1
  have hapart := hg.2.2.2.2.2.2.2.1
  refine lv_aload_n hx hb d_law_986 rfl (lv_at hl 1 rfl) ?_
  refine lv_aload_n hx hb d_law_987 rfl (lv_at hl 0 rfl) ?_
  refine lv_iload_n hx hb d_law_988 rfl (lv_at hl 3 rfl) ?_
  refine lv_iconst (v := 1) hx hb d_law_989 (by decide) ?_
  refine lv_iadd hx hb d_law_990 ?_
  refine va_sld hx hb hX hbl hbA hS (hin 1 (by decide)) d_law_991 ?_
  refine lv_aload_n hx hb d_law_992 rfl (lv_at hl 0 rfl) ?_
  refine lv_iload_n hx hb d_law_993 rfl (lv_at hl 3 rfl) ?_
  refine lv_iconst (v := 2) hx hb d_law_994 (by decide) ?_
  refine lv_iadd hx hb d_law_995 ?_
  refine va_sld hx hb hX hbl hbA hS (hin 2 (by decide)) d_law_996 ?_
  obtain ⟨r, σC2, σM2, hTC, hTM, hI2⟩ := hop (xs (xi + (1 : Int32)).toNatClampNeg) (xs (xi + (2 : Int32)).toNatClampNeg) _ _ hI
  refine lw_call C0 hg.1 hg.2.2.2.2.1 hg.2.2.2.2.2.2.2.2.2 hg.2.2.2.2.2.2.2.2.1.1 hA0C (f := 28) (as := [.int (xs (xi + (1 : Int32)).toNatClampNeg), .int (xs (xi + (2 : Int32)).toNatClampNeg)]) (rest := []) (by decide) rfl (Nat.le_of_ble_eq_true rfl) hTC hPC (hDC _) hS lw_w96 lw_w97 rfl (by decide +kernel) (by decide) rfl hl.1 (Nat.le_of_ble_eq_true rfl) rfl d_law_997 (fun H1 locs1 hPC hk1 hS => ?_)
  have hPM := hPM.kept (fun k q hq => hk1 q.1 (hPM k q hq).lt (fun hh => hapart _ hh ((hDM _).2 k q hq)))
  refine lv_aload_n hx hb d_law_1000 rfl (lv_at hl 2 rfl) ?_
  refine lv_aload_n hx hb d_law_1001 rfl (lv_at hl 0 rfl) ?_
  refine lv_iload_n hx hb d_law_1002 rfl (lv_at hl 3 rfl) ?_
  refine lv_iconst (v := 1) hx hb d_law_1003 (by decide) ?_
  refine lv_iadd hx hb d_law_1004 ?_
  refine va_sld hx hb hX hbl hbA hS (hin 1 (by decide)) d_law_1005 ?_
  refine lv_aload_n hx hb d_law_1006 rfl (lv_at hl 0 rfl) ?_
  refine lv_iload_n hx hb d_law_1007 rfl (lv_at hl 3 rfl) ?_
  refine lv_iconst (v := 2) hx hb d_law_1008 (by decide) ?_
  refine lv_iadd hx hb d_law_1009 ?_
  refine va_sld hx hb hX hbl hbA hS (hin 2 (by decide)) d_law_1010 ?_
  refine lw_call C0 hg.2.1 hg.2.2.2.2.1 hg.2.2.2.2.2.2.2.2.2 hg.2.2.2.2.2.2.2.2.1.2 hA0M (f := 130) (as := [.int (xs (xi + (1 : Int32)).toNatClampNeg), .int (xs (xi + (2 : Int32)).toNatClampNeg)]) (rest := [.int r]) (by decide) rfl (Nat.le_of_ble_eq_true rfl) hTM hPM (hDM _) hS lw_w98 lw_w99 rfl (by decide +kernel) (by decide) rfl hl.1 (Nat.le_of_ble_eq_true rfl) rfl d_law_1011 (fun H1 locs1 hPM hk1 hS => ?_)
  have hPC := hPC.kept (fun k q hq => hk1 q.1 (hPC k q hq).lt (fun hh => hapart _ ((hDC _).2 k q hq) hh))
  refine lv_icmp_eq (tgt := 1341) hx hb d_law_1014 (by decide) (fun h0 => ?_) (fun h0 => absurd rfl h0)
  exact hend _ _ hI2 _ _ hPC hPM hS ls hl
set_option maxRecDepth 100000 in
theorem lw_w100 : (Jvm.Cond.methodLink "WolfKnightLaw" (121 : Nat) ({ cls := "WolfKnight", name := "weekday", desc := "(III)I" } : Jvm.MethodName)) ∈ wk_gt := wk_tbl (List.mem_append_right _ (List.mem_append_right _ (List.mem_append_right _ (List.mem_append_left _ (List.mem_of_getElem? (i := 206) (by decide +kernel)))))) rfl
set_option maxRecDepth 100000 in
theorem lw_w101 : (Jvm.Cond.selects "WolfKnight" ({ cls := "WolfKnight", name := "weekday", desc := "(III)I" } : Jvm.MethodName) ({ cls := "WolfKnight", name := "weekday", desc := "(III)I" } : Jvm.MethodName)) ∈ wk_gt := wk_tbl (List.mem_append_right _ (List.mem_append_right _ (List.mem_append_right _ (List.mem_append_left _ (List.mem_of_getElem? (i := 208) (by decide +kernel)))))) rfl
set_option maxRecDepth 100000 in
theorem lw_w102 : (Jvm.Cond.methodLink "WolfKnightLaw" (124 : Nat) ({ cls := "WolfKnightModel", name := "weekday", desc := "(III)I" } : Jvm.MethodName)) ∈ wk_gt := wk_tbl (List.mem_append_right _ (List.mem_append_right _ (List.mem_append_right _ (List.mem_append_right _ (List.mem_append_right _ (List.mem_append_right _ (List.mem_of_getElem? (i := 90) (by decide +kernel)))))))) rfl
set_option maxRecDepth 100000 in
theorem lw_w103 : (Jvm.Cond.selects "WolfKnightModel" ({ cls := "WolfKnightModel", name := "weekday", desc := "(III)I" } : Jvm.MethodName) ({ cls := "WolfKnightModel", name := "weekday", desc := "(III)I" } : Jvm.MethodName)) ∈ wk_gt := wk_tbl (List.mem_append_right _ (List.mem_append_right _ (List.mem_append_right _ (List.mem_append_right _ (List.mem_append_right _ (List.mem_append_right _ (List.mem_of_getElem? (i := 92) (by decide +kernel)))))))) rfl
def lw_op_25 (Inv : wk_St → wk_St → Prop) : Prop := ∀ (a0 : Int32) (a1 : Int32) (a2 : Int32) σC σM, Inv σC σM → ∃ (r : Int32) (σC2 σM2 : wk_St), wk_T wk_shC 200 31 [.ref 0, .int a0, .int a1, .int a2] σC (some (.int r), σC2) ∧ wk_T wk_shM 200 137 [.ref 0, .int a0, .int a1, .int a2] σM (some (.int r), σM2) ∧ Inv σC2 σM2
set_option maxHeartbeats 4000000 in
set_option maxRecDepth 100000 in
theorem lw_case_25 {Inv : wk_St → wk_St → Prop} (hop : lw_op_25 Inv) {p : Program} {l : Launch} {e : Env} {s : State} {m : MethodId} {below : List Frame} {meth : Method} {c : Code} {b L : Nat} {xs : Nat → Int32} (C0 : lw_At p s m meth c b L xs) {G : lw_G} (hg : lw_Ok G s) {i : Nat} {xi : Int32} (hi : xi = nI i) (hiL : i + 7 ≤ L) (hL : L ≤ 3584) {H : Heap} {locs : List Loc} {ls : Array Slot} {σC σM : wk_St} (hI : Inv σC σM)
    (hPC : va_P G.1 wk_cls (lw_wC G σC) H) (hPM : va_P G.1 wk_cls (lw_wM G σM) H) (hS : va_S (fun q : Nat => s.heap.size ≤ q) s.heap H locs) (hl : lv_has ls 4 [(0, .ref b), (1, .ref (G.2.1 0)), (2, .ref (G.2.2.1 0)), (3, .int xi)])
    (hend : ∀ (σC2 σM2 : wk_St), Inv σC2 σM2 → ∀ (H2 : Heap) (locs2 : List Loc), va_P G.1 wk_cls (lw_wC G σC2) H2 → va_P G.1 wk_cls (lw_wM G σM2) H2 → va_S (fun q : Nat => s.heap.size ≤ q) s.heap H2 locs2 → ∀ ls2 : Array Slot, lv_has ls2 4 [(0, .ref b), (1, .ref (G.2.1 0)), (2, .ref (G.2.2.1 0)), (3, .int xi)] → W p l e room_1 s m #[Value.ref b] below meth c H2 locs2 600000 7302250 (lw_Z below #[Value.ref b] s) (F0 m 1341 ls2 [])) :
    W p l e room_1 s m #[Value.ref b] below meth c H locs 600000 7302250 (lw_Z below #[Value.ref b] s) (F0 m 1019 ls []) := by
  obtain ⟨hx, hb, hr, hml, hown, hts, hX, hbl, hlocks, hgv⟩ := id C0
  have hbA : ¬ s.heap.size ≤ b := Nat.not_le.mpr hbl
  have hin : ∀ k : Nat, k < 7 → vp_in (xi + nI k) L := fun k hk => by rw [hi, nI_add]; exact vp_in_nI (by omega) (by omega)
  have hDC := hg.2.2.1
  have hDM := hg.2.2.2.1
  have hA0C := hg.2.2.2.2.2.1
  have hA0M := hg.2.2.2.2.2.2.1
  have hapart := hg.2.2.2.2.2.2.2.1
  refine lv_aload_n hx hb d_law_1019 rfl (lv_at hl 1 rfl) ?_
  refine lv_aload_n hx hb d_law_1020 rfl (lv_at hl 0 rfl) ?_
  refine lv_iload_n hx hb d_law_1021 rfl (lv_at hl 3 rfl) ?_
  refine lv_iconst (v := 1) hx hb d_law_1022 (by decide) ?_
  refine lv_iadd hx hb d_law_1023 ?_
  refine va_sld hx hb hX hbl hbA hS (hin 1 (by decide)) d_law_1024 ?_
  refine lv_aload_n hx hb d_law_1025 rfl (lv_at hl 0 rfl) ?_
  refine lv_iload_n hx hb d_law_1026 rfl (lv_at hl 3 rfl) ?_
  refine lv_iconst (v := 2) hx hb d_law_1027 (by decide) ?_
  refine lv_iadd hx hb d_law_1028 ?_
  refine va_sld hx hb hX hbl hbA hS (hin 2 (by decide)) d_law_1029 ?_
  refine lv_aload_n hx hb d_law_1030 rfl (lv_at hl 0 rfl) ?_
  refine lv_iload_n hx hb d_law_1031 rfl (lv_at hl 3 rfl) ?_
  refine lv_iconst (v := 3) hx hb d_law_1032 (by decide) ?_
  refine lv_iadd hx hb d_law_1033 ?_
  refine va_sld hx hb hX hbl hbA hS (hin 3 (by decide)) d_law_1034 ?_
  obtain ⟨r, σC2, σM2, hTC, hTM, hI2⟩ := hop (xs (xi + (1 : Int32)).toNatClampNeg) (xs (xi + (2 : Int32)).toNatClampNeg) (xs (xi + (3 : Int32)).toNatClampNeg) _ _ hI
  refine lw_call C0 hg.1 hg.2.2.2.2.1 hg.2.2.2.2.2.2.2.2.2 hg.2.2.2.2.2.2.2.2.1.1 hA0C (f := 31) (as := [.int (xs (xi + (1 : Int32)).toNatClampNeg), .int (xs (xi + (2 : Int32)).toNatClampNeg), .int (xs (xi + (3 : Int32)).toNatClampNeg)]) (rest := []) (by decide) rfl (Nat.le_of_ble_eq_true rfl) hTC hPC (hDC _) hS lw_w100 lw_w101 rfl (by decide +kernel) (by decide) rfl hl.1 (Nat.le_of_ble_eq_true rfl) rfl d_law_1035 (fun H1 locs1 hPC hk1 hS => ?_)
  have hPM := hPM.kept (fun k q hq => hk1 q.1 (hPM k q hq).lt (fun hh => hapart _ hh ((hDM _).2 k q hq)))
  refine lv_aload_n hx hb d_law_1038 rfl (lv_at hl 2 rfl) ?_
  refine lv_aload_n hx hb d_law_1039 rfl (lv_at hl 0 rfl) ?_
  refine lv_iload_n hx hb d_law_1040 rfl (lv_at hl 3 rfl) ?_
  refine lv_iconst (v := 1) hx hb d_law_1041 (by decide) ?_
  refine lv_iadd hx hb d_law_1042 ?_
  refine va_sld hx hb hX hbl hbA hS (hin 1 (by decide)) d_law_1043 ?_
  refine lv_aload_n hx hb d_law_1044 rfl (lv_at hl 0 rfl) ?_
  refine lv_iload_n hx hb d_law_1045 rfl (lv_at hl 3 rfl) ?_
  refine lv_iconst (v := 2) hx hb d_law_1046 (by decide) ?_
  refine lv_iadd hx hb d_law_1047 ?_
  refine va_sld hx hb hX hbl hbA hS (hin 2 (by decide)) d_law_1048 ?_
  refine lv_aload_n hx hb d_law_1049 rfl (lv_at hl 0 rfl) ?_
  refine lv_iload_n hx hb d_law_1050 rfl (lv_at hl 3 rfl) ?_
  refine lv_iconst (v := 3) hx hb d_law_1051 (by decide) ?_
  refine lv_iadd hx hb d_law_1052 ?_
  refine va_sld hx hb hX hbl hbA hS (hin 3 (by decide)) d_law_1053 ?_
  refine lw_call C0 hg.2.1 hg.2.2.2.2.1 hg.2.2.2.2.2.2.2.2.2 hg.2.2.2.2.2.2.2.2.1.2 hA0M (f := 137) (as := [.int (xs (xi + (1 : Int32)).toNatClampNeg), .int (xs (xi + (2 : Int32)).toNatClampNeg), .int (xs (xi + (3 : Int32)).toNatClampNeg)]) (rest := [.int r]) (by decide) rfl (Nat.le_of_ble_eq_true rfl) hTM hPM (hDM _) hS lw_w102 lw_w103 rfl (by decide +kernel) (by decide) rfl hl.1 (Nat.le_of_ble_eq_true rfl) rfl d_law_1054 (fun H1 locs1 hPM hk1 hS => ?_)
  have hPC := hPC.kept (fun k q hq => hk1 q.1 (hPC k q hq).lt (fun hh => hapart _ ((hDC _).2 k q hq) hh))
  refine lv_icmp_eq (tgt := 1341) hx hb d_law_1057 (by decide) (fun h0 => ?_) (fun h0 => absurd rfl h0)
  exact hend _ _ hI2 _ _ hPC hPM hS ls hl
set_option maxRecDepth 100000 in
theorem lw_w104 : (Jvm.Cond.methodLink "WolfKnightLaw" (125 : Nat) ({ cls := "WolfKnight", name := "daysBetween", desc := "(IIIIII)I" } : Jvm.MethodName)) ∈ wk_gt := wk_tbl (List.mem_append_right _ (List.mem_append_right _ (List.mem_append_right _ (List.mem_append_left _ (List.mem_of_getElem? (i := 228) (by decide +kernel)))))) rfl
set_option maxRecDepth 100000 in
theorem lw_w105 : (Jvm.Cond.selects "WolfKnight" ({ cls := "WolfKnight", name := "daysBetween", desc := "(IIIIII)I" } : Jvm.MethodName) ({ cls := "WolfKnight", name := "daysBetween", desc := "(IIIIII)I" } : Jvm.MethodName)) ∈ wk_gt := wk_tbl (List.mem_append_right _ (List.mem_append_right _ (List.mem_append_right _ (List.mem_append_left _ (List.mem_of_getElem? (i := 230) (by decide +kernel)))))) rfl
set_option maxRecDepth 100000 in
theorem lw_w106 : (Jvm.Cond.methodLink "WolfKnightLaw" (129 : Nat) ({ cls := "WolfKnightModel", name := "daysBetween", desc := "(IIIIII)I" } : Jvm.MethodName)) ∈ wk_gt := wk_tbl (List.mem_append_right _ (List.mem_append_right _ (List.mem_append_right _ (List.mem_append_right _ (List.mem_append_right _ (List.mem_append_right _ (List.mem_of_getElem? (i := 112) (by decide +kernel)))))))) rfl
set_option maxRecDepth 100000 in
theorem lw_w107 : (Jvm.Cond.selects "WolfKnightModel" ({ cls := "WolfKnightModel", name := "daysBetween", desc := "(IIIIII)I" } : Jvm.MethodName) ({ cls := "WolfKnightModel", name := "daysBetween", desc := "(IIIIII)I" } : Jvm.MethodName)) ∈ wk_gt := wk_tbl (List.mem_append_right _ (List.mem_append_right _ (List.mem_append_right _ (List.mem_append_right _ (List.mem_append_right _ (List.mem_append_right _ (List.mem_of_getElem? (i := 114) (by decide +kernel)))))))) rfl
def lw_op_26 (Inv : wk_St → wk_St → Prop) : Prop := ∀ (a0 : Int32) (a1 : Int32) (a2 : Int32) (a3 : Int32) (a4 : Int32) (a5 : Int32) σC σM, Inv σC σM → ∃ (r : Int32) (σC2 σM2 : wk_St), wk_T wk_shC 200 32 [.ref 0, .int a0, .int a1, .int a2, .int a3, .int a4, .int a5] σC (some (.int r), σC2) ∧ wk_T wk_shM 200 138 [.ref 0, .int a0, .int a1, .int a2, .int a3, .int a4, .int a5] σM (some (.int r), σM2) ∧ Inv σC2 σM2
set_option maxHeartbeats 4000000 in
set_option maxRecDepth 100000 in
theorem lw_case_26 {Inv : wk_St → wk_St → Prop} (hop : lw_op_26 Inv) {p : Program} {l : Launch} {e : Env} {s : State} {m : MethodId} {below : List Frame} {meth : Method} {c : Code} {b L : Nat} {xs : Nat → Int32} (C0 : lw_At p s m meth c b L xs) {G : lw_G} (hg : lw_Ok G s) {i : Nat} {xi : Int32} (hi : xi = nI i) (hiL : i + 7 ≤ L) (hL : L ≤ 3584) {H : Heap} {locs : List Loc} {ls : Array Slot} {σC σM : wk_St} (hI : Inv σC σM)
    (hPC : va_P G.1 wk_cls (lw_wC G σC) H) (hPM : va_P G.1 wk_cls (lw_wM G σM) H) (hS : va_S (fun q : Nat => s.heap.size ≤ q) s.heap H locs) (hl : lv_has ls 4 [(0, .ref b), (1, .ref (G.2.1 0)), (2, .ref (G.2.2.1 0)), (3, .int xi)])
    (hend : ∀ (σC2 σM2 : wk_St), Inv σC2 σM2 → ∀ (H2 : Heap) (locs2 : List Loc), va_P G.1 wk_cls (lw_wC G σC2) H2 → va_P G.1 wk_cls (lw_wM G σM2) H2 → va_S (fun q : Nat => s.heap.size ≤ q) s.heap H2 locs2 → ∀ ls2 : Array Slot, lv_has ls2 4 [(0, .ref b), (1, .ref (G.2.1 0)), (2, .ref (G.2.2.1 0)), (3, .int xi)] → W p l e room_1 s m #[Value.ref b] below meth c H2 locs2 600000 7302250 (lw_Z below #[Value.ref b] s) (F0 m 1341 ls2 [])) :
    W p l e room_1 s m #[Value.ref b] below meth c H locs 600000 7302250 (lw_Z below #[Value.ref b] s) (F0 m 1062 ls []) := by
  obtain ⟨hx, hb, hr, hml, hown, hts, hX, hbl, hlocks, hgv⟩ := id C0
  have hbA : ¬ s.heap.size ≤ b := Nat.not_le.mpr hbl
  have hin : ∀ k : Nat, k < 7 → vp_in (xi + nI k) L := fun k hk => by rw [hi, nI_add]; exact vp_in_nI (by omega) (by omega)
  have hDC := hg.2.2.1
  have hDM := hg.2.2.2.1
  have hA0C := hg.2.2.2.2.2.1
  have hA0M := hg.2.2.2.2.2.2.1
  have hapart := hg.2.2.2.2.2.2.2.1
  refine lv_aload_n hx hb d_law_1062 rfl (lv_at hl 1 rfl) ?_
  refine lv_aload_n hx hb d_law_1063 rfl (lv_at hl 0 rfl) ?_
  refine lv_iload_n hx hb d_law_1064 rfl (lv_at hl 3 rfl) ?_
  refine lv_iconst (v := 1) hx hb d_law_1065 (by decide) ?_
  refine lv_iadd hx hb d_law_1066 ?_
  refine va_sld hx hb hX hbl hbA hS (hin 1 (by decide)) d_law_1067 ?_
  refine lv_aload_n hx hb d_law_1068 rfl (lv_at hl 0 rfl) ?_
  refine lv_iload_n hx hb d_law_1069 rfl (lv_at hl 3 rfl) ?_
  refine lv_iconst (v := 2) hx hb d_law_1070 (by decide) ?_
  refine lv_iadd hx hb d_law_1071 ?_
  refine va_sld hx hb hX hbl hbA hS (hin 2 (by decide)) d_law_1072 ?_
  refine lv_aload_n hx hb d_law_1073 rfl (lv_at hl 0 rfl) ?_
  refine lv_iload_n hx hb d_law_1074 rfl (lv_at hl 3 rfl) ?_
  refine lv_iconst (v := 3) hx hb d_law_1075 (by decide) ?_
  refine lv_iadd hx hb d_law_1076 ?_
  refine va_sld hx hb hX hbl hbA hS (hin 3 (by decide)) d_law_1077 ?_
  refine lv_aload_n hx hb d_law_1078 rfl (lv_at hl 0 rfl) ?_
  refine lv_iload_n hx hb d_law_1079 rfl (lv_at hl 3 rfl) ?_
  refine lv_iconst (v := 4) hx hb d_law_1080 (by decide) ?_
  refine lv_iadd hx hb d_law_1081 ?_
  refine va_sld hx hb hX hbl hbA hS (hin 4 (by decide)) d_law_1082 ?_
  refine lv_aload_n hx hb d_law_1083 rfl (lv_at hl 0 rfl) ?_
  refine lv_iload_n hx hb d_law_1084 rfl (lv_at hl 3 rfl) ?_
  refine lv_iconst (v := 5) hx hb d_law_1085 (by decide) ?_
  refine lv_iadd hx hb d_law_1086 ?_
  refine va_sld hx hb hX hbl hbA hS (hin 5 (by decide)) d_law_1087 ?_
  refine lv_aload_n hx hb d_law_1088 rfl (lv_at hl 0 rfl) ?_
  refine lv_iload_n hx hb d_law_1089 rfl (lv_at hl 3 rfl) ?_
  refine lv_bipush (v := 6) hx hb d_law_1090 (by decide) ?_
  refine lv_iadd hx hb d_law_1092 ?_
  refine va_sld hx hb hX hbl hbA hS (hin 6 (by decide)) d_law_1093 ?_
  obtain ⟨r, σC2, σM2, hTC, hTM, hI2⟩ := hop (xs (xi + (1 : Int32)).toNatClampNeg) (xs (xi + (2 : Int32)).toNatClampNeg) (xs (xi + (3 : Int32)).toNatClampNeg) (xs (xi + (4 : Int32)).toNatClampNeg) (xs (xi + (5 : Int32)).toNatClampNeg) (xs (xi + (6 : Int32)).toNatClampNeg) _ _ hI
  refine lw_call C0 hg.1 hg.2.2.2.2.1 hg.2.2.2.2.2.2.2.2.2 hg.2.2.2.2.2.2.2.2.1.1 hA0C (f := 32) (as := [.int (xs (xi + (1 : Int32)).toNatClampNeg), .int (xs (xi + (2 : Int32)).toNatClampNeg), .int (xs (xi + (3 : Int32)).toNatClampNeg), .int (xs (xi + (4 : Int32)).toNatClampNeg), .int (xs (xi + (5 : Int32)).toNatClampNeg), .int (xs (xi + (6 : Int32)).toNatClampNeg)]) (rest := []) (by decide) rfl (Nat.le_of_ble_eq_true rfl) hTC hPC (hDC _) hS lw_w104 lw_w105 rfl (by decide +kernel) (by decide) rfl hl.1 (Nat.le_of_ble_eq_true rfl) rfl d_law_1094 (fun H1 locs1 hPC hk1 hS => ?_)
  have hPM := hPM.kept (fun k q hq => hk1 q.1 (hPM k q hq).lt (fun hh => hapart _ hh ((hDM _).2 k q hq)))
  refine lv_aload_n hx hb d_law_1097 rfl (lv_at hl 2 rfl) ?_
  refine lv_aload_n hx hb d_law_1098 rfl (lv_at hl 0 rfl) ?_
  refine lv_iload_n hx hb d_law_1099 rfl (lv_at hl 3 rfl) ?_
  refine lv_iconst (v := 1) hx hb d_law_1100 (by decide) ?_
  refine lv_iadd hx hb d_law_1101 ?_
  refine va_sld hx hb hX hbl hbA hS (hin 1 (by decide)) d_law_1102 ?_
  refine lv_aload_n hx hb d_law_1103 rfl (lv_at hl 0 rfl) ?_
  refine lv_iload_n hx hb d_law_1104 rfl (lv_at hl 3 rfl) ?_
  refine lv_iconst (v := 2) hx hb d_law_1105 (by decide) ?_
  refine lv_iadd hx hb d_law_1106 ?_
  refine va_sld hx hb hX hbl hbA hS (hin 2 (by decide)) d_law_1107 ?_
  refine lv_aload_n hx hb d_law_1108 rfl (lv_at hl 0 rfl) ?_
  refine lv_iload_n hx hb d_law_1109 rfl (lv_at hl 3 rfl) ?_
  refine lv_iconst (v := 3) hx hb d_law_1110 (by decide) ?_
  refine lv_iadd hx hb d_law_1111 ?_
  refine va_sld hx hb hX hbl hbA hS (hin 3 (by decide)) d_law_1112 ?_
  refine lv_aload_n hx hb d_law_1113 rfl (lv_at hl 0 rfl) ?_
  refine lv_iload_n hx hb d_law_1114 rfl (lv_at hl 3 rfl) ?_
  refine lv_iconst (v := 4) hx hb d_law_1115 (by decide) ?_
  refine lv_iadd hx hb d_law_1116 ?_
  refine va_sld hx hb hX hbl hbA hS (hin 4 (by decide)) d_law_1117 ?_
  refine lv_aload_n hx hb d_law_1118 rfl (lv_at hl 0 rfl) ?_
  refine lv_iload_n hx hb d_law_1119 rfl (lv_at hl 3 rfl) ?_
  refine lv_iconst (v := 5) hx hb d_law_1120 (by decide) ?_
  refine lv_iadd hx hb d_law_1121 ?_
  refine va_sld hx hb hX hbl hbA hS (hin 5 (by decide)) d_law_1122 ?_
  refine lv_aload_n hx hb d_law_1123 rfl (lv_at hl 0 rfl) ?_
  refine lv_iload_n hx hb d_law_1124 rfl (lv_at hl 3 rfl) ?_
  refine lv_bipush (v := 6) hx hb d_law_1125 (by decide) ?_
  refine lv_iadd hx hb d_law_1127 ?_
  refine va_sld hx hb hX hbl hbA hS (hin 6 (by decide)) d_law_1128 ?_
  refine lw_call C0 hg.2.1 hg.2.2.2.2.1 hg.2.2.2.2.2.2.2.2.2 hg.2.2.2.2.2.2.2.2.1.2 hA0M (f := 138) (as := [.int (xs (xi + (1 : Int32)).toNatClampNeg), .int (xs (xi + (2 : Int32)).toNatClampNeg), .int (xs (xi + (3 : Int32)).toNatClampNeg), .int (xs (xi + (4 : Int32)).toNatClampNeg), .int (xs (xi + (5 : Int32)).toNatClampNeg), .int (xs (xi + (6 : Int32)).toNatClampNeg)]) (rest := [.int r]) (by decide) rfl (Nat.le_of_ble_eq_true rfl) hTM hPM (hDM _) hS lw_w106 lw_w107 rfl (by decide +kernel) (by decide) rfl hl.1 (Nat.le_of_ble_eq_true rfl) rfl d_law_1129 (fun H1 locs1 hPM hk1 hS => ?_)
  have hPC := hPC.kept (fun k q hq => hk1 q.1 (hPC k q hq).lt (fun hh => hapart _ ((hDC _).2 k q hq) hh))
  refine lv_icmp_eq (tgt := 1341) hx hb d_law_1132 (by decide) (fun h0 => ?_) (fun h0 => absurd rfl h0)
  exact hend _ _ hI2 _ _ hPC hPM hS ls hl
set_option maxRecDepth 100000 in
theorem lw_w108 : (Jvm.Cond.methodLink "WolfKnightLaw" (130 : Nat) ({ cls := "WolfKnight", name := "feast", desc := "(IIII)I" } : Jvm.MethodName)) ∈ wk_gt := wk_tbl (List.mem_append_right _ (List.mem_append_right _ (List.mem_append_right _ (List.mem_append_left _ (List.mem_of_getElem? (i := 234) (by decide +kernel)))))) rfl
set_option maxRecDepth 100000 in
theorem lw_w109 : (Jvm.Cond.selects "WolfKnight" ({ cls := "WolfKnight", name := "feast", desc := "(IIII)I" } : Jvm.MethodName) ({ cls := "WolfKnight", name := "feast", desc := "(IIII)I" } : Jvm.MethodName)) ∈ wk_gt := wk_tbl (List.mem_append_right _ (List.mem_append_right _ (List.mem_append_right _ (List.mem_append_left _ (List.mem_of_getElem? (i := 236) (by decide +kernel)))))) rfl
set_option maxRecDepth 100000 in
theorem lw_w110 : (Jvm.Cond.methodLink "WolfKnightLaw" (134 : Nat) ({ cls := "WolfKnightModel", name := "feast", desc := "(IIII)I" } : Jvm.MethodName)) ∈ wk_gt := wk_tbl (List.mem_append_right _ (List.mem_append_right _ (List.mem_append_right _ (List.mem_append_right _ (List.mem_append_right _ (List.mem_append_right _ (List.mem_of_getElem? (i := 117) (by decide +kernel)))))))) rfl
set_option maxRecDepth 100000 in
theorem lw_w111 : (Jvm.Cond.selects "WolfKnightModel" ({ cls := "WolfKnightModel", name := "feast", desc := "(IIII)I" } : Jvm.MethodName) ({ cls := "WolfKnightModel", name := "feast", desc := "(IIII)I" } : Jvm.MethodName)) ∈ wk_gt := wk_tbl (List.mem_append_right _ (List.mem_append_right _ (List.mem_append_right _ (List.mem_append_right _ (List.mem_append_right _ (List.mem_append_right _ (List.mem_of_getElem? (i := 119) (by decide +kernel)))))))) rfl
def lw_op_27 (Inv : wk_St → wk_St → Prop) : Prop := ∀ (a0 : Int32) (a1 : Int32) (a2 : Int32) (a3 : Int32) σC σM, Inv σC σM → ∃ (r : Int32) (σC2 σM2 : wk_St), wk_T wk_shC 200 33 [.ref 0, .int a0, .int a1, .int a2, .int a3] σC (some (.int r), σC2) ∧ wk_T wk_shM 200 139 [.ref 0, .int a0, .int a1, .int a2, .int a3] σM (some (.int r), σM2) ∧ Inv σC2 σM2
set_option maxHeartbeats 4000000 in
set_option maxRecDepth 100000 in
theorem lw_case_27 {Inv : wk_St → wk_St → Prop} (hop : lw_op_27 Inv) {p : Program} {l : Launch} {e : Env} {s : State} {m : MethodId} {below : List Frame} {meth : Method} {c : Code} {b L : Nat} {xs : Nat → Int32} (C0 : lw_At p s m meth c b L xs) {G : lw_G} (hg : lw_Ok G s) {i : Nat} {xi : Int32} (hi : xi = nI i) (hiL : i + 7 ≤ L) (hL : L ≤ 3584) {H : Heap} {locs : List Loc} {ls : Array Slot} {σC σM : wk_St} (hI : Inv σC σM)
    (hPC : va_P G.1 wk_cls (lw_wC G σC) H) (hPM : va_P G.1 wk_cls (lw_wM G σM) H) (hS : va_S (fun q : Nat => s.heap.size ≤ q) s.heap H locs) (hl : lv_has ls 4 [(0, .ref b), (1, .ref (G.2.1 0)), (2, .ref (G.2.2.1 0)), (3, .int xi)])
    (hend : ∀ (σC2 σM2 : wk_St), Inv σC2 σM2 → ∀ (H2 : Heap) (locs2 : List Loc), va_P G.1 wk_cls (lw_wC G σC2) H2 → va_P G.1 wk_cls (lw_wM G σM2) H2 → va_S (fun q : Nat => s.heap.size ≤ q) s.heap H2 locs2 → ∀ ls2 : Array Slot, lv_has ls2 4 [(0, .ref b), (1, .ref (G.2.1 0)), (2, .ref (G.2.2.1 0)), (3, .int xi)] → W p l e room_1 s m #[Value.ref b] below meth c H2 locs2 600000 7302250 (lw_Z below #[Value.ref b] s) (F0 m 1341 ls2 [])) :
    W p l e room_1 s m #[Value.ref b] below meth c H locs 600000 7302250 (lw_Z below #[Value.ref b] s) (F0 m 1137 ls []) := by
  obtain ⟨hx, hb, hr, hml, hown, hts, hX, hbl, hlocks, hgv⟩ := id C0
  have hbA : ¬ s.heap.size ≤ b := Nat.not_le.mpr hbl
  have hin : ∀ k : Nat, k < 7 → vp_in (xi + nI k) L := fun k hk => by rw [hi, nI_add]; exact vp_in_nI (by omega) (by omega)
  have hDC := hg.2.2.1
  have hDM := hg.2.2.2.1
  have hA0C := hg.2.2.2.2.2.1
  have hA0M := hg.2.2.2.2.2.2.1
  have hapart := hg.2.2.2.2.2.2.2.1
  refine lv_aload_n hx hb d_law_1137 rfl (lv_at hl 1 rfl) ?_
  refine lv_aload_n hx hb d_law_1138 rfl (lv_at hl 0 rfl) ?_
  refine lv_iload_n hx hb d_law_1139 rfl (lv_at hl 3 rfl) ?_
  refine lv_iconst (v := 1) hx hb d_law_1140 (by decide) ?_
  refine lv_iadd hx hb d_law_1141 ?_
  refine va_sld hx hb hX hbl hbA hS (hin 1 (by decide)) d_law_1142 ?_
  refine lv_aload_n hx hb d_law_1143 rfl (lv_at hl 0 rfl) ?_
  refine lv_iload_n hx hb d_law_1144 rfl (lv_at hl 3 rfl) ?_
  refine lv_iconst (v := 2) hx hb d_law_1145 (by decide) ?_
  refine lv_iadd hx hb d_law_1146 ?_
  refine va_sld hx hb hX hbl hbA hS (hin 2 (by decide)) d_law_1147 ?_
  refine lv_aload_n hx hb d_law_1148 rfl (lv_at hl 0 rfl) ?_
  refine lv_iload_n hx hb d_law_1149 rfl (lv_at hl 3 rfl) ?_
  refine lv_iconst (v := 3) hx hb d_law_1150 (by decide) ?_
  refine lv_iadd hx hb d_law_1151 ?_
  refine va_sld hx hb hX hbl hbA hS (hin 3 (by decide)) d_law_1152 ?_
  refine lv_aload_n hx hb d_law_1153 rfl (lv_at hl 0 rfl) ?_
  refine lv_iload_n hx hb d_law_1154 rfl (lv_at hl 3 rfl) ?_
  refine lv_iconst (v := 4) hx hb d_law_1155 (by decide) ?_
  refine lv_iadd hx hb d_law_1156 ?_
  refine va_sld hx hb hX hbl hbA hS (hin 4 (by decide)) d_law_1157 ?_
  obtain ⟨r, σC2, σM2, hTC, hTM, hI2⟩ := hop (xs (xi + (1 : Int32)).toNatClampNeg) (xs (xi + (2 : Int32)).toNatClampNeg) (xs (xi + (3 : Int32)).toNatClampNeg) (xs (xi + (4 : Int32)).toNatClampNeg) _ _ hI
  refine lw_call C0 hg.1 hg.2.2.2.2.1 hg.2.2.2.2.2.2.2.2.2 hg.2.2.2.2.2.2.2.2.1.1 hA0C (f := 33) (as := [.int (xs (xi + (1 : Int32)).toNatClampNeg), .int (xs (xi + (2 : Int32)).toNatClampNeg), .int (xs (xi + (3 : Int32)).toNatClampNeg), .int (xs (xi + (4 : Int32)).toNatClampNeg)]) (rest := []) (by decide) rfl (Nat.le_of_ble_eq_true rfl) hTC hPC (hDC _) hS lw_w108 lw_w109 rfl (by decide +kernel) (by decide) rfl hl.1 (Nat.le_of_ble_eq_true rfl) rfl d_law_1158 (fun H1 locs1 hPC hk1 hS => ?_)
  have hPM := hPM.kept (fun k q hq => hk1 q.1 (hPM k q hq).lt (fun hh => hapart _ hh ((hDM _).2 k q hq)))
  refine lv_aload_n hx hb d_law_1161 rfl (lv_at hl 2 rfl) ?_
  refine lv_aload_n hx hb d_law_1162 rfl (lv_at hl 0 rfl) ?_
  refine lv_iload_n hx hb d_law_1163 rfl (lv_at hl 3 rfl) ?_
  refine lv_iconst (v := 1) hx hb d_law_1164 (by decide) ?_
  refine lv_iadd hx hb d_law_1165 ?_
  refine va_sld hx hb hX hbl hbA hS (hin 1 (by decide)) d_law_1166 ?_
  refine lv_aload_n hx hb d_law_1167 rfl (lv_at hl 0 rfl) ?_
  refine lv_iload_n hx hb d_law_1168 rfl (lv_at hl 3 rfl) ?_
  refine lv_iconst (v := 2) hx hb d_law_1169 (by decide) ?_
  refine lv_iadd hx hb d_law_1170 ?_
  refine va_sld hx hb hX hbl hbA hS (hin 2 (by decide)) d_law_1171 ?_
  refine lv_aload_n hx hb d_law_1172 rfl (lv_at hl 0 rfl) ?_
  refine lv_iload_n hx hb d_law_1173 rfl (lv_at hl 3 rfl) ?_
  refine lv_iconst (v := 3) hx hb d_law_1174 (by decide) ?_
  refine lv_iadd hx hb d_law_1175 ?_
  refine va_sld hx hb hX hbl hbA hS (hin 3 (by decide)) d_law_1176 ?_
  refine lv_aload_n hx hb d_law_1177 rfl (lv_at hl 0 rfl) ?_
  refine lv_iload_n hx hb d_law_1178 rfl (lv_at hl 3 rfl) ?_
  refine lv_iconst (v := 4) hx hb d_law_1179 (by decide) ?_
  refine lv_iadd hx hb d_law_1180 ?_
  refine va_sld hx hb hX hbl hbA hS (hin 4 (by decide)) d_law_1181 ?_
  refine lw_call C0 hg.2.1 hg.2.2.2.2.1 hg.2.2.2.2.2.2.2.2.2 hg.2.2.2.2.2.2.2.2.1.2 hA0M (f := 139) (as := [.int (xs (xi + (1 : Int32)).toNatClampNeg), .int (xs (xi + (2 : Int32)).toNatClampNeg), .int (xs (xi + (3 : Int32)).toNatClampNeg), .int (xs (xi + (4 : Int32)).toNatClampNeg)]) (rest := [.int r]) (by decide) rfl (Nat.le_of_ble_eq_true rfl) hTM hPM (hDM _) hS lw_w110 lw_w111 rfl (by decide +kernel) (by decide) rfl hl.1 (Nat.le_of_ble_eq_true rfl) rfl d_law_1182 (fun H1 locs1 hPM hk1 hS => ?_)
  have hPC := hPC.kept (fun k q hq => hk1 q.1 (hPC k q hq).lt (fun hh => hapart _ ((hDC _).2 k q hq) hh))
  refine lv_icmp_eq (tgt := 1341) hx hb d_law_1185 (by decide) (fun h0 => ?_) (fun h0 => absurd rfl h0)
  exact hend _ _ hI2 _ _ hPC hPM hS ls hl
set_option maxRecDepth 100000 in
theorem lw_w112 : (Jvm.Cond.methodLink "WolfKnightLaw" (135 : Nat) ({ cls := "WolfKnight", name := "easter", desc := "(I)I" } : Jvm.MethodName)) ∈ wk_gt := wk_tbl (List.mem_append_right _ (List.mem_append_right _ (List.mem_append_right _ (List.mem_append_right _ (List.mem_append_left _ (List.mem_of_getElem? (i := 0) (by decide +kernel))))))) rfl
set_option maxRecDepth 100000 in
theorem lw_w113 : (Jvm.Cond.selects "WolfKnight" ({ cls := "WolfKnight", name := "easter", desc := "(I)I" } : Jvm.MethodName) ({ cls := "WolfKnight", name := "easter", desc := "(I)I" } : Jvm.MethodName)) ∈ wk_gt := wk_tbl (List.mem_append_right _ (List.mem_append_right _ (List.mem_append_right _ (List.mem_append_right _ (List.mem_append_left _ (List.mem_of_getElem? (i := 2) (by decide +kernel))))))) rfl
set_option maxRecDepth 100000 in
theorem lw_w114 : (Jvm.Cond.methodLink "WolfKnightLaw" (138 : Nat) ({ cls := "WolfKnightModel", name := "easter", desc := "(I)I" } : Jvm.MethodName)) ∈ wk_gt := wk_tbl (List.mem_append_right _ (List.mem_append_right _ (List.mem_append_right _ (List.mem_append_right _ (List.mem_append_right _ (List.mem_append_right _ (List.mem_of_getElem? (i := 121) (by decide +kernel)))))))) rfl
set_option maxRecDepth 100000 in
theorem lw_w115 : (Jvm.Cond.selects "WolfKnightModel" ({ cls := "WolfKnightModel", name := "easter", desc := "(I)I" } : Jvm.MethodName) ({ cls := "WolfKnightModel", name := "easter", desc := "(I)I" } : Jvm.MethodName)) ∈ wk_gt := wk_tbl (List.mem_append_right _ (List.mem_append_right _ (List.mem_append_right _ (List.mem_append_right _ (List.mem_append_right _ (List.mem_append_right _ (List.mem_of_getElem? (i := 123) (by decide +kernel)))))))) rfl
def lw_op_28 (Inv : wk_St → wk_St → Prop) : Prop := ∀ (a0 : Int32) σC σM, Inv σC σM → ∃ (r : Int32) (σC2 σM2 : wk_St), wk_T wk_shC 200 34 [.ref 0, .int a0] σC (some (.int r), σC2) ∧ wk_T wk_shM 200 140 [.ref 0, .int a0] σM (some (.int r), σM2) ∧ Inv σC2 σM2
set_option maxHeartbeats 4000000 in
set_option maxRecDepth 100000 in
theorem lw_case_28 {Inv : wk_St → wk_St → Prop} (hop : lw_op_28 Inv) {p : Program} {l : Launch} {e : Env} {s : State} {m : MethodId} {below : List Frame} {meth : Method} {c : Code} {b L : Nat} {xs : Nat → Int32} (C0 : lw_At p s m meth c b L xs) {G : lw_G} (hg : lw_Ok G s) {i : Nat} {xi : Int32} (hi : xi = nI i) (hiL : i + 7 ≤ L) (hL : L ≤ 3584) {H : Heap} {locs : List Loc} {ls : Array Slot} {σC σM : wk_St} (hI : Inv σC σM)
    (hPC : va_P G.1 wk_cls (lw_wC G σC) H) (hPM : va_P G.1 wk_cls (lw_wM G σM) H) (hS : va_S (fun q : Nat => s.heap.size ≤ q) s.heap H locs) (hl : lv_has ls 4 [(0, .ref b), (1, .ref (G.2.1 0)), (2, .ref (G.2.2.1 0)), (3, .int xi)])
    (hend : ∀ (σC2 σM2 : wk_St), Inv σC2 σM2 → ∀ (H2 : Heap) (locs2 : List Loc), va_P G.1 wk_cls (lw_wC G σC2) H2 → va_P G.1 wk_cls (lw_wM G σM2) H2 → va_S (fun q : Nat => s.heap.size ≤ q) s.heap H2 locs2 → ∀ ls2 : Array Slot, lv_has ls2 4 [(0, .ref b), (1, .ref (G.2.1 0)), (2, .ref (G.2.2.1 0)), (3, .int xi)] → W p l e room_1 s m #[Value.ref b] below meth c H2 locs2 600000 7302250 (lw_Z below #[Value.ref b] s) (F0 m 1341 ls2 [])) :
    W p l e room_1 s m #[Value.ref b] below meth c H locs 600000 7302250 (lw_Z below #[Value.ref b] s) (F0 m 1190 ls []) := by
  obtain ⟨hx, hb, hr, hml, hown, hts, hX, hbl, hlocks, hgv⟩ := id C0
  have hbA : ¬ s.heap.size ≤ b := Nat.not_le.mpr hbl
  have hin : ∀ k : Nat, k < 7 → vp_in (xi + nI k) L := fun k hk => by rw [hi, nI_add]; exact vp_in_nI (by omega) (by omega)
  have hDC := hg.2.2.1
  have hDM := hg.2.2.2.1
  have hA0C := hg.2.2.2.2.2.1
  have hA0M := hg.2.2.2.2.2.2.1
  have hapart := hg.2.2.2.2.2.2.2.1
  refine lv_aload_n hx hb d_law_1190 rfl (lv_at hl 1 rfl) ?_
  refine lv_aload_n hx hb d_law_1191 rfl (lv_at hl 0 rfl) ?_
  refine lv_iload_n hx hb d_law_1192 rfl (lv_at hl 3 rfl) ?_
  refine lv_iconst (v := 1) hx hb d_law_1193 (by decide) ?_
  refine lv_iadd hx hb d_law_1194 ?_
  refine va_sld hx hb hX hbl hbA hS (hin 1 (by decide)) d_law_1195 ?_
  obtain ⟨r, σC2, σM2, hTC, hTM, hI2⟩ := hop (xs (xi + (1 : Int32)).toNatClampNeg) _ _ hI
  refine lw_call C0 hg.1 hg.2.2.2.2.1 hg.2.2.2.2.2.2.2.2.2 hg.2.2.2.2.2.2.2.2.1.1 hA0C (f := 34) (as := [.int (xs (xi + (1 : Int32)).toNatClampNeg)]) (rest := []) (by decide) rfl (Nat.le_of_ble_eq_true rfl) hTC hPC (hDC _) hS lw_w112 lw_w113 rfl (by decide +kernel) (by decide) rfl hl.1 (Nat.le_of_ble_eq_true rfl) rfl d_law_1196 (fun H1 locs1 hPC hk1 hS => ?_)
  have hPM := hPM.kept (fun k q hq => hk1 q.1 (hPM k q hq).lt (fun hh => hapart _ hh ((hDM _).2 k q hq)))
  refine lv_aload_n hx hb d_law_1199 rfl (lv_at hl 2 rfl) ?_
  refine lv_aload_n hx hb d_law_1200 rfl (lv_at hl 0 rfl) ?_
  refine lv_iload_n hx hb d_law_1201 rfl (lv_at hl 3 rfl) ?_
  refine lv_iconst (v := 1) hx hb d_law_1202 (by decide) ?_
  refine lv_iadd hx hb d_law_1203 ?_
  refine va_sld hx hb hX hbl hbA hS (hin 1 (by decide)) d_law_1204 ?_
  refine lw_call C0 hg.2.1 hg.2.2.2.2.1 hg.2.2.2.2.2.2.2.2.2 hg.2.2.2.2.2.2.2.2.1.2 hA0M (f := 140) (as := [.int (xs (xi + (1 : Int32)).toNatClampNeg)]) (rest := [.int r]) (by decide) rfl (Nat.le_of_ble_eq_true rfl) hTM hPM (hDM _) hS lw_w114 lw_w115 rfl (by decide +kernel) (by decide) rfl hl.1 (Nat.le_of_ble_eq_true rfl) rfl d_law_1205 (fun H1 locs1 hPM hk1 hS => ?_)
  have hPC := hPC.kept (fun k q hq => hk1 q.1 (hPC k q hq).lt (fun hh => hapart _ ((hDC _).2 k q hq) hh))
  refine lv_icmp_eq (tgt := 1341) hx hb d_law_1208 (by decide) (fun h0 => ?_) (fun h0 => absurd rfl h0)
  exact hend _ _ hI2 _ _ hPC hPM hS ls hl
set_option maxRecDepth 100000 in
theorem lw_w116 : (Jvm.Cond.methodLink "WolfKnightLaw" (139 : Nat) ({ cls := "WolfKnight", name := "date", desc := "(II)I" } : Jvm.MethodName)) ∈ wk_gt := wk_tbl (List.mem_append_right _ (List.mem_append_right _ (List.mem_append_right _ (List.mem_append_right _ (List.mem_append_left _ (List.mem_of_getElem? (i := 7) (by decide +kernel))))))) rfl
set_option maxRecDepth 100000 in
theorem lw_w117 : (Jvm.Cond.selects "WolfKnight" ({ cls := "WolfKnight", name := "date", desc := "(II)I" } : Jvm.MethodName) ({ cls := "WolfKnight", name := "date", desc := "(II)I" } : Jvm.MethodName)) ∈ wk_gt := wk_tbl (List.mem_append_right _ (List.mem_append_right _ (List.mem_append_right _ (List.mem_append_right _ (List.mem_append_left _ (List.mem_of_getElem? (i := 9) (by decide +kernel))))))) rfl
set_option maxRecDepth 100000 in
theorem lw_w118 : (Jvm.Cond.methodLink "WolfKnightLaw" (142 : Nat) ({ cls := "WolfKnightModel", name := "date", desc := "(II)I" } : Jvm.MethodName)) ∈ wk_gt := wk_tbl (List.mem_append_right _ (List.mem_append_right _ (List.mem_append_right _ (List.mem_append_right _ (List.mem_append_right _ (List.mem_append_right _ (List.mem_of_getElem? (i := 125) (by decide +kernel)))))))) rfl
set_option maxRecDepth 100000 in
theorem lw_w119 : (Jvm.Cond.selects "WolfKnightModel" ({ cls := "WolfKnightModel", name := "date", desc := "(II)I" } : Jvm.MethodName) ({ cls := "WolfKnightModel", name := "date", desc := "(II)I" } : Jvm.MethodName)) ∈ wk_gt := wk_tbl (List.mem_append_right _ (List.mem_append_right _ (List.mem_append_right _ (List.mem_append_right _ (List.mem_append_right _ (List.mem_append_right _ (List.mem_of_getElem? (i := 127) (by decide +kernel)))))))) rfl
def lw_op_29 (Inv : wk_St → wk_St → Prop) : Prop := ∀ (a0 : Int32) (a1 : Int32) σC σM, Inv σC σM → ∃ (r : Int32) (σC2 σM2 : wk_St), wk_T wk_shC 200 35 [.ref 0, .int a0, .int a1] σC (some (.int r), σC2) ∧ wk_T wk_shM 200 141 [.ref 0, .int a0, .int a1] σM (some (.int r), σM2) ∧ Inv σC2 σM2
set_option maxHeartbeats 4000000 in
set_option maxRecDepth 100000 in
theorem lw_case_29 {Inv : wk_St → wk_St → Prop} (hop : lw_op_29 Inv) {p : Program} {l : Launch} {e : Env} {s : State} {m : MethodId} {below : List Frame} {meth : Method} {c : Code} {b L : Nat} {xs : Nat → Int32} (C0 : lw_At p s m meth c b L xs) {G : lw_G} (hg : lw_Ok G s) {i : Nat} {xi : Int32} (hi : xi = nI i) (hiL : i + 7 ≤ L) (hL : L ≤ 3584) {H : Heap} {locs : List Loc} {ls : Array Slot} {σC σM : wk_St} (hI : Inv σC σM)
    (hPC : va_P G.1 wk_cls (lw_wC G σC) H) (hPM : va_P G.1 wk_cls (lw_wM G σM) H) (hS : va_S (fun q : Nat => s.heap.size ≤ q) s.heap H locs) (hl : lv_has ls 4 [(0, .ref b), (1, .ref (G.2.1 0)), (2, .ref (G.2.2.1 0)), (3, .int xi)])
    (hend : ∀ (σC2 σM2 : wk_St), Inv σC2 σM2 → ∀ (H2 : Heap) (locs2 : List Loc), va_P G.1 wk_cls (lw_wC G σC2) H2 → va_P G.1 wk_cls (lw_wM G σM2) H2 → va_S (fun q : Nat => s.heap.size ≤ q) s.heap H2 locs2 → ∀ ls2 : Array Slot, lv_has ls2 4 [(0, .ref b), (1, .ref (G.2.1 0)), (2, .ref (G.2.2.1 0)), (3, .int xi)] → W p l e room_1 s m #[Value.ref b] below meth c H2 locs2 600000 7302250 (lw_Z below #[Value.ref b] s) (F0 m 1341 ls2 [])) :
    W p l e room_1 s m #[Value.ref b] below meth c H locs 600000 7302250 (lw_Z below #[Value.ref b] s) (F0 m 1213 ls []) := by
  obtain ⟨hx, hb, hr, hml, hown, hts, hX, hbl, hlocks, hgv⟩ := id C0
  have hbA : ¬ s.heap.size ≤ b := Nat.not_le.mpr hbl
  have hin : ∀ k : Nat, k < 7 → vp_in (xi + nI k) L := fun k hk => by rw [hi, nI_add]; exact vp_in_nI (by omega) (by omega)
  have hDC := hg.2.2.1
  have hDM := hg.2.2.2.1
  have hA0C := hg.2.2.2.2.2.1
  have hA0M := hg.2.2.2.2.2.2.1
  have hapart := hg.2.2.2.2.2.2.2.1
  refine lv_aload_n hx hb d_law_1213 rfl (lv_at hl 1 rfl) ?_
  refine lv_aload_n hx hb d_law_1214 rfl (lv_at hl 0 rfl) ?_
  refine lv_iload_n hx hb d_law_1215 rfl (lv_at hl 3 rfl) ?_
  refine lv_iconst (v := 1) hx hb d_law_1216 (by decide) ?_
  refine lv_iadd hx hb d_law_1217 ?_
  refine va_sld hx hb hX hbl hbA hS (hin 1 (by decide)) d_law_1218 ?_
  refine lv_aload_n hx hb d_law_1219 rfl (lv_at hl 0 rfl) ?_
  refine lv_iload_n hx hb d_law_1220 rfl (lv_at hl 3 rfl) ?_
  refine lv_iconst (v := 2) hx hb d_law_1221 (by decide) ?_
  refine lv_iadd hx hb d_law_1222 ?_
  refine va_sld hx hb hX hbl hbA hS (hin 2 (by decide)) d_law_1223 ?_
  obtain ⟨r, σC2, σM2, hTC, hTM, hI2⟩ := hop (xs (xi + (1 : Int32)).toNatClampNeg) (xs (xi + (2 : Int32)).toNatClampNeg) _ _ hI
  refine lw_call C0 hg.1 hg.2.2.2.2.1 hg.2.2.2.2.2.2.2.2.2 hg.2.2.2.2.2.2.2.2.1.1 hA0C (f := 35) (as := [.int (xs (xi + (1 : Int32)).toNatClampNeg), .int (xs (xi + (2 : Int32)).toNatClampNeg)]) (rest := []) (by decide) rfl (Nat.le_of_ble_eq_true rfl) hTC hPC (hDC _) hS lw_w116 lw_w117 rfl (by decide +kernel) (by decide) rfl hl.1 (Nat.le_of_ble_eq_true rfl) rfl d_law_1224 (fun H1 locs1 hPC hk1 hS => ?_)
  have hPM := hPM.kept (fun k q hq => hk1 q.1 (hPM k q hq).lt (fun hh => hapart _ hh ((hDM _).2 k q hq)))
  refine lv_aload_n hx hb d_law_1227 rfl (lv_at hl 2 rfl) ?_
  refine lv_aload_n hx hb d_law_1228 rfl (lv_at hl 0 rfl) ?_
  refine lv_iload_n hx hb d_law_1229 rfl (lv_at hl 3 rfl) ?_
  refine lv_iconst (v := 1) hx hb d_law_1230 (by decide) ?_
  refine lv_iadd hx hb d_law_1231 ?_
  refine va_sld hx hb hX hbl hbA hS (hin 1 (by decide)) d_law_1232 ?_
  refine lv_aload_n hx hb d_law_1233 rfl (lv_at hl 0 rfl) ?_
  refine lv_iload_n hx hb d_law_1234 rfl (lv_at hl 3 rfl) ?_
  refine lv_iconst (v := 2) hx hb d_law_1235 (by decide) ?_
  refine lv_iadd hx hb d_law_1236 ?_
  refine va_sld hx hb hX hbl hbA hS (hin 2 (by decide)) d_law_1237 ?_
  refine lw_call C0 hg.2.1 hg.2.2.2.2.1 hg.2.2.2.2.2.2.2.2.2 hg.2.2.2.2.2.2.2.2.1.2 hA0M (f := 141) (as := [.int (xs (xi + (1 : Int32)).toNatClampNeg), .int (xs (xi + (2 : Int32)).toNatClampNeg)]) (rest := [.int r]) (by decide) rfl (Nat.le_of_ble_eq_true rfl) hTM hPM (hDM _) hS lw_w118 lw_w119 rfl (by decide +kernel) (by decide) rfl hl.1 (Nat.le_of_ble_eq_true rfl) rfl d_law_1238 (fun H1 locs1 hPM hk1 hS => ?_)
  have hPC := hPC.kept (fun k q hq => hk1 q.1 (hPC k q hq).lt (fun hh => hapart _ ((hDC _).2 k q hq) hh))
  refine lv_icmp_eq (tgt := 1341) hx hb d_law_1241 (by decide) (fun h0 => ?_) (fun h0 => absurd rfl h0)
  exact hend _ _ hI2 _ _ hPC hPM hS ls hl
set_option maxRecDepth 100000 in
theorem lw_w120 : (Jvm.Cond.methodLink "WolfKnightLaw" (143 : Nat) ({ cls := "WolfKnight", name := "seed", desc := "(I)Z" } : Jvm.MethodName)) ∈ wk_gt := wk_tbl (List.mem_append_right _ (List.mem_append_left _ (List.mem_of_getElem? (i := 111) (by decide +kernel)))) rfl
set_option maxRecDepth 100000 in
theorem lw_w121 : (Jvm.Cond.selects "WolfKnight" ({ cls := "WolfKnight", name := "seed", desc := "(I)Z" } : Jvm.MethodName) ({ cls := "WolfKnight", name := "seed", desc := "(I)Z" } : Jvm.MethodName)) ∈ wk_gt := wk_tbl (List.mem_append_right _ (List.mem_append_left _ (List.mem_of_getElem? (i := 113) (by decide +kernel)))) rfl
set_option maxRecDepth 100000 in
theorem lw_w122 : (Jvm.Cond.methodLink "WolfKnightLaw" (146 : Nat) ({ cls := "WolfKnightModel", name := "seed", desc := "(I)Z" } : Jvm.MethodName)) ∈ wk_gt := wk_tbl (List.mem_append_right _ (List.mem_append_right _ (List.mem_append_right _ (List.mem_append_right _ (List.mem_append_right _ (List.mem_append_right _ (List.mem_of_getElem? (i := 129) (by decide +kernel)))))))) rfl
set_option maxRecDepth 100000 in
theorem lw_w123 : (Jvm.Cond.selects "WolfKnightModel" ({ cls := "WolfKnightModel", name := "seed", desc := "(I)Z" } : Jvm.MethodName) ({ cls := "WolfKnightModel", name := "seed", desc := "(I)Z" } : Jvm.MethodName)) ∈ wk_gt := wk_tbl (List.mem_append_right _ (List.mem_append_right _ (List.mem_append_right _ (List.mem_append_right _ (List.mem_append_right _ (List.mem_append_right _ (List.mem_of_getElem? (i := 131) (by decide +kernel)))))))) rfl
def lw_op_30 (Inv : wk_St → wk_St → Prop) : Prop := ∀ (a0 : Int32) σC σM, Inv σC σM → ∃ (r : Int32) (σC2 σM2 : wk_St), wk_T wk_shC 200 4 [.ref 0, .int a0] σC (some (.int r), σC2) ∧ wk_T wk_shM 200 142 [.ref 0, .int a0] σM (some (.int r), σM2) ∧ Inv σC2 σM2
set_option maxHeartbeats 4000000 in
set_option maxRecDepth 100000 in
theorem lw_case_30 {Inv : wk_St → wk_St → Prop} (hop : lw_op_30 Inv) {p : Program} {l : Launch} {e : Env} {s : State} {m : MethodId} {below : List Frame} {meth : Method} {c : Code} {b L : Nat} {xs : Nat → Int32} (C0 : lw_At p s m meth c b L xs) {G : lw_G} (hg : lw_Ok G s) {i : Nat} {xi : Int32} (hi : xi = nI i) (hiL : i + 7 ≤ L) (hL : L ≤ 3584) {H : Heap} {locs : List Loc} {ls : Array Slot} {σC σM : wk_St} (hI : Inv σC σM)
    (hPC : va_P G.1 wk_cls (lw_wC G σC) H) (hPM : va_P G.1 wk_cls (lw_wM G σM) H) (hS : va_S (fun q : Nat => s.heap.size ≤ q) s.heap H locs) (hl : lv_has ls 4 [(0, .ref b), (1, .ref (G.2.1 0)), (2, .ref (G.2.2.1 0)), (3, .int xi)])
    (hend : ∀ (σC2 σM2 : wk_St), Inv σC2 σM2 → ∀ (H2 : Heap) (locs2 : List Loc), va_P G.1 wk_cls (lw_wC G σC2) H2 → va_P G.1 wk_cls (lw_wM G σM2) H2 → va_S (fun q : Nat => s.heap.size ≤ q) s.heap H2 locs2 → ∀ ls2 : Array Slot, lv_has ls2 4 [(0, .ref b), (1, .ref (G.2.1 0)), (2, .ref (G.2.2.1 0)), (3, .int xi)] → W p l e room_1 s m #[Value.ref b] below meth c H2 locs2 600000 7302250 (lw_Z below #[Value.ref b] s) (F0 m 1341 ls2 [])) :
    W p l e room_1 s m #[Value.ref b] below meth c H locs 600000 7302250 (lw_Z below #[Value.ref b] s) (F0 m 1246 ls []) := by
  obtain ⟨hx, hb, hr, hml, hown, hts, hX, hbl, hlocks, hgv⟩ := id C0
  have hbA : ¬ s.heap.size ≤ b := Nat.not_le.mpr hbl
  have hin : ∀ k : Nat, k < 7 → vp_in (xi + nI k) L := fun k hk => by rw [hi, nI_add]; exact vp_in_nI (by omega) (by omega)
  have hDC := hg.2.2.1
  have hDM := hg.2.2.2.1
  have hA0C := hg.2.2.2.2.2.1
  have hA0M := hg.2.2.2.2.2.2.1
  have hapart := hg.2.2.2.2.2.2.2.1
  refine lv_aload_n hx hb d_law_1246 rfl (lv_at hl 1 rfl) ?_
  refine lv_aload_n hx hb d_law_1247 rfl (lv_at hl 0 rfl) ?_
  refine lv_iload_n hx hb d_law_1248 rfl (lv_at hl 3 rfl) ?_
  refine lv_iconst (v := 1) hx hb d_law_1249 (by decide) ?_
  refine lv_iadd hx hb d_law_1250 ?_
  refine va_sld hx hb hX hbl hbA hS (hin 1 (by decide)) d_law_1251 ?_
  obtain ⟨r, σC2, σM2, hTC, hTM, hI2⟩ := hop (xs (xi + (1 : Int32)).toNatClampNeg) _ _ hI
  refine lw_call C0 hg.1 hg.2.2.2.2.1 hg.2.2.2.2.2.2.2.2.2 hg.2.2.2.2.2.2.2.2.1.1 hA0C (f := 4) (as := [.int (xs (xi + (1 : Int32)).toNatClampNeg)]) (rest := []) (by decide) rfl (Nat.le_of_ble_eq_true rfl) hTC hPC (hDC _) hS lw_w120 lw_w121 rfl (by decide +kernel) (by decide) rfl hl.1 (Nat.le_of_ble_eq_true rfl) rfl d_law_1252 (fun H1 locs1 hPC hk1 hS => ?_)
  have hPM := hPM.kept (fun k q hq => hk1 q.1 (hPM k q hq).lt (fun hh => hapart _ hh ((hDM _).2 k q hq)))
  refine lv_aload_n hx hb d_law_1255 rfl (lv_at hl 2 rfl) ?_
  refine lv_aload_n hx hb d_law_1256 rfl (lv_at hl 0 rfl) ?_
  refine lv_iload_n hx hb d_law_1257 rfl (lv_at hl 3 rfl) ?_
  refine lv_iconst (v := 1) hx hb d_law_1258 (by decide) ?_
  refine lv_iadd hx hb d_law_1259 ?_
  refine va_sld hx hb hX hbl hbA hS (hin 1 (by decide)) d_law_1260 ?_
  refine lw_call C0 hg.2.1 hg.2.2.2.2.1 hg.2.2.2.2.2.2.2.2.2 hg.2.2.2.2.2.2.2.2.1.2 hA0M (f := 142) (as := [.int (xs (xi + (1 : Int32)).toNatClampNeg)]) (rest := [.int r]) (by decide) rfl (Nat.le_of_ble_eq_true rfl) hTM hPM (hDM _) hS lw_w122 lw_w123 rfl (by decide +kernel) (by decide) rfl hl.1 (Nat.le_of_ble_eq_true rfl) rfl d_law_1261 (fun H1 locs1 hPM hk1 hS => ?_)
  have hPC := hPC.kept (fun k q hq => hk1 q.1 (hPC k q hq).lt (fun hh => hapart _ ((hDC _).2 k q hq) hh))
  refine lv_icmp_eq (tgt := 1341) hx hb d_law_1264 (by decide) (fun h0 => ?_) (fun h0 => absurd rfl h0)
  exact hend _ _ hI2 _ _ hPC hPM hS ls hl
set_option maxRecDepth 100000 in
theorem lw_w124 : (Jvm.Cond.methodLink "WolfKnightLaw" (147 : Nat) ({ cls := "WolfKnight", name := "keep", desc := "()I" } : Jvm.MethodName)) ∈ wk_gt := wk_tbl (List.mem_append_right _ (List.mem_append_right _ (List.mem_append_right _ (List.mem_append_right _ (List.mem_append_left _ (List.mem_of_getElem? (i := 17) (by decide +kernel))))))) rfl
set_option maxRecDepth 100000 in
theorem lw_w125 : (Jvm.Cond.selects "WolfKnight" ({ cls := "WolfKnight", name := "keep", desc := "()I" } : Jvm.MethodName) ({ cls := "WolfKnight", name := "keep", desc := "()I" } : Jvm.MethodName)) ∈ wk_gt := wk_tbl (List.mem_append_right _ (List.mem_append_right _ (List.mem_append_right _ (List.mem_append_right _ (List.mem_append_left _ (List.mem_of_getElem? (i := 19) (by decide +kernel))))))) rfl
set_option maxRecDepth 100000 in
theorem lw_w126 : (Jvm.Cond.methodLink "WolfKnightLaw" (150 : Nat) ({ cls := "WolfKnightModel", name := "keep", desc := "()I" } : Jvm.MethodName)) ∈ wk_gt := wk_tbl (List.mem_append_right _ (List.mem_append_right _ (List.mem_append_right _ (List.mem_append_right _ (List.mem_append_right _ (List.mem_append_right _ (List.mem_of_getElem? (i := 134) (by decide +kernel)))))))) rfl
set_option maxRecDepth 100000 in
theorem lw_w127 : (Jvm.Cond.selects "WolfKnightModel" ({ cls := "WolfKnightModel", name := "keep", desc := "()I" } : Jvm.MethodName) ({ cls := "WolfKnightModel", name := "keep", desc := "()I" } : Jvm.MethodName)) ∈ wk_gt := wk_tbl (List.mem_append_right _ (List.mem_append_right _ (List.mem_append_right _ (List.mem_append_right _ (List.mem_append_right _ (List.mem_append_right _ (List.mem_of_getElem? (i := 136) (by decide +kernel)))))))) rfl
def lw_op_31 (Inv : wk_St → wk_St → Prop) : Prop := ∀ σC σM, Inv σC σM → ∃ (r : Int32) (σC2 σM2 : wk_St), wk_T wk_shC 200 36 [.ref 0] σC (some (.int r), σC2) ∧ wk_T wk_shM 200 143 [.ref 0] σM (some (.int r), σM2) ∧ Inv σC2 σM2
set_option maxHeartbeats 4000000 in
set_option maxRecDepth 100000 in
theorem lw_case_31 {Inv : wk_St → wk_St → Prop} (hop : lw_op_31 Inv) {p : Program} {l : Launch} {e : Env} {s : State} {m : MethodId} {below : List Frame} {meth : Method} {c : Code} {b L : Nat} {xs : Nat → Int32} (C0 : lw_At p s m meth c b L xs) {G : lw_G} (hg : lw_Ok G s) {i : Nat} {xi : Int32} (hi : xi = nI i) (hiL : i + 7 ≤ L) (hL : L ≤ 3584) {H : Heap} {locs : List Loc} {ls : Array Slot} {σC σM : wk_St} (hI : Inv σC σM)
    (hPC : va_P G.1 wk_cls (lw_wC G σC) H) (hPM : va_P G.1 wk_cls (lw_wM G σM) H) (hS : va_S (fun q : Nat => s.heap.size ≤ q) s.heap H locs) (hl : lv_has ls 4 [(0, .ref b), (1, .ref (G.2.1 0)), (2, .ref (G.2.2.1 0)), (3, .int xi)])
    (hend : ∀ (σC2 σM2 : wk_St), Inv σC2 σM2 → ∀ (H2 : Heap) (locs2 : List Loc), va_P G.1 wk_cls (lw_wC G σC2) H2 → va_P G.1 wk_cls (lw_wM G σM2) H2 → va_S (fun q : Nat => s.heap.size ≤ q) s.heap H2 locs2 → ∀ ls2 : Array Slot, lv_has ls2 4 [(0, .ref b), (1, .ref (G.2.1 0)), (2, .ref (G.2.2.1 0)), (3, .int xi)] → W p l e room_1 s m #[Value.ref b] below meth c H2 locs2 600000 7302250 (lw_Z below #[Value.ref b] s) (F0 m 1341 ls2 [])) :
    W p l e room_1 s m #[Value.ref b] below meth c H locs 600000 7302250 (lw_Z below #[Value.ref b] s) (F0 m 1269 ls []) := by
  obtain ⟨hx, hb, hr, hml, hown, hts, hX, hbl, hlocks, hgv⟩ := id C0
  have hbA : ¬ s.heap.size ≤ b := Nat.not_le.mpr hbl
  have hin : ∀ k : Nat, k < 7 → vp_in (xi + nI k) L := fun k hk => by rw [hi, nI_add]; exact vp_in_nI (by omega) (by omega)
  have hDC := hg.2.2.1
  have hDM := hg.2.2.2.1
  have hA0C := hg.2.2.2.2.2.1
  have hA0M := hg.2.2.2.2.2.2.1
  have hapart := hg.2.2.2.2.2.2.2.1
  refine lv_aload_n hx hb d_law_1269 rfl (lv_at hl 1 rfl) ?_
  obtain ⟨r, σC2, σM2, hTC, hTM, hI2⟩ := hop _ _ hI
  refine lw_call C0 hg.1 hg.2.2.2.2.1 hg.2.2.2.2.2.2.2.2.2 hg.2.2.2.2.2.2.2.2.1.1 hA0C (f := 36) (as := []) (rest := []) (by decide) rfl (Nat.le_of_ble_eq_true rfl) hTC hPC (hDC _) hS lw_w124 lw_w125 rfl (by decide +kernel) (by decide) rfl hl.1 (Nat.le_of_ble_eq_true rfl) rfl d_law_1270 (fun H1 locs1 hPC hk1 hS => ?_)
  have hPM := hPM.kept (fun k q hq => hk1 q.1 (hPM k q hq).lt (fun hh => hapart _ hh ((hDM _).2 k q hq)))
  refine lv_aload_n hx hb d_law_1273 rfl (lv_at hl 2 rfl) ?_
  refine lw_call C0 hg.2.1 hg.2.2.2.2.1 hg.2.2.2.2.2.2.2.2.2 hg.2.2.2.2.2.2.2.2.1.2 hA0M (f := 143) (as := []) (rest := [.int r]) (by decide) rfl (Nat.le_of_ble_eq_true rfl) hTM hPM (hDM _) hS lw_w126 lw_w127 rfl (by decide +kernel) (by decide) rfl hl.1 (Nat.le_of_ble_eq_true rfl) rfl d_law_1274 (fun H1 locs1 hPM hk1 hS => ?_)
  have hPC := hPC.kept (fun k q hq => hk1 q.1 (hPC k q hq).lt (fun hh => hapart _ ((hDC _).2 k q hq) hh))
  refine lv_icmp_eq (tgt := 1341) hx hb d_law_1277 (by decide) (fun h0 => ?_) (fun h0 => absurd rfl h0)
  exact hend _ _ hI2 _ _ hPC hPM hS ls hl
set_option maxRecDepth 100000 in
theorem lw_w128 : (Jvm.Cond.methodLink "WolfKnightLaw" (151 : Nat) ({ cls := "WolfKnight", name := "undo", desc := "()Z" } : Jvm.MethodName)) ∈ wk_gt := wk_tbl (List.mem_append_right _ (List.mem_append_right _ (List.mem_append_right _ (List.mem_append_right _ (List.mem_append_left _ (List.mem_of_getElem? (i := 21) (by decide +kernel))))))) rfl
set_option maxRecDepth 100000 in
theorem lw_w129 : (Jvm.Cond.selects "WolfKnight" ({ cls := "WolfKnight", name := "undo", desc := "()Z" } : Jvm.MethodName) ({ cls := "WolfKnight", name := "undo", desc := "()Z" } : Jvm.MethodName)) ∈ wk_gt := wk_tbl (List.mem_append_right _ (List.mem_append_right _ (List.mem_append_right _ (List.mem_append_right _ (List.mem_append_left _ (List.mem_of_getElem? (i := 23) (by decide +kernel))))))) rfl
set_option maxRecDepth 100000 in
theorem lw_w130 : (Jvm.Cond.methodLink "WolfKnightLaw" (155 : Nat) ({ cls := "WolfKnightModel", name := "undo", desc := "()Z" } : Jvm.MethodName)) ∈ wk_gt := wk_tbl (List.mem_append_right _ (List.mem_append_right _ (List.mem_append_right _ (List.mem_append_right _ (List.mem_append_right _ (List.mem_append_right _ (List.mem_of_getElem? (i := 138) (by decide +kernel)))))))) rfl
set_option maxRecDepth 100000 in
theorem lw_w131 : (Jvm.Cond.selects "WolfKnightModel" ({ cls := "WolfKnightModel", name := "undo", desc := "()Z" } : Jvm.MethodName) ({ cls := "WolfKnightModel", name := "undo", desc := "()Z" } : Jvm.MethodName)) ∈ wk_gt := wk_tbl (List.mem_append_right _ (List.mem_append_right _ (List.mem_append_right _ (List.mem_append_right _ (List.mem_append_right _ (List.mem_append_right _ (List.mem_of_getElem? (i := 140) (by decide +kernel)))))))) rfl
def lw_op_32 (Inv : wk_St → wk_St → Prop) : Prop := ∀ σC σM, Inv σC σM → ∃ (r : Int32) (σC2 σM2 : wk_St), wk_T wk_shC 200 37 [.ref 0] σC (some (.int r), σC2) ∧ wk_T wk_shM 200 144 [.ref 0] σM (some (.int r), σM2) ∧ Inv σC2 σM2
set_option maxHeartbeats 4000000 in
set_option maxRecDepth 100000 in
theorem lw_case_32 {Inv : wk_St → wk_St → Prop} (hop : lw_op_32 Inv) {p : Program} {l : Launch} {e : Env} {s : State} {m : MethodId} {below : List Frame} {meth : Method} {c : Code} {b L : Nat} {xs : Nat → Int32} (C0 : lw_At p s m meth c b L xs) {G : lw_G} (hg : lw_Ok G s) {i : Nat} {xi : Int32} (hi : xi = nI i) (hiL : i + 7 ≤ L) (hL : L ≤ 3584) {H : Heap} {locs : List Loc} {ls : Array Slot} {σC σM : wk_St} (hI : Inv σC σM)
    (hPC : va_P G.1 wk_cls (lw_wC G σC) H) (hPM : va_P G.1 wk_cls (lw_wM G σM) H) (hS : va_S (fun q : Nat => s.heap.size ≤ q) s.heap H locs) (hl : lv_has ls 4 [(0, .ref b), (1, .ref (G.2.1 0)), (2, .ref (G.2.2.1 0)), (3, .int xi)])
    (hend : ∀ (σC2 σM2 : wk_St), Inv σC2 σM2 → ∀ (H2 : Heap) (locs2 : List Loc), va_P G.1 wk_cls (lw_wC G σC2) H2 → va_P G.1 wk_cls (lw_wM G σM2) H2 → va_S (fun q : Nat => s.heap.size ≤ q) s.heap H2 locs2 → ∀ ls2 : Array Slot, lv_has ls2 4 [(0, .ref b), (1, .ref (G.2.1 0)), (2, .ref (G.2.2.1 0)), (3, .int xi)] → W p l e room_1 s m #[Value.ref b] below meth c H2 locs2 600000 7302250 (lw_Z below #[Value.ref b] s) (F0 m 1341 ls2 [])) :
    W p l e room_1 s m #[Value.ref b] below meth c H locs 600000 7302250 (lw_Z below #[Value.ref b] s) (F0 m 1282 ls []) := by
  obtain ⟨hx, hb, hr, hml, hown, hts, hX, hbl, hlocks, hgv⟩ := id C0
  have hbA : ¬ s.heap.size ≤ b := Nat.not_le.mpr hbl
  have hin : ∀ k : Nat, k < 7 → vp_in (xi + nI k) L := fun k hk => by rw [hi, nI_add]; exact vp_in_nI (by omega) (by omega)
  have hDC := hg.2.2.1
  have hDM := hg.2.2.2.1
  have hA0C := hg.2.2.2.2.2.1
  have hA0M := hg.2.2.2.2.2.2.1
  have hapart := hg.2.2.2.2.2.2.2.1
  refine lv_aload_n hx hb d_law_1282 rfl (lv_at hl 1 rfl) ?_
  obtain ⟨r, σC2, σM2, hTC, hTM, hI2⟩ := hop _ _ hI
  refine lw_call C0 hg.1 hg.2.2.2.2.1 hg.2.2.2.2.2.2.2.2.2 hg.2.2.2.2.2.2.2.2.1.1 hA0C (f := 37) (as := []) (rest := []) (by decide) rfl (Nat.le_of_ble_eq_true rfl) hTC hPC (hDC _) hS lw_w128 lw_w129 rfl (by decide +kernel) (by decide) rfl hl.1 (Nat.le_of_ble_eq_true rfl) rfl d_law_1283 (fun H1 locs1 hPC hk1 hS => ?_)
  have hPM := hPM.kept (fun k q hq => hk1 q.1 (hPM k q hq).lt (fun hh => hapart _ hh ((hDM _).2 k q hq)))
  refine lv_aload_n hx hb d_law_1286 rfl (lv_at hl 2 rfl) ?_
  refine lw_call C0 hg.2.1 hg.2.2.2.2.1 hg.2.2.2.2.2.2.2.2.2 hg.2.2.2.2.2.2.2.2.1.2 hA0M (f := 144) (as := []) (rest := [.int r]) (by decide) rfl (Nat.le_of_ble_eq_true rfl) hTM hPM (hDM _) hS lw_w130 lw_w131 rfl (by decide +kernel) (by decide) rfl hl.1 (Nat.le_of_ble_eq_true rfl) rfl d_law_1287 (fun H1 locs1 hPM hk1 hS => ?_)
  have hPC := hPC.kept (fun k q hq => hk1 q.1 (hPC k q hq).lt (fun hh => hapart _ ((hDC _).2 k q hq) hh))
  refine lv_icmp_eq (tgt := 1341) hx hb d_law_1290 (by decide) (fun h0 => ?_) (fun h0 => absurd rfl h0)
  exact hend _ _ hI2 _ _ hPC hPM hS ls hl
set_option maxRecDepth 100000 in
theorem lw_w132 : (Jvm.Cond.methodLink "WolfKnightLaw" (156 : Nat) ({ cls := "WolfKnight", name := "check", desc := "(I)I" } : Jvm.MethodName)) ∈ wk_gt := wk_tbl (List.mem_append_right _ (List.mem_append_right _ (List.mem_append_right _ (List.mem_append_right _ (List.mem_append_left _ (List.mem_of_getElem? (i := 25) (by decide +kernel))))))) rfl
set_option maxRecDepth 100000 in
theorem lw_w133 : (Jvm.Cond.selects "WolfKnight" ({ cls := "WolfKnight", name := "check", desc := "(I)I" } : Jvm.MethodName) ({ cls := "WolfKnight", name := "check", desc := "(I)I" } : Jvm.MethodName)) ∈ wk_gt := wk_tbl (List.mem_append_right _ (List.mem_append_right _ (List.mem_append_right _ (List.mem_append_right _ (List.mem_append_left _ (List.mem_of_getElem? (i := 27) (by decide +kernel))))))) rfl
set_option maxRecDepth 100000 in
theorem lw_w134 : (Jvm.Cond.methodLink "WolfKnightLaw" (159 : Nat) ({ cls := "WolfKnightModel", name := "check", desc := "(I)I" } : Jvm.MethodName)) ∈ wk_gt := wk_tbl (List.mem_append_right _ (List.mem_append_right _ (List.mem_append_right _ (List.mem_append_right _ (List.mem_append_right _ (List.mem_append_right _ (List.mem_of_getElem? (i := 142) (by decide +kernel)))))))) rfl
set_option maxRecDepth 100000 in
theorem lw_w135 : (Jvm.Cond.selects "WolfKnightModel" ({ cls := "WolfKnightModel", name := "check", desc := "(I)I" } : Jvm.MethodName) ({ cls := "WolfKnightModel", name := "check", desc := "(I)I" } : Jvm.MethodName)) ∈ wk_gt := wk_tbl (List.mem_append_right _ (List.mem_append_right _ (List.mem_append_right _ (List.mem_append_right _ (List.mem_append_right _ (List.mem_append_right _ (List.mem_of_getElem? (i := 144) (by decide +kernel)))))))) rfl
def lw_op_33 (Inv : wk_St → wk_St → Prop) : Prop := ∀ (a0 : Int32) σC σM, Inv σC σM → ∃ (r : Int32) (σC2 σM2 : wk_St), wk_T wk_shC 200 38 [.ref 0, .int a0] σC (some (.int r), σC2) ∧ wk_T wk_shM 200 145 [.ref 0, .int a0] σM (some (.int r), σM2) ∧ Inv σC2 σM2
set_option maxHeartbeats 4000000 in
set_option maxRecDepth 100000 in
theorem lw_case_33 {Inv : wk_St → wk_St → Prop} (hop : lw_op_33 Inv) {p : Program} {l : Launch} {e : Env} {s : State} {m : MethodId} {below : List Frame} {meth : Method} {c : Code} {b L : Nat} {xs : Nat → Int32} (C0 : lw_At p s m meth c b L xs) {G : lw_G} (hg : lw_Ok G s) {i : Nat} {xi : Int32} (hi : xi = nI i) (hiL : i + 7 ≤ L) (hL : L ≤ 3584) {H : Heap} {locs : List Loc} {ls : Array Slot} {σC σM : wk_St} (hI : Inv σC σM)
    (hPC : va_P G.1 wk_cls (lw_wC G σC) H) (hPM : va_P G.1 wk_cls (lw_wM G σM) H) (hS : va_S (fun q : Nat => s.heap.size ≤ q) s.heap H locs) (hl : lv_has ls 4 [(0, .ref b), (1, .ref (G.2.1 0)), (2, .ref (G.2.2.1 0)), (3, .int xi)])
    (hend : ∀ (σC2 σM2 : wk_St), Inv σC2 σM2 → ∀ (H2 : Heap) (locs2 : List Loc), va_P G.1 wk_cls (lw_wC G σC2) H2 → va_P G.1 wk_cls (lw_wM G σM2) H2 → va_S (fun q : Nat => s.heap.size ≤ q) s.heap H2 locs2 → ∀ ls2 : Array Slot, lv_has ls2 4 [(0, .ref b), (1, .ref (G.2.1 0)), (2, .ref (G.2.2.1 0)), (3, .int xi)] → W p l e room_1 s m #[Value.ref b] below meth c H2 locs2 600000 7302250 (lw_Z below #[Value.ref b] s) (F0 m 1341 ls2 [])) :
    W p l e room_1 s m #[Value.ref b] below meth c H locs 600000 7302250 (lw_Z below #[Value.ref b] s) (F0 m 1295 ls []) := by
  obtain ⟨hx, hb, hr, hml, hown, hts, hX, hbl, hlocks, hgv⟩ := id C0
  have hbA : ¬ s.heap.size ≤ b := Nat.not_le.mpr hbl
  have hin : ∀ k : Nat, k < 7 → vp_in (xi + nI k) L := fun k hk => by rw [hi, nI_add]; exact vp_in_nI (by omega) (by omega)
  have hDC := hg.2.2.1
  have hDM := hg.2.2.2.1
  have hA0C := hg.2.2.2.2.2.1
  have hA0M := hg.2.2.2.2.2.2.1
  have hapart := hg.2.2.2.2.2.2.2.1
  refine lv_aload_n hx hb d_law_1295 rfl (lv_at hl 1 rfl) ?_
  refine lv_aload_n hx hb d_law_1296 rfl (lv_at hl 0 rfl) ?_
  refine lv_iload_n hx hb d_law_1297 rfl (lv_at hl 3 rfl) ?_
  refine lv_iconst (v := 1) hx hb d_law_1298 (by decide) ?_
  refine lv_iadd hx hb d_law_1299 ?_
  refine va_sld hx hb hX hbl hbA hS (hin 1 (by decide)) d_law_1300 ?_
  obtain ⟨r, σC2, σM2, hTC, hTM, hI2⟩ := hop (xs (xi + (1 : Int32)).toNatClampNeg) _ _ hI
  refine lw_call C0 hg.1 hg.2.2.2.2.1 hg.2.2.2.2.2.2.2.2.2 hg.2.2.2.2.2.2.2.2.1.1 hA0C (f := 38) (as := [.int (xs (xi + (1 : Int32)).toNatClampNeg)]) (rest := []) (by decide) rfl (Nat.le_of_ble_eq_true rfl) hTC hPC (hDC _) hS lw_w132 lw_w133 rfl (by decide +kernel) (by decide) rfl hl.1 (Nat.le_of_ble_eq_true rfl) rfl d_law_1301 (fun H1 locs1 hPC hk1 hS => ?_)
  have hPM := hPM.kept (fun k q hq => hk1 q.1 (hPM k q hq).lt (fun hh => hapart _ hh ((hDM _).2 k q hq)))
  refine lv_aload_n hx hb d_law_1304 rfl (lv_at hl 2 rfl) ?_
  refine lv_aload_n hx hb d_law_1305 rfl (lv_at hl 0 rfl) ?_
  refine lv_iload_n hx hb d_law_1306 rfl (lv_at hl 3 rfl) ?_
  refine lv_iconst (v := 1) hx hb d_law_1307 (by decide) ?_
  refine lv_iadd hx hb d_law_1308 ?_
  refine va_sld hx hb hX hbl hbA hS (hin 1 (by decide)) d_law_1309 ?_
  refine lw_call C0 hg.2.1 hg.2.2.2.2.1 hg.2.2.2.2.2.2.2.2.2 hg.2.2.2.2.2.2.2.2.1.2 hA0M (f := 145) (as := [.int (xs (xi + (1 : Int32)).toNatClampNeg)]) (rest := [.int r]) (by decide) rfl (Nat.le_of_ble_eq_true rfl) hTM hPM (hDM _) hS lw_w134 lw_w135 rfl (by decide +kernel) (by decide) rfl hl.1 (Nat.le_of_ble_eq_true rfl) rfl d_law_1310 (fun H1 locs1 hPM hk1 hS => ?_)
  have hPC := hPC.kept (fun k q hq => hk1 q.1 (hPC k q hq).lt (fun hh => hapart _ ((hDC _).2 k q hq) hh))
  refine lv_icmp_eq (tgt := 1341) hx hb d_law_1313 (by decide) (fun h0 => ?_) (fun h0 => absurd rfl h0)
  exact hend _ _ hI2 _ _ hPC hPM hS ls hl
set_option maxRecDepth 100000 in
theorem lw_w136 : (Jvm.Cond.methodLink "WolfKnightLaw" (160 : Nat) ({ cls := "WolfKnight", name := "count", desc := "(I)I" } : Jvm.MethodName)) ∈ wk_gt := wk_tbl (List.mem_append_right _ (List.mem_append_right _ (List.mem_append_right _ (List.mem_append_right _ (List.mem_append_left _ (List.mem_of_getElem? (i := 29) (by decide +kernel))))))) rfl
set_option maxRecDepth 100000 in
theorem lw_w137 : (Jvm.Cond.selects "WolfKnight" ({ cls := "WolfKnight", name := "count", desc := "(I)I" } : Jvm.MethodName) ({ cls := "WolfKnight", name := "count", desc := "(I)I" } : Jvm.MethodName)) ∈ wk_gt := wk_tbl (List.mem_append_right _ (List.mem_append_right _ (List.mem_append_right _ (List.mem_append_right _ (List.mem_append_left _ (List.mem_of_getElem? (i := 31) (by decide +kernel))))))) rfl
set_option maxRecDepth 100000 in
theorem lw_w138 : (Jvm.Cond.methodLink "WolfKnightLaw" (163 : Nat) ({ cls := "WolfKnightModel", name := "count", desc := "(I)I" } : Jvm.MethodName)) ∈ wk_gt := wk_tbl (List.mem_append_right _ (List.mem_append_right _ (List.mem_append_right _ (List.mem_append_right _ (List.mem_append_right _ (List.mem_append_right _ (List.mem_of_getElem? (i := 146) (by decide +kernel)))))))) rfl
set_option maxRecDepth 100000 in
theorem lw_w139 : (Jvm.Cond.selects "WolfKnightModel" ({ cls := "WolfKnightModel", name := "count", desc := "(I)I" } : Jvm.MethodName) ({ cls := "WolfKnightModel", name := "count", desc := "(I)I" } : Jvm.MethodName)) ∈ wk_gt := wk_tbl (List.mem_append_right _ (List.mem_append_right _ (List.mem_append_right _ (List.mem_append_right _ (List.mem_append_right _ (List.mem_append_right _ (List.mem_of_getElem? (i := 148) (by decide +kernel)))))))) rfl
def lw_op_34 (Inv : wk_St → wk_St → Prop) : Prop := ∀ (a0 : Int32) σC σM, Inv σC σM → ∃ (r : Int32) (σC2 σM2 : wk_St), wk_T wk_shC 200 39 [.ref 0, .int a0] σC (some (.int r), σC2) ∧ wk_T wk_shM 200 147 [.ref 0, .int a0] σM (some (.int r), σM2) ∧ Inv σC2 σM2
set_option maxHeartbeats 4000000 in
set_option maxRecDepth 100000 in
theorem lw_case_34 {Inv : wk_St → wk_St → Prop} (hop : lw_op_34 Inv) {p : Program} {l : Launch} {e : Env} {s : State} {m : MethodId} {below : List Frame} {meth : Method} {c : Code} {b L : Nat} {xs : Nat → Int32} (C0 : lw_At p s m meth c b L xs) {G : lw_G} (hg : lw_Ok G s) {i : Nat} {xi : Int32} (hi : xi = nI i) (hiL : i + 7 ≤ L) (hL : L ≤ 3584) {H : Heap} {locs : List Loc} {ls : Array Slot} {σC σM : wk_St} (hI : Inv σC σM)
    (hPC : va_P G.1 wk_cls (lw_wC G σC) H) (hPM : va_P G.1 wk_cls (lw_wM G σM) H) (hS : va_S (fun q : Nat => s.heap.size ≤ q) s.heap H locs) (hl : lv_has ls 4 [(0, .ref b), (1, .ref (G.2.1 0)), (2, .ref (G.2.2.1 0)), (3, .int xi)])
    (hend : ∀ (σC2 σM2 : wk_St), Inv σC2 σM2 → ∀ (H2 : Heap) (locs2 : List Loc), va_P G.1 wk_cls (lw_wC G σC2) H2 → va_P G.1 wk_cls (lw_wM G σM2) H2 → va_S (fun q : Nat => s.heap.size ≤ q) s.heap H2 locs2 → ∀ ls2 : Array Slot, lv_has ls2 4 [(0, .ref b), (1, .ref (G.2.1 0)), (2, .ref (G.2.2.1 0)), (3, .int xi)] → W p l e room_1 s m #[Value.ref b] below meth c H2 locs2 600000 7302250 (lw_Z below #[Value.ref b] s) (F0 m 1341 ls2 [])) :
    W p l e room_1 s m #[Value.ref b] below meth c H locs 600000 7302250 (lw_Z below #[Value.ref b] s) (F0 m 1318 ls []) := by
  obtain ⟨hx, hb, hr, hml, hown, hts, hX, hbl, hlocks, hgv⟩ := id C0
  have hbA : ¬ s.heap.size ≤ b := Nat.not_le.mpr hbl
  have hin : ∀ k : Nat, k < 7 → vp_in (xi + nI k) L := fun k hk => by rw [hi, nI_add]; exact vp_in_nI (by omega) (by omega)
  have hDC := hg.2.2.1
  have hDM := hg.2.2.2.1
  have hA0C := hg.2.2.2.2.2.1
  have hA0M := hg.2.2.2.2.2.2.1
  have hapart := hg.2.2.2.2.2.2.2.1
  refine lv_aload_n hx hb d_law_1318 rfl (lv_at hl 1 rfl) ?_
  refine lv_aload_n hx hb d_law_1319 rfl (lv_at hl 0 rfl) ?_
  refine lv_iload_n hx hb d_law_1320 rfl (lv_at hl 3 rfl) ?_
  refine lv_iconst (v := 1) hx hb d_law_1321 (by decide) ?_
  refine lv_iadd hx hb d_law_1322 ?_
  refine va_sld hx hb hX hbl hbA hS (hin 1 (by decide)) d_law_1323 ?_
  obtain ⟨r, σC2, σM2, hTC, hTM, hI2⟩ := hop (xs (xi + (1 : Int32)).toNatClampNeg) _ _ hI
  refine lw_call C0 hg.1 hg.2.2.2.2.1 hg.2.2.2.2.2.2.2.2.2 hg.2.2.2.2.2.2.2.2.1.1 hA0C (f := 39) (as := [.int (xs (xi + (1 : Int32)).toNatClampNeg)]) (rest := []) (by decide) rfl (Nat.le_of_ble_eq_true rfl) hTC hPC (hDC _) hS lw_w136 lw_w137 rfl (by decide +kernel) (by decide) rfl hl.1 (Nat.le_of_ble_eq_true rfl) rfl d_law_1324 (fun H1 locs1 hPC hk1 hS => ?_)
  have hPM := hPM.kept (fun k q hq => hk1 q.1 (hPM k q hq).lt (fun hh => hapart _ hh ((hDM _).2 k q hq)))
  refine lv_aload_n hx hb d_law_1327 rfl (lv_at hl 2 rfl) ?_
  refine lv_aload_n hx hb d_law_1328 rfl (lv_at hl 0 rfl) ?_
  refine lv_iload_n hx hb d_law_1329 rfl (lv_at hl 3 rfl) ?_
  refine lv_iconst (v := 1) hx hb d_law_1330 (by decide) ?_
  refine lv_iadd hx hb d_law_1331 ?_
  refine va_sld hx hb hX hbl hbA hS (hin 1 (by decide)) d_law_1332 ?_
  refine lw_call C0 hg.2.1 hg.2.2.2.2.1 hg.2.2.2.2.2.2.2.2.2 hg.2.2.2.2.2.2.2.2.1.2 hA0M (f := 147) (as := [.int (xs (xi + (1 : Int32)).toNatClampNeg)]) (rest := [.int r]) (by decide) rfl (Nat.le_of_ble_eq_true rfl) hTM hPM (hDM _) hS lw_w138 lw_w139 rfl (by decide +kernel) (by decide) rfl hl.1 (Nat.le_of_ble_eq_true rfl) rfl d_law_1333 (fun H1 locs1 hPM hk1 hS => ?_)
  have hPC := hPC.kept (fun k q hq => hk1 q.1 (hPC k q hq).lt (fun hh => hapart _ ((hDC _).2 k q hq) hh))
  refine lv_icmp_eq (tgt := 1341) hx hb d_law_1336 (by decide) (fun h0 => ?_) (fun h0 => absurd rfl h0)
  exact hend _ _ hI2 _ _ hPC hPM hS ls hl
