/-! THE SMALL MACHINE ON THE JVM: a run of it is a run of the method -/
def wk_rm (d : Nat) : Room := { frames := d + 1, cells := 0, slots := 0, locals := 40 * (d + 1) }
def wk_ws (f : Nat) : List Cond := .code (wk_my f) (wk_mb f) (wk_mx f) (wk_mt f) :: wk_gt
def wk_Pc (D : va_G) (tys : List (ClassId × FieldType)) (sh : Nat → Option wk_De) (N : Nat) (ad : Nat → Nat) (cA : Nat → ClassId) (A : Nat → Prop) (as : List Value) (σ : wk_St) : Array Value → State → Prop :=
  va_Pc (as.map (wk_tr ad)) (fun U => va_P D wk_cls (wk_w sh N ad cA σ) U.heap ∧ va_K D wk_cls tys U ∧ va_D A (wk_w sh N ad cA σ) ∧ wk_NW U ∧ wk_ST A (ad 999) U U.heap)
def wk_Qc (D : va_G) (sh : Nat → Option wk_De) (N : Nat) (ad : Nat → Nat) (cA : Nat → ClassId) (A : Nat → Prop) (z : wk_R) : Array Value → State → Outcome → State → Prop :=
  fun _ st oc t => oc = .returned (z.1.map (wk_tr ad)) ∧ va_P D wk_cls (wk_w sh N ad cA z.2) t.heap ∧ va_F A st t
theorem wk_NW.warm {s U : State} (h : wk_NW s) (hW : s.WarmedH U.vm) : wk_NW U := by
  intro w hw
  have h1 := h w hw
  have h2 := (List.mem_filter.mp hw).2
  unfold wk_isN at h2
  split at h2
  · exact va_Nw.warmF hW h1
  · exact va_Nw.warmM hW h1
  · cases h2
theorem wk_NW.same {u U : State} (h : wk_NW u) (hv : u.vm = U.vm) : wk_NW U := by
  intro w hw
  have h1 := h w hw
  have h2 := (List.mem_filter.mp hw).2
  unfold wk_isN at h2
  split at h2
  · exact va_Nw.same rfl hv h1
  · exact va_Nw.same rfl hv h1
  · cases h2
theorem wk_blind {D : va_G} {tys : List (ClassId × FieldType)} {sh : Nat → Option wk_De} {N : Nat} {ad : Nat → Nat} {cA : Nat → ClassId} {A : Nat → Prop} {as : List Value} {σ : wk_St} : FrameBlind (wk_Pc D tys sh N ad cA A as σ) := by
  intro a U g mk q
  obtain ⟨q0, q1, q2, q3, q4, q5⟩ := q
  exact ⟨q0, q1, va_K.moved (u := U) (U := U.calling g mk a) (Vm.Alike.refl U.vm) q2, q3, q4.same rfl, va_Z.moved (u := U) (U := U.calling g mk a) (Vm.Alike.refl U.vm) q5.1, va_T.moved (u := U) (U := U.calling g mk a) (Vm.Alike.refl U.vm) q5.2⟩
theorem wk_gi {w : Cond} (h : w ∈ wk_gt) : w ∈ wk_gt ∧ ((w.onTables && w.keeps) = true ∨ ∃ ty, w = .arrayClass ty) := ⟨h, good_of_word (List.mem_filter.mp h).2⟩
theorem wk_gws {f : Nat} (hf : f < 261) : GoodIn wk_gt (wk_ws f) := by
  intro w hw
  rcases List.mem_cons.mp hw with rfl | hw
  · exact ⟨wk_tbl (wk_cwall f hf) rfl, Or.inl rfl⟩
  · exact wk_gi hw
theorem wk_gapp {ws : List Cond} {f : Nat} (hf : f < 261) (h : ∀ w ∈ ws, w ∈ wk_gt) : GoodIn wk_gt (ws ++ wk_ws f) := by
  intro w hw
  rcases List.mem_append.mp hw with hw | hw
  · exact wk_gi (h w hw)
  · exact wk_gws hf w hw
/-- what the tables say of a method -/
theorem wk_meth {f : Nat} (hf : f < 261) : Cond.initialized (wk_my f).cls ∈ wk_gt ∧ (wk_mr f = 12 → Cond.static (wk_my f) ∈ wk_gt) ∧ (wk_mr f ≠ 12 → Cond.instanceMethod (wk_my f) ∈ wk_gt) ∧ plainFor (wk_my f) = true ∧ ((wk_my f).cls ≠ "java/lang/invoke/MethodHandle" ∧ (wk_my f).cls ≠ "java/lang/invoke/VarHandle") ∧
    (parseMethodDescriptor (wk_my f).desc).map (fun d => d.parameters.length) = some (wk_mn f) ∧ wk_mx f ≤ 12 ∧ (wk_my f).cls = wk_on (wk_mo f) := by
  obtain ⟨q, hq, rfl⟩ := wk_mein f hf
  have h := List.all_eq_true.mp wk_meall q hq
  obtain ⟨f, p1, q1, r1⟩ := q
  unfold wk_meok at h
  simp only [Bool.and_eq_true, decide_eq_true_eq] at h
  obtain ⟨h2, h3, h4, h5, h6, h7, h8, h9, -⟩ := h
  refine ⟨wk_tbl (List.mem_of_getElem? h2) rfl, fun e => ?_, fun e => ?_, h4, ⟨h5, h6⟩, h7, h8, h9⟩
  · rw [if_pos e] at h3
    exact wk_tbl (List.mem_of_getElem? h3) rfl
  · rw [if_neg e] at h3
    exact wk_tbl (List.mem_of_getElem? h3) rfl
theorem wk_ofW {l : Launch} {f : Nat} (hf : f < 261) {rm : Room} {Pc : Array Value → State → Prop} {Qc : Array Value → State → Outcome → State → Prop} {free : Addr → Prop}
    (body : ∀ p e s m args below meth c s₁, BodyLoose p l (wk_my f) (headSpec (wk_ws f) rm) (wk_mb f) (wk_mx f) (wk_mt f) e s m args below meth c s₁ → c.maxLocals = wk_mx f → Pc args s →
      W p l e (headSpec (wk_ws f) rm).room s m args below meth c s.heap [] 0 0 (MQ below Qc args s 0 0 free) (entryFrame m args (wk_mx f))) : Met l (wk_my f) (wk_ws f) rm Pc Qc 0 0 free := by
  refine MetFree.of_bodySF (code := wk_mb f) (maxLocals := wk_mx f) (ret := wk_mt f) (wk_meth hf).2.2.2.1 ?_ ?_
  · intro args s m h hn
    obtain ⟨meth, c, h1, h2, h3, h4, h5, h6, -, -⟩ := Cond.code_spec hn (atoms_spec (ws := wk_ws f) h _ List.mem_cons_self)
    exact ⟨meth, c, h1, h2, h3, h4, h5, h6⟩
  · intro p e s m args below meth c s₁ B hml hP _
    have hh0 : s₁.heap = s.heap := by rw [B.state]; rfl
    obtain ⟨t, a1, o, b1, b2, b3⟩ := body p e s m args below meth c s₁ B hml hP s₁ hh0 (Stand.of_body B)
    exact ⟨t, o, a1, b1, b2, ⟨b3.1, b3.2⟩⟩
/-- a method's locals at its start -/
theorem wk_ini_args {ad : Nat → Nat} : ∀ (as : List Value) (k n : Nat), as.all wk_iv = true → ∀ (i : Nat) (v : Value), (as.flatMap wk_two ++ List.replicate n wk_U)[i]? = some v → wk_isU v = false → (k + i, wk_tr ad v) ∈ lv_args k (as.map (wk_tr ad))
  | [], k, n, _, i, v, h, hu => by
    rw [List.flatMap_nil, List.nil_append] at h
    have := List.eq_of_mem_replicate (List.mem_of_getElem? h)
    subst this
    cases hu
  | a :: as, k, n, ha, i, v, h, hu => by
    rw [List.all_cons, Bool.and_eq_true] at ha
    obtain ⟨h1, h2⟩ := ha
    cases a with
    | int x =>
      rw [List.flatMap_cons] at h
      cases i with
      | zero => cases h; exact List.mem_cons_self
      | succ i =>
        have := wk_ini_args (ad := ad) as (k + 1) n h2 i v h hu
        rw [show k + (i + 1) = k + 1 + i by omega]
        exact List.mem_cons_of_mem _ this
    | ref x =>
      rw [List.flatMap_cons] at h
      cases i with
      | zero => cases h; exact List.mem_cons_self
      | succ i =>
        have := wk_ini_args (ad := ad) as (k + 1) n h2 i v h hu
        rw [show k + (i + 1) = k + 1 + i by omega]
        exact List.mem_cons_of_mem _ this
    | long x =>
      rw [List.flatMap_cons] at h
      cases i with
      | zero => cases h; exact List.mem_cons_self
      | succ i =>
        cases i with
        | zero => cases h; cases hu
        | succ i =>
          have := wk_ini_args (ad := ad) as (k + 2) n h2 i v h hu
          rw [show k + (i + 1 + 1) = k + 2 + i by omega]
          exact List.mem_cons_of_mem _ this
    | float _ => cases h1
    | double _ => cases h1
    | null => cases h1
    | retAddr _ => cases h1
theorem wk_sl_len {ad : Nat → Nat} : ∀ (as : List Value), as.all wk_iv = true → (lg_sl (as.map (wk_tr ad))).length = (as.flatMap wk_two).length
  | [], _ => rfl
  | a :: as, h => by
    rw [List.all_cons, Bool.and_eq_true] at h
    have ih := wk_sl_len (ad := ad) as h.2
    unfold lg_sl at ih ⊢
    rw [List.map_cons, List.flatMap_cons, List.flatMap_cons, List.length_append, List.length_append, ih]
    congr 1
    cases a <;> first | rfl | (cases h.1; done)
theorem wk_run_nil {sh : Nat → Option wk_De} {n d : Nat} {cd : List Instr} {ls st : List Value} {σ : wk_St} {z : wk_R} (h : wk_run sh n d cd [] ls st σ = some z) : False := by
  cases n with
  | zero => cases h
  | succ n => rw [wk_run] at h; cases h
/-- the code's check, at a place -/
theorem wk_at {f pos pc : Nat} {i : Instr} (hf : f < 261) (hi : (wk_mc f)[pos]? = some i) (hp : (wk_mp f)[pos]? = some pc) : wk_chk (wk_mo f) (wk_mb f) (wk_mt f) (wk_mp f) pc ((wk_mp f).getD (pos + 1) 0) i = true := by
  have h := wk_ccall f hf
  unfold wk_cc at h
  rw [Bool.and_eq_true, Bool.and_eq_true] at h
  have hl := (List.getElem?_eq_some_iff.mp hi).1
  have h2 := List.all_eq_true.mp h.2.2 pos (List.mem_range.mpr hl)
  rw [hi, hp] at h2
  exact h2
theorem wk_len {f : Nat} (hf : f < 261) : (wk_mc f).length = (wk_mp f).length ∧ (wk_mp f)[0]? = some 0 := by
  have h := wk_ccall f hf
  unfold wk_cc at h
  rw [Bool.and_eq_true, Bool.and_eq_true] at h
  exact ⟨of_decide_eq_true h.1, of_decide_eq_true h.2.1⟩
theorem wk_next {f pos n d : Nat} {sh : Nat → Option wk_De} {ls st : List Value} {σ : wk_St} {z : wk_R} (hf : f < 261) (h : wk_run sh n d (wk_mc f) ((wk_mc f).drop (pos + 1)) ls st σ = some z) : (wk_mp f)[pos + 1]? = some ((wk_mp f).getD (pos + 1) 0) := by
  by_cases hl : pos + 1 < (wk_mp f).length
  · rw [List.getD_eq_getElem?_getD, List.getElem?_eq_getElem hl]; rfl
  · rw [List.drop_eq_nil_of_le (by rw [(wk_len hf).1]; omega)] at h
    exact (wk_run_nil h).elim
theorem wk_tgt {f : Nat} {t : Int} (h : wk_to (wk_mp f) t = true) : ∃ k : Nat, (wk_mp f)[t.toNat]? = some k ∧ wk_po (wk_mp f) t = (k : Int) := by
  unfold wk_to at h
  rw [Bool.and_eq_true] at h
  have hl : t.toNat < (wk_mp f).length := by simpa [Nat.blt_eq] using h.2
  refine ⟨(wk_mp f)[t.toNat], List.getElem?_eq_getElem hl, ?_⟩
  unfold wk_po
  rw [List.getD_eq_getElem?_getD, List.getElem?_eq_getElem hl]
  rfl
section SIM3
variable {p : Program} {l : Launch} {e : Env} {R : Room} {s : State} {m : MethodId} {args : Array Value} {below : List Frame} {meth : Method} {c : Code} {Q : State → Prop} {H : Heap} {locs : List Loc}
variable {D : va_G} {tys : List (ClassId × FieldType)} {sh : Nat → Option wk_De} {N : Nat} {ad : Nat → Nat} {cA : Nat → ClassId} {A : Nat → Prop} {f : Nat} {σ σ' : wk_St} {als als' ast ast' : List Value} {pc nx : Nat} {ls : Array Slot}
theorem wk_callR {z1 : wk_R} {a : Array Value} {st0 rest : List Value} (hr : va_Run p l e R s m args below meth c H locs 0 0 0 0 (F0 m pc ls st0) rest (wk_Qc D sh N ad cA A z1 a) A) (hS : va_S A s.heap H locs)
    (kk : ∀ (H1 : Heap) (locs1 : List Loc), va_P D wk_cls (wk_w sh N ad cA z1.2) H1 → va_S A s.heap H1 locs1 → W p l e R s m args below meth c H1 locs1 0 0 Q (F0 m (pc + 3) ls ((z1.1.map (wk_tr ad)).toList ++ rest))) : W p l e R s m args below meth c H locs 0 0 Q (F0 m pc ls st0) := by
  intro T hT X
  obtain ⟨v, st₀, t, T', L, h0, X', hL, e1, e2, ⟨hv, hp, hz, hk⟩, st⟩ := hr T hT X
  obtain rfl := Outcome.returned.inj hv
  rw [h0] at hz hk
  obtain ⟨t2, a1, b1⟩ := kk T'.heap (locs ++ L) (by rw [e1]; exact hp)
    ⟨Nat.le_trans hS.1 (by rw [e1]; exact hz), fun q h1 h2 => by rw [e1, hk q (Nat.lt_of_lt_of_le h1 hS.1) h2]; exact hS.2.1 q h1 h2, fun q hq => by
      rcases List.mem_append.mp hq with h | h
      · exact hS.2.2 q h
      · exact hL q h⟩ T' rfl X'
  exact ⟨t2, st t2 a1, b1⟩
/-- the callee's start, out of the caller's world -/
theorem wk_pre (F : wk_Fx p s m args meth c D tys sh N ad cA A f) (E : wk_Re D sh N ad cA A s (wk_mx f) H locs ls als σ) {as : List Value} : ∀ U : State, U.heap = H → s.WarmedH U.vm → wk_Pc D tys sh N ad cA A as σ (as.map (wk_tr ad)).toArray U := by
  intro U hU hW
  have hq : ∀ a : Nat, a < s.heap.size → ¬ A a → H[a]? = s.heap[a]? := fun a h1 h2 => E.2.2.1.2.1 a h1 h2
  refine ⟨rfl, by rw [hU]; exact E.1, va_K.moved hW.alike (wk_FK F), E.2.1, (wk_FN F).warm hW, ?_, ?_⟩
  · rw [hU]; exact va_Z.moved hW.alike ((wk_FS F).1.kept hq)
  · rw [hU]; exact va_T.moved hW.alike ((wk_FS F).2.kept hq)
theorem wk_sum8 : ∀ (k : Nat) (st : List Value), st.length ≤ k → (st.map fun v => v.category).sum ≤ 2 * k
  | k, [], _ => by simp
  | 0, a :: st, h => by simp at h
  | k + 1, a :: st, h => by
    have ih := wk_sum8 k st (by simpa using h)
    have ha : a.category ≤ 2 := by cases a <;> simp [Value.category]
    simp only [List.map_cons, List.sum_cons]
    omega
theorem wk_rc_recv {g : Nat} {as : List Value} (h : wk_rc sh g as = true) (hv : g / 1000 ≠ 12) : ∃ o As, as = .ref o :: As ∧ ∃ ci fl, sh o = some (.inr (ci, fl)) ∧ wk_sub ci (g / 1000) = true := by
  unfold wk_rc at h
  rw [Bool.and_eq_true, Bool.and_eq_true] at h
  obtain ⟨-, -, h⟩ := h
  generalize g / 1000 = k at h hv
  rcases as with _ | ⟨v, As⟩
  · split at h
    · exact absurd rfl hv
    · rename_i heq
      cases heq
    · cases h
  · cases v with
    | ref o =>
      split at h
      · exact absurd rfl hv
      · rename_i heq
        cases heq
        split at h
        · rename_i ci fl hsh
          exact ⟨_, _, rfl, ci, fl, hsh, h⟩
        · cases h
      · cases h
    | _ => split at h <;> first | exact absurd rfl hv | cases h | (rename_i heq; cases heq)
/-- a call -/
theorem wk_vrun (F : wk_Fx p s m args meth c D tys sh N ad cA A f) (E : wk_Re D sh N ad cA A s (wk_mx f) H locs ls als σ) {g a d : Nat} {as rest : List Value} {z1 : wk_R} (hR : R = wk_rm (d + 1)) (hrc : wk_rc sh g as = true) (hl4 : rest.length ≤ 4) (ha : as.length = a)
    (hc : wk_chk (wk_mo f) (wk_mb f) (wk_mt f) (wk_mp f) pc nx (.invokeinterface g a) = true)
    (hM : g % 1000 < 261 → Met l (wk_my (g % 1000)) (wk_ws (g % 1000)) (wk_rm d) (wk_Pc D tys sh N ad cA A as σ) (wk_Qc D sh N ad cA A z1) 0 0 A) :
    nx = pc + 3 ∧ ∃ arr, va_Run p l e R s m args below meth c H locs 0 0 0 0 (F0 m pc ls ((as.reverse ++ rest).map (wk_tr ad))) (rest.map (wk_tr ad)) (wk_Qc D sh N ad cA A z1 arr) A := by
  unfold wk_chk at hc
  dsimp only at hc
  have hall : as.all wk_iv = true := by unfold wk_rc at hrc; rw [Bool.and_eq_true] at hrc; exact hrc.1
  have hsz : ls.size = wk_mx f := E.2.2.2.2.1
  have h8 : ((rest.map (wk_tr ad)).map fun v => v.category).sum ≤ 8 := wk_sum8 4 _ (by simpa using hl4)
  have hS : CallFix p m c (wk_mb f) (wk_mx f) s args wk_gt (wk_on (wk_mo f)) := ⟨F.1, F.2.1, F.2.2.1, F.2.2.2.1, F.2.2.2.2.1⟩
  have hrm : ∀ k, wk_mx k ≤ 12 → (wk_rm d).frames + 1 ≤ R.frames ∧ 8 + (wk_mx k + 11) + (wk_rm d).locals ≤ R.locals := by
    intro k hk
    rw [hR]
    refine ⟨Nat.le_refl _, ?_⟩
    show 8 + (wk_mx k + 11) + 40 * (d + 1) ≤ 40 * (d + 1 + 1)
    omega
  have hf0 : 0 + 0 ≤ R.cells ∧ 0 + 0 ≤ R.slots := ⟨Nat.zero_le _, Nat.zero_le _⟩
  have key : ∀ idx, wk_cres (wk_mo f) idx = some (g, a) → ∃ e ∈ wk_ct, e.1 = wk_mo f ∧ e.2.1 = idx ∧ e.2.2.1 = g ∧ e.2.2.2.1 = a ∧ wk_cok e = true := by
    intro idx h
    unfold wk_cres at h
    cases hf : wk_ct.find? (fun e => Nat.beq e.1 (wk_mo f) && Nat.beq e.2.1 idx) with
    | none => rw [hf] at h; cases h
    | some e =>
      rw [hf] at h
      have hp := List.find?_some hf
      simp only [Bool.and_eq_true] at hp
      simp only [Option.map_some, Option.some.injEq, Prod.mk.injEq] at h
      exact ⟨e, List.mem_of_find?_eq_some hf, Nat.eq_of_beq_eq_true hp.1, Nat.eq_of_beq_eq_true hp.2, h.1, h.2, List.all_eq_true.mp wk_call e (List.mem_of_find?_eq_some hf)⟩
  split at hc
  · rename_i idx hdec
    simp only [Bool.and_eq_true, decide_eq_true_eq] at hc
    obtain ⟨hcr, hvirt, hnx⟩ := hc
    refine ⟨Nat.eq_of_beq_eq_true hnx, ?_⟩
    obtain ⟨e0, he0, h1, h2, h3, h4, hok⟩ := key idx hcr
    obtain ⟨own, idx', g', a', kind, pp, xc, q, sp⟩ := e0
    dsimp only at h1 h2 h3 h4
    subst h1; subst h2; subst h3; subst h4
    unfold wk_cok at hok
    dsimp only at hok
    rw [Bool.and_eq_true] at hok
    obtain ⟨hlt, hok⟩ := hok
    have hlt : g' % 1000 < 261 := by simpa [Nat.blt_eq] using hlt
    have hM := hM hlt
    obtain ⟨m1, m2, m3, m4, m5, m6, m7, m8⟩ := wk_meth hlt
    -- the receiver
    obtain ⟨o, As, rfl, ci, fl, hsh, hsub⟩ := wk_rc_recv hrc hvirt
    obtain ⟨hN, C, T, n, hcl, hlen, -⟩ := (wk_FO F).2.2.2.2.2 o ci fl hsh
    have hw : (wk_w sh N ad cA σ)[o]? = some (ad o, .inr (ci, wk_fs ad σ o fl)) := by
      rw [wk_w_get hN]; unfold wk_ce; rw [hsh]
    have hrecv := va_recv (wk_FK F) E.1 hcl hw
    dsimp only at hrecv
    have hPV : ∀ C', C' = C → PreV s H C' (ad o) (wk_Pc D tys sh N ad cA A (.ref o :: As) σ) (As.map (wk_tr ad)) := fun C' hC => ⟨wk_blind, by rw [hC]; exact hrecv, wk_pre F E⟩
    have hst : ((Value.ref o :: As).reverse ++ rest).map (wk_tr ad) = (As.map (wk_tr ad)).reverse ++ .ref (ad o) :: rest.map (wk_tr ad) := by
      simp [wk_tr, List.map_reverse]
    rw [hst]
    refine ⟨(Value.ref (ad o) :: As.map (wk_tr ad)).toArray, ?_⟩
    have hcode : Cond.code (wk_my (g' % 1000)) (wk_mb (g' % 1000)) (wk_mx (g' % 1000)) (wk_mt (g' % 1000)) ∈ wk_gt := wk_tbl (wk_cwall _ hlt) rfl
    split at hok
    · simp only [Bool.and_eq_true, decide_eq_true_eq] at hok
      exact absurd hok.2.1 hvirt
    · simp only [Bool.and_eq_true, decide_eq_true_eq] at hok
      exact absurd hok.2.1 hvirt
    · simp only [Bool.and_eq_true, decide_eq_true_eq] at hok
      obtain ⟨w1, ⟨w2, w3, w4⟩, w5, w6⟩ := hok
      obtain ⟨hh1, hh2⟩ : ci = g' / 1000 ∧ C = (wk_my (g' % 1000)).cls := by
        have : ci = g' / 1000 := by
          unfold wk_sub at hsub
          simp only [Bool.or_eq_true, Bool.and_eq_true] at hsub
          rcases hsub with hsub | hsub
          · exact Nat.eq_of_beq_eq_true hsub.1
          · have := Nat.eq_of_beq_eq_true hsub.1; omega
        subst this
        rw [hcl] at w5
        exact ⟨rfl, Option.some.inj w5⟩
      have hsel : Cond.selects (wk_my (g' % 1000)).cls (wk_my (g' % 1000)) (wk_my (g' % 1000)) ∈ wk_gt := by
        refine List.mem_filter.mpr ⟨List.mem_append_left _ ?_, rfl⟩
        obtain ⟨pr, hpr, hpe⟩ := Option.map_eq_some_iff.mp w6
        exact List.mem_map.mpr ⟨pr, List.mem_of_getElem? hpr, by rw [hpe]⟩
      have hT : GoodIn wk_gt (wsV (wk_on (wk_mo f)) idx' (wk_my (g' % 1000)).cls (wk_my (g' % 1000)) (wk_ws (g' % 1000))) := by
        refine wk_gapp hlt (fun w hw => ?_)
        simp only [List.mem_cons, List.not_mem_nil, or_false] at hw
        rcases hw with rfl | rfl | rfl | rfl
        · exact wk_tbl (List.mem_of_getElem? w1) rfl
        · exact m3 w3
        · exact hsel
        · exact m1
      exact va_runV (n := wk_mn (g' % 1000)) hS hM (cwV _ F.2.2.2.2.1 hT rfl rfl rfl ⟨rfl, m5.1, m5.2, m6⟩ (hrm _ m7)) (hPV _ hh2.symm) rfl (by simp at ha; simp; omega) hsz rfl (lv_room h8) hdec hf0
    · simp only [Bool.and_eq_true, decide_eq_true_eq] at hok
      obtain ⟨w1, ⟨w2, w3, w4⟩, w5, w6⟩ := hok
      obtain ⟨hh1, hh2⟩ : ci = g' / 1000 ∧ C = (wk_my (g' % 1000)).cls := by
        have : ci = g' / 1000 := by
          unfold wk_sub at hsub
          simp only [Bool.or_eq_true, Bool.and_eq_true] at hsub
          rcases hsub with hsub | hsub
          · exact Nat.eq_of_beq_eq_true hsub.1
          · have := Nat.eq_of_beq_eq_true hsub.1; omega
        subst this
        rw [hcl] at w5
        exact ⟨rfl, Option.some.inj w5⟩
      have hsel : Cond.selects (wk_my (g' % 1000)).cls (wk_my (g' % 1000)) (wk_my (g' % 1000)) ∈ wk_gt := by
        refine List.mem_filter.mpr ⟨List.mem_append_left _ ?_, rfl⟩
        obtain ⟨pr, hpr, hpe⟩ := Option.map_eq_some_iff.mp w6
        exact List.mem_map.mpr ⟨pr, List.mem_of_getElem? hpr, by rw [hpe]⟩
      have hnl : va_Nw (.methodLinkNest (wk_on (wk_mo f)) idx' (wk_my (g' % 1000)) xc) s := (wk_FN F) _ (List.mem_filter.mpr ⟨List.mem_of_getElem? w1, rfl⟩)
      exact va_runVN (n := wk_mn (g' % 1000)) hS hM ⟨va_cnB _ F.2.2.2.2.1 (wk_gws hlt) rfl rfl rfl hnl (F.2.2.2.2.1 _ m1) ⟨m5.1, m5.2, m6⟩ (hrm _ m7), F.2.2.2.2.1 _ (m3 w3), F.2.2.2.2.1 _ hsel⟩ (hPV _ hh2.symm) rfl (by simp at ha; simp; omega) hsz rfl (lv_room h8) hdec hf0
    · simp only [Bool.and_eq_true, decide_eq_true_eq] at hok
      obtain ⟨w1, w2, ⟨w3, w4, w5⟩, w6⟩ := hok
      have hin : ci ∈ wk_subs (g' / 1000) := by
        unfold wk_sub at hsub
        unfold wk_subs
        rw [Bool.or_eq_true] at hsub
        rcases hsub with q | q
        · rw [Bool.and_eq_true] at q
          have q2 : g' / 1000 < 11 := by simpa [Nat.blt_eq] using q.2
          rw [if_neg (by omega), Nat.eq_of_beq_eq_true q.1]
          exact List.mem_singleton.mpr rfl
        · simp only [Bool.and_eq_true, Bool.or_eq_true] at q
          rw [if_pos (Nat.eq_of_beq_eq_true q.1)]
          rcases q.2 with q | q | q <;> rw [Nat.eq_of_beq_eq_true q] <;> simp
      obtain ⟨r, -, hr2⟩ := List.any_eq_true.mp (List.all_eq_true.mp w6 ci hin)
      rw [hcl] at hr2
      simp only [decide_eq_true_eq] at hr2
      have hT : GoodIn wk_gt (va_wsU (wk_on (wk_mo f)) idx' C (wk_my (g' % 1000)).cls ⟨xc, (wk_my (g' % 1000)).name, (wk_my (g' % 1000)).desc⟩ (wk_my (g' % 1000)) (wk_ws (g' % 1000))) := by
        refine wk_gapp hlt (fun w hw => ?_)
        simp only [List.mem_cons, List.not_mem_nil, or_false] at hw
        rcases hw with rfl | rfl | rfl | rfl | rfl
        · exact wk_tbl (List.mem_of_getElem? w1) rfl
        · exact wk_tbl (List.mem_of_getElem? w2) rfl
        · exact wk_tbl (List.mem_of_getElem? hr2) rfl
        · exact m3 w4
        · exact m1
      exact va_runU (n := wk_mn (g' % 1000)) hS hM (va_cwU _ F.2.2.2.2.1 hT rfl rfl rfl rfl ⟨m5.1, m5.2, m6⟩ (hrm _ m7)) (hPV _ rfl) rfl (by simp at ha; simp; omega) hsz rfl (lv_room h8) hdec hf0
    · simp only [Bool.and_eq_true, decide_eq_true_eq] at hok
      exact absurd hok.2.2.1 hvirt
  · rename_i idx hdec
    simp only [Bool.and_eq_true, decide_eq_true_eq] at hc
    obtain ⟨hcr, hstat, hnx⟩ := hc
    refine ⟨Nat.eq_of_beq_eq_true hnx, ?_⟩
    obtain ⟨e0, he0, h1, h2, h3, h4, hok⟩ := key idx hcr
    obtain ⟨own, idx', g', a', kind, pp, xc, q, sp⟩ := e0
    dsimp only at h1 h2 h3 h4
    subst h1; subst h2; subst h3; subst h4
    unfold wk_cok at hok
    dsimp only at hok
    rw [Bool.and_eq_true] at hok
    obtain ⟨hlt, hok⟩ := hok
    have hlt : g' % 1000 < 261 := by simpa [Nat.blt_eq] using hlt
    have hM := hM hlt
    obtain ⟨m1, m2, m3, m4, m5, m6, m7, m8⟩ := wk_meth hlt
    have hst : (as.reverse ++ rest).map (wk_tr ad) = (as.map (wk_tr ad)).reverse ++ rest.map (wk_tr ad) := by
      simp [List.map_reverse]
    rw [hst]
    have hPS : PreS s H (wk_Pc D tys sh N ad cA A as σ) (as.map (wk_tr ad)) := ⟨wk_blind, wk_pre F E⟩
    refine ⟨(as.map (wk_tr ad)).toArray, ?_⟩
    split at hok
    · simp only [Bool.and_eq_true, decide_eq_true_eq] at hok
      obtain ⟨w1, w2, w3, w4⟩ := hok
      have hT : GoodIn wk_gt (va_wsS (wk_on (wk_mo f)) idx' (wk_my (g' % 1000)) (wk_ws (g' % 1000))) := by
        refine wk_gapp hlt (fun w hw => ?_)
        simp only [List.mem_cons, List.not_mem_nil, or_false] at hw
        rcases hw with rfl | rfl | rfl
        · exact wk_tbl (List.mem_of_getElem? w1) rfl
        · exact m2 w3
        · exact m1
      exact va_runS (n := wk_mn (g' % 1000)) hS hM (va_cwS _ F.2.2.2.2.1 hT rfl rfl rfl ⟨m5.1, m5.2, m6⟩ (hrm _ m7)) hPS rfl (by rw [List.length_map, ha, w4]) hsz rfl (lv_room h8) hdec hf0
    · simp only [Bool.and_eq_true, decide_eq_true_eq] at hok
      obtain ⟨w1, w2, w3, w4⟩ := hok
      have hnl : va_Nw (.methodLinkNest (wk_on (wk_mo f)) idx' (wk_my (g' % 1000)) xc) s := (wk_FN F) _ (List.mem_filter.mpr ⟨List.mem_of_getElem? w1, rfl⟩)
      exact va_runSN (n := wk_mn (g' % 1000)) hS hM ⟨va_cnB _ F.2.2.2.2.1 (wk_gws hlt) rfl rfl rfl hnl (F.2.2.2.2.1 _ m1) ⟨m5.1, m5.2, m6⟩ (hrm _ m7), F.2.2.2.2.1 _ (m2 w3), trivial⟩ hPS rfl (by rw [List.length_map, ha, w4]) hsz rfl (lv_room h8) hdec hf0
    · simp only [Bool.and_eq_true, decide_eq_true_eq] at hok
      exact absurd hstat (by omega)
    · simp only [Bool.and_eq_true, decide_eq_true_eq] at hok
      exact absurd hstat (by omega)
    · simp only [Bool.and_eq_true, decide_eq_true_eq] at hok
      exact absurd hstat (by omega)
    · simp only [Bool.and_eq_true, decide_eq_true_eq] at hok
      obtain ⟨w1, w2, w3, w4, w5⟩ := hok
      have hB : Back l R p e below s args (wk_my (g' % 1000)) 3 8 (PreOf R 0 0 (wk_Pc D tys sh N ad cA A as σ)) (PostOf (wk_Qc D sh N ad cA A z1) 0 0 A) :=
        back_of (bytes := wk_mb (g' % 1000)) (maxL := wk_mx (g' % 1000)) (ret := wk_mt (g' % 1000)) hM wk_blind rfl rfl (hrm _ m7).1 (hrm _ m7).2 (pay_in F.2.2.2.2.1 (wk_gws hlt)) List.mem_cons_self (fun a' U hW => word_at hW (Or.inl rfl) (F.2.2.2.2.1 _ m1))
      refine wk_runSI (n := wk_mn (g' % 1000)) (x := ⟨xc, (wk_my (g' % 1000)).name, (wk_my (g' % 1000)).desc⟩) (bytes := wk_mb (g' % 1000)) (maxL := wk_mx (g' % 1000)) (ret := wk_mt (g' % 1000)) hS hM hB rfl (F.2.2.2.2.1 _ (wk_tbl (List.mem_of_getElem? w1) rfl)) (F.2.2.2.2.1 _ (wk_tbl (List.mem_of_getElem? w2) rfl)) (F.2.2.2.2.1 _ (wk_tbl (wk_cwall _ hlt) rfl)) (F.2.2.2.2.1 _ m1) (F.2.2.2.2.1 _ (m2 w4)) m5 (fun sig h => ?_) hPS rfl (by rw [List.length_map, ha, w5]) hsz rfl (lv_room h8) hdec hf0
      rw [h] at m6
      exact (Option.some.inj m6).symm
  · cases hc
end SIM3
