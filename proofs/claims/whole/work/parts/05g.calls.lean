/-! CALLS -/
section SU
variable {e : Env} {d : Bool} {acts : List Action} {s s₀ : State} {g : JFrame} {Q : Unit → Pre} {E : CtlPost}
/-- a static call by the name of a class that inherits the method: what the links' entry does -/
theorem wk_coldS {idx ci n cn : Nat} {mm : MethodId} {dk ck : Class} {file : ClassFile} {nm ds : String} (ht : s.topJava?.isSome) (hp : e.platform.polymorphicOnlyByInvokevirtual = true) (hW : s₀.WarmedH s.vm)
    (hE : s₀.MethodEntryUp e s.vm g.method.cls idx cn mm ci) (hd : s₀.vm.classes[g.method.cls]? = some dk) (hf : dk.cf = some file) (hc : file.constantPool[idx]? = some (.methodref ci n)) (hn : file.constantPool.nameAndType? n = some (nm, ds))
    (hk : s₀.vm.classes[cn]? = some ck) (hno : (ck.methods.any fun q => q.name == nm && !q.isStatic && signaturePolymorphic ck q) = false) :
    wp (invokestatic.sem idx) Q E e d acts (s.setTop g) ↔ wp (invokestatic.sem idx) Q E e d acts ((s.setVm (s.vm.calledUp g.method.cls ci idx cn mm)).setTop g) := by
  obtain ⟨a1, a2, a3, a4⟩ := hE.classFirst
  obtain ⟨k0, b1, b2⟩ := hW.alike.2.2 _ _ hd
  obtain ⟨k1, b3, b4⟩ := hE.warmed.alike.2.2 _ _ hd
  obtain ⟨c0, b5, b6⟩ := a3.alike.2.2 _ _ hk
  obtain ⟨c1, b7, b8⟩ := hE.warmed.alike.2.2 _ _ hk
  have hc' : file.constantPool[idx]? = some (if false then .interfaceMethodref ci n else .methodref ci n) := hc
  have r0 := memberRef_ask_via (e := e) b1 (by rw [b2]; exact hf) hc' hn
  have r1 := memberRef_ask_via (e := e) b3 (by rw [b4]; exact hf) hc' hn
  have n0 : (c0.methods.any fun q => q.name == nm && !q.isStatic && signaturePolymorphic c0 q) = false := by rw [b6]; exact hno
  have n1 : (c1.methods.any fun q => q.name == nm && !q.isStatic && signaturePolymorphic c1 q) = false := by rw [b8]; exact hno
  have t0 : (s.setVm (s.vm.noted g.method.cls ci (.cls cn))).topJava?.isSome := ht
  have t1 : (s.setVm (s.vm.calledUp g.method.cls ci idx cn mm)).topJava?.isSome := ht
  have L1 : ∀ {Q' : ClassId → Pre} {d' : Bool} {acts' : List Action}, wp (Jvm.resolveClassAt ci) Q' E e d' acts' (s.setTop g) ↔ Q' cn d' acts' ((s.setVm (s.vm.noted g.method.cls ci (.cls cn))).setTop g) :=
    W.resolveClassAt_links (t := s.setTop g) (State.method?_setTop g ht) a1
  have L2 : ∀ {Q' : MethodId → Pre} {d' : Bool} {acts' : List Action}, wp (Jvm.resolveMethodAt idx) Q' E e d' acts' ((s.setVm (s.vm.noted g.method.cls ci (.cls cn))).setTop g) ↔ Q' mm d' acts' ((s.setVm (s.vm.calledUp g.method.cls ci idx cn mm)).setTop g) :=
    W.resolveMethodAt_links (t := (s.setVm (s.vm.noted g.method.cls ci (.cls cn))).setTop g) (State.method?_setTop g t0) a4
  simp [invokestatic.sem, hp, Seam.memberRefOf, State.method?_setTop g ht, State.method?_setTop g t1, r0, r1, L1, W.resolveClassAt_ready (s := (s.setVm (s.vm.calledUp g.method.cls ci idx cn mm)).setTop g) (State.method?_setTop g t1) hE.classReady,
    b5, b7, n0, n1, L2, W.resolveMethodAt_ready (s := (s.setVm (s.vm.calledUp g.method.cls ci idx cn mm)).setTop g) (State.method?_setTop g t1) hE.ready, -Array.any_eq_true]
end SU
section SU2
variable {p : Program} {l : Launch} {e : Env} {R : Room} {s : State} {m : MethodId} {args : Array Value} {below : List Frame} {meth : Method} {c : Code} {T : State} {locs : List Loc} {cells slots : Nat}
theorem wk_invS (X : Stand p l e R s m args below meth c T locs cells slots) (hexec : p.tables.exec = Jvm.exec) {own owner : String} {idx : Nat} {x : MethodName} (hown : s.vm.findClass own = some m.cls)
    (hlink : (Cond.methodLink own idx x).before args s = true) (hsame : (Cond.sameMethod x.cls owner x.name x.desc).before args s = true) (ho : owner ≠ "java/lang/invoke/MethodHandle" ∧ owner ≠ "java/lang/invoke/VarHandle")
    {mk : MethodId} {mt : Method} {kk : Class} (hn : s.methodNamed? ⟨owner, x.name, x.desc⟩ = some mk) (hm : s.vm.method? mk = some mt) (hst : mt.isStatic = true) (hk : s.vm.classes[mk.cls]? = some kk) (hi : kk.init = .initialized)
    {g : JFrame} (hg : g.method = m) {As rest : List Value} (hlen : As.length = mt.sig.parameters.length) (hstack : g.stack = As.reverse ++ rest) (hdg : decode c.code g.pc = .ok (.invokestatic idx, 3)) :
    ∃ vm', Stand p l e R s m args below meth c (T.setVm vm') locs cells slots ∧ ∀ tg, (∀ acts, Steps p.tables e below (doInvoke e ((T.setVm vm').setTop { g with stack := rest }) acts mk As.toArray).1 tg) → Steps p.tables e below (T.setTop g) tg := by
  have h1 : e.platform.magicAccessors = ({} : Platform).magicAccessors := by rw [X.admits.platform]
  have h2 : e.platform.polymorphicOnlyByInvokevirtual = true := by rw [X.admits.platform]
  obtain ⟨cn, ck, r1, hcn, hck, hni, hf, hn1⟩ := Cond.sameMethod_found hsame
  cases hn.symm.trans hn1
  obtain ⟨ci, hl, hright⟩ := Cond.methodLink_specUp hown hcn hck hni hf hlink e.platform h1 (by rw [X.admits.platform])
  have hE : s.MethodEntryUp e T.vm m.cls idx cn mk ci := State.methodEntryUp X.warmed hl hright
  obtain ⟨kx, hkx, hnx⟩ := className_of_methodNamed hn
  cases hk.symm.trans hkx
  obtain ⟨dk, cf, nt, mn, md, ck', _, _, hd, hcf, hcp, hnt, -, -, hck', -, hpoly, -⟩ := hl.here
  cases hck.symm.trans hck'
  have al := hE.warmed.alike
  obtain ⟨dk2, g1, g2⟩ := al.2.2 _ _ hd
  obtain ⟨k2, g3, g4⟩ := al.2.2 _ _ hk
  obtain ⟨ck2, g5, g6⟩ := al.2.2 _ _ hck
  have hno : (ck.methods.any fun q => q.name == mn && !q.isStatic && signaturePolymorphic ck q) = false := by simp [hpoly]
  have hno2 : (ck2.methods.any fun q => q.name == mn && !q.isStatic && signaturePolymorphic ck2 q) = false := by rw [g6]; exact hno
  have hcp' : cf.constantPool[idx]? = some (if false then .interfaceMethodref ci nt else .methodref ci nt) := hcp
  refine ⟨T.vm.calledUp m.cls ci idx cn mk, X.noted hE.warmed, fun tg hrest => ?_⟩
  subst hg
  jvm_step X.here [hexec, hdg, wk_coldS (e := e) (s := T) (s₀ := s) (g := g) X.here.top h2 X.warmed hE hd hcf hcp hnt hck hno,
    invokestatic.wp_ready (e := e) (s := T.setVm (T.vm.calledUp g.method.cls ci idx cn mk)) (k := k2) (meth := mt) (m := mk) (args := As) (rest := rest) (f := g)
      X.here.top ⟨ci, mn, md, false, cn, ck2, memberRef_ask_via (e := e) g1 (by rw [g2]; exact hcf) hcp' hnt, hE.classReady, g5, hno2⟩ hE.ready g3
      (by show (T.vm.calledUp g.method.cls ci idx cn mk).method? mk = some mt; rw [al.method?]; exact hm)
      (by rw [g4]; show signaturePolymorphic kk mt = false; simp [signaturePolymorphic, hnx, ho.1, ho.2]) hst (by rw [g4]; exact hi) hlen hstack]
  exact fun acts => hrest _
variable {H : Heap} {y : MethodName} {bytes cc : ByteArray} {maxL nL mc ms n index : Nat} {ret : Option FieldType} {ws : List Cond} {rm : Room} {Pc : Array Value → State → Prop} {Qc : Array Value → State → Outcome → State → Prop} {free : Addr → Prop} {Ts : List Cond} {own : String} {As rest : List Value} {g : JFrame}
theorem wk_runSI {x : MethodName} (S : CallFix p m c cc nL s args Ts own) (hM : Met l y ws rm Pc Qc mc ms free) (hb0 : Back l R p e below s args y 3 8 (PreOf R mc ms Pc) (PostOf Qc mc ms free)) (hy : y = ⟨y.cls, x.name, x.desc⟩)
    (hl : (Cond.methodLink own index x).before args s = true) (hsame : (Cond.sameMethod x.cls y.cls x.name x.desc).before args s = true) (hcode : (Cond.code y bytes maxL ret).before args s = true) (hini : (Cond.initialized y.cls).before args s = true) (hstt : (Cond.static y).before args s = true)
    (ho : y.cls ≠ "java/lang/invoke/MethodHandle" ∧ y.cls ≠ "java/lang/invoke/VarHandle") (hlen : ∀ sig, parseMethodDescriptor y.desc = some sig → n = sig.parameters.length) (hp : PreS s H Pc As)
    (hg : g.method = m) (hn : As.length = n) (hsize : g.locals.size = nL) (hstack : g.stack = As.reverse ++ rest) (hW : 2 * g.monitorRoom + (rest.map fun v => v.category).sum ≤ 8) (hdg : decode cc g.pc = .ok (.invokestatic index, 3)) (hf : cells + mc ≤ R.cells ∧ slots + ms ≤ R.slots) :
    va_Run p l e R s m args below meth c H locs cells slots mc ms g rest (Qc As.toArray) free := by
  obtain ⟨hx, hb, hml, hown, -⟩ := S
  intro T hT X
  obtain ⟨mk, hnamed⟩ := Cond.code_named hcode
  obtain ⟨methM, cM, hmethM, -, -, -, -, -, -, hsigM⟩ := Cond.code_spec hnamed hcode
  have hstatic : methM.isStatic = true := Cond.static_spec hnamed hmethM hstt
  obtain ⟨kP, hkP, -⟩ := className_of_methodNamed hnamed
  have hinitP : kP.init = .initialized := Cond.initialized_spec (findClass_of_methodNamed hnamed) hkP hini
  obtain ⟨vm₁, X₁, hstep₁⟩ := wk_invS X hx hown hl hsame ho (by rw [← hy]; exact hnamed) hmethM hstatic hkP hinitP (g := g) hg (As := As) (rest := rest) (hn.trans (hlen _ hsigM)) hstack (by rw [hb]; exact hdg)
  obtain ⟨v, ⟨U', l2, c2, s2⟩, X', hpost, hsteps⟩ := hb0 m meth c ⟨T.setVm vm₁, locs, cells, slots⟩ { g with stack := rest } (.invokestatic index) mk As.toArray X₁ hg (hsize.trans hml.symm) (by rw [hb]; exact hdg) hW (X₁.named hnamed) ⟨hf.1, hf.2, hp.2 (T.setVm vm₁) hT X₁.warmed⟩
  obtain ⟨g', mk', t, L, e1, e2, hq, h1, hL, h2, h3⟩ := hpost
  dsimp only [Pt.U, Pt.locs, Pt.cells, Pt.slots] at X' e1 e2 h1 h2 h3 hsteps
  subst h1; subst h2; subst h3
  exact ⟨v, (T.setVm vm₁).calling g' mk' As.toArray, t, U', L, hT, X', hL, e1, e2, hq, fun tg h => hstep₁ _ fun acts => by rw [doInvoke_state]; exact hsteps.trans h⟩
end SU2
