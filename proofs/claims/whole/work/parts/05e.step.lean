/-! ONE INSTRUCTION OF THE SMALL MACHINE, ON THE JVM -/
def wk_NW (U : State) : Prop := ∀ w ∈ wk_nw, va_Nw w U
def wk_ST (A : Nat → Prop) (t : Nat) (U : State) (H : Heap) : Prop := va_Z "WolfKnight$Tables" "MONTH_LENGTHS" "[I" (.ref t) A U H ∧ va_T .int t 12 (fun j => .int (wk_ml j)) A U H
def wk_kd (f : Nat) (q : String × String × String × Bool) : Prop := (f = 0 → q.2.2.1 = "I" ∧ q.2.2.2 = false) ∧ (f = 1 → q.2.2.1 = "J" ∧ q.2.2.2 = false) ∧ (f = 2 → q.2.2.1 = "Z" ∧ q.2.2.2 = false)
def wk_OK (sh : Nat → Option wk_De) (N : Nat) (cA : Nat → ClassId) (tys : List (ClassId × FieldType)) : Prop :=
  (∀ k n, sh k = some (.inl (3, n)) → k = 999 ∧ n = 12) ∧ (∀ k n, sh k = some (.inl (0, n)) → k < N ∧ ∃ t0 : Nat, tys[t0]? = some (cA k, .int)) ∧ (∀ k n, sh k = some (.inl (1, n)) → k < N ∧ ∃ t0 : Nat, tys[t0]? = some (cA k, .long)) ∧
  (∀ k n, sh k = some (.inl (2, n)) → k < N ∧ ∃ t0 : Nat, tys[t0]? = some (cA k, .byte)) ∧ (∀ k ty n, sh k = some (.inl (ty, n)) → ty ≤ 3) ∧ (∀ k ci fl, sh k = some (.inr (ci, fl)) → k < N ∧ ∃ C T n, wk_cls[ci]? = some (C, T, n) ∧ fl.length = n ∧ ∀ j f, fl[j]? = some f → wk_kd f (T j))
def wk_Fx (p : Program) (s : State) (m : MethodId) (args : Array Value) (meth : Method) (c : Code) (D : va_G) (tys : List (ClassId × FieldType)) (sh : Nat → Option wk_De) (N : Nat) (ad : Nat → Nat) (cA : Nat → ClassId) (A : Nat → Prop) (f : Nat) : Prop :=
  p.tables.exec = Jvm.exec ∧ c.code = wk_mb f ∧ c.maxLocals = wk_mx f ∧ s.vm.findClass (wk_on (wk_mo f)) = some m.cls ∧ (∀ w ∈ wk_gt, w.before args s = true) ∧ meth.sig.returnType = wk_mt f ∧ meth.locks = false ∧ va_K D wk_cls tys s ∧ wk_NW s ∧ wk_ST A (ad 999) s s.heap ∧ wk_OK sh N cA tys
def wk_Re (D : va_G) (sh : Nat → Option wk_De) (N : Nat) (ad : Nat → Nat) (cA : Nat → ClassId) (A : Nat → Prop) (s : State) (nL : Nat) (H : Heap) (locs : List Loc) (ls : Array Slot) (als : List Value) (σ : wk_St) : Prop :=
  va_P D wk_cls (wk_w sh N ad cA σ) H ∧ va_D A (wk_w sh N ad cA σ) ∧ va_S A s.heap H locs ∧ wk_LR ad nL als ls
def wk_WW (p : Program) (l : Launch) (e : Env) (R : Room) (s : State) (m : MethodId) (args : Array Value) (below : List Frame) (meth : Method) (c : Code) (Q : State → Prop) (D : va_G) (sh : Nat → Option wk_De) (N : Nat) (ad : Nat → Nat) (cA : Nat → ClassId) (A : Nat → Prop) (f pc : Nat) (als ast : List Value) (σ : wk_St) : Prop :=
  ∀ (H : Heap) (locs : List Loc) (ls : Array Slot), wk_Re D sh N ad cA A s (wk_mx f) H locs ls als σ → W p l e R s m args below meth c H locs 0 0 Q (F0 m pc ls (ast.map (wk_tr ad)))
theorem wk_c1 {b : ByteArray} {pc nx len k : Nat} {i : Instr} (h : (wk_d b pc i len && Nat.beq nx k) = true) : decode b pc = .ok (i, len) ∧ nx = k := by
  rw [Bool.and_eq_true] at h
  exact ⟨of_decide_eq_true h.1, Nat.eq_of_beq_eq_true h.2⟩
theorem wk_in_vp {j : Int32} {n : Nat} (h : wk_in j n = true) : vp_in j n := by
  unfold wk_in at h
  rw [Bool.and_eq_true] at h
  exact vp_in_iff.mpr ⟨of_decide_eq_true h.1, of_decide_eq_true h.2⟩
theorem wk_catv {ad : Nat → Nat} {v : Value} (h : wk_cat v = true) : (wk_tr ad v).category = 1 := by
  cases v <;> first | rfl | cases h
theorem wk_tbl {w : Cond} (h : w ∈ tables_1) (g : goodWord w = true) : w ∈ wk_gt := List.mem_filter.mpr ⟨List.mem_append_right _ h, g⟩
theorem wk_fs_get {ad : Nat → Nat} {σ : wk_St} {k j f : Nat} {fl : List Nat} (h : fl[j]? = some f) : (wk_fs ad σ k fl)[j]? = some (wk_tr ad (wk_rd σ k j f)) := by
  unfold wk_fs
  rw [List.getElem?_mapIdx, h]
  rfl
theorem wk_fs_len {ad : Nat → Nat} {σ : wk_St} {k : Nat} {fl : List Nat} : (wk_fs ad σ k fl).length = fl.length := by simp [wk_fs]
theorem wk_fs_set {ad : Nat → Nat} {σ σ' : wk_St} {k j : Nat} {fl : List Nat} {v : Value} (hv : ∀ f, fl[j]? = some f → wk_tr ad (wk_rd σ' k j f) = v) (ho : ∀ q f, q ≠ j → wk_rd σ' k q f = wk_rd σ k q f) : (wk_fs ad σ k fl).set j v = wk_fs ad σ' k fl := by
  apply List.ext_getElem?
  intro i
  by_cases hi : i = j
  · subst hi
    by_cases hl : i < fl.length
    · obtain ⟨f, hf⟩ : ∃ f, fl[i]? = some f := ⟨fl[i], List.getElem?_eq_getElem hl⟩
      rw [List.getElem?_set_self (by rw [wk_fs_len]; exact hl), wk_fs_get hf, hv f hf]
    · rw [List.getElem?_eq_none (by rw [List.length_set, wk_fs_len]; omega), List.getElem?_eq_none (by rw [wk_fs_len]; omega)]
  · rw [List.getElem?_set_ne (Ne.symm hi)]
    unfold wk_fs
    rw [List.getElem?_mapIdx, List.getElem?_mapIdx]
    cases fl[i]? with
    | none => rfl
    | some f => simp only [Option.map_some]; rw [ho i f hi]
/-- what the links' table says of a field -/
theorem wk_field {own idx c ci : Nat} {args : Array Value} {s : State} (hts : ∀ w ∈ wk_gt, w.before args s = true) (hnw : wk_NW s) (h : wk_fres own idx = some c) (hsub : wk_sub ci (c / 64) = true) : ∃ (C : String) (T : u_T) (n : Nat) (ref : String), wk_cls[ci]? = some (C, T, n) ∧ c % 64 < n ∧
    ((Cond.fieldLink (wk_on own) idx ref (T (c % 64)).2.1 (T (c % 64)).2.2.1).before args s = true ∨ ∃ host, (Cond.fieldLinkNest (wk_on own) idx ref (T (c % 64)).2.1 (T (c % 64)).2.2.1 host).before args s = true) ∧
    (∀ x, s.fieldFound? (T (c % 64)).1 (T (c % 64)).2.1 (T (c % 64)).2.2.1 = some x → s.fieldFound? ref (T (c % 64)).2.1 (T (c % 64)).2.2.1 = some x) := by
  unfold wk_fres at h
  cases hf : wk_ft.find? (fun e => Nat.beq e.1 own && Nat.beq e.2.1 idx) with
  | none => rw [hf] at h; cases h
  | some e =>
    rw [hf] at h
    have hmem := List.mem_of_find?_eq_some hf
    have hp := List.find?_some hf
    have hok := List.all_eq_true.mp wk_fall e hmem
    obtain ⟨o1, i1, c1, j1, p1, ref, host, q1⟩ := e
    simp only [Bool.and_eq_true] at hp
    obtain rfl : o1 = own := Nat.eq_of_beq_eq_true hp.1
    obtain rfl : i1 = idx := Nat.eq_of_beq_eq_true hp.2
    simp only [Option.map_some, Option.some.injEq] at h
    unfold wk_fok at hok
    rw [Bool.and_eq_true] at hok
    obtain ⟨hj, hok⟩ := hok
    have hj : j1 < 64 := by simpa [Nat.blt_eq] using hj
    have e1 : c / 64 = c1 := by omega
    have e2 : c % 64 = j1 := by omega
    rw [e1] at hsub
    have hin : ci ∈ wk_subs c1 := by
      unfold wk_sub at hsub
      unfold wk_subs
      rw [Bool.or_eq_true] at hsub
      rcases hsub with q | q
      · rw [Bool.and_eq_true] at q
        have q2 : c1 < 11 := by simpa [Nat.blt_eq] using q.2
        have q := Nat.eq_of_beq_eq_true q.1
        rw [if_neg (by omega), q]
        exact List.mem_singleton.mpr rfl
      · simp only [Bool.and_eq_true, Bool.or_eq_true] at q
        rw [if_pos (Nat.eq_of_beq_eq_true q.1)]
        rcases q.2 with q | q | q <;> rw [Nat.eq_of_beq_eq_true q] <;> simp
    have h2 := List.all_eq_true.mp hok ci hin
    cases hcl : wk_cls[ci]? with
    | none => rw [hcl] at h2; cases h2
    | some q =>
      obtain ⟨C, T, n⟩ := q
      rw [hcl] at h2
      simp only [Bool.and_eq_true, Bool.or_eq_true, decide_eq_true_eq] at h2
      obtain ⟨hn, hw, hsame⟩ := h2
      have hn : j1 < n := by simpa [Nat.blt_eq] using hn
      refine ⟨C, T, n, ref, rfl, by omega, ?_, ?_⟩
      · rw [e2]
        have hw2 := List.mem_of_getElem? hw
        by_cases hh : host = ""
        · rw [if_pos hh] at hw2
          exact Or.inl (hts _ (wk_tbl hw2 rfl))
        · rw [if_neg hh] at hw2
          exact Or.inr ⟨host, va_Nw.use rfl (hnw _ (List.mem_filter.mpr ⟨hw2, rfl⟩))⟩
      · rw [e2]
        intro x hx
        rcases hsame with q | q
        · rw [q]; exact hx
        · exact u_same (hts _ (wk_tbl (List.mem_of_getElem? q) rfl)) x hx
theorem wk_inX0 : ∀ w ∈ u_ws RX0 TX0 7, w ∈ tables_1 ∧ goodWord w = true := by decide +kernel
theorem wk_inX1 : ∀ w ∈ u_ws RX1 TX1 4, w ∈ tables_1 ∧ goodWord w = true := by decide +kernel
theorem wk_inX2 : ∀ w ∈ u_ws RX2 TX2 6, w ∈ tables_1 ∧ goodWord w = true := by decide +kernel
theorem wk_inX3 : ∀ w ∈ u_ws RX3 TX3 6, w ∈ tables_1 ∧ goodWord w = true := by decide +kernel
theorem wk_inX4 : ∀ w ∈ u_ws RX4 TX4 11, w ∈ tables_1 ∧ goodWord w = true := by decide +kernel
theorem wk_inX5 : ∀ w ∈ u_ws RX5 TX5 4, w ∈ tables_1 ∧ goodWord w = true := by decide +kernel
theorem wk_inX8 : ∀ w ∈ u_ws RX8 TX8 2, w ∈ tables_1 ∧ goodWord w = true := by decide +kernel
theorem wk_inX9 : ∀ w ∈ u_ws RX9 TX9 4, w ∈ tables_1 ∧ goodWord w = true := by decide +kernel
theorem wk_inX10 : ∀ w ∈ u_ws RX10 TX10 6, w ∈ tables_1 ∧ goodWord w = true := by decide +kernel
theorem wk_inX11 : ∀ w ∈ u_ws RX11 TX11 14, w ∈ tables_1 ∧ goodWord w = true := by decide +kernel
theorem wk_inX12 : ∀ w ∈ u_ws RX12 TX12 58, w ∈ tables_1 ∧ goodWord w = true := by decide +kernel
theorem wk_txok {ci : Nat} {C : String} {T : u_T} {n : Nat} (h : wk_cls[ci]? = some (C, T, n)) : (∀ w ∈ u_ws C T n, w ∈ wk_gt) ∧ (∃ ty : Nat → FieldType, ∀ k, k < n → parseFieldDescriptor (T k).2.2.1 = some (ty k)) ∧ (∀ a, a < n → ∀ b, b < n → a ≠ b → (T a).2.1 ≠ (T b).2.1) := by
  have hi : ci < 11 := (List.getElem?_eq_some_iff.mp h).1
  rcases (show ci = 0 ∨ ci = 1 ∨ ci = 2 ∨ ci = 3 ∨ ci = 4 ∨ ci = 5 ∨ ci = 6 ∨ ci = 7 ∨ ci = 8 ∨ ci = 9 ∨ ci = 10 by omega) with rfl | rfl | rfl | rfl | rfl | rfl | rfl | rfl | rfl | rfl | rfl <;> cases h
  · exact ⟨fun w hw => wk_tbl (wk_inX0 w hw).1 (wk_inX0 w hw).2, ⟨tyX0, tyX0_ok⟩, nmX0⟩
  · exact ⟨fun w hw => wk_tbl (wk_inX1 w hw).1 (wk_inX1 w hw).2, ⟨tyX1, tyX1_ok⟩, nmX1⟩
  · exact ⟨fun w hw => wk_tbl (wk_inX2 w hw).1 (wk_inX2 w hw).2, ⟨tyX2, tyX2_ok⟩, nmX2⟩
  · exact ⟨fun w hw => wk_tbl (wk_inX3 w hw).1 (wk_inX3 w hw).2, ⟨tyX3, tyX3_ok⟩, nmX3⟩
  · exact ⟨fun w hw => wk_tbl (wk_inX4 w hw).1 (wk_inX4 w hw).2, ⟨tyX4, tyX4_ok⟩, nmX4⟩
  · exact ⟨fun w hw => wk_tbl (wk_inX5 w hw).1 (wk_inX5 w hw).2, ⟨tyX5, tyX5_ok⟩, nmX5⟩
  · exact ⟨fun w hw => wk_tbl (wk_inX8 w hw).1 (wk_inX8 w hw).2, ⟨tyX8, tyX8_ok⟩, nmX8⟩
  · exact ⟨fun w hw => wk_tbl (wk_inX9 w hw).1 (wk_inX9 w hw).2, ⟨tyX9, tyX9_ok⟩, nmX9⟩
  · exact ⟨fun w hw => wk_tbl (wk_inX10 w hw).1 (wk_inX10 w hw).2, ⟨tyX10, tyX10_ok⟩, nmX10⟩
  · exact ⟨fun w hw => wk_tbl (wk_inX11 w hw).1 (wk_inX11 w hw).2, ⟨tyX11, tyX11_ok⟩, nmX11⟩
  · exact ⟨fun w hw => wk_tbl (wk_inX12 w hw).1 (wk_inX12 w hw).2, ⟨tyX12, tyX12_ok⟩, nmX12⟩
section SIM
variable {p : Program} {l : Launch} {e : Env} {R : Room} {s : State} {m : MethodId} {args : Array Value} {below : List Frame} {meth : Method} {c : Code} {Q : State → Prop}
variable {D : va_G} {tys : List (ClassId × FieldType)} {sh : Nat → Option wk_De} {N : Nat} {ad : Nat → Nat} {cA : Nat → ClassId} {A : Nat → Prop} {f : Nat} {σ σ' : wk_St} {als als' ast ast' : List Value} {pc nx : Nat}
theorem wk_q_iload (F : wk_Fx p s m args meth c D tys sh N ad cA A f) {a : Nat} (hc : wk_chk (wk_mo f) (wk_mb f) (wk_mt f) (wk_mp f) pc nx (.iload a) = true) (hs : wk_s sh (.iload a) als ast σ = some (als', ast', σ')) (k : wk_WW p l e R s m args below meth c Q D sh N ad cA A f nx als' ast' σ') : wk_WW p l e R s m args below meth c Q D sh N ad cA A f pc als ast σ := by
  unfold wk_chk at hc
  unfold wk_s at hs
  dsimp only at hc hs
  split at hs
  · rename_i x hx
    cases hs
    intro H locs ls E
    have hl := E.2.2.2.at hx rfl
    rw [Bool.or_eq_true] at hc
    rcases hc with hc | hc
    · obtain ⟨hd, rfl⟩ := wk_c1 hc
      exact lv_iload F.1 F.2.1 hd hl (k _ _ _ E)
    · obtain ⟨q, -, hq⟩ := List.any_eq_true.mp hc
      rw [Bool.and_eq_true] at hq
      obtain ⟨hd, rfl⟩ := wk_c1 hq.2
      exact lv_iload_n F.1 F.2.1 hd (Nat.eq_of_beq_eq_true hq.1) hl (k _ _ _ E)
  · cases hs
theorem wk_q_lload (F : wk_Fx p s m args meth c D tys sh N ad cA A f) {a : Nat} (hc : wk_chk (wk_mo f) (wk_mb f) (wk_mt f) (wk_mp f) pc nx (.lload a) = true) (hs : wk_s sh (.lload a) als ast σ = some (als', ast', σ')) (k : wk_WW p l e R s m args below meth c Q D sh N ad cA A f nx als' ast' σ') : wk_WW p l e R s m args below meth c Q D sh N ad cA A f pc als ast σ := by
  unfold wk_chk at hc
  unfold wk_s at hs
  dsimp only at hc hs
  split at hs
  · rename_i x hx
    cases hs
    intro H locs ls E
    have hl := E.2.2.2.at hx rfl
    rw [Bool.or_eq_true] at hc
    rcases hc with hc | hc
    · obtain ⟨hd, rfl⟩ := wk_c1 hc
      exact lv_lload F.1 F.2.1 hd hl (k _ _ _ E)
    · obtain ⟨q, -, hq⟩ := List.any_eq_true.mp hc
      rw [Bool.and_eq_true] at hq
      obtain ⟨hd, rfl⟩ := wk_c1 hq.2
      exact lv_lload_n F.1 F.2.1 hd (Nat.eq_of_beq_eq_true hq.1) hl (k _ _ _ E)
  · cases hs
theorem wk_q_aload (F : wk_Fx p s m args meth c D tys sh N ad cA A f) {a : Nat} (hc : wk_chk (wk_mo f) (wk_mb f) (wk_mt f) (wk_mp f) pc nx (.aload a) = true) (hs : wk_s sh (.aload a) als ast σ = some (als', ast', σ')) (k : wk_WW p l e R s m args below meth c Q D sh N ad cA A f nx als' ast' σ') : wk_WW p l e R s m args below meth c Q D sh N ad cA A f pc als ast σ := by
  unfold wk_chk at hc
  unfold wk_s at hs
  dsimp only at hc hs
  split at hs
  · rename_i x hx
    cases hs
    intro H locs ls E
    have hl := E.2.2.2.at hx rfl
    rw [Bool.or_eq_true] at hc
    rcases hc with hc | hc
    · obtain ⟨hd, rfl⟩ := wk_c1 hc
      exact lv_aload F.1 F.2.1 hd hl (k _ _ _ E)
    · obtain ⟨q, -, hq⟩ := List.any_eq_true.mp hc
      rw [Bool.and_eq_true] at hq
      obtain ⟨hd, rfl⟩ := wk_c1 hq.2
      exact lv_aload_n F.1 F.2.1 hd (Nat.eq_of_beq_eq_true hq.1) hl (k _ _ _ E)
  · cases hs
theorem wk_LR.store2 {ad : Nat → Nat} {nL : Nat} {als : List Value} {ls : Array Slot} (h : wk_LR ad nL als ls) {a : Nat} {x : Int64} (ha : a + 1 < als.length) {ls' : Array Slot}
    (h' : lv_has ls' nL ((a, Value.long x) :: (wk_prs ad als).filter (fun q => !(q.1 == a) && (!(q.1 == a + 1) && !(q.1 + 1 == a && q.2.category == 2))))) : wk_LR ad nL ((wk_st als a (.long x)).set (a + 1) wk_U) ls' := by
  refine ⟨by rw [List.length_set, wk_st_len]; exact h.1, h'.1, h'.2.1, fun q hq => ?_⟩
  obtain ⟨i, w⟩ := q
  obtain ⟨u, hu1, hu2, rfl⟩ := wk_prs_mem.mp hq
  refine h'.2.2 (i, wk_tr ad u) ?_
  by_cases hi1 : i = a + 1
  · subst hi1
    rw [List.getElem?_set_self (by rw [wk_st_len]; exact ha)] at hu1
    cases hu1
    cases hu2
  · rw [List.getElem?_set_ne (Ne.symm hi1)] at hu1
    rcases wk_st_get (by omega) hu1 hu2 with ⟨rfl, rfl⟩ | ⟨hi, hg, hn⟩
    · exact List.mem_cons_self
    · refine List.mem_cons_of_mem _ (List.mem_filter.mpr ⟨wk_prs_mem.mpr ⟨u, hg, hu2, rfl⟩, ?_⟩)
      simp only [wk_tr_cat, Bool.and_eq_true, Bool.not_eq_true', beq_eq_false_iff_ne, ne_eq, Bool.and_eq_false_imp, beq_iff_eq, hi, hi1, not_false_eq_true, true_and]
      intro e
      simpa [e] using hn
theorem wk_q_istore (F : wk_Fx p s m args meth c D tys sh N ad cA A f) {a : Nat} (hc : wk_chk (wk_mo f) (wk_mb f) (wk_mt f) (wk_mp f) pc nx (.istore a) = true) (hs : wk_s sh (.istore a) als ast σ = some (als', ast', σ')) (k : wk_WW p l e R s m args below meth c Q D sh N ad cA A f nx als' ast' σ') : wk_WW p l e R s m args below meth c Q D sh N ad cA A f pc als ast σ := by
  unfold wk_chk at hc
  unfold wk_s at hs
  dsimp only at hc hs
  split at hs
  · rename_i x t
    cases hb : Nat.blt a als.length with
    | false => rw [hb] at hs; cases hs
    | true =>
      rw [hb] at hs
      cases hs
      have ha : a < als.length := by simpa [Nat.blt_eq] using hb
      intro H locs ls E
      have ha2 : a < wk_mx f := by rw [← E.2.2.2.1]; exact ha
      rw [Bool.or_eq_true] at hc
      rcases hc with hc | hc
      · obtain ⟨hd, rfl⟩ := wk_c1 hc
        exact lv_istore F.1 F.2.1 hd E.2.2.2.2 ha2 rfl (fun ls' h' => k _ _ _ ⟨E.1, E.2.1, E.2.2.1, E.2.2.2.store ha h'⟩)
      · obtain ⟨q, -, hq⟩ := List.any_eq_true.mp hc
        rw [Bool.and_eq_true] at hq
        obtain ⟨hd, rfl⟩ := wk_c1 hq.2
        exact lv_istore_n F.1 F.2.1 hd (Nat.eq_of_beq_eq_true hq.1) E.2.2.2.2 ha2 rfl (fun ls' h' => k _ _ _ ⟨E.1, E.2.1, E.2.2.1, E.2.2.2.store ha h'⟩)
  · cases hs
theorem wk_q_astore (F : wk_Fx p s m args meth c D tys sh N ad cA A f) {a : Nat} (hc : wk_chk (wk_mo f) (wk_mb f) (wk_mt f) (wk_mp f) pc nx (.astore a) = true) (hs : wk_s sh (.astore a) als ast σ = some (als', ast', σ')) (k : wk_WW p l e R s m args below meth c Q D sh N ad cA A f nx als' ast' σ') : wk_WW p l e R s m args below meth c Q D sh N ad cA A f pc als ast σ := by
  unfold wk_chk at hc
  unfold wk_s at hs
  dsimp only at hc hs
  split at hs
  · rename_i x t
    cases hb : Nat.blt a als.length with
    | false => rw [hb] at hs; cases hs
    | true =>
      rw [hb] at hs
      cases hs
      have ha : a < als.length := by simpa [Nat.blt_eq] using hb
      intro H locs ls E
      have ha2 : a < wk_mx f := by rw [← E.2.2.2.1]; exact ha
      rw [Bool.or_eq_true] at hc
      rcases hc with hc | hc
      · obtain ⟨hd, rfl⟩ := wk_c1 hc
        exact lv_astore F.1 F.2.1 hd E.2.2.2.2 ha2 rfl (fun ls' h' => k _ _ _ ⟨E.1, E.2.1, E.2.2.1, E.2.2.2.store ha h'⟩)
      · obtain ⟨q, -, hq⟩ := List.any_eq_true.mp hc
        rw [Bool.and_eq_true] at hq
        obtain ⟨hd, rfl⟩ := wk_c1 hq.2
        exact lv_astore_n F.1 F.2.1 hd (Nat.eq_of_beq_eq_true hq.1) E.2.2.2.2 ha2 rfl (fun ls' h' => k _ _ _ ⟨E.1, E.2.1, E.2.2.1, E.2.2.2.store ha h'⟩)
  · cases hs
theorem wk_q_lstore (F : wk_Fx p s m args meth c D tys sh N ad cA A f) {a : Nat} (hc : wk_chk (wk_mo f) (wk_mb f) (wk_mt f) (wk_mp f) pc nx (.lstore a) = true) (hs : wk_s sh (.lstore a) als ast σ = some (als', ast', σ')) (k : wk_WW p l e R s m args below meth c Q D sh N ad cA A f nx als' ast' σ') : wk_WW p l e R s m args below meth c Q D sh N ad cA A f pc als ast σ := by
  unfold wk_chk at hc
  unfold wk_s at hs
  dsimp only at hc hs
  split at hs
  · rename_i x t
    cases hb : Nat.blt (a + 1) als.length with
    | false => rw [hb] at hs; cases hs
    | true =>
      rw [hb] at hs
      cases hs
      have ha : a + 1 < als.length := by simpa [Nat.blt_eq] using hb
      intro H locs ls E
      have ha2 : a + 1 < wk_mx f := by rw [← E.2.2.2.1]; exact ha
      rw [Bool.or_eq_true] at hc
      rcases hc with hc | hc
      · obtain ⟨hd, rfl⟩ := wk_c1 hc
        exact lv_lstore F.1 F.2.1 hd E.2.2.2.2 ha2 rfl (fun ls' h' => k _ _ _ ⟨E.1, E.2.1, E.2.2.1, wk_LR.store2 E.2.2.2 ha h'⟩)
      · obtain ⟨q, -, hq⟩ := List.any_eq_true.mp hc
        rw [Bool.and_eq_true] at hq
        obtain ⟨hd, rfl⟩ := wk_c1 hq.2
        exact lv_lstore_n F.1 F.2.1 hd (Nat.eq_of_beq_eq_true hq.1) E.2.2.2.2 ha2 rfl (fun ls' h' => k _ _ _ ⟨E.1, E.2.1, E.2.2.1, wk_LR.store2 E.2.2.2 ha h'⟩)
  · cases hs
theorem wk_q_iconst (F : wk_Fx p s m args meth c D tys sh N ad cA A f) {v : Int} (hc : wk_chk (wk_mo f) (wk_mb f) (wk_mt f) (wk_mp f) pc nx (.iconst v) = true) (hs : wk_s sh (.iconst v) als ast σ = some (als', ast', σ')) (k : wk_WW p l e R s m args below meth c Q D sh N ad cA A f nx als' ast' σ') : wk_WW p l e R s m args below meth c Q D sh N ad cA A f pc als ast σ := by
  unfold wk_chk at hc
  unfold wk_s at hs
  dsimp only at hc hs
  cases hs
  intro H locs ls E
  rw [Bool.or_eq_true, Bool.or_eq_true, Bool.or_eq_true] at hc
  rcases hc with hc | hc | hc | hc
  · obtain ⟨hd, rfl⟩ := wk_c1 hc
    exact lv_iconst F.1 F.2.1 hd rfl (k _ _ _ E)
  · rw [Bool.and_eq_true, Bool.and_eq_true] at hc
    obtain rfl := Nat.eq_of_beq_eq_true hc.2.1
    exact lv_bipush F.1 F.2.1 (of_decide_eq_true hc.1) (of_decide_eq_true hc.2.2) (k _ _ _ E)
  · rw [Bool.and_eq_true, Bool.and_eq_true] at hc
    obtain rfl := Nat.eq_of_beq_eq_true hc.2.1
    exact lv_sipush F.1 F.2.1 (of_decide_eq_true hc.1) (of_decide_eq_true hc.2.2) (k _ _ _ E)
  · obtain ⟨q, hq1, hq⟩ := List.any_eq_true.mp hc
    rw [Bool.and_eq_true, Bool.and_eq_true, Bool.or_eq_true] at hq
    obtain ⟨h1, h2, h3⟩ := hq
    have hw := of_decide_eq_true (List.all_eq_true.mp wk_kall q hq1)
    have hw := F.2.2.2.2.1 _ (wk_tbl (List.mem_of_getElem? hw) rfl)
    rw [Nat.eq_of_beq_eq_true h1, of_decide_eq_true h2] at hw
    rcases h3 with h3 | h3
    · obtain ⟨hd, rfl⟩ := wk_c1 h3
      exact lv_ldc F.1 F.2.1 F.2.2.2.1 hw hd (k _ _ _ E)
    · obtain ⟨hd, rfl⟩ := wk_c1 h3
      exact lv_ldcw F.1 F.2.1 F.2.2.2.1 hw hd (k _ _ _ E)
theorem wk_q_ldc2 (F : wk_Fx p s m args meth c D tys sh N ad cA A f) {n : Nat} (hc : wk_chk (wk_mo f) (wk_mb f) (wk_mt f) (wk_mp f) pc nx (.ldc2_w n) = true) (hs : wk_s sh (.ldc2_w n) als ast σ = some (als', ast', σ')) (k : wk_WW p l e R s m args below meth c Q D sh N ad cA A f nx als' ast' σ') : wk_WW p l e R s m args below meth c Q D sh N ad cA A f pc als ast σ := by
  unfold wk_chk at hc
  unfold wk_s at hs
  dsimp only at hc hs
  cases hs
  intro H locs ls E
  rw [Bool.or_eq_true] at hc
  rcases hc with hc | hc
  · obtain ⟨q, -, hq⟩ := List.any_eq_true.mp hc
    rw [Bool.and_eq_true] at hq
    obtain ⟨hd, rfl⟩ := wk_c1 hq.2
    obtain rfl := Nat.eq_of_beq_eq_true hq.1
    exact lv_lconst F.1 F.2.1 hd rfl (k _ _ _ E)
  · rw [Bool.and_eq_true, Bool.and_eq_true] at hc
    obtain ⟨h1, h2, h3⟩ := hc
    obtain ⟨hd, rfl⟩ := wk_c1 h3
    obtain rfl := Nat.eq_of_beq_eq_true h2
    have hw := F.2.2.2.2.1 _ (wk_tbl (List.mem_of_getElem? wk_lall) rfl)
    rw [← Nat.eq_of_beq_eq_true h1] at hw
    exact lv_ldc2 F.1 F.2.1 F.2.2.2.1 hw hd (k _ _ _ E)
theorem wk_q_iinc (F : wk_Fx p s m args meth c D tys sh N ad cA A f) {a : Nat} {v : Int} (hc : wk_chk (wk_mo f) (wk_mb f) (wk_mt f) (wk_mp f) pc nx (.iinc a v) = true) (hs : wk_s sh (.iinc a v) als ast σ = some (als', ast', σ')) (k : wk_WW p l e R s m args below meth c Q D sh N ad cA A f nx als' ast' σ') : wk_WW p l e R s m args below meth c Q D sh N ad cA A f pc als ast σ := by
  unfold wk_chk at hc
  unfold wk_s at hs
  dsimp only at hc hs
  split at hs
  · rename_i x hx
    cases hs
    obtain ⟨hd, rfl⟩ := wk_c1 hc
    intro H locs ls E
    have ha : a < als.length := (List.getElem?_eq_some_iff.mp hx).1
    have ha2 : a < wk_mx f := by rw [← E.2.2.2.1]; exact ha
    obtain ⟨j, hj⟩ := List.getElem?_of_mem (wk_prs_mem.mpr ⟨_, hx, rfl, rfl⟩ : (a, wk_tr ad (.int x)) ∈ wk_prs ad als)
    exact lv_iinc F.1 F.2.1 hd E.2.2.2.2 hj rfl ha2 rfl (fun ls' h' => k _ _ _ ⟨E.1, E.2.1, E.2.2.1, E.2.2.2.store (v := .int (x + Int32.ofInt v)) ha h'⟩)
  · cases hs
theorem wk_q_iadd (F : wk_Fx p s m args meth c D tys sh N ad cA A f) (hc : wk_chk (wk_mo f) (wk_mb f) (wk_mt f) (wk_mp f) pc nx (.iadd) = true) (hs : wk_s sh (.iadd) als ast σ = some (als', ast', σ')) (k : wk_WW p l e R s m args below meth c Q D sh N ad cA A f nx als' ast' σ') : wk_WW p l e R s m args below meth c Q D sh N ad cA A f pc als ast σ := by
  unfold wk_chk at hc
  unfold wk_s at hs
  dsimp only at hc hs
  split at hs
  · cases hs
    obtain ⟨hd, rfl⟩ := wk_c1 hc
    intro H locs ls E
    exact lv_iadd F.1 F.2.1 hd (k _ _ _ E)
  · cases hs
theorem wk_q_isub (F : wk_Fx p s m args meth c D tys sh N ad cA A f) (hc : wk_chk (wk_mo f) (wk_mb f) (wk_mt f) (wk_mp f) pc nx (.isub) = true) (hs : wk_s sh (.isub) als ast σ = some (als', ast', σ')) (k : wk_WW p l e R s m args below meth c Q D sh N ad cA A f nx als' ast' σ') : wk_WW p l e R s m args below meth c Q D sh N ad cA A f pc als ast σ := by
  unfold wk_chk at hc
  unfold wk_s at hs
  dsimp only at hc hs
  split at hs
  · cases hs
    obtain ⟨hd, rfl⟩ := wk_c1 hc
    intro H locs ls E
    exact lv_isub F.1 F.2.1 hd (k _ _ _ E)
  · cases hs
theorem wk_q_imul (F : wk_Fx p s m args meth c D tys sh N ad cA A f) (hc : wk_chk (wk_mo f) (wk_mb f) (wk_mt f) (wk_mp f) pc nx (.imul) = true) (hs : wk_s sh (.imul) als ast σ = some (als', ast', σ')) (k : wk_WW p l e R s m args below meth c Q D sh N ad cA A f nx als' ast' σ') : wk_WW p l e R s m args below meth c Q D sh N ad cA A f pc als ast σ := by
  unfold wk_chk at hc
  unfold wk_s at hs
  dsimp only at hc hs
  split at hs
  · cases hs
    obtain ⟨hd, rfl⟩ := wk_c1 hc
    intro H locs ls E
    exact lv_imul F.1 F.2.1 hd (k _ _ _ E)
  · cases hs
theorem wk_q_iand (F : wk_Fx p s m args meth c D tys sh N ad cA A f) (hc : wk_chk (wk_mo f) (wk_mb f) (wk_mt f) (wk_mp f) pc nx (.iand) = true) (hs : wk_s sh (.iand) als ast σ = some (als', ast', σ')) (k : wk_WW p l e R s m args below meth c Q D sh N ad cA A f nx als' ast' σ') : wk_WW p l e R s m args below meth c Q D sh N ad cA A f pc als ast σ := by
  unfold wk_chk at hc
  unfold wk_s at hs
  dsimp only at hc hs
  split at hs
  · cases hs
    obtain ⟨hd, rfl⟩ := wk_c1 hc
    intro H locs ls E
    exact lv_iand F.1 F.2.1 hd (k _ _ _ E)
  · cases hs
theorem wk_q_ior (F : wk_Fx p s m args meth c D tys sh N ad cA A f) (hc : wk_chk (wk_mo f) (wk_mb f) (wk_mt f) (wk_mp f) pc nx (.ior) = true) (hs : wk_s sh (.ior) als ast σ = some (als', ast', σ')) (k : wk_WW p l e R s m args below meth c Q D sh N ad cA A f nx als' ast' σ') : wk_WW p l e R s m args below meth c Q D sh N ad cA A f pc als ast σ := by
  unfold wk_chk at hc
  unfold wk_s at hs
  dsimp only at hc hs
  split at hs
  · cases hs
    obtain ⟨hd, rfl⟩ := wk_c1 hc
    intro H locs ls E
    exact lv_ior F.1 F.2.1 hd (k _ _ _ E)
  · cases hs
theorem wk_q_ixor (F : wk_Fx p s m args meth c D tys sh N ad cA A f) (hc : wk_chk (wk_mo f) (wk_mb f) (wk_mt f) (wk_mp f) pc nx (.ixor) = true) (hs : wk_s sh (.ixor) als ast σ = some (als', ast', σ')) (k : wk_WW p l e R s m args below meth c Q D sh N ad cA A f nx als' ast' σ') : wk_WW p l e R s m args below meth c Q D sh N ad cA A f pc als ast σ := by
  unfold wk_chk at hc
  unfold wk_s at hs
  dsimp only at hc hs
  split at hs
  · cases hs
    obtain ⟨hd, rfl⟩ := wk_c1 hc
    intro H locs ls E
    exact lv_ixor F.1 F.2.1 hd (k _ _ _ E)
  · cases hs
theorem wk_q_ishl (F : wk_Fx p s m args meth c D tys sh N ad cA A f) (hc : wk_chk (wk_mo f) (wk_mb f) (wk_mt f) (wk_mp f) pc nx (.ishl) = true) (hs : wk_s sh (.ishl) als ast σ = some (als', ast', σ')) (k : wk_WW p l e R s m args below meth c Q D sh N ad cA A f nx als' ast' σ') : wk_WW p l e R s m args below meth c Q D sh N ad cA A f pc als ast σ := by
  unfold wk_chk at hc
  unfold wk_s at hs
  dsimp only at hc hs
  split at hs
  · cases hs
    obtain ⟨hd, rfl⟩ := wk_c1 hc
    intro H locs ls E
    exact lv_ishl F.1 F.2.1 hd (k _ _ _ E)
  · cases hs
theorem wk_q_ishr (F : wk_Fx p s m args meth c D tys sh N ad cA A f) (hc : wk_chk (wk_mo f) (wk_mb f) (wk_mt f) (wk_mp f) pc nx (.ishr) = true) (hs : wk_s sh (.ishr) als ast σ = some (als', ast', σ')) (k : wk_WW p l e R s m args below meth c Q D sh N ad cA A f nx als' ast' σ') : wk_WW p l e R s m args below meth c Q D sh N ad cA A f pc als ast σ := by
  unfold wk_chk at hc
  unfold wk_s at hs
  dsimp only at hc hs
  split at hs
  · cases hs
    obtain ⟨hd, rfl⟩ := wk_c1 hc
    intro H locs ls E
    exact lv_ishr F.1 F.2.1 hd (k _ _ _ E)
  · cases hs
theorem wk_q_iushr (F : wk_Fx p s m args meth c D tys sh N ad cA A f) (hc : wk_chk (wk_mo f) (wk_mb f) (wk_mt f) (wk_mp f) pc nx (.iushr) = true) (hs : wk_s sh (.iushr) als ast σ = some (als', ast', σ')) (k : wk_WW p l e R s m args below meth c Q D sh N ad cA A f nx als' ast' σ') : wk_WW p l e R s m args below meth c Q D sh N ad cA A f pc als ast σ := by
  unfold wk_chk at hc
  unfold wk_s at hs
  dsimp only at hc hs
  split at hs
  · cases hs
    obtain ⟨hd, rfl⟩ := wk_c1 hc
    intro H locs ls E
    exact lv_iushr F.1 F.2.1 hd rfl (k _ _ _ E)
  · cases hs
theorem wk_q_i2b (F : wk_Fx p s m args meth c D tys sh N ad cA A f) (hc : wk_chk (wk_mo f) (wk_mb f) (wk_mt f) (wk_mp f) pc nx (.i2b) = true) (hs : wk_s sh (.i2b) als ast σ = some (als', ast', σ')) (k : wk_WW p l e R s m args below meth c Q D sh N ad cA A f nx als' ast' σ') : wk_WW p l e R s m args below meth c Q D sh N ad cA A f pc als ast σ := by
  unfold wk_chk at hc
  unfold wk_s at hs
  dsimp only at hc hs
  split at hs
  · cases hs
    obtain ⟨hd, rfl⟩ := wk_c1 hc
    intro H locs ls E
    exact lv_i2b F.1 F.2.1 hd rfl (k _ _ _ E)
  · cases hs
theorem wk_q_l2i (F : wk_Fx p s m args meth c D tys sh N ad cA A f) (hc : wk_chk (wk_mo f) (wk_mb f) (wk_mt f) (wk_mp f) pc nx (.l2i) = true) (hs : wk_s sh (.l2i) als ast σ = some (als', ast', σ')) (k : wk_WW p l e R s m args below meth c Q D sh N ad cA A f nx als' ast' σ') : wk_WW p l e R s m args below meth c Q D sh N ad cA A f pc als ast σ := by
  unfold wk_chk at hc
  unfold wk_s at hs
  dsimp only at hc hs
  split at hs
  · cases hs
    obtain ⟨hd, rfl⟩ := wk_c1 hc
    intro H locs ls E
    exact lv_l2i F.1 F.2.1 hd rfl (k _ _ _ E)
  · cases hs
theorem wk_q_lshl (F : wk_Fx p s m args meth c D tys sh N ad cA A f) (hc : wk_chk (wk_mo f) (wk_mb f) (wk_mt f) (wk_mp f) pc nx (.lshl) = true) (hs : wk_s sh (.lshl) als ast σ = some (als', ast', σ')) (k : wk_WW p l e R s m args below meth c Q D sh N ad cA A f nx als' ast' σ') : wk_WW p l e R s m args below meth c Q D sh N ad cA A f pc als ast σ := by
  unfold wk_chk at hc
  unfold wk_s at hs
  dsimp only at hc hs
  split at hs
  · cases hs
    obtain ⟨hd, rfl⟩ := wk_c1 hc
    intro H locs ls E
    exact lv_lshl F.1 F.2.1 hd rfl (k _ _ _ E)
  · cases hs
theorem wk_q_lushr (F : wk_Fx p s m args meth c D tys sh N ad cA A f) (hc : wk_chk (wk_mo f) (wk_mb f) (wk_mt f) (wk_mp f) pc nx (.lushr) = true) (hs : wk_s sh (.lushr) als ast σ = some (als', ast', σ')) (k : wk_WW p l e R s m args below meth c Q D sh N ad cA A f nx als' ast' σ') : wk_WW p l e R s m args below meth c Q D sh N ad cA A f pc als ast σ := by
  unfold wk_chk at hc
  unfold wk_s at hs
  dsimp only at hc hs
  split at hs
  · cases hs
    obtain ⟨hd, rfl⟩ := wk_c1 hc
    intro H locs ls E
    exact lv_lushr F.1 F.2.1 hd rfl (k _ _ _ E)
  · cases hs
theorem wk_q_ladd (F : wk_Fx p s m args meth c D tys sh N ad cA A f) (hc : wk_chk (wk_mo f) (wk_mb f) (wk_mt f) (wk_mp f) pc nx (.ladd) = true) (hs : wk_s sh (.ladd) als ast σ = some (als', ast', σ')) (k : wk_WW p l e R s m args below meth c Q D sh N ad cA A f nx als' ast' σ') : wk_WW p l e R s m args below meth c Q D sh N ad cA A f pc als ast σ := by
  unfold wk_chk at hc
  unfold wk_s at hs
  dsimp only at hc hs
  split at hs
  · cases hs
    obtain ⟨hd, rfl⟩ := wk_c1 hc
    intro H locs ls E
    exact lv_ladd F.1 F.2.1 hd (k _ _ _ E)
  · cases hs
theorem wk_q_land (F : wk_Fx p s m args meth c D tys sh N ad cA A f) (hc : wk_chk (wk_mo f) (wk_mb f) (wk_mt f) (wk_mp f) pc nx (.land) = true) (hs : wk_s sh (.land) als ast σ = some (als', ast', σ')) (k : wk_WW p l e R s m args below meth c Q D sh N ad cA A f nx als' ast' σ') : wk_WW p l e R s m args below meth c Q D sh N ad cA A f pc als ast σ := by
  unfold wk_chk at hc
  unfold wk_s at hs
  dsimp only at hc hs
  split at hs
  · cases hs
    obtain ⟨hd, rfl⟩ := wk_c1 hc
    intro H locs ls E
    exact lv_land F.1 F.2.1 hd (k _ _ _ E)
  · cases hs
theorem wk_q_lor (F : wk_Fx p s m args meth c D tys sh N ad cA A f) (hc : wk_chk (wk_mo f) (wk_mb f) (wk_mt f) (wk_mp f) pc nx (.lor) = true) (hs : wk_s sh (.lor) als ast σ = some (als', ast', σ')) (k : wk_WW p l e R s m args below meth c Q D sh N ad cA A f nx als' ast' σ') : wk_WW p l e R s m args below meth c Q D sh N ad cA A f pc als ast σ := by
  unfold wk_chk at hc
  unfold wk_s at hs
  dsimp only at hc hs
  split at hs
  · cases hs
    obtain ⟨hd, rfl⟩ := wk_c1 hc
    intro H locs ls E
    exact lv_lor F.1 F.2.1 hd (k _ _ _ E)
  · cases hs
theorem wk_q_idiv (F : wk_Fx p s m args meth c D tys sh N ad cA A f) (hc : wk_chk (wk_mo f) (wk_mb f) (wk_mt f) (wk_mp f) pc nx (.idiv) = true) (hs : wk_s sh (.idiv) als ast σ = some (als', ast', σ')) (k : wk_WW p l e R s m args below meth c Q D sh N ad cA A f nx als' ast' σ') : wk_WW p l e R s m args below meth c Q D sh N ad cA A f pc als ast σ := by
  unfold wk_chk at hc
  unfold wk_s at hs
  dsimp only at hc hs
  split at hs
  · split at hs
    · cases hs
    · rename_i hn
      cases hs
      obtain ⟨hd, rfl⟩ := wk_c1 hc
      intro H locs ls E
      exact lv_idiv F.1 F.2.1 hd hn (k _ _ _ E)
  · cases hs
theorem wk_q_irem (F : wk_Fx p s m args meth c D tys sh N ad cA A f) (hc : wk_chk (wk_mo f) (wk_mb f) (wk_mt f) (wk_mp f) pc nx (.irem) = true) (hs : wk_s sh (.irem) als ast σ = some (als', ast', σ')) (k : wk_WW p l e R s m args below meth c Q D sh N ad cA A f nx als' ast' σ') : wk_WW p l e R s m args below meth c Q D sh N ad cA A f pc als ast σ := by
  unfold wk_chk at hc
  unfold wk_s at hs
  dsimp only at hc hs
  split at hs
  · split at hs
    · cases hs
    · rename_i hn
      cases hs
      obtain ⟨hd, rfl⟩ := wk_c1 hc
      intro H locs ls E
      exact lv_irem F.1 F.2.1 hd hn (k _ _ _ E)
  · cases hs
theorem wk_q_lcmp (F : wk_Fx p s m args meth c D tys sh N ad cA A f) (hc : wk_chk (wk_mo f) (wk_mb f) (wk_mt f) (wk_mp f) pc nx (.lcmp) = true) (hs : wk_s sh (.lcmp) als ast σ = some (als', ast', σ')) (k : wk_WW p l e R s m args below meth c Q D sh N ad cA A f nx als' ast' σ') : wk_WW p l e R s m args below meth c Q D sh N ad cA A f pc als ast σ := by
  unfold wk_chk at hc
  unfold wk_s at hs
  dsimp only at hc hs
  split at hs
  · cases hs
    obtain ⟨hd, rfl⟩ := wk_c1 hc
    intro H locs ls E
    exact W.lcmp F.1 F.2.1 hd (k _ _ _ E)
  · cases hs
theorem wk_q_dup (F : wk_Fx p s m args meth c D tys sh N ad cA A f) (hc : wk_chk (wk_mo f) (wk_mb f) (wk_mt f) (wk_mp f) pc nx (.dup) = true) (hs : wk_s sh (.dup) als ast σ = some (als', ast', σ')) (k : wk_WW p l e R s m args below meth c Q D sh N ad cA A f nx als' ast' σ') : wk_WW p l e R s m args below meth c Q D sh N ad cA A f pc als ast σ := by
  unfold wk_chk at hc
  unfold wk_s at hs
  dsimp only at hc hs
  split at hs
  · rename_i v t
    cases hb : wk_cat v with
    | false => rw [hb] at hs; cases hs
    | true =>
      rw [hb] at hs
      cases hs
      obtain ⟨hd, rfl⟩ := wk_c1 hc
      intro H locs ls E
      exact lv_dup F.1 F.2.1 hd (wk_catv hb) (k _ _ _ E)
  · cases hs
theorem wk_q_dup2 (F : wk_Fx p s m args meth c D tys sh N ad cA A f) (hc : wk_chk (wk_mo f) (wk_mb f) (wk_mt f) (wk_mp f) pc nx (.dup2) = true) (hs : wk_s sh (.dup2) als ast σ = some (als', ast', σ')) (k : wk_WW p l e R s m args below meth c Q D sh N ad cA A f nx als' ast' σ') : wk_WW p l e R s m args below meth c Q D sh N ad cA A f pc als ast σ := by
  unfold wk_chk at hc
  unfold wk_s at hs
  dsimp only at hc hs
  split at hs
  · rename_i v w t
    cases hb : (wk_cat v && wk_cat w) with
    | false => rw [hb] at hs; cases hs
    | true =>
      rw [hb] at hs
      cases hs
      rw [Bool.and_eq_true] at hb
      obtain ⟨hd, rfl⟩ := wk_c1 hc
      intro H locs ls E
      exact lv_dup2_11 F.1 F.2.1 hd (wk_catv hb.1) (wk_catv hb.2) (k _ _ _ E)
  · cases hs
theorem wk_q_pop (F : wk_Fx p s m args meth c D tys sh N ad cA A f) (hc : wk_chk (wk_mo f) (wk_mb f) (wk_mt f) (wk_mp f) pc nx (.pop) = true) (hs : wk_s sh (.pop) als ast σ = some (als', ast', σ')) (k : wk_WW p l e R s m args below meth c Q D sh N ad cA A f nx als' ast' σ') : wk_WW p l e R s m args below meth c Q D sh N ad cA A f pc als ast σ := by
  unfold wk_chk at hc
  unfold wk_s at hs
  dsimp only at hc hs
  split at hs
  · rename_i v t
    cases hb : wk_cat v with
    | false => rw [hb] at hs; cases hs
    | true =>
      rw [hb] at hs
      cases hs
      obtain ⟨hd, rfl⟩ := wk_c1 hc
      intro H locs ls E
      exact lv_pop F.1 F.2.1 hd (wk_catv hb) (k _ _ _ E)
  · cases hs
theorem wk_q_getfield (F : wk_Fx p s m args meth c D tys sh N ad cA A f) {q : Nat} (hc : wk_chk (wk_mo f) (wk_mb f) (wk_mt f) (wk_mp f) pc nx (.getfield q) = true) (hs : wk_s sh (.getfield q) als ast σ = some (als', ast', σ')) (k : wk_WW p l e R s m args below meth c Q D sh N ad cA A f nx als' ast' σ') : wk_WW p l e R s m args below meth c Q D sh N ad cA A f pc als ast σ := by
  unfold wk_chk at hc
  unfold wk_s at hs
  dsimp only at hc hs
  split at hs
  · rename_i o t
    split at hs
    · rename_i ci fl hsh
      cases hb : wk_sub ci (q / 64) with
      | false => rw [hb] at hs; cases hs
      | true =>
        rw [hb] at hs
        simp only [cond_true] at hs
        split at hs
        · rename_i fk hfk
          cases hs
          split at hc
          · rename_i idx hdec
            rw [Bool.and_eq_true] at hc
            obtain rfl := Nat.eq_of_beq_eq_true hc.2
            obtain ⟨C, T, n, ref, hcl, hn, hlink, hsame⟩ := wk_field F.2.2.2.2.1 F.2.2.2.2.2.2.2.2.1 (of_decide_eq_true hc.1) hb
            obtain ⟨hN, -⟩ := F.2.2.2.2.2.2.2.2.2.2.2.2.2.2.2 o ci fl hsh
            intro H locs ls E
            have hw := wk_w_get (sh := sh) (ad := ad) (cA := cA) (σ := σ) hN
            have hce : wk_ce sh ad cA σ o = .inr (ci, wk_fs ad σ o fl) := by unfold wk_ce; rw [hsh]
            rw [hce] at hw
            rcases hlink with hlink | ⟨host, hlink⟩
            · exact va_get F.1 F.2.1 F.2.2.2.2.1 (wk_txok hcl).1 F.2.2.2.1 F.2.2.2.2.2.2.2.1 E.1 o hw hcl (q % 64) hn hlink hsame (wk_fs_get hfk) hdec (k _ _ _ E)
            · exact va_getN F.1 F.2.1 F.2.2.2.2.1 (wk_txok hcl).1 F.2.2.2.1 F.2.2.2.2.2.2.2.1 E.1 o hw hcl (q % 64) hn hlink hsame (wk_fs_get hfk) hdec (k _ _ _ E)
          · cases hc
        · cases hs
    · cases hs
  · cases hs
theorem wk_q_putfield (F : wk_Fx p s m args meth c D tys sh N ad cA A f) {q : Nat} (hc : wk_chk (wk_mo f) (wk_mb f) (wk_mt f) (wk_mp f) pc nx (.putfield q) = true) (hs : wk_s sh (.putfield q) als ast σ = some (als', ast', σ')) (k : wk_WW p l e R s m args below meth c Q D sh N ad cA A f nx als' ast' σ') : wk_WW p l e R s m args below meth c Q D sh N ad cA A f pc als ast σ := by
  unfold wk_chk at hc
  unfold wk_s at hs
  dsimp only at hc hs
  split at hc
  case h_2 => cases hc
  rename_i idx hdec
  rw [Bool.and_eq_true] at hc
  obtain rfl := Nat.eq_of_beq_eq_true hc.2
  split at hs
  case h_2 => cases hs
  rename_i v o t
  split at hs
  case h_2 => cases hs
  rename_i ci fl hsh
  cases hb : wk_sub ci (q / 64) with
  | false => rw [hb] at hs; cases hs
  | true =>
    rw [hb] at hs
    simp only [cond_true] at hs
    split at hs
    · rename_i x hfk
      cases hs
      obtain ⟨C, T, n, ref, hcl, hn, hlink, hsame⟩ := wk_field F.2.2.2.2.1 F.2.2.2.2.2.2.2.2.1 (of_decide_eq_true hc.1) hb
      obtain ⟨hN, C2, T2, n2, hcl2, hlen, hkd⟩ := F.2.2.2.2.2.2.2.2.2.2.2.2.2.2.2 o ci fl hsh
      cases hcl.symm.trans hcl2
      obtain ⟨hin, ⟨ty0, hty⟩, hnm⟩ := wk_txok hcl
      intro H locs ls E
      have hw := wk_w_get (sh := sh) (ad := ad) (cA := cA) (σ := σ) hN
      have hce : ∀ τ : wk_St, wk_ce sh ad cA τ o = .inr (ci, wk_fs ad τ o fl) := fun τ => by unfold wk_ce; rw [hsh]
      rw [hce] at hw
      have hset : (wk_w sh N ad cA σ).set o (ad o, .inr (ci, (wk_fs ad σ o fl).set (q % 64) (.int x))) = wk_w sh N ad cA (wk_si σ o (q % 64) x) := by
        refine wk_w_set hN ?_ (fun z hz => wk_ce_off (wk_si_off hz).1 (wk_si_off hz).2)
        rw [hce, wk_fs_set (σ' := wk_si σ o (q % 64) x)]
        · intro g hg
          cases hg.symm.trans hfk
          simp [wk_rd, wk_tr, wk_si, wk_sl]
        · intro z g hz
          unfold wk_rd
          split <;> simp [wk_si, wk_sl, hz]
      have kk : ∀ (H1 : Heap) (locs1 : List Loc), va_P D wk_cls ((wk_w sh N ad cA σ).set o (ad o, .inr (ci, (wk_fs ad σ o fl).set (q % 64) (.int x)))) H1 → va_D A ((wk_w sh N ad cA σ).set o (ad o, .inr (ci, (wk_fs ad σ o fl).set (q % 64) (.int x)))) → va_S A s.heap H1 locs1 → W p l e R s m args below meth c H1 locs1 0 0 Q (F0 m (pc + 3) ls (ast'.map (wk_tr ad))) := fun H1 locs1 hP hD hS => k _ _ _ ⟨by rw [← hset]; exact hP, by rw [← hset]; exact hD, hS, E.2.2.2⟩
      have hd2 : parseFieldDescriptor (T (q % 64)).2.2.1 = some .int := by rw [((hkd _ _ hfk).1 rfl).1]; decide +kernel
      rcases hlink with hlink | ⟨host, hlink⟩
      · exact va_put F.1 F.2.1 F.2.2.2.2.1 hin ty0 hty hnm F.2.2.2.1 F.2.2.2.2.2.2.2.1 E.1 E.2.1 E.2.2.1 o hw hcl (q % 64) hn hlink hsame ((hkd _ _ hfk).1 rfl).2 hd2 rfl rfl (by rw [wk_fs_len, hlen]; exact hn) hdec kk
      · exact va_putN F.1 F.2.1 F.2.2.2.2.1 hin ty0 hty hnm F.2.2.2.1 F.2.2.2.2.2.2.2.1 E.1 E.2.1 E.2.2.1 o hw hcl (q % 64) hn hlink hsame ((hkd _ _ hfk).1 rfl).2 hd2 rfl rfl (by rw [wk_fs_len, hlen]; exact hn) hdec kk
    · rename_i x hfk
      cases hs
      obtain ⟨C, T, n, ref, hcl, hn, hlink, hsame⟩ := wk_field F.2.2.2.2.1 F.2.2.2.2.2.2.2.2.1 (of_decide_eq_true hc.1) hb
      obtain ⟨hN, C2, T2, n2, hcl2, hlen, hkd⟩ := F.2.2.2.2.2.2.2.2.2.2.2.2.2.2.2 o ci fl hsh
      cases hcl.symm.trans hcl2
      obtain ⟨hin, ⟨ty0, hty⟩, hnm⟩ := wk_txok hcl
      intro H locs ls E
      have hw := wk_w_get (sh := sh) (ad := ad) (cA := cA) (σ := σ) hN
      have hce : ∀ τ : wk_St, wk_ce sh ad cA τ o = .inr (ci, wk_fs ad τ o fl) := fun τ => by unfold wk_ce; rw [hsh]
      rw [hce] at hw
      have hset : (wk_w sh N ad cA σ).set o (ad o, .inr (ci, (wk_fs ad σ o fl).set (q % 64) (.long x))) = wk_w sh N ad cA (wk_sl σ o (q % 64) x) := by
        refine wk_w_set hN ?_ (fun z hz => wk_ce_off (wk_sl_off hz).1 (wk_sl_off hz).2)
        rw [hce, wk_fs_set (σ' := wk_sl σ o (q % 64) x)]
        · intro g hg
          cases hg.symm.trans hfk
          simp [wk_rd, wk_tr, wk_si, wk_sl]
        · intro z g hz
          unfold wk_rd
          split <;> simp [wk_si, wk_sl, hz]
      have kk : ∀ (H1 : Heap) (locs1 : List Loc), va_P D wk_cls ((wk_w sh N ad cA σ).set o (ad o, .inr (ci, (wk_fs ad σ o fl).set (q % 64) (.long x)))) H1 → va_D A ((wk_w sh N ad cA σ).set o (ad o, .inr (ci, (wk_fs ad σ o fl).set (q % 64) (.long x)))) → va_S A s.heap H1 locs1 → W p l e R s m args below meth c H1 locs1 0 0 Q (F0 m (pc + 3) ls (ast'.map (wk_tr ad))) := fun H1 locs1 hP hD hS => k _ _ _ ⟨by rw [← hset]; exact hP, by rw [← hset]; exact hD, hS, E.2.2.2⟩
      have hd2 : parseFieldDescriptor (T (q % 64)).2.2.1 = some .long := by rw [((hkd _ _ hfk).2.1 rfl).1]; decide +kernel
      rcases hlink with hlink | ⟨host, hlink⟩
      · exact va_put F.1 F.2.1 F.2.2.2.2.1 hin ty0 hty hnm F.2.2.2.1 F.2.2.2.2.2.2.2.1 E.1 E.2.1 E.2.2.1 o hw hcl (q % 64) hn hlink hsame ((hkd _ _ hfk).2.1 rfl).2 hd2 rfl rfl (by rw [wk_fs_len, hlen]; exact hn) hdec kk
      · exact va_putN F.1 F.2.1 F.2.2.2.2.1 hin ty0 hty hnm F.2.2.2.1 F.2.2.2.2.2.2.2.1 E.1 E.2.1 E.2.2.1 o hw hcl (q % 64) hn hlink hsame ((hkd _ _ hfk).2.1 rfl).2 hd2 rfl rfl (by rw [wk_fs_len, hlen]; exact hn) hdec kk
    · rename_i x hfk
      split at hs
      · rename_i h01
        cases hs
        obtain ⟨C, T, n, ref, hcl, hn, hlink, hsame⟩ := wk_field F.2.2.2.2.1 F.2.2.2.2.2.2.2.2.1 (of_decide_eq_true hc.1) hb
        obtain ⟨hN, C2, T2, n2, hcl2, hlen, hkd⟩ := F.2.2.2.2.2.2.2.2.2.2.2.2.2.2.2 o ci fl hsh
        cases hcl.symm.trans hcl2
        obtain ⟨hin, ⟨ty0, hty⟩, hnm⟩ := wk_txok hcl
        intro H locs ls E
        have hw := wk_w_get (sh := sh) (ad := ad) (cA := cA) (σ := σ) hN
        have hce : ∀ τ : wk_St, wk_ce sh ad cA τ o = .inr (ci, wk_fs ad τ o fl) := fun τ => by unfold wk_ce; rw [hsh]
        rw [hce] at hw
        have hset : (wk_w sh N ad cA σ).set o (ad o, .inr (ci, (wk_fs ad σ o fl).set (q % 64) (.int x))) = wk_w sh N ad cA (wk_si σ o (q % 64) x) := by
          refine wk_w_set hN ?_ (fun z hz => wk_ce_off (wk_si_off hz).1 (wk_si_off hz).2)
          rw [hce, wk_fs_set (σ' := wk_si σ o (q % 64) x)]
          · intro g hg
            cases hg.symm.trans hfk
            simp [wk_rd, wk_tr, wk_si, wk_sl]
          · intro z g hz
            unfold wk_rd
            split <;> simp [wk_si, wk_sl, hz]
        have kk : ∀ (H1 : Heap) (locs1 : List Loc), va_P D wk_cls ((wk_w sh N ad cA σ).set o (ad o, .inr (ci, (wk_fs ad σ o fl).set (q % 64) (.int x)))) H1 → va_D A ((wk_w sh N ad cA σ).set o (ad o, .inr (ci, (wk_fs ad σ o fl).set (q % 64) (.int x)))) → va_S A s.heap H1 locs1 → W p l e R s m args below meth c H1 locs1 0 0 Q (F0 m (pc + 3) ls (ast'.map (wk_tr ad))) := fun H1 locs1 hP hD hS => k _ _ _ ⟨by rw [← hset]; exact hP, by rw [← hset]; exact hD, hS, E.2.2.2⟩
        have hd2 : parseFieldDescriptor (T (q % 64)).2.2.1 = some .boolean := by rw [((hkd _ _ hfk).2.2 rfl).1]; decide +kernel
        rcases hlink with hlink | ⟨host, hlink⟩
        · exact va_put F.1 F.2.1 F.2.2.2.2.1 hin ty0 hty hnm F.2.2.2.1 F.2.2.2.2.2.2.2.1 E.1 E.2.1 E.2.2.1 o hw hcl (q % 64) hn hlink hsame ((hkd _ _ hfk).2.2 rfl).2 hd2 (by rcases h01 with rfl | rfl <;> rfl) (by rcases h01 with rfl | rfl <;> rfl) (by rw [wk_fs_len, hlen]; exact hn) hdec kk
        · exact va_putN F.1 F.2.1 F.2.2.2.2.1 hin ty0 hty hnm F.2.2.2.1 F.2.2.2.2.2.2.2.1 E.1 E.2.1 E.2.2.1 o hw hcl (q % 64) hn hlink hsame ((hkd _ _ hfk).2.2 rfl).2 hd2 (by rcases h01 with rfl | rfl <;> rfl) (by rcases h01 with rfl | rfl <;> rfl) (by rw [wk_fs_len, hlen]; exact hn) hdec kk
      · cases hs
    · cases hs
end SIM
