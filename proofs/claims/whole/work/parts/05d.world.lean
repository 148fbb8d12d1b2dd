/-! THE SMALL MACHINE'S WORLD ON THE HEAP -/
def wk_tr (ad : Nat → Nat) (v : Value) : Value := match v with
  | .ref k => .ref (ad k)
  | v => v
def wk_fs (ad : Nat → Nat) (σ : wk_St) (k : Nat) (fl : List Nat) : List Value := fl.mapIdx (fun j f => wk_tr ad (wk_rd σ k j f))
def wk_ce (sh : Nat → Option wk_De) (ad : Nat → Nat) (cA : Nat → ClassId) (σ : wk_St) (k : Nat) : va_E := match sh k with
  | some (.inl (1, n)) => .inl (cA k, n, .inr (.inl (σ.2 k)))
  | some (.inl (_, n)) => .inl (cA k, n, .inl (σ.1 k))
  | some (.inr (ci, fl)) => .inr (ci, wk_fs ad σ k fl)
  | none => .inr (0, [])
def wk_w (sh : Nat → Option wk_De) (N : Nat) (ad : Nat → Nat) (cA : Nat → ClassId) (σ : wk_St) : va_W := (List.range N).map (fun k => (ad k, wk_ce sh ad cA σ k))
theorem wk_w_get {sh : Nat → Option wk_De} {N : Nat} {ad : Nat → Nat} {cA : Nat → ClassId} {σ : wk_St} {k : Nat} (h : k < N) : (wk_w sh N ad cA σ)[k]? = some (ad k, wk_ce sh ad cA σ k) := by
  simp [wk_w, h]
theorem wk_w_set {sh : Nat → Option wk_De} {N : Nat} {ad : Nat → Nat} {cA : Nat → ClassId} {σ σ' : wk_St} {k : Nat} {e : va_E} (h : k < N) (he : wk_ce sh ad cA σ' k = e) (ho : ∀ q, q ≠ k → wk_ce sh ad cA σ' q = wk_ce sh ad cA σ q) : (wk_w sh N ad cA σ).set k (ad k, e) = wk_w sh N ad cA σ' := by
  apply List.ext_getElem?
  intro i
  by_cases hi : i = k
  · subst hi
    rw [List.getElem?_set_self (by simp [wk_w, h]), wk_w_get h, he]
  · rw [List.getElem?_set_ne (Ne.symm hi)]
    by_cases hn : i < N
    · rw [wk_w_get hn, wk_w_get hn, ho i hi]
    · simp [wk_w, hn]
theorem wk_ce_off {sh : Nat → Option wk_De} {ad : Nat → Nat} {cA : Nat → ClassId} {σ σ' : wk_St} {k : Nat} (h1 : ∀ j, σ'.1 k j = σ.1 k j) (h2 : ∀ j, σ'.2 k j = σ.2 k j) : wk_ce sh ad cA σ' k = wk_ce sh ad cA σ k := by
  have e1 : σ'.1 k = σ.1 k := funext h1
  have e2 : σ'.2 k = σ.2 k := funext h2
  unfold wk_ce
  split
  · rw [e2]
  · rw [e1]
  · congr 2
    unfold wk_fs
    congr 1
    funext j f
    congr 1
    unfold wk_rd
    split <;> simp only [e1, e2]
  · rfl
theorem wk_si_off {σ : wk_St} {o j : Nat} {x : Int32} {k : Nat} (h : k ≠ o) : (∀ q, (wk_si σ o j x).1 k q = σ.1 k q) ∧ ∀ q, (wk_si σ o j x).2 k q = σ.2 k q :=
  ⟨fun q => by simp [wk_si, h], fun q => rfl⟩
theorem wk_sl_off {σ : wk_St} {o j : Nat} {x : Int64} {k : Nat} (h : k ≠ o) : (∀ q, (wk_sl σ o j x).1 k q = σ.1 k q) ∧ ∀ q, (wk_sl σ o j x).2 k q = σ.2 k q :=
  ⟨fun q => rfl, fun q => by simp [wk_sl, h]⟩
/-- a world's addresses are what they are, whatever its cells hold -/
theorem wk_D {sh : Nat → Option wk_De} {N : Nat} {ad : Nat → Nat} {cA : Nat → ClassId} {σ σ' : wk_St} {A : Nat → Prop} (h : va_D A (wk_w sh N ad cA σ)) : va_D A (wk_w sh N ad cA σ') := by
  have key : ∀ (i : Nat) (q : Nat × va_E), (wk_w sh N ad cA σ')[i]? = some q → ∃ q', (wk_w sh N ad cA σ)[i]? = some q' ∧ q'.1 = q.1 := by
    intro i q hq
    by_cases hi : i < N
    · rw [wk_w_get hi] at hq
      cases hq
      exact ⟨_, wk_w_get hi, rfl⟩
    · simp [wk_w, hi] at hq
  refine ⟨fun i j p q hp hq e => ?_, fun k q hq => ?_⟩
  · obtain ⟨p', h1, h2⟩ := key i p hp
    obtain ⟨q', h3, h4⟩ := key j q hq
    exact h.1 i j p' q' h1 h3 (h2.trans (e.trans h4.symm))
  · obtain ⟨q', h3, h4⟩ := key k q hq
    rw [← h4]
    exact h.2 k q' h3
/-- locals: what the small machine knows of them -/
def wk_prs (ad : Nat → Nat) (als : List Value) : List (Nat × Value) := (als.zipIdx).filterMap (fun q => match q.1 with
  | .retAddr _ => none
  | v => some (q.2, wk_tr ad v))
def wk_isU (v : Value) : Bool := match v with
  | .retAddr _ => true
  | _ => false
theorem wk_prs_mem {ad : Nat → Nat} {als : List Value} {i : Nat} {w : Value} : (i, w) ∈ wk_prs ad als ↔ ∃ v, als[i]? = some v ∧ wk_isU v = false ∧ w = wk_tr ad v := by
  unfold wk_prs
  rw [List.mem_filterMap]
  constructor
  · rintro ⟨⟨v, k⟩, hm, he⟩
    have hk : als[k]? = some v := by
      rw [List.mem_zipIdx_iff_getElem?] at hm
      exact hm
    dsimp only at he
    split at he
    · cases he
    · rename_i hnr
      cases he
      refine ⟨v, hk, ?_, rfl⟩
      cases v <;> first | rfl | exact absurd rfl (hnr _)
  · rintro ⟨v, hk, hu, rfl⟩
    refine ⟨(v, i), ?_, ?_⟩
    · rw [List.mem_zipIdx_iff_getElem?]; exact hk
    · cases v <;> first | rfl | cases hu
/-- the small machine's locals against the frame's -/
def wk_LR (ad : Nat → Nat) (nL : Nat) (als : List Value) (ls : Array Slot) : Prop := als.length = nL ∧ lv_has ls nL (wk_prs ad als)
theorem wk_LR.at {ad : Nat → Nat} {nL : Nat} {als : List Value} {ls : Array Slot} (h : wk_LR ad nL als ls) {i : Nat} {v : Value} (hv : als[i]? = some v) (hu : wk_isU v = false) : ls[i]? = some (.val (wk_tr ad v)) :=
  h.2.2.2 (i, wk_tr ad v) (wk_prs_mem.mpr ⟨v, hv, hu, rfl⟩)
theorem wk_st_len (als : List Value) (a : Nat) (v : Value) : (wk_st als a v).length = als.length := by
  unfold wk_st
  split <;> simp
theorem wk_st_get {als : List Value} {a : Nat} {v : Value} (ha : a < als.length) {i : Nat} {w : Value} (h : (wk_st als a v)[i]? = some w) (hu : wk_isU w = false) : (i = a ∧ w = v) ∨ (i ≠ a ∧ als[i]? = some w ∧ ¬ (i + 1 = a ∧ w.category = 2)) := by
  cases a with
  | zero =>
    have h : (als.set 0 v)[i]? = some w := h
    by_cases hi : i = 0
    · subst hi
      rw [List.getElem?_set_self ha] at h
      exact Or.inl ⟨rfl, (Option.some.inj h).symm⟩
    · rw [List.getElem?_set_ne (Ne.symm hi)] at h
      exact Or.inr ⟨hi, h, fun q => by omega⟩
  | succ b =>
    have h : ((als.set b (wk_cl (als.getD b wk_U))).set (b + 1) v)[i]? = some w := h
    by_cases hi : i = b + 1
    · subst hi
      rw [List.getElem?_set_self (by simpa using ha)] at h
      exact Or.inl ⟨rfl, (Option.some.inj h).symm⟩
    · rw [List.getElem?_set_ne (Ne.symm hi)] at h
      by_cases hb : i = b
      · subst hb
        rw [List.getElem?_set_self (by omega)] at h
        obtain ⟨u, hu2⟩ : ∃ u, als[i]? = some u := ⟨als[i], List.getElem?_eq_getElem (by omega)⟩
        rw [List.getD_eq_getElem?_getD, hu2] at h
        have h2 := Option.some.inj h
        simp only [Option.getD_some] at h2
        unfold wk_cl at h2
        split at h2
        · subst h2
          cases hu
        · subst h2
          cases hu
        · rename_i hnl hnd
          subst h2
          refine Or.inr ⟨by omega, hu2, fun ⟨_, hx⟩ => ?_⟩
          cases u <;> first | (cases hx; done) | exact hnl _ rfl | exact hnd _ rfl
      · rw [List.getElem?_set_ne (Ne.symm hb)] at h
        exact Or.inr ⟨hi, h, fun q => by omega⟩
theorem wk_tr_cat {ad : Nat → Nat} {v : Value} : (wk_tr ad v).category = v.category := by cases v <;> rfl
theorem wk_LR.store {ad : Nat → Nat} {nL : Nat} {als : List Value} {ls : Array Slot} (h : wk_LR ad nL als ls) {a : Nat} {v : Value} (ha : a < als.length) {ls' : Array Slot}
    (h' : lv_has ls' nL ((a, wk_tr ad v) :: (wk_prs ad als).filter (fun q => !(q.1 == a) && !(q.1 + 1 == a && q.2.category == 2)))) : wk_LR ad nL (wk_st als a v) ls' := by
  refine ⟨by rw [wk_st_len]; exact h.1, h'.1, h'.2.1, fun q hq => ?_⟩
  obtain ⟨i, w⟩ := q
  obtain ⟨u, hu1, hu2, rfl⟩ := wk_prs_mem.mp hq
  refine h'.2.2 (i, wk_tr ad u) ?_
  rcases wk_st_get ha hu1 hu2 with ⟨rfl, rfl⟩ | ⟨hi, hg, hn⟩
  · exact List.mem_cons_self
  · refine List.mem_cons_of_mem _ (List.mem_filter.mpr ⟨wk_prs_mem.mpr ⟨u, hg, hu2, rfl⟩, ?_⟩)
    have hc : ¬ (i + 1 = a ∧ u.category = 2) := hn
    simp only [wk_tr_cat, Bool.and_eq_true, Bool.not_eq_true', beq_eq_false_iff_ne, ne_eq, Bool.and_eq_false_imp, beq_iff_eq, hi, not_false_eq_true, true_and]
    intro e
    simpa [e] using hc
