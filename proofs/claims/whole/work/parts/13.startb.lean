/-! THE LAW, start, piece 1 -/
theorem lw_shC : ∀ k d, wk_shC k = some d → k < 53 ∨ (k = 999 ∧ d = .inl (3, 12)) := by
  intro k d h
  unfold wk_shC at h
  cases hb : Nat.ble k 52 with
  | true => have := Nat.le_of_ble_eq_true hb; exact Or.inl (by omega)
  | false =>
    rw [hb] at h
    cases h9 : Nat.beq k 999 with
    | false => rw [h9] at h; cases h
    | true => rw [h9] at h; cases h; exact Or.inr ⟨Nat.eq_of_beq_eq_true h9, rfl⟩
theorem lw_shM : ∀ k d, wk_shM k = some d → k < 32 ∨ (k = 999 ∧ d = .inl (3, 12)) := by
  intro k d h
  unfold wk_shM at h
  cases hb : Nat.ble k 31 with
  | true => have := Nat.le_of_ble_eq_true hb; exact Or.inl (by omega)
  | false =>
    rw [hb] at h
    cases h9 : Nat.beq k 999 with
    | false => rw [h9] at h; cases h
    | true => rw [h9] at h; cases h; exact Or.inr ⟨Nat.eq_of_beq_eq_true h9, rfl⟩
/-- a kind's part of wk_OK, from one row a cell -/
def lw_kd (N : Nat) (cA : Nat → ClassId) (tys : List (ClassId × FieldType)) (k : Nat) (d : wk_De) : Prop := match d with
  | .inl (0, _) => ∃ t0 : Nat, tys[t0]? = some (cA k, .int)
  | .inl (1, _) => ∃ t0 : Nat, tys[t0]? = some (cA k, .long)
  | .inl (2, _) => ∃ t0 : Nat, tys[t0]? = some (cA k, .byte)
  | .inl _ => False
  | .inr (ci, fl) => ∃ C T n, wk_cls[ci]? = some (C, T, n) ∧ fl.length = n ∧ ∀ j f, fl[j]? = some f → wk_kd f (T j)
theorem lw_OKof {sh : Nat → Option wk_De} {N : Nat} {cA : Nat → ClassId} {tys : List (ClassId × FieldType)} (h1 : ∀ k d, sh k = some d → k < N ∨ (k = 999 ∧ d = .inl (3, 12))) (hN : N ≤ 999) (h2 : ∀ k, k < N → ∃ d, sh k = some d ∧ lw_kd N cA tys k d) : wk_OK sh N cA tys := by
  have key : ∀ k d, sh k = some d → (k < N ∧ lw_kd N cA tys k d) ∨ (k = 999 ∧ d = .inl (3, 12)) := by
    intro k d h
    rcases h1 k d h with q | q
    · obtain ⟨d2, e1, e2⟩ := h2 k q
      cases h.symm.trans e1
      exact Or.inl ⟨q, e2⟩
    · exact Or.inr q
  refine ⟨fun k n h => ?_, fun k n h => ?_, fun k n h => ?_, fun k n h => ?_, fun k ty n h => ?_, fun k ci fl h => ?_⟩
  · rcases key k _ h with ⟨-, q⟩ | ⟨q, e⟩
    · exact q.elim
    · cases e; exact ⟨q, rfl⟩
  · rcases key k _ h with ⟨a, q⟩ | ⟨q, e⟩
    · exact ⟨a, q⟩
    · cases e
  · rcases key k _ h with ⟨a, q⟩ | ⟨q, e⟩
    · exact ⟨a, q⟩
    · cases e
  · rcases key k _ h with ⟨a, q⟩ | ⟨q, e⟩
    · exact ⟨a, q⟩
    · cases e
  · rcases key k _ h with ⟨a, q⟩ | ⟨q, e⟩
    · match ty, q with
      | 0, _ => omega
      | 1, _ => omega
      | 2, _ => omega
      | t + 3, q => exact q.elim
    · cases e; omega
  · rcases key k _ h with ⟨a, q⟩ | ⟨q, e⟩
    · exact ⟨a, q⟩
    · cases e
theorem lw_kdI {f : Nat} {q : String × String × String × Bool} (h : (match f with | 0 => decide (q.2.2.1 = "I") && !q.2.2.2 | 1 => decide (q.2.2.1 = "J") && !q.2.2.2 | 2 => decide (q.2.2.1 = "Z") && !q.2.2.2 | _ => true) = true) : wk_kd f q := by
  refine ⟨fun e => ?_, fun e => ?_, fun e => ?_⟩ <;> subst e <;> simpa using h
theorem lw_kds {fl : List Nat} {T : u_T} (h : (List.range fl.length).all (fun j => (match fl.getD j 3 with | 0 => decide ((T j).2.2.1 = "I") && !(T j).2.2.2 | 1 => decide ((T j).2.2.1 = "J") && !(T j).2.2.2 | 2 => decide ((T j).2.2.1 = "Z") && !(T j).2.2.2 | _ => true)) = true) : ∀ j f, fl[j]? = some f → wk_kd f (T j) := by
  intro j f hf
  have hl := (List.getElem?_eq_some_iff.mp hf).1
  have h2 := List.all_eq_true.mp h j (List.mem_range.mpr hl)
  rw [List.getD_eq_getElem?_getD, hf] at h2
  exact lw_kdI h2
