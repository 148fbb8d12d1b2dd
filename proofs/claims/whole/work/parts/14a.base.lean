/-! PURE: loops, small numbers -/
theorem po_loopEq {A P : Type} {f g : P → Option (A ⊕ P)} (I : P → Prop) (h : ∀ p, I p → f p = g p) (hI : ∀ p q, I p → g p = some (Sum.inr q) → I q) : ∀ n p, I p → wk_loop f n p = wk_loop g n p := by
  intro n
  induction n with
  | zero => intro p _; rfl
  | succ n ih =>
    intro p hp
    unfold wk_loop
    rw [h p hp]
    cases e : g p with
    | none => rfl
    | some o =>
      cases o with
      | inl a => rfl
      | inr q => exact ih q (hI p q hp e)
theorem po_loopTot {A P : Type} {f : P → Option (A ⊕ P)} (I : P → Prop) (B : A → Prop) (μ : P → Nat) (h : ∀ p, I p → (∃ a, f p = some (Sum.inl a) ∧ B a) ∨ (∃ q, f p = some (Sum.inr q) ∧ I q ∧ μ q < μ p)) : ∀ n p, I p → μ p < n → ∃ a, wk_loop f n p = some a ∧ B a := by
  intro n
  induction n with
  | zero => intro p _ hn; omega
  | succ n ih =>
    intro p hp hn
    unfold wk_loop
    rcases h p hp with ⟨a, e, ha⟩ | ⟨q, e, hq, hm⟩
    · rw [e]; exact ⟨a, rfl, ha⟩
    · rw [e]; exact ih q hq (by omega)
theorem po_n1 {x : Int32} (h : ¬ x < 1) : ∃ j, 0 < j ∧ j < 2 ^ 31 ∧ x = nI j := by
  have h0 : ¬ x < 0 := fun q => h (by
    rw [Int32.lt_iff_toInt_lt] at q ⊢
    have e0 : (0 : Int32).toInt = 0 := rfl
    have e1 : (1 : Int32).toInt = 1 := rfl
    omega)
  obtain ⟨j, hj, rfl⟩ := nI_of h0
  refine ⟨j, ?_, hj, rfl⟩
  cases j with
  | zero => exact absurd (by decide) h
  | succ j => omega
theorem po_rem {a d : Nat} (ha : a < 2 ^ 31) (h0 : 0 < d) (hd : d < 2 ^ 31) : wk_rem (nI a) (nI d) = nI (a % d) := pk_rem ha h0 hd
theorem po_r0 {a d : Nat} (ha : a < 2 ^ 31) (h0 : 0 < d) (hd : d < 2 ^ 31) : wk_rem (nI a) (nI d) = 0 ↔ a % d = 0 := by
  rw [po_rem ha h0 hd, ← nI_0, nI_eq (Nat.lt_trans (Nat.mod_lt _ h0) hd) (by decide)]
theorem po_leap {j : Nat} (hj : j < 2 ^ 31) : f_X7_isLeap (nI j) = f_X12_isLeap (nI j) := by
  have e4 : wk_rem (nI j) 4 = 0 ↔ j % 4 = 0 := po_r0 (a := j) (d := 4) hj (by decide) (by decide)
  have e100 : wk_rem (nI j) 100 = 0 ↔ j % 100 = 0 := po_r0 (a := j) (d := 100) hj (by decide) (by decide)
  have e400 : wk_rem (nI j) 400 = 0 ↔ j % 400 = 0 := po_r0 (a := j) (d := 400) hj (by decide) (by decide)
  unfold f_X7_isLeap f_X12_isLeap
  simp only [e4, e100, e400]
  by_cases a : j % 4 = 0 <;> by_cases b : j % 100 = 0 <;> by_cases c : j % 400 = 0 <;> simp [a, b, c] <;> omega
theorem po_12 {x : Int32} (h1 : ¬ x < 1) (h2 : x ≤ 12) : x = 1 ∨ x = 2 ∨ x = 3 ∨ x = 4 ∨ x = 5 ∨ x = 6 ∨ x = 7 ∨ x = 8 ∨ x = 9 ∨ x = 10 ∨ x = 11 ∨ x = 12 := by
  obtain ⟨j, h0, hj, rfl⟩ := po_n1 h1
  have hj2 : j ≤ 12 := (nI_leI hj (by decide)).mp h2
  rcases (show j = 1 ∨ j = 2 ∨ j = 3 ∨ j = 4 ∨ j = 5 ∨ j = 6 ∨ j = 7 ∨ j = 8 ∨ j = 9 ∨ j = 10 ∨ j = 11 ∨ j = 12 by omega) with rfl | rfl | rfl | rfl | rfl | rfl | rfl | rfl | rfl | rfl | rfl | rfl
  all_goals decide +kernel
theorem po_ml {j : Nat} {x1 : Int32} {s : wk_St} (hj : j < 2 ^ 31) (h1 : ¬ x1 < 1) (h2 : x1 ≤ 12) : f_X7_monthLength (nI j) x1 s = some (f_X12_daysIn (nI j) x1) := by
  unfold f_X7_monthLength f_X12_daysIn
  rw [po_leap hj]
  generalize f_X12_isLeap (nI j) = L
  rcases po_12 h1 h2 with rfl | rfl | rfl | rfl | rfl | rfl | rfl | rfl | rfl | rfl | rfl | rfl
  all_goals cases L <;> decide +kernel
theorem po_W : f_X11_isWithin = f_X12_in := rfl
theorem po_in {x a b : Int32} (h : f_X12_in x a b = true) : ¬ x < a ∧ ¬ x > b := by
  unfold f_X12_in at h
  by_cases h1 : x < a
  · rw [if_pos h1] at h; cases h
  · rw [if_neg h1] at h
    by_cases h2 : x > b
    · rw [if_pos h2] at h; cases h
    · exact ⟨h1, h2⟩
theorem po_le {x b : Int32} (h : ¬ x > b) : x ≤ b := by
  have h2 : ¬ b < x := h
  rw [Int32.lt_iff_toInt_lt] at h2
  rw [Int32.le_iff_toInt_le]
  omega
theorem po_ml0 {x0 x1 : Int32} {s : wk_St} (h : f_X12_in x1 1 12 = false) : f_X7_monthLength x0 x1 s = some 0 := by
  unfold f_X12_in at h
  unfold f_X7_monthLength
  by_cases h1 : x1 < 1
  · rw [if_pos h1]
  · rw [if_neg h1] at h ⊢
    by_cases h2 : x1 > 12
    · have h3 : ¬ x1 ≤ 12 := by
        have h4 : (12 : Int32) < x1 := h2
        rw [Int32.lt_iff_toInt_lt] at h4
        rw [Int32.le_iff_toInt_le]
        omega
      rw [if_neg h3]
    · rw [if_neg h2] at h; cases h
theorem po_in10 (x : Int32) : f_X12_in x 1 0 = false := by
  unfold f_X12_in
  by_cases h1 : x < 1
  · rw [if_pos h1]
  · rw [if_neg h1]
    have h2 : x > 0 := by
      show (0 : Int32) < x
      rw [Int32.lt_iff_toInt_lt] at h1 ⊢
      have e0 : (0 : Int32).toInt = 0 := rfl
      have e1 : (1 : Int32).toInt = 1 := rfl
      omega
    rw [if_pos h2]
theorem po_isDate {x0 x1 x2 : Int32} {s : wk_St} : f_X7_isDate x0 x1 x2 s = some (f_X12_isDate x0 x1 x2) := by
  unfold f_X7_isDate f_X12_isDate f_X12_isMonth
  rw [po_W]
  cases hy : f_X12_in x0 1 9999 with
  | false => simp
  | true =>
    obtain ⟨j, _, hj, rfl⟩ := po_n1 (po_in hy).1
    cases hm : f_X12_in x1 1 12 with
    | false =>
      rw [po_ml0 hm]
      simp [po_in10]
    | true =>
      rw [po_ml hj (po_in hm).1 (po_le (po_in hm).2)]
      cases hd : f_X12_in x2 1 (f_X12_daysIn (nI j) x1) with
      | false => simp [hd]
      | true => simp [hd]
