/-! PURE: the calendar -/
def po_I (p : Int32 × Int32) : Prop := ∃ i : Nat, 0 < i ∧ i ≤ 12 ∧ p.2 = nI i
theorem po_month {x0 x1 : Int32} (h : f_X12_isMonth x0 x1 = true) : ∃ j k : Nat, j < 2 ^ 31 ∧ 0 < k ∧ k ≤ 12 ∧ x0 = nI j ∧ x1 = nI k := by
  unfold f_X12_isMonth at h
  cases hy : f_X12_in x0 1 9999 with
  | false => rw [hy] at h; simp at h
  | true =>
    cases hm : f_X12_in x1 1 12 with
    | false => rw [hy, hm] at h; simp at h
    | true =>
      obtain ⟨j, _, hj, rfl⟩ := po_n1 (po_in hy).1
      obtain ⟨k, hk0, hk, rfl⟩ := po_n1 (po_in hm).1
      exact ⟨j, k, hj, hk0, (nI_leI hk (by decide)).mp (po_le (po_in hm).2), rfl, rfl⟩
theorem po_days {x0 x1 x2 : Int32} {s : wk_St} (h : f_X12_isMonth x0 x1 = true) : ∃ r, f_X12_daysTo x0 x1 x2 = some r ∧ f_X7_dayNumber x0 x1 x2 s = some r := by
  obtain ⟨j, k, hj, hk0, hk, rfl, rfl⟩ := po_month h
  have e1 : f_X7_dayNumber (nI j) (nI k) x2 s = f_X12_daysTo (nI j) (nI k) x2 := by
    have el : ∀ p, po_I p → wk_loop (S_X7_dayNumber_26 (nI j) (nI k) s) wk_F p = wk_loop (S_X12_daysTo_26 (nI j) (nI k)) wk_F p := by
      refine po_loopEq po_I ?_ ?_ wk_F
      · rintro ⟨a, m⟩ ⟨i, hi0, hi, e⟩
        have e : m = nI i := e
        subst e
        unfold S_X7_dayNumber_26 S_X12_daysTo_26 wk_let
        by_cases hm : nI i ≥ nI k
        · simp only [if_pos hm]
        · have h12 : ¬ nI i > 12 := (nI_nlt (a := 12) (b := i) hi (by decide) : ¬ nI 12 < nI i)
          simp only [if_neg hm, if_neg h12]
          rw [po_ml hj (nI_nlt (a := i) (b := 1) (by omega) (by omega) : ¬ nI i < nI 1) (nI_le hi (by decide) : nI i ≤ nI 12)]
          rfl
      · rintro ⟨a, m⟩ q ⟨i, hi0, hi, e⟩ hq
        have e : m = nI i := e
        subst e
        unfold S_X12_daysTo_26 wk_let at hq
        by_cases hm : nI i ≥ nI k
        · simp only [if_pos hm] at hq; cases hq
        · simp only [if_neg hm] at hq
          cases hq
          have hlt : i < k := by
            refine Nat.lt_of_not_le (fun hc => hm ?_)
            exact nI_le hc (by omega)
          exact ⟨i + 1, by omega, by omega, nI_1 i⟩
    unfold f_X7_dayNumber f_X12_daysTo wk_let
    dsimp only
    rw [el (_, 1) ⟨1, by decide, by decide, rfl⟩]
  obtain ⟨a, ha, _⟩ := po_loopTot (f := S_X12_daysTo_26 (nI j) (nI k)) po_I (fun _ => True) (fun p => 13 - p.2.toNatClampNeg) (by
    rintro ⟨a, m⟩ ⟨i, hi0, hi, e⟩
    have e : m = nI i := e
    subst e
    unfold S_X12_daysTo_26 wk_let
    by_cases hm : nI i ≥ nI k
    · left; exact ⟨a, by simp only [if_pos hm], trivial⟩
    · right
      have hlt : i < k := by
        refine Nat.lt_of_not_le (fun hc => hm ?_)
        exact nI_le hc (by omega)
      refine ⟨_, by simp only [if_neg hm]; rfl, ⟨i + 1, by omega, by omega, nI_1 i⟩, ?_⟩
      show 13 - (nI i + 1).toNatClampNeg < 13 - (nI i).toNatClampNeg
      rw [nI_1, nI_clamp (by omega), nI_clamp (by omega)]
      omega) wk_F ((365 * (nI j - 1) + (nI j - 1) / 4 - (nI j - 1) / 100 + (nI j - 1) / 400 + x2 - 1), 1) ⟨1, by decide, by decide, rfl⟩ (by show 13 - (1 : Int32).toNatClampNeg < 4096; decide)
  refine ⟨a, ?_, ?_⟩
  · unfold f_X12_daysTo wk_let
    dsimp only
    rw [ha]; rfl
  · rw [e1]
    unfold f_X12_daysTo wk_let
    dsimp only
    rw [ha]; rfl
theorem po_isDM {x0 x1 x2 : Int32} (h : f_X12_isDate x0 x1 x2 = true) : f_X12_isMonth x0 x1 = true := by
  unfold f_X12_isDate at h
  cases hm : f_X12_isMonth x0 x1 with
  | true => rfl
  | false => rw [hm] at h; simp at h
theorem po_op_25 {Inv : wk_St → wk_St → Prop} : lw_op_25 Inv := by
  intro a0 a1 a2 σC σM hI
  cases hd : f_X12_isDate a0 a1 a2 with
  | false =>
    exact ⟨-1, σC, σM, (t_X11_weekday (by unfold f_X11_weekday; rw [po_isDate, hd]; rfl)).up (by decide), (t_X12_weekday (by unfold f_X12_weekday; rw [hd]; rfl)).up (by decide), hI⟩
  | true =>
    obtain ⟨r, h1, h2⟩ := po_days (x2 := a2) (s := σC) (po_isDM hd)
    exact ⟨wk_rem (r + 1) 7, σC, σM, (t_X11_weekday (by unfold f_X11_weekday f_X7_weekdayOf; rw [po_isDate, hd, h2]; rfl)).up (by decide), (t_X12_weekday (by unfold f_X12_weekday f_X12_weekdayOf; rw [hd, h1]; rfl)).up (by decide), hI⟩
theorem po_op_26 {Inv : wk_St → wk_St → Prop} : lw_op_26 Inv := by
  intro a0 a1 a2 a3 a4 a5 σC σM hI
  cases hd : f_X12_isDate a0 a1 a2 with
  | false =>
    exact ⟨-10000000, σC, σM, (t_X11_daysBetween (by unfold f_X11_daysBetween; rw [po_isDate, hd]; rfl)).up (by decide), (t_X12_daysBetween (by unfold f_X12_daysBetween; rw [hd]; rfl)).up (by decide), hI⟩
  | true =>
    cases he : f_X12_isDate a3 a4 a5 with
    | false =>
      exact ⟨-10000000, σC, σM, (t_X11_daysBetween (by unfold f_X11_daysBetween; rw [po_isDate, hd, po_isDate, he]; rfl)).up (by decide), (t_X12_daysBetween (by unfold f_X12_daysBetween; rw [hd, he]; rfl)).up (by decide), hI⟩
    | true =>
      obtain ⟨r, h1, h2⟩ := po_days (x2 := a2) (s := σC) (po_isDM hd)
      obtain ⟨q, h3, h4⟩ := po_days (x2 := a5) (s := σC) (po_isDM he)
      exact ⟨q - r, σC, σM, (t_X11_daysBetween (by unfold f_X11_daysBetween; rw [po_isDate, hd, po_isDate, he, h4, h2]; rfl)).up (by decide), (t_X12_daysBetween (by unfold f_X12_daysBetween; rw [hd, he, h1, h3]; rfl)).up (by decide), hI⟩
theorem po_isY {x : Int32} : f_X12_isDate x 1 1 = f_X12_in x 1 9999 := by
  unfold f_X12_isDate f_X12_isMonth
  have e1 : f_X12_in 1 1 12 = true := by decide +kernel
  have e2 : f_X12_daysIn x 1 = 31 := by
    unfold f_X12_daysIn
    rfl
  have e3 : f_X12_in 1 1 31 = true := by decide +kernel
  rw [e1, e2, e3]
  cases f_X12_in x 1 9999 <;> rfl
theorem po_op_28 {Inv : wk_St → wk_St → Prop} : lw_op_28 Inv := by
  intro a0 σC σM hI
  cases hd : f_X12_in a0 1 9999 with
  | false =>
    exact ⟨-1, σC, σM, (t_X11_easter (by unfold f_X11_easter; rw [po_isDate, po_isY, hd]; rfl)).up (by decide), (t_X12_easter (by unfold f_X12_easter; rw [hd]; rfl)).up (by decide), hI⟩
  | true =>
    exact ⟨f_X7_easterOf a0, σC, σM, (t_X11_easter (by unfold f_X11_easter; rw [po_isDate, po_isY, hd]; rfl)).up (by decide), (t_X12_easter (by unfold f_X12_easter f_X7_easterOf; rw [hd]; simp only [wk_let]; rfl)).up (by decide), hI⟩
