/-! PURE: date -/
theorem po_dS7 {x y : Int32} {s : wk_St} (h : f_X7_isLeap x = f_X7_isLeap y) : S_X7_dateOf_6 x s = S_X7_dateOf_6 y wk_s0C := by
  have e : ∀ m, f_X7_monthLength x m s = f_X7_monthLength y m wk_s0C := by
    intro m
    unfold f_X7_monthLength
    rw [h]
  funext p
  unfold S_X7_dateOf_6
  simp only [e]
theorem po_dS12 {x y : Int32} (h : f_X12_isLeap x = f_X12_isLeap y) : S_X12_date_21 x = S_X12_date_21 y := by
  have e : ∀ m, f_X12_daysIn x m = f_X12_daysIn y m := by
    intro m
    unfold f_X12_daysIn
    rw [h]
  funext p
  unfold S_X12_date_21
  simp only [e]
def po_dm (y d : Int32) : Option Int32 := Option.bind (wk_loop (S_X12_date_21 y) wk_F ((1 : Int32), d)) fun v8 => some ((((100 : Int32) * v8.1) + v8.2) + (1 : Int32))
set_option maxRecDepth 100000 in
theorem po_d4 : (List.range 366).all (fun d => (f_X7_dateOf 4 (nI d) wk_s0C).isSome && decide (f_X7_dateOf 4 (nI d) wk_s0C = po_dm 4 (nI d))) = true := by decide +kernel
set_option maxRecDepth 100000 in
theorem po_d1 : (List.range 365).all (fun d => (f_X7_dateOf 1 (nI d) wk_s0C).isSome && decide (f_X7_dateOf 1 (nI d) wk_s0C = po_dm 1 (nI d))) = true := by decide +kernel
theorem po_dY {x y : Int32} {N d : Nat} {s : wk_St} (h7 : f_X7_isLeap x = f_X7_isLeap y) (h12 : f_X12_isLeap x = f_X12_isLeap y) (hN : (List.range N).all (fun d => (f_X7_dateOf y (nI d) wk_s0C).isSome && decide (f_X7_dateOf y (nI d) wk_s0C = po_dm y (nI d))) = true) (hd : d < N) : ∃ r, f_X7_dateOf x (nI d) s = some r ∧ po_dm x (nI d) = some r := by
  have h := List.all_eq_true.mp hN d (List.mem_range.mpr hd)
  rw [Bool.and_eq_true, decide_eq_true_iff] at h
  obtain ⟨r, hr⟩ := Option.isSome_iff_exists.mp h.1
  have e7 : f_X7_dateOf x (nI d) s = f_X7_dateOf y (nI d) wk_s0C := by
    unfold f_X7_dateOf
    rw [po_dS7 h7]
  have e12 : po_dm x (nI d) = po_dm y (nI d) := by
    unfold po_dm
    rw [po_dS12 h12]
  exact ⟨r, e7.trans hr, e12.trans (h.2.symm.trans hr)⟩
theorem po_op_29 {Inv : wk_St → wk_St → Prop} : lw_op_29 Inv := by
  intro a0 a1 σC σM hI
  cases hd : f_X12_in a0 1 9999 with
  | false =>
    exact ⟨-1, σC, σM, (t_X11_date (by unfold f_X11_date; rw [po_isDate, po_isY, hd]; rfl)).up (by decide), (t_X12_date (by unfold f_X12_date; rw [hd]; rfl)).up (by decide), hI⟩
  | true =>
    obtain ⟨j, _, hj, rfl⟩ := po_n1 (po_in hd).1
    have main : ∀ (M y : Int32) (N : Nat), M.toInt = N → f_X7_yearLength (nI j) - 1 = M → f_X7_isLeap (nI j) = f_X7_isLeap y → f_X12_isLeap (nI j) = f_X12_isLeap y → (List.range (N + 1)).all (fun d => (f_X7_dateOf y (nI d) wk_s0C).isSome && decide (f_X7_dateOf y (nI d) wk_s0C = po_dm y (nI d))) = true → f_X12_date (nI j) a1 = j_X12_date_13 (nI j) a1 M 0 a1 → ∃ r, f_X11_date (nI j) a1 σC = some r ∧ f_X12_date (nI j) a1 = some r := by
      intro M y N hM hy h7 h12 hN hj13
      rw [hj13]
      unfold f_X11_date j_X12_date_13
      rw [po_isDate, po_isY, hd]
      dsimp only [Option.bind]
      rw [hy, po_W]
      cases hin : f_X12_in a1 0 M with
      | false => exact ⟨-1, rfl, rfl⟩
      | true =>
        obtain ⟨d, hdN, rfl⟩ := nI_of2 hM (po_in hin).1 (po_le (po_in hin).2)
        obtain ⟨r, h1, h2⟩ := po_dY (s := σC) h7 h12 hN (Nat.lt_succ_of_le hdN)
        refine ⟨r, ?_, h2⟩
        rw [h1]
        rfl
    have fin : ∃ r, f_X11_date (nI j) a1 σC = some r ∧ f_X12_date (nI j) a1 = some r := by
      cases hL : f_X12_isLeap (nI j) with
      | false =>
        refine main 364 1 364 rfl ?_ ?_ ?_ po_d1 ?_
        · unfold f_X7_yearLength; rw [po_leap hj, hL]; rfl
        · rw [po_leap hj, hL]; decide +kernel
        · rw [hL]; decide +kernel
        · unfold f_X12_date; rw [hd, hL]; rfl
      | true =>
        refine main 365 4 365 rfl ?_ ?_ ?_ po_d4 ?_
        · unfold f_X7_yearLength; rw [po_leap hj, hL]; rfl
        · rw [po_leap hj, hL]; decide +kernel
        · rw [hL]; decide +kernel
        · unfold f_X12_date; rw [hd, hL]; rfl
    obtain ⟨r, h1, h2⟩ := fin
    exact ⟨r, σC, σM, (t_X11_date h1).up (by decide), (t_X12_date h2).up (by decide), hI⟩
