/-! PURE: feast -/
theorem po_isM1 {x0 x1 : Int32} : f_X12_isDate x0 x1 1 = f_X12_isMonth x0 x1 := by
  unfold f_X12_isDate
  have e : f_X12_in 1 1 (f_X12_daysIn x0 x1) = true := by
    unfold f_X12_daysIn
    repeat' split
    all_goals decide +kernel
  rw [e]
  cases f_X12_isMonth x0 x1 <;> rfl
theorem po_rem7 (q : Int32) : ∃ b : Nat, b < 13 ∧ wk_rem q 7 = nI b - nI 6 := by
  have h : (wk_rem q 7).toInt = q.toInt.tmod 7 := rem_toInt q 7
  have h1 : q.toInt.tmod 7 < 7 := Int.tmod_lt_of_pos _ (by decide)
  have h2 : -7 < q.toInt.tmod 7 := Int.lt_tmod_of_pos _ (by decide)
  refine ⟨(q.toInt.tmod 7 + 6).toNat, by omega, Int32.toInt_inj.mp ?_⟩
  rw [Int32.toInt_sub, nI_toInt (by omega), nI_toInt (by decide), h, Int.bmod_eq_of_le (by omega) (by omega)]
  omega
theorem po_fmT : (List.range 7).all (fun a => (List.range 13).all (fun b => decide (f_J9_floorMod_7cf53 (nI a - (nI b - nI 6)) 7 = some (wk_rem ((nI a + 7) - (nI b - nI 6)) 7)))) = true := by decide +kernel
theorem po_fm {x q : Int32} (h : f_X12_in x 0 6 = true) : f_J9_floorMod_7cf53 (x - wk_rem q 7) 7 = some (wk_rem ((x + 7) - wk_rem q 7) 7) := by
  obtain ⟨b, hb, e⟩ := po_rem7 q
  obtain ⟨a, ha, rfl⟩ := nI_of2 (M := 6) (n := 6) rfl (po_in h).1 (po_le (po_in h).2)
  rw [e]
  exact of_decide_eq_true (List.all_eq_true.mp (List.all_eq_true.mp po_fmT a (List.mem_range.mpr (by omega))) b (List.mem_range.mpr hb))
theorem po_op_27 {Inv : wk_St → wk_St → Prop} : lw_op_27 Inv := by
  intro a0 a1 a2 a3 σC σM hI
  have fin : ∃ r, f_X11_feast a0 a1 a2 a3 σC = some r ∧ f_X12_feast a0 a1 a2 a3 = some r := by
    unfold f_X11_feast f_X12_feast
    rw [po_isDate, po_isM1, po_W]
    cases hm : f_X12_isMonth a0 a1 with
    | false => exact ⟨-1, rfl, rfl⟩
    | true =>
      cases h2 : f_X12_in a2 1 5 with
      | false => exact ⟨-1, rfl, rfl⟩
      | true =>
        cases h3 : f_X12_in a3 0 6 with
        | false => exact ⟨-1, rfl, rfl⟩
        | true =>
          obtain ⟨r, h4, h5⟩ := po_days (x2 := 1) (s := σC) hm
          obtain ⟨j, k, hj, hk0, hk, rfl, rfl⟩ := po_month hm
          unfold f_X7_weekdayOf f_X12_weekdayOf
          rw [h4, h5]
          dsimp only [Option.bind, wk_let]
          rw [po_fm h3, po_ml hj (nI_nlt (a := k) (b := 1) (by omega) (by omega) : ¬ nI k < nI 1) (nI_le hk (by decide) : nI k ≤ nI 12)]
          by_cases hc : 1 + wk_rem (a3 + 7 - wk_rem (r + 1) 7) 7 + 7 * (a2 - 1) > f_X12_daysIn (nI j) (nI k)
          · exact ⟨-2, by simp [hc], by simp [hc]⟩
          · exact ⟨_, by simp [hc]; rfl, by simp [hc]⟩
  obtain ⟨r, h1, h2⟩ := fin
  exact ⟨r, σC, σM, (t_X11_feast h1).up (by decide), (t_X12_feast h2).up (by decide), hI⟩
