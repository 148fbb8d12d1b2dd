/-! PURE: law: two sums compared -/
theorem po_cmpM {t : Nat → Nat} {n p e h d : Nat} {c m : wk_St} (hY : iv_Y t n p e h d c m) : ∀ m0, f_X12_readsSum m0 = some (true, m) → f_X12_readsCompared m0 = if iv_sgn t n p = 60 then j_X12_readsCompared_24 7 m else if iv_sgn t n p = 62 then j_X12_readsCompared_24 8 m else if iv_sgn t n p = 61 then j_X12_readsCompared_24 9 m else j_X12_readsCompared_24 (-1) m := by
  intro m0 h0
  have hs := (po_sign hY.1).2
  unfold f_X12_readsCompared
  rw [h0]
  dsimp only [Option.bind]
  rw [if_pos rfl, hs]
  dsimp only
  by_cases h1 : iv_sgn t n p = 60
  · rw [if_neg (fun k => k h1), if_pos h1]
  · rw [if_pos h1, if_neg h1]
    by_cases h2 : iv_sgn t n p = 62
    · rw [if_neg (fun k => k h2), if_pos h2]
    · rw [if_pos h2, if_neg h2]
      by_cases h3 : iv_sgn t n p = 61
      · rw [if_neg (fun k => k h3), if_pos h3]
      · rw [if_pos h3, if_neg h3]
