/-! PURE: law: two sums compared -/
theorem po_cmpM {t : Nat → Nat} {n p e h d : Nat} {c m : wk_St} (hY : iv_Y t n p e h d c m) : ∀ m0, f_X12_readsSum m0 = some (true, m) → f_X12_readsCompared m0 = if iv_sgn t n p = 60 then j_X12_readsCompared_24 7 m else if iv_sgn t n p = 62 then j_X12_readsCompared_24 8 m else if iv_sgn t n p = 61 then j_X12_readsCompared_24 9 m else j_X12_readsCompared_24 (-1) m := by
  intro m0 h0
  have hs := (po_sign hY.1).2
  unfold f_X12_readsCompared
  rw [h0]
  dsimp only [Option.bind]
  rw [if_pos rfl, hs]
  dsimp only
  by_cases h1 : iv_sgn t n p = 60
  · rw [if_neg (fun k => k h1), if_pos h1]
  · rw [if_pos h1, if_neg h1]
    by_cases h2 : iv_sgn t n p = 62
    · rw [if_neg (fun k => k h2), if_pos h2]
    · rw [if_pos h2, if_neg h2]
      by_cases h3 : iv_sgn t n p = 61
      · rw [if_neg (fun k => k h3), if_pos h3]
      · rw [if_pos h3, if_neg h3]
/-- both readers take one sign -/
theorem po_step {t : Nat → Nat} {n p e h d : Nat} {c m : wk_St} (hY : iv_Y t n p e h d c m) (hp : p < n) : ∃ c2 m2, c2 = wk_si c 34 3 (c.1 34 3 + 1) ∧ m2 = wk_si m 0 10 (m.1 0 10 + 1) ∧ iv_Y t n (p + 1) e h d c2 m2 ∧ iv_wC c c2 ∧ iv_wM m m2 ∧ ∀ E H, iv_old E H c m c2 m2 := by
  have e1 : c.1 34 3 + 1 = nI (p + 1) := by rw [hY.1.2.2.2.1, nI_1]
  have e2 : m.1 0 10 + 1 = nI (p + 1) := by rw [hY.1.2.2.2.2.1, nI_1]
  refine ⟨_, _, rfl, rfl, ?_, ?_, ?_, fun E H => ⟨fun j _ => ⟨po_si_c (by decide), po_si_c (by decide), po_si_c (by decide)⟩, fun j _ => po_si_c (by decide)⟩⟩
  · rw [e1, e2]
    exact iv_Y_p hY (by omega) (by omega) (fun a h => funext (fun b => po_si_c h)) (po_si_ne (by decide)) po_si_at (fun a h => funext (fun b => po_si_c h)) po_si_at (fun b h _ _ => po_si_ne h)
  · exact ⟨rfl, fun a h _ _ _ => funext (fun b => po_si_c h), po_si_c (by decide)⟩
  · exact ⟨rfl, fun a h _ _ => funext (fun b => po_si_c h), fun b h _ _ _ _ _ => po_si_ne h⟩
