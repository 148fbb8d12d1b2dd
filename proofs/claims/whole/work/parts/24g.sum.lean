/-! PURE: law: a sum, its tools -/
theorem iv_wt_old {e h : Nat} {c m c2 m2 : wk_St} (k : iv_old e h c m c2 m2) : iv_wt m2 h = iv_wt m h := by
  unfold iv_wt
  by_cases h0 : h = 0
  · rw [if_pos h0, if_pos h0]
  · rw [if_neg h0, if_neg h0, k.2 (h - 1) (by omega)]
def iv_x (o : Nat) : Int32 := if o = 0 then 0 else iv_sg o
def iv_k1 (o : Nat) : Nat := if o = 0 then 0 else 1
theorem iv_x0 {o : Nat} (h : o ≤ 6) : iv_x o = 0 ↔ o = 0 := by
  rcases (show o = 0 ∨ o = 1 ∨ o = 2 ∨ o = 3 ∨ o = 4 ∨ o = 5 ∨ o = 6 by omega) with rfl | rfl | rfl | rfl | rfl | rfl | rfl <;> decide
/-- one that waits, or none: the class says it, the model's closing goes on -/
theorem po_one {t : Nat → Nat} {n p e e0 h d o k L : Nat} {c m : wk_St} (ho : o = 0 ∨ (2 ≤ o ∧ o ≤ 6)) (hY : iv_Y t n p e (h + iv_k1 o) d c m) (he : e + iv_k1 o ≤ 240) (hm : o ≠ 0 → m.1 9 h = nI (1048576 * o)) (he0 : e0 ≤ e) (hL : L ≤ 30) (hkL : k + iv_k1 o + 1 ≤ L) (hsg : iv_sgm c m L e0 e [] (List.replicate (k + iv_k1 o + 1) false)) :
    ∃ c2 m2, (if iv_x o = 0 then some c else Option.bind (f_X4_put (iv_x o) 0 c) fun v => some v.2) = some c2 ∧ (∀ x F, (o = 0 ∨ 4 ≤ o ∨ x = 1) → ∃ F2, F ≤ F2 + 1 ∧ F2 ≤ F ∧ (0 < F → wk_loop (S_X12_closesSums_0 x) F m = wk_loop (S_X12_closesSums_0 x) F2 m2)) ∧ iv_Y t n p (e + iv_k1 o) h d c2 m2 ∧ iv_wC c c2 ∧ iv_wM m m2 ∧ (∀ H, iv_old e H c m c2 m2) ∧ iv_sgm c2 m2 L e0 (e + iv_k1 o) [] (List.replicate (k + 1) false) := by
  by_cases h0 : o = 0
  · subst h0
    exact ⟨c, m, if_pos rfl, fun x F _ => ⟨F, by omega, Nat.le_refl F, fun _ => rfl⟩, hY, iv_wC_r, iv_wM_r, fun H => iv_old_r, hsg⟩
  · obtain ⟨o2, o6⟩ := ho.resolve_left h0
    have hk : iv_k1 o = 1 := if_neg h0
    have hxo : iv_x o = iv_sg o := if_neg h0
    rw [hk] at hY he hkL hsg ⊢
    obtain ⟨c2, m2, q1, q2, q3, q4, q5, q6, q7, q8, q9⟩ := po_close hY (by omega) (hm h0) o2 o6
    refine ⟨c2, m2, ?_, fun x F hx => ⟨F - 1, by omega, by omega, fun hF => ?_⟩, q3, q4, q5, q6, ?_⟩
    · rw [if_neg (fun k => h0 ((iv_x0 o6).mp k)), hxo, q1]
      rfl
    · obtain ⟨F, rfl⟩ : ∃ z, F = z + 1 := ⟨F - 1, by omega⟩
      exact wk_loopS (q2 x (hx.resolve_left h0))
    · refine iv_sgm_cat (iv_sgm_old hsg (fun j _ hj => (q6 0).1 j hj)) ?_ he0 (by omega)
      refine iv_sgm_1 o 0 (by omega) (by decide) q7 q8 q9 hL (by rw [List.length_replicate]; exact hkL) (by rw [List.length_replicate]; omega) (Or.inr (Or.inr (Or.inl ⟨o2, o6, false, false, List.replicate k false, rfl, rfl⟩)))
