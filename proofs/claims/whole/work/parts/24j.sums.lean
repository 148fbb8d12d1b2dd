/-! PURE: law: a sum from without -/
theorem po_sums {b0 : Nat} {t : Nat → Nat} {n : Nat} : ∀ k d q, d + k = 6 → 2 * k + 2 ≤ q → iv_SUM b0 t n d q := by
  intro k
  induction k with
  | zero =>
    intro d q hd hq
    obtain ⟨q, rfl⟩ : ∃ z, q = z + 1 + 1 := ⟨q - 2, by omega⟩
    exact po_sum (by omega) (po_factor (by omega) (fun h => by omega))
  | succ k ih =>
    intro d q hd hq
    obtain ⟨q, rfl⟩ : ∃ z, q = z + 1 + 1 := ⟨q - 2, by omega⟩
    exact po_sum (by omega) (po_factor (by omega) (fun _ => ih (d + 1) q (by omega) (by omega)))
theorem po_readsSum {t : Nat → Nat} {n p e h d w : Nat} {c m : wk_St} (hd : d ≤ 6) (hY : iv_Y t n p e h d c m) (hew : e + w ≤ p) (hwt : ∀ o, 2 ≤ o → o ≤ 6 → ¬ iv_wt m h = nI o) :
    ∃ b c2 m2, f_X5_readSum (nI d) c = some (b, c2) ∧ f_X12_readsSum m = some (b, m2) ∧ iv_wC c c2 ∧ iv_wM m m2 ∧ iv_old e h c m c2 m2 ∧ ((b = false ∧ iv_flL c2 m2) ∨ (b = true ∧ ∃ p2 e2, p < p2 ∧ e < e2 ∧ e2 + w ≤ p2 ∧ iv_Y t n p2 e2 h d c2 m2 ∧ iv_sgm c2 m2 (15 - 2 * d) e e2 [] [false])) := by
  have hFF : wk_F = 4096 := rfl
  have eR : f_X12_readsSum m = iv_AS (nI h) wk_F wk_F m := by
    unfold f_X12_readsSum iv_AS
    rw [iv_rF_e, hY.2.2.2.2.1]
    cases iv_rF wk_F m with
    | none => rfl
    | some v =>
      dsimp only [Option.bind]
      by_cases hb : v.1 = true
      · rw [if_pos hb, if_pos hb]
        cases wk_loop (S_X12_readsSum_8 (nI h)) wk_F v.2 <;> rfl
      · rw [if_neg hb, if_neg hb]
  obtain ⟨b, c2, m2, f1, f2, f3, f4, f5⟩ := po_sums (b0 := h) (t := t) (n := n) (6 - d) d 20 (by omega) (by omega) p e h w c m wk_F wk_F hY hew (Nat.le_refl h) (by omega) (by omega) hwt
  have f1' : f_X5_readSum (nI d) c = some (b, c2) := f1
  rcases f5 with ⟨rfl, f6, f7⟩ | ⟨rfl, p2, e2, G2, m1, H, u1, u2, u3, u4, u5, u6, u7, u8, u9, u10, u11, u12, u13, u14, u15, u16⟩
  · exact ⟨false, c2, m2, f1', eR.trans f6, f2, f3, f4, Or.inl ⟨rfl, f7⟩⟩
  · have hp2 := u4.1.2.1
    have hn := u4.1.1
    obtain ⟨G3, rfl⟩ : ∃ z, G2 = z + 1 := ⟨G2 - 1, by omega⟩
    have hno : f_X12_hasOpenSum (nI h) m1 = some false := po_hasNo u12 (by omega) u10 u13
    have e78 : j_X12_readsSum_78_l8 (nI h) m1 = some (Sum.inl (true, m2)) := by
      unfold j_X12_readsSum_78_l8
      rw [hno]
      dsimp only [Option.bind]
      rw [if_pos rfl, u8]
    have eS : S_X12_readsSum_8 (nI h) m1 = some (Sum.inl (true, m2)) := by
      unfold S_X12_readsSum_8 wk_let
      rw [(po_sign u9).2]
      dsimp only [Option.bind]
      rw [u16, if_pos rfl]
      by_cases h93 : iv_sgn t n p2 = 93
      · rw [if_neg (fun k => k h93), hno]
        dsimp only
        rw [if_pos rfl, e78]
      · rw [if_pos h93, e78]
    refine ⟨true, c2, m2, f1', ?_, f2, f3, f4, Or.inr ⟨rfl, p2, e2, u1, u2, u3, u4, u5⟩⟩
    rw [eR, u6]
    exact wk_loopI eS
