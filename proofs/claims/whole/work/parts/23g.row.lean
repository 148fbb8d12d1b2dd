/-! PURE: hunts: a row -/
theorem po_rowL {x : Int32} {t : Nat → Nat} {n d q : Nat} (hd : d ≤ 2) (hpart : iv_PART x t n d q) : ∀ e p i k c m Fc Fo G, n - p ≤ e → i ≤ p → i < 240 → e < Fc → iv_Q t n p d k c m → 4 ≤ Fo + d → wk_F ≤ G + p →
    iv_out x t n p d k (fun p2 => iv_sgn t n p2 = -1 ∨ iv_sgn t n p2 = 41) c m (Option.bind (wk_loop (S_X3_readRow_2 (g_X3_readRow q).1 (g_X3_readRow q).2.1 (g_X3_readRow q).2.2 (nI d)) Fc (nI i, c)) fun v4 => match v4 with | Sum.inl v4r => some v4r | Sum.inr v4 => some (true, v4)) (iv_A x Fo G m) := by
  intro e
  induction e using Nat.strongRecOn with
  | _ e ih =>
    intro p i k c m Fc Fo G he hip hi hFc hQ hFo hG
    obtain ⟨Fc, rfl⟩ : ∃ z, Fc = z + 1 := ⟨Fc - 1, by omega⟩
    have hFF : wk_F = 4096 := rfl
    obtain ⟨b, c2, m2, h1, h2, h3, h4⟩ := hpart p k c m Fo G hQ hFo hG
    have sC : S_X3_readRow_2 (g_X3_readRow q).1 (g_X3_readRow q).2.1 (g_X3_readRow q).2.2 (nI d) (nI i, c) = if b = true then Option.bind (f_X6_sign 30 c2) fun v2 => if v2 = (-1 : Int32) then some (Sum.inl (Sum.inl (true, c2))) else Option.bind (f_X6_sign 30 c2) fun v3 => if ¬ v3 = (41 : Int32) then some (Sum.inr (nI (i + 1), c2)) else some (Sum.inl (Sum.inl (true, c2))) else some (Sum.inl (Sum.inl (false, c2))) := by
      unfold S_X3_readRow_2
      dsimp only
      rw [if_neg (show ¬ nI i ≥ 240 from nI_ge (b := 240) (by omega) (by decide)), h1, nI_1]
      rfl
    rcases h4 with ⟨rfl, h5, h6⟩ | ⟨rfl, p2, k2, F, G2, h5, h6, _, h8, h9, h10, h11⟩
    · rw [if_neg Bool.false_ne_true] at sC
      rw [wk_loopI sC, h5]
      exact ⟨false, c2, m2, rfl, h2, h3, Or.inl ⟨rfl, rfl, h6⟩⟩
    · have hR2 := h8.1
      have hs := po_sign hR2
      have hp2 := hR2.2.1
      have hn := hR2.1
      rw [if_pos rfl, hs.1] at sC
      dsimp only [Option.bind] at sC
      by_cases hm1 : iv_sgn t n p2 = -1
      · rw [if_pos hm1] at sC
        rw [wk_loopI sC, h9]
        exact ⟨true, c2, m2, rfl, h2, h3, Or.inr ⟨rfl, p2, k2, F, G2, h5, h6, Or.inl hm1, h8, rfl, h10, h11⟩⟩
      · rw [if_neg hm1] at sC
        by_cases h41 : iv_sgn t n p2 = 41
        · rw [if_neg (fun h => h h41)] at sC
          rw [wk_loopI sC, h9]
          exact ⟨true, c2, m2, rfl, h2, h3, Or.inr ⟨rfl, p2, k2, F, G2, h5, h6, Or.inr h41, h8, rfl, h10, h11⟩⟩
        · rw [if_pos h41] at sC
          have hp2n : p2 < n := by
            by_cases h : p2 < n
            · exact h
            · exact absurd (if_neg h) hm1
          obtain ⟨G3, rfl⟩ : ∃ G3, G2 = G3 + 1 := ⟨G2 - 1, by omega⟩
          have eM : iv_BB x F (G3 + 1) m2 = iv_A x wk_F G3 m2 := by
            unfold iv_BB
            rw [po_cl1 hR2 (by omega) h41, po_28 ?_, iv_RI_e]
            · rfl
            · unfold S_X12_hunts_28
              dsimp only
              rw [if_neg (show ¬ b2i true = 0 by decide), hR2.2.2.2.2.1, hR2.2.2.2.2.2.1, if_pos (nI_lt hp2n (by omega))]
          rw [wk_loopS sC, h9, eM]
          obtain ⟨b, c3, m3, g1, g2, g3, g4⟩ := ih (n - p2) (by omega) p2 (i + 1) k2 c2 m2 Fc wk_F G3 (Nat.le_refl _) (by omega) (by omega) (by omega) h8 (by omega) (by omega)
          refine ⟨b, c3, m3, g1, iv_qC_t h2 g2, iv_qM_t h3 g3, ?_⟩
          rcases g4 with g5 | ⟨g5, p3, k3, F3, G4, g6, g7, g8, g9⟩
          · exact Or.inl g5
          · exact Or.inr ⟨g5, p3, k3, F3, G4, by omega, by omega, g8, g9⟩
theorem po_row {x : Int32} {t : Nat → Nat} {n d q : Nat} (hd : d ≤ 2) (hpart : iv_PART x t n d q) : iv_ROW x t n d (q + 1) := by
  intro p k c m Fo G hQ hFo hG
  have hn := hQ.1.1
  have hFF : wk_F = 4096 := rfl
  exact po_rowL hd hpart (n - p) p 0 k c m wk_F Fo G (Nat.le_refl _) (Nat.zero_le _) (by decide) (by omega) hQ hFo hG
theorem po_rows {x : Int32} {t : Nat → Nat} {n : Nat} : iv_ROW x t n 0 20 :=
  po_row (by decide) (po_part (q := 17) (by decide) (fun _ => po_row (q := 16) (by decide) (po_part (q := 14) (by decide) (fun _ => po_row (q := 13) (by decide) (po_part (q := 11) (by decide) (fun h => absurd h (by decide)))))))
