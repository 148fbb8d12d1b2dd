/-! PURE: law: a sum -/
theorem iv_old_m {e h e0 h0 : Nat} {c m c2 m2 : wk_St} (k : iv_old e h c m c2 m2) (he : e0 ≤ e) (hh : h0 ≤ h) : iv_old e0 h0 c m c2 m2 := ⟨fun j hj => k.1 j (by omega), fun j hj => k.2 j (by omega)⟩
theorem po_sumL {b0 : Nat} {t : Nat → Nat} {n d q : Nat} (hd : d ≤ 6) (hf : iv_FACT b0 t n d q) : ∀ N p i e o3 o4 w h e0 c m Fc Ff G, n - p ≤ N → i ≤ p → i < 240 → N < Fc → (o3 = 0 ∨ 4 ≤ o3 ∧ o3 ≤ 6) → (o4 = 0 ∨ 2 ≤ o4 ∧ o4 ≤ 3) → iv_Y t n p e (h + iv_k1 o4 + iv_k1 o3) d c m → (o4 ≠ 0 → m.1 9 h = nI (1048576 * o4)) → (o3 ≠ 0 → m.1 9 (h + iv_k1 o4) = nI (1048576 * o3)) → e + w + iv_k1 o4 + iv_k1 o3 ≤ p → b0 ≤ h → 7 ≤ Ff + d → wk_F ≤ G + p → (∀ o, 2 ≤ o → o ≤ 6 → ¬ iv_wt m h = nI o) → e0 ≤ e → iv_sgm c m (15 - 2 * d) e0 e [] (List.replicate (iv_k1 o4 + iv_k1 o3) false) →
    ∃ b c2 m2, (Option.bind (wk_loop (S_X5_readSum_6 (g_X5_readSum q).1 (g_X5_readSum q).2 (nI d)) Fc (iv_x o3, iv_x o4, nI i, c)) fun v5 => match v5 with | Sum.inl v5r => some v5r | Sum.inr v5 => some (true, v5)) = some (b, c2) ∧ iv_wC c c2 ∧ iv_wM m m2 ∧ iv_old e0 h c m c2 m2 ∧ ((b = false ∧ iv_AS (nI b0) Ff G m = some (false, m2) ∧ iv_flL c2 m2) ∨
    (b = true ∧ ∃ p2 e2 G2 m1 H, p < p2 ∧ e < e2 ∧ e2 + w ≤ p2 ∧ iv_Y t n p2 e2 h d c2 m2 ∧ iv_sgm c2 m2 (15 - 2 * d) e0 e2 [] [false] ∧ iv_AS (nI b0) Ff G m = wk_loop (S_X12_readsSum_8 (nI b0)) G2 m1 ∧ wk_F + 1 ≤ G2 + p2 ∧
      f_X12_closesSums 1 m1 = some m2 ∧ iv_RD 34 t n p2 c2 m1 ∧ h ≤ H ∧ H ≤ p2 ∧ m1.1 0 16 = nI H ∧ (∀ i, h ≤ i → i < H → ∃ o, 2 ≤ o ∧ o ≤ 6 ∧ m1.1 9 i = nI (1048576 * o)) ∧ iv_wM m m1 ∧ iv_old e0 h c m c2 m1 ∧ f_X12_sumSign (iv_sgn t n p2) = -1)) := by
  intro N
  induction N using Nat.strongRecOn with
  | _ N ih =>
    intro p i e o3 o4 w h e0 c m Fc Ff G hN hip hi hFc ho3 ho4 hY hm4 hm3 hew hb hFf hG hwt he0 hsg
    obtain ⟨Fc, rfl⟩ : ∃ z, Fc = z + 1 := ⟨Fc - 1, by omega⟩
    have hFF : wk_F = 4096 := rfl
    have k4 : iv_k1 o4 ≤ 1 := by unfold iv_k1; split <;> omega
    have k3 : iv_k1 o3 ≤ 1 := by unfold iv_k1; split <;> omega
    obtain ⟨b, c1, m1, f1, f2, f3, f4, f5⟩ := hf p e (h + iv_k1 o4 + iv_k1 o3) (w + iv_k1 o4 + iv_k1 o3) c m Ff G hY (by omega) (by omega) hFf hG
    have hoo : iv_old e0 h c m c1 m1 := iv_old_m f4 he0 (by omega)
    have sC : S_X5_readSum_6 (g_X5_readSum q).1 (g_X5_readSum q).2 (nI d) (iv_x o3, iv_x o4, nI i, c) = if b = true then Option.bind (if iv_x o3 = 0 then some c1 else Option.bind (f_X4_put (iv_x o3) 0 c1) fun v => some v.2) fun v => j_X5_readSum_23_l6 (g_X5_readSum q).1 (g_X5_readSum q).2 (nI d) (iv_x o4) (nI i) v else some (Sum.inl (Sum.inl (false, c1))) := by
      unfold S_X5_readSum_6
      dsimp only
      rw [if_neg (show ¬ nI i ≥ 240 from nI_ge (b := 240) (by omega) (by decide)), f1]
      dsimp only [Option.bind]
      by_cases hx : iv_x o3 = 0
      · rw [if_pos hx, if_pos hx]
      · rw [if_neg hx, if_neg hx]
        cases f_X4_put (iv_x o3) 0 c1 <;> rfl
    rcases f5 with ⟨rfl, f6, f7⟩ | ⟨rfl, p1, e1, G1, f6, f7, f8, f9, f10, f11, f12⟩
    · rw [if_neg Bool.false_ne_true] at sC
      rw [wk_loopI sC]
      exact ⟨false, c1, m1, rfl, f2, f3, hoo, Or.inl ⟨rfl, f6, f7⟩⟩
    · have hp1n : p1 ≤ n := f9.1.2.1
      have hn : n ≤ 240 := f9.1.1
      have hh1 : h + iv_k1 o4 + iv_k1 o3 ≤ p1 := f9.2.1
      obtain ⟨G3, rfl⟩ : ∃ z, G1 = z + 1 := ⟨G1 - 1, by omega⟩
      have hsg1 : iv_sgm c1 m1 (15 - 2 * d) e0 e1 [] (List.replicate (iv_k1 o4 + iv_k1 o3 + 1) false) := by
        refine iv_sgm_cat (iv_sgm_old hsg (fun j _ hj => f4.1 j hj)) ?_ he0 (by omega)
        have := iv_sgm_sh (List.replicate (iv_k1 o4 + iv_k1 o3) false) f10 (by rw [List.length_replicate]; omega)
        exact iv_sgm_L this (by rw [List.length_replicate]; omega)
      obtain ⟨c2, m2, x1, x2, x3, x4, x5, x6, x7⟩ := po_one (t := t) (n := n) (p := p1) (e := e1) (e0 := e0) (h := h + iv_k1 o4) (d := d) (o := o3) (k := iv_k1 o4) (L := 15 - 2 * d) (by omega) f9 (by omega) (fun h0 => by rw [f4.2 (h + iv_k1 o4) (by have : iv_k1 o3 = 1 := if_neg h0; omega)]; exact hm3 h0) (by omega) (by omega) (by omega) hsg1
      have w1 : iv_old e0 (h + iv_k1 o4) c m c2 m2 := iv_old_t (iv_old_m f4 he0 (by omega)) (x6 (h + iv_k1 o4)) (by omega) (Nat.le_refl _)
      have wt2 : iv_wt m2 h = iv_wt m h := iv_wt_old (iv_old_m w1 (Nat.le_refl e0) (by omega))
      have hm4' : o4 ≠ 0 → m2.1 9 h = nI (1048576 * o4) := fun h0 => by rw [w1.2 h (by have : iv_k1 o4 = 1 := if_neg h0; omega)]; exact hm4 h0
      rw [if_pos rfl, x1] at sC
      dsimp only [Option.bind] at sC
      unfold j_X5_readSum_23_l6 at sC
      rw [(po_sign x3.1).1] at sC
      dsimp only [Option.bind] at sC
      have c23 : c2.1 34 3 + 1 = nI (p1 + 1) := by rw [x3.1.2.2.2.1, nI_1]
      have hS8 : ∀ o, f_X12_sumSign (iv_sgn t n p1) = nI o → o ≤ 6 → S_X12_readsSum_8 (nI b0) m1 = if nI o ≥ 4 then j_X12_readsSum_22_l8 (nI b0) (nI o) 0 m1 else j_X12_readsSum_22_l8 (nI b0) (nI o) 1 m1 := fun o e6 o6 => by
        unfold S_X12_readsSum_8 wk_let
        rw [(po_sign f9.1).2]
        dsimp only [Option.bind]
        rw [e6, if_neg (po_m1 (by omega))]
      obtain ⟨c3, m3, a1, a2, a3, a4, a5, a6, a7⟩ := po_one (t := t) (n := n) (p := p1) (e := e1 + iv_k1 o3) (e0 := e0) (h := h) (d := d) (o := o4) (k := 0) (L := 15 - 2 * d) (by omega) x3 (by omega) hm4' (by omega) (by omega) (by omega) (by rw [Nat.zero_add]; exact x7)
      have w3 : iv_old e0 h c m c3 m3 := iv_old_t (iv_old_m w1 (Nat.le_refl e0) (by omega)) (a6 h) (by omega) (Nat.le_refl _)
      have wt3 : iv_wt m3 h = iv_wt m h := iv_wt_old w3
      have hcl3 : f_X12_closesSums 1 m1 = some m3 := by
        obtain ⟨F2, y1, y2, y3⟩ := x2 1 wk_F (Or.inr (Or.inr rfl))
        obtain ⟨F3, y4, y5, y6⟩ := a2 1 F2 (Or.inr (Or.inr rfl))
        obtain ⟨F4, rfl⟩ : ∃ z, F3 = z + 1 := ⟨F3 - 1, by omega⟩
        have hstop : S_X12_closesSums_0 1 m3 = some (Sum.inl m3) := po_stop a3.2.2.2.2.1 (by have := a3.2.1; omega) (fun o' b1 b2 _ => by rw [wt3]; exact hwt o' b1 b2)
        unfold f_X12_closesSums
        rw [y3 (by omega), y6 (by omega), wk_loopI hstop]
        rfl
      rcases po_sumSg (iv_sgn t n p1) with ⟨o, o2, o6, hσ, hss⟩ | ⟨hss, n43, n45, n42, n47, n37⟩
      · have hpn : p1 < n := by
          by_cases h : p1 < n
          · exact h
          · exfalso
            rw [show iv_sgn t n p1 = -1 from if_neg h] at hσ
            rcases (show o = 2 ∨ o = 3 ∨ o = 4 ∨ o = 5 ∨ o = 6 by omega) with rfl | rfl | rfl | rfl | rfl <;> exact absurd hσ (by decide)
        have hxo : iv_x o = iv_sg o := if_neg (by omega)
        have ho1 : iv_k1 o = 1 := if_neg (by omega)
        by_cases h4 : 4 ≤ o
        · -- a product's sign
          obtain ⟨F2, y1, y2, y3⟩ := x2 0 wk_F (by omega)
          obtain ⟨F3, rfl⟩ : ∃ z, F2 = z + 1 := ⟨F2 - 1, by omega⟩
          have hstop : S_X12_closesSums_0 0 m2 = some (Sum.inl m2) := po_stop x3.2.2.2.2.1 (by have := x3.2.1; omega) (fun o' a1 a2 a3 => by
            have a4 : 4 ≤ o' := a3.resolve_right (fun k => k rfl)
            by_cases h0 : o4 = 0
            · have : iv_k1 o4 = 0 := if_pos h0
              rw [this, Nat.add_zero, wt2]
              exact hwt o' a1 a2
            · have : iv_k1 o4 = 1 := if_neg h0
              rw [this, po_wtk (y := 0) (hm4' h0) (by omega) (by decide)]
              intro k
              have := (nI_eq (by omega) (by omega)).mp k
              omega)
          have hcl : f_X12_closesSums 0 m1 = some m2 := by
            unfold f_X12_closesSums
            rw [y3 (by omega), wk_loopI hstop]
            rfl
          obtain ⟨C, M, z1, z2, z3, z4, z5, z6, z7⟩ := po_pushS (b := nI b0) (o := o) x3 hpn (by omega) hcl
          have eM : wk_loop (S_X12_readsSum_8 (nI b0)) (G3 + 1) m1 = iv_AS (nI b0) wk_F G3 M := po_S8 (by rw [hS8 o hss o6, if_pos (show nI o ≥ 4 from nI_le (b := o) (a := 4) h4 (by omega)), z2])
          have eS : S_X5_readSum_6 (g_X5_readSum q).1 (g_X5_readSum q).2 (nI d) (iv_x o3, iv_x o4, nI i, c) = some (Sum.inr (iv_x o, iv_x o4, nI (i + 1), C)) := by
            rw [sC, z1, hxo, hσ]
            have jj : ∀ A B, j_X5_readSum_38_l6 A B (nI d) (iv_x o4) (nI i) (iv_sg o) (iv_sg o) c2 = some (Sum.inr (iv_sg o, iv_x o4, nI (i + 1), wk_si c2 34 3 (nI (p1 + 1)))) := fun A B => by
              unfold j_X5_readSum_38_l6
              rw [if_pos (show ¬ iv_sg o = 0 from fun k => by rcases (show o = 4 ∨ o = 5 ∨ o = 6 by omega) with rfl | rfl | rfl <;> exact absurd k (by decide)), nI_1, c23]
            rcases (show o = 4 ∨ o = 5 ∨ o = 6 by omega) with rfl | rfl | rfl
            · rw [if_pos (show iv_sg 4 = 42 from rfl)]; exact jj _ _
            · rw [if_neg (show ¬ iv_sg 5 = 42 by decide), if_pos (show iv_sg 5 = 47 from rfl)]; exact jj _ _
            · rw [if_neg (show ¬ iv_sg 6 = 42 by decide), if_neg (show ¬ iv_sg 6 = 47 by decide), if_neg (fun k => k (show iv_sg 6 = 37 from rfl))]; exact jj _ _
          have w2 : iv_old e0 (h + iv_k1 o4) c m C M := iv_old_t w1 (z6 e0) (Nat.le_refl _) (Nat.le_refl _)
          obtain ⟨b, c5, m5, v1, v2, v3, v4, v5⟩ := ih (n - (p1 + 1)) (by omega) (p1 + 1) (i + 1) (e1 + iv_k1 o3) o o4 w h e0 C M Fc wk_F G3 (Nat.le_refl _) (by omega) (by omega) (by omega) (Or.inr ⟨h4, o6⟩) ho4 (by rw [ho1]; exact z3) (fun h0 => by rw [(z6 0).2 h (by have : iv_k1 o4 = 1 := if_neg h0; omega)]; exact hm4' h0) (fun _ => z7) (by omega) hb (by omega) (by omega) (fun o' a1 a2 => by rw [iv_wt_old (iv_old_m w2 (Nat.le_refl e0) (by omega))]; exact hwt o' a1 a2) (by omega) (by rw [ho1]; exact iv_sgm_old x7 (fun j _ hj => (z6 (e1 + iv_k1 o3)).1 j hj))
          rw [wk_loopS eS, f11, eM]
          refine ⟨b, c5, m5, v1, iv_wC_t f2 (iv_wC_t x4 (iv_wC_t z4 v2)), iv_wM_t f3 (iv_wM_t x5 (iv_wM_t z5 v3)), iv_old_t (iv_old_m w2 (Nat.le_refl e0) (by omega)) v4 (Nat.le_refl _) (Nat.le_refl _), ?_⟩
          rcases v5 with v5 | ⟨v5, p2, e2, G2, n1, H, u1, u2, u3, u4, u5, u6, u7, u8, u9, u10, u11, u12, u13, u14, u15, u16⟩
          · exact Or.inl v5
          · exact Or.inr ⟨v5, p2, e2, G2, n1, H, by omega, by omega, u3, u4, u5, u6, u7, u8, u9, u10, u11, u12, u13, iv_wM_t f3 (iv_wM_t x5 (iv_wM_t z5 u14)), iv_old_t (iv_old_m w2 (Nat.le_refl e0) (by omega)) u15 (Nat.le_refl _) (Nat.le_refl _), u16⟩
        · -- a sum's sign
          obtain ⟨C, M, z1, z2, z3, z4, z5, z6, z7⟩ := po_pushS (b := nI b0) (o := o) a3 hpn (by omega) hcl3
          have eM : wk_loop (S_X12_readsSum_8 (nI b0)) (G3 + 1) m1 = iv_AS (nI b0) wk_F G3 M := po_S8 (by rw [hS8 o hss o6, if_neg (show ¬ nI o ≥ 4 from nI_ge (a := o) (b := 4) (by omega) (by decide)), z2])
          have c33 : c3.1 34 3 + 1 = nI (p1 + 1) := by rw [a3.1.2.2.2.1, nI_1]
          have eS : S_X5_readSum_6 (g_X5_readSum q).1 (g_X5_readSum q).2 (nI d) (iv_x o3, iv_x o4, nI i, c) = some (Sum.inr (iv_x 0, iv_x o, nI (i + 1), C)) := by
            rw [sC, z1, hxo, hσ]
            have j48 : ∀ A B, j_X5_readSum_48_l6 A B (nI d) 0 (nI i) (iv_sg o) c3 = some (Sum.inr (iv_x 0, iv_sg o, nI (i + 1), wk_si c3 34 3 (nI (p1 + 1)))) := fun A B => by
              unfold j_X5_readSum_48_l6
              rw [nI_1, c33]
              rcases (show o = 2 ∨ o = 3 by omega) with rfl | rfl
              · rw [if_pos (show iv_sg 2 = 43 from rfl)]; rfl
              · rw [if_neg (show ¬ iv_sg 3 = 43 by decide), if_pos (show iv_sg 3 = 45 from rfl)]; rfl
            have jj : ∀ A B, j_X5_readSum_38_l6 A B (nI d) (iv_x o4) (nI i) (iv_sg o) 0 c2 = some (Sum.inr (iv_x 0, iv_sg o, nI (i + 1), wk_si c3 34 3 (nI (p1 + 1)))) := fun A B => by
              unfold j_X5_readSum_38_l6
              rw [if_neg (fun k => k rfl)]
              by_cases hx : iv_x o4 = 0
              · rw [if_pos hx] at a1 ⊢
                injection a1 with a1
                rw [a1]
                exact j48 A B
              · rw [if_neg hx] at a1 ⊢
                cases hv : f_X4_put (iv_x o4) 0 c2 with
                | none => rw [hv] at a1; cases a1
                | some v =>
                  rw [hv] at a1
                  injection a1 with a1
                  dsimp only [Option.bind]
                  rw [a1]
                  exact j48 A B
            rcases (show o = 2 ∨ o = 3 by omega) with rfl | rfl
            · rw [if_neg (show ¬ iv_sg 2 = 42 by decide), if_neg (show ¬ iv_sg 2 = 47 by decide), if_pos (show ¬ iv_sg 2 = 37 by decide)]; exact jj _ _
            · rw [if_neg (show ¬ iv_sg 3 = 42 by decide), if_neg (show ¬ iv_sg 3 = 47 by decide), if_pos (show ¬ iv_sg 3 = 37 by decide)]; exact jj _ _
          have w4 : iv_old e0 h c m C M := iv_old_t w3 (z6 e0) (Nat.le_refl _) (Nat.le_refl _)
          have h00 : iv_k1 0 = 0 := rfl
          obtain ⟨b, c5, m5, v1, v2, v3, v4, v5⟩ := ih (n - (p1 + 1)) (by omega) (p1 + 1) (i + 1) (e1 + iv_k1 o3 + iv_k1 o4) 0 o w h e0 C M Fc wk_F G3 (Nat.le_refl _) (by omega) (by omega) (by omega) (Or.inl rfl) (Or.inr ⟨o2, by omega⟩) (by rw [ho1, h00]; exact z3) (fun _ => z7) (fun h0 => absurd rfl h0) (by omega) hb (by omega) (by omega) (fun o' b1 b2 => by rw [iv_wt_old w4]; exact hwt o' b1 b2) (by omega) (by rw [ho1, h00]; exact iv_sgm_old a7 (fun j _ hj => (z6 (e1 + iv_k1 o3 + iv_k1 o4)).1 j hj))
          rw [wk_loopS eS, f11, eM]
          refine ⟨b, c5, m5, v1, iv_wC_t f2 (iv_wC_t x4 (iv_wC_t a4 (iv_wC_t z4 v2))), iv_wM_t f3 (iv_wM_t x5 (iv_wM_t a5 (iv_wM_t z5 v3))), iv_old_t w4 v4 (Nat.le_refl _) (Nat.le_refl _), ?_⟩
          rcases v5 with v5 | ⟨v5, p2, e2, G2, n1, H, u1, u2, u3, u4, u5, u6, u7, u8, u9, u10, u11, u12, u13, u14, u15, u16⟩
          · exact Or.inl v5
          · exact Or.inr ⟨v5, p2, e2, G2, n1, H, by omega, by omega, u3, u4, u5, u6, u7, u8, u9, u10, u11, u12, u13, iv_wM_t f3 (iv_wM_t x5 (iv_wM_t a5 (iv_wM_t z5 u14))), iv_old_t w4 u15 (Nat.le_refl _) (Nat.le_refl _), u16⟩
      · -- the sum ends
        have eS : S_X5_readSum_6 (g_X5_readSum q).1 (g_X5_readSum q).2 (nI d) (iv_x o3, iv_x o4, nI i, c) = some (Sum.inl (Sum.inl (true, c3))) := by
          have j48 : ∀ A B, j_X5_readSum_48_l6 A B (nI d) 0 (nI i) (iv_sgn t n p1) c3 = some (Sum.inl (Sum.inl (true, c3))) := fun A B => by
            unfold j_X5_readSum_48_l6
            rw [if_neg n43, if_neg n45]
          rw [sC, if_neg n42, if_neg n47, if_pos n37]
          unfold j_X5_readSum_38_l6
          rw [if_neg (fun k => k rfl)]
          by_cases hx : iv_x o4 = 0
          · rw [if_pos hx] at a1 ⊢
            injection a1 with a1
            rw [a1]
            exact j48 _ _
          · rw [if_neg hx] at a1 ⊢
            cases hv : f_X4_put (iv_x o4) 0 c2 with
            | none => rw [hv] at a1; cases a1
            | some v =>
              rw [hv] at a1
              injection a1 with a1
              dsimp only [Option.bind]
              rw [a1]
              exact j48 _ _
        rw [wk_loopI eS]
        refine ⟨true, c3, m3, rfl, iv_wC_t f2 (iv_wC_t x4 a4), iv_wM_t f3 (iv_wM_t x5 a5), w3, Or.inr ⟨rfl, p1, e1 + iv_k1 o3 + iv_k1 o4, G3 + 1, m1, h + iv_k1 o4 + iv_k1 o3, f6, by omega, by omega, a3, a7, f11, f12, hcl3, ?_, by omega, hh1, f9.2.2.2.2.1, ?_, f3, ⟨fun j hj => ⟨(w3.1 j hj).1, (w3.1 j hj).2.1, (hoo.1 j hj).2.2⟩, hoo.2⟩, hss⟩⟩
        · obtain ⟨⟨r1, r2, r3, r4, r5, r6, r7⟩, _⟩ := a3
          obtain ⟨⟨_, _, _, _, s5, s6, s7⟩, _⟩ := f9
          exact ⟨r1, r2, r3, r4, s5, s6, fun i hi => ⟨(r7 i hi).1, (r7 i hi).2.1, (s7 i hi).2.2⟩⟩
        · intro j hj1 hj2
          have hjo : m1.1 9 j = m.1 9 j := f4.2 j hj2
          by_cases h0 : o4 = 0
          · have q4 : iv_k1 o4 = 0 := if_pos h0
            have h3 : o3 ≠ 0 := fun h3 => by have : iv_k1 o3 = 0 := if_pos h3; omega
            have q3 : iv_k1 o3 = 1 := if_neg h3
            have := hm3 h3
            exact ⟨o3, by omega, by omega, by rw [hjo, show j = h + iv_k1 o4 by omega]; exact this⟩
          · have q4 : iv_k1 o4 = 1 := if_neg h0
            by_cases hjh : j = h
            · exact ⟨o4, by omega, by omega, by rw [hjo, hjh]; exact hm4 h0⟩
            · have h3 : o3 ≠ 0 := fun h3 => by have : iv_k1 o3 = 0 := if_pos h3; omega
              have q3 : iv_k1 o3 = 1 := if_neg h3
              exact ⟨o3, by omega, by omega, by rw [hjo, show j = h + iv_k1 o4 by omega]; exact hm3 h3⟩
theorem po_sum {b0 : Nat} {t : Nat → Nat} {n d q : Nat} (hd : d ≤ 6) (hf : iv_FACT b0 t n d q) : iv_SUM b0 t n d (q + 1) := by
  intro p e h w c m Ff G hY hew hb hFf hG hwt
  have hn := hY.1.1
  have hFF : wk_F = 4096 := rfl
  exact po_sumL hd hf (n - p) p 0 e 0 0 w h e c m wk_F Ff G (Nat.le_refl _) (Nat.zero_le _) (by decide) (by omega) (Or.inl rfl) (Or.inl rfl) hY (fun h0 => absurd rfl h0) (fun h0 => absurd rfl h0) (by show e + w + 0 + 0 ≤ p; omega) hb hFf hG hwt (Nat.le_refl e) ⟨fun _ => [], rfl, rfl, fun _ _ _ => Nat.zero_le _, fun i h1 h2 => by omega⟩
