/-! PURE: law: one test -/
def iv_TEST (t : Nat → Nat) (n d q : Nat) : Prop := ∀ p e h w c m G, iv_Y t n p e h d c m → e + w ≤ p → 0 < h → (∀ o, 2 ≤ o → o ≤ 6 → ¬ iv_wt m h = nI o) → wk_F ≤ G + p →
  ∃ b c2 m2, (g_X5_readTests q).2 (nI d) c = some (b, c2) ∧ iv_wC c c2 ∧ iv_wM m m2 ∧ ((b = false ∧ wk_loop S_X12_readsCondition_22 G m = some (false, m2) ∧ iv_flL c2 m2) ∨
    (b = true ∧ iv_old e h c m c2 m2 ∧ ∃ p2 e2 Fe F G2, p < p2 ∧ e < e2 ∧ e2 + w ≤ p2 ∧ iv_Y t n p2 e2 h d c2 m2 ∧ iv_sgm c2 m2 16 e e2 [] [true] ∧ wk_loop S_X12_readsCondition_22 G m = iv_cE Fe F G2 m2 ∧ wk_F + d ≤ Fe + 7 ∧ wk_F ≤ F + p2 ∧ wk_F ≤ G2 + p2))
def iv_TESTS (t : Nat → Nat) (n d q : Nat) : Prop := ∀ p e h w c m G, iv_Y t n p e h d c m → e + w ≤ p → iv_wt m h = nI 13 → wk_F ≤ G + p →
  ∃ b c2 m2, (g_X5_readTests q).1 (nI d) c = some (b, c2) ∧ iv_wC c c2 ∧ iv_wM m m2 ∧ ((b = false ∧ wk_loop S_X12_readsCondition_22 G m = some (false, m2) ∧ iv_flL c2 m2) ∨
    (b = true ∧ iv_old e h c m c2 m2 ∧ ∃ p2 e2 F G2 m1, p < p2 ∧ e < e2 ∧ e2 + w ≤ p2 ∧ iv_Y t n p2 e2 h d c2 m2 ∧ iv_sgm c2 m2 16 e e2 [] [true] ∧ wk_loop S_X12_readsCondition_22 G m = iv_cD F G2 m1 ∧ wk_F ≤ F + p2 ∧ wk_F ≤ G2 + p2 ∧
      f_X12_lands 1 m1 = some m2 ∧ iv_RD 34 t n p2 c2 m1 ∧ iv_wM m m1 ∧ ¬ iv_sgn t n p2 = 38 ∧ ¬ iv_sgn t n p2 = 124))
theorem iv_flL_34 {c m c2 : wk_St} (h : iv_flL c m) (k : c2.1 34 = c.1 34) : iv_flL c2 m := by
  obtain ⟨f, i, q1, q2, q3, q4, q5⟩ := h
  exact ⟨f, i, q1, q2, q3, by rw [k]; exact q4, q5⟩
theorem po_test {t : Nat → Nat} {n d q : Nat} (hd : d ≤ 6) (hT : d < 6 → iv_TEST t n (d + 1) q) (hTs : d < 6 → iv_TESTS t n (d + 1) q) : iv_TEST t n d (q + 1) := by
  intro p e h w c m G hY hew hh hwt hG
  have hFF : wk_F = 4096 := rfl
  have hR := hY.1
  have hn := hR.1
  have hpn := hR.2.1
  have hs := po_sign hR
  obtain ⟨G, rfl⟩ : ∃ z, G = z + 1 := ⟨G - 1, by omega⟩
  have eC : (g_X5_readTests (q + 1)).2 (nI d) c = b_X5_readTest (g_X5_readTests q).1 (g_X5_readTests q).2 (nI d) c := rfl
  rw [eC]
  by_cases h33 : iv_sgn t n p = 33
  · -- not
    obtain ⟨hp, _⟩ := po_sgnp (z := 33) hR (by decide) h33
    have eC1 : b_X5_readTest (g_X5_readTests q).1 (g_X5_readTests q).2 (nI d) c = if (f_X5_open (nI d) c).1 = false then Option.bind (f_X4_put 33 0 (f_X5_open (nI d) c).2) fun v12 => some (false, v12.2) else Option.bind ((g_X5_readTests q).2 (nI (d + 1)) (f_X5_open (nI d) c).2) fun v13 => if v13.1 = false then Option.bind (f_X4_put 33 0 v13.2) fun v14 => some (false, v14.2) else Option.bind (f_X4_put 33 0 v13.2) fun v15 => some (true, v15.2) := by
      unfold b_X5_readTest wk_let
      rw [hs.1]
      dsimp only [Option.bind]
      rw [if_neg (fun k => k h33), nI_1]
    have eS := po_cO (x := 10) hs.2 (Or.inl ⟨h33, rfl⟩)
    by_cases hd6 : d = 6
    · obtain ⟨c2, m2, q1, q2, q3, q4, q5, q6, _⟩ := po_opensN (x := 10) hY hd6
      have q2' : f_X12_opens 10 m = _ := q2
      obtain ⟨v, c3, z1, z2, z3⟩ := po_putT 33 0 c2
      rw [q1, if_pos rfl] at eC1
      dsimp only at eC1
      rw [z1] at eC1
      rw [q2'] at eS
      dsimp only [Option.bind] at eS
      rw [if_neg Bool.false_ne_true] at eS
      exact ⟨false, c3, m2, eC1, iv_wC_t q3 z2, q4, Or.inl ⟨rfl, wk_loopI eS, iv_flL_34 q6 z3⟩⟩
    · have hd5 : d < 6 := by omega
      obtain ⟨c1, m1, q1, q2, q3, q4, q5, q6, q7⟩ := po_opens (x := 10) hY hp hd5 (by decide)
      have q2' : f_X12_opens 10 m = _ := q2
      rw [q1, if_neg (fun k => Bool.false_ne_true k.symm)] at eC1
      dsimp only at eC1
      rw [q2'] at eS
      dsimp only [Option.bind] at eS
      rw [if_pos rfl] at eS
      have hwt1 : iv_wt m1 (h + 1) = nI 10 := po_wtk (y := 0) q7 (by decide) (by decide)
      obtain ⟨b, c2, m2, g1, g2, g3, g4⟩ := hT hd5 (p + 1) e (h + 1) (w + 1) c1 m1 G q3 (by omega) (by omega) (fun o o1 o2 k => by
        rw [hwt1] at k
        have := (nI_eq (by omega) (by omega)).mp k
        omega) (by omega)
      rw [g1] at eC1
      dsimp only [Option.bind] at eC1
      have hcc := iv_wC_t q4 g2
      have hmm := iv_wM_t q5 g3
      rcases g4 with ⟨rfl, g5, g6⟩ | ⟨rfl, g5, p2, e2, Fe, F, G2, g6, g7, g8, g9, g10, g11, g12, g13, g14⟩
      · obtain ⟨v, c3, z1, z2, z3⟩ := po_putT 33 0 c2
        rw [if_pos rfl, z1] at eC1
        exact ⟨false, c3, m2, eC1, iv_wC_t hcc z2, hmm, Or.inl ⟨rfl, (wk_loopS eS).trans g5, iv_flL_34 g6 z3⟩⟩
      · have hp2 := g9.1.2.1
        obtain ⟨Fe, rfl⟩ : ∃ z, Fe = z + 1 := ⟨Fe - 1, by omega⟩
        have hm10 : m2.1 9 h = nI (1048576 * 10) := by rw [g5.2 h (by omega)]; exact q7
        obtain ⟨c3, m3, b1, b2, b3, b4, b5, b6, b7, b8, b9⟩ := po_bang g9 (by omega) hm10
        rw [if_neg (fun k => Bool.false_ne_true k.symm), b1] at eC1
        refine ⟨true, c3, m3, eC1, iv_wC_t hcc b4, iv_wM_t hmm b5, Or.inr ⟨rfl, iv_old_t q6 (iv_old_t (iv_old_m g5 (Nat.le_refl e) (Nat.le_succ h)) (b6 h) (by omega) (Nat.le_refl h)) (Nat.le_refl e) (Nat.le_refl h), p2, e2 + 1, Fe, F, G2, by omega, by omega, by omega, b3, ?_, ?_, by omega, g13, g14⟩⟩
        · exact iv_sgm_cat (iv_sgm_old g10 (fun j _ hj => (b6 0).1 j hj)) (iv_sgm_1 10 0 (by decide) (by decide) b7 b8 b9 (by decide) (by decide) (by decide) (Or.inr (Or.inr (Or.inr (Or.inr ⟨rfl, [], rfl, rfl⟩))))) (by omega) (by omega)
        · exact (wk_loopS eS).trans (g11.trans (po_cEb b2))
  · by_cases h40 : iv_sgn t n p = 40
    · -- a bracket
      obtain ⟨hp, _⟩ := po_sgnp (z := 40) hR (by decide) h40
      have eC1 : b_X5_readTest (g_X5_readTests q).1 (g_X5_readTests q).2 (nI d) c = if (f_X5_open (nI d) c).1 = false then some (false, (f_X5_open (nI d) c).2) else Option.bind ((g_X5_readTests q).1 (nI (d + 1)) (f_X5_open (nI d) c).2) fun v9 => if v9.1 = false then some (false, v9.2) else Option.bind (f_X6_pass 34 41 v9.2) fun v10 => if v10.1 = false then some (false, v10.2) else some (true, v10.2) := by
        unfold b_X5_readTest wk_let
        rw [hs.1]
        dsimp only [Option.bind]
        rw [if_pos h33, if_neg (fun k => k h40), nI_1]
      have eS := po_cO (x := 13) hs.2 (Or.inr ⟨h40, rfl⟩)
      by_cases hd6 : d = 6
      · obtain ⟨c2, m2, q1, q2, q3, q4, q5, q6, _⟩ := po_opensN (x := 13) hY hd6
        have q2' : f_X12_opens 13 m = _ := q2
        rw [q1, if_pos rfl] at eC1
        rw [q2'] at eS
        dsimp only [Option.bind] at eS
        rw [if_neg Bool.false_ne_true] at eS
        exact ⟨false, c2, m2, eC1, q3, q4, Or.inl ⟨rfl, wk_loopI eS, q6⟩⟩
      · have hd5 : d < 6 := by omega
        obtain ⟨c1, m1, q1, q2, q3, q4, q5, q6, q7⟩ := po_opens (x := 13) hY hp hd5 (by decide)
        have q2' : f_X12_opens 13 m = _ := q2
        rw [q1, if_neg (fun k => Bool.false_ne_true k.symm)] at eC1
        dsimp only at eC1
        rw [q2'] at eS
        dsimp only [Option.bind] at eS
        rw [if_pos rfl] at eS
        have hwt1 : iv_wt m1 (h + 1) = nI 13 := po_wtk (y := 0) q7 (by decide) (by decide)
        obtain ⟨b, c2, m2, g1, g2, g3, g4⟩ := hTs hd5 (p + 1) e (h + 1) w c1 m1 G q3 (by omega) hwt1 (by omega)
        rw [g1] at eC1
        dsimp only [Option.bind] at eC1
        have hcc := iv_wC_t q4 g2
        have hmm := iv_wM_t q5 g3
        rcases g4 with ⟨rfl, g5, g6⟩ | ⟨rfl, g5, p2, e2, F, G2, n1, g6, g7, g8, g9, g10, g11, g12, g13, g14, g15, g16, g17, g18⟩
        · rw [if_pos rfl] at eC1
          exact ⟨false, c2, m2, eC1, hcc, hmm, Or.inl ⟨rfl, (wk_loopS eS).trans g5, g6⟩⟩
        · rw [if_neg (fun k => Bool.false_ne_true k.symm)] at eC1
          have hR2 := g9.1
          have hp2 := hR2.2.1
          have hs2 := po_sign hR2
          have hs1 := (po_sign g15).2
          obtain ⟨F, rfl⟩ : ∃ z, F = z + 1 := ⟨F - 1, by omega⟩
          by_cases hs41 : iv_sgn t n p2 = 41
          · obtain ⟨hp2n, _⟩ := po_sgnp (z := 41) hR2 (by decide) hs41
            obtain ⟨C, hC⟩ : ∃ C, C = wk_si c2 34 3 (nI (p2 + 1)) := ⟨_, rfl⟩
            obtain ⟨M, hM⟩ : ∃ M, M = wk_si (wk_si (wk_si m2 0 16 (nI h)) 0 14 (nI d)) 0 10 (nI (p2 + 1)) := ⟨_, rfl⟩
            have e1 : f_X6_pass 34 41 c2 = some (true, C) := by
              unfold f_X6_pass wk_let
              rw [hs2.1, hs41, hR2.2.2.2.1]
              dsimp only [Option.bind]
              rw [if_pos rfl, nI_1, hC]
            rw [e1] at eC1
            dsimp only at eC1
            rw [if_neg (fun k => Bool.false_ne_true k.symm)] at eC1
            have eM := po_c47 (hs1.trans (congrArg some hs41)) g14 g9.2.2.2.2.1 g9.2.2.2.2.2 hR2.2.2.2.2.1 hM
            have oC : ∀ a, a ≠ 34 → C.1 a = c2.1 a := fun a h => by rw [hC]; exact funext (fun b => po_si_c h)
            have oM : ∀ a, a ≠ 0 → M.1 a = m2.1 a := fun a h => by rw [hM]; exact funext (fun b => by rw [po_si_c h, po_si_c h, po_si_c h])
            have oM0 : ∀ b, b ≠ 10 → b ≠ 14 → b ≠ 16 → M.1 0 b = m2.1 0 b := fun b h1 h2 h3 => by rw [hM, po_si_ne h1, po_si_ne h2, po_si_ne h3]
            have hoo : iv_old e h c m c2 m2 := iv_old_t q6 (iv_old_m g5 (Nat.le_refl e) (Nat.le_succ h)) (Nat.le_refl e) (Nat.le_refl h)
            obtain ⟨⟨r1, r2, r3, r4, r5, r6, r7⟩, y1, y2, y3, y4, y5⟩ := g9
            refine ⟨true, C, M, eC1, iv_wC_t hcc ⟨by rw [hC]; rfl, fun a h _ _ _ => oC a h, by rw [oC 45 (by decide)]⟩, iv_wM_t hmm ⟨by rw [hM]; rfl, fun a h _ _ => oM a h, fun b h1 _ _ h2 _ h3 => oM0 b h1 h2 h3⟩, Or.inr ⟨rfl, iv_old_t hoo (e2 := e) (h2 := h) ⟨fun j _ => ⟨by rw [oC 50 (by decide)], by rw [oC 51 (by decide)], by rw [oM 8 (by decide)]⟩, fun j _ => by rw [oM 9 (by decide)]⟩ (Nat.le_refl e) (Nat.le_refl h), p2 + 1, e2, wk_F, F, G2, by omega, g7, by omega, ⟨⟨r1, by omega, ?_, ?_, ?_, ?_, fun i hi => ⟨(r7 i hi).1, ?_, ?_⟩⟩, by omega, ?_, ?_, ?_, ?_⟩, ?_, ?_, by omega, by omega, by omega⟩⟩
            · rw [hC]; exact (po_si_ne (by decide)).trans r3
            · rw [hC]; exact po_si_at
            · rw [hM]; exact po_si_at
            · rw [oM0 11 (by decide) (by decide) (by decide)]; exact r6
            · rw [oC (34 + 1) (by decide)]; exact (r7 i hi).2.1
            · rw [oM 7 (by decide)]; exact (r7 i hi).2.2
            · rw [oC 45 (by decide)]; exact y2
            · rw [oM0 15 (by decide) (by decide) (by decide)]; exact y3
            · rw [hM, po_si_ne (by decide), po_si_ne (by decide)]; exact po_si_at
            · rw [hM, po_si_ne (by decide)]; exact po_si_at
            · exact iv_sgm_old g10 (fun j _ _ => ⟨by rw [oC 50 (by decide)], by rw [oC 51 (by decide)], by rw [oM 8 (by decide)]⟩)
            · exact (wk_loopS eS).trans (g11.trans (po_cDp eM hh (by omega)))
          · obtain ⟨c3, m3, k1, k2, k3, k4, k5, k6⟩ := po_blameL (c := c2) (m := n1) 1 p2 (by decide) (by decide) (by omega)
            have k1' : f_X6_blame 34 1 (nI p2) c2 = _ := k1
            have k2' : f_X12_wrongAt 1 (nI p2) n1 = _ := k2
            have e1 : f_X6_pass 34 41 c2 = some (false, c3) := by
              unfold f_X6_pass wk_let
              rw [hs2.1, hR2.2.2.2.1]
              dsimp only [Option.bind]
              rw [if_neg hs41, k1']
            rw [e1] at eC1
            dsimp only at eC1
            rw [if_pos rfl] at eC1
            refine ⟨false, c3, m3, eC1, iv_wC_t hcc k4, iv_wM_t (iv_wM_t q5 g16) k5, Or.inl ⟨rfl, ?_, k3⟩⟩
            refine (wk_loopS eS).trans (g11.trans ((po_cDs hs1 hs41).trans ((po_cKx hs1 g17 g18).trans ?_)))
            rw [g15.2.2.2.2.1, k2']
    · -- two sums
      obtain ⟨b, c2, m2, f1, f2, f3, f4⟩ := po_compare (w := w) (g_X5_readTests q).1 (g_X5_readTests q).2 hd hY hew hwt
      have eC1 : b_X5_readTest (g_X5_readTests q).1 (g_X5_readTests q).2 (nI d) c = some (b, c2) := by
        unfold b_X5_readTest
        rw [hs.1]
        dsimp only [Option.bind]
        rw [if_pos h33, if_pos h40]
        exact f1
      refine ⟨b, c2, m2, eC1, f2, f3, ?_⟩
      rcases f4 with ⟨rfl, f5, f6⟩ | ⟨rfl, f5, f6, p2, e2, f7, f8, f9, f10, f11⟩
      · exact Or.inl ⟨rfl, po_cCn hs.2 h33 h40 f5, f6⟩
      · exact Or.inr ⟨rfl, f6, p2, e2, wk_F, wk_F, G, f7, f8, f9, f10, f11, po_cC hs.2 h33 h40 f5, by omega, by omega, by omega⟩
