/-! PURE: law: tests with & and | between them -/
theorem po_testsL {t : Nat → Nat} {n d q : Nat} (hf : iv_TEST t n d q) {h e0 : Nat} : ∀ N p i e e1 k3 k4 w x3 x4 c m Fc G, n - p ≤ N → i ≤ p → i < 240 → N < Fc → iv_pd 12 x4 k4 e0 e1 h c m → iv_pd 11 x3 k3 e1 e (h + k4) c m → iv_Y t n p e (h + k4 + k3) d c m → e + w ≤ p → iv_wt m h = nI 13 → wk_F ≤ G + p →
    ∃ b c2 m2, (Option.bind (wk_loop (S_X5_readTests_6 (g_X5_readTests q).1 (g_X5_readTests q).2 (nI d)) Fc (x3, x4, nI i, c)) fun v7 => match v7 with | Sum.inl v7r => some v7r | Sum.inr v7 => some (true, v7)) = some (b, c2) ∧ iv_wC c c2 ∧ iv_wM m m2 ∧ ((b = false ∧ wk_loop S_X12_readsCondition_22 G m = some (false, m2) ∧ iv_flL c2 m2) ∨
    (b = true ∧ iv_old e0 h c m c2 m2 ∧ ∃ p2 e2 F G2 m1, p < p2 ∧ e < e2 ∧ e2 + w ≤ p2 ∧ iv_Y t n p2 e2 h d c2 m2 ∧ iv_sgm c2 m2 16 e0 e2 [] [true] ∧ wk_loop S_X12_readsCondition_22 G m = iv_cD F G2 m1 ∧ wk_F ≤ F + p2 ∧ wk_F ≤ G2 + p2 ∧
      f_X12_lands 1 m1 = some m2 ∧ iv_RD 34 t n p2 c2 m1 ∧ iv_wM m m1 ∧ ¬ iv_sgn t n p2 = 38 ∧ ¬ iv_sgn t n p2 = 124)) := by
  intro N
  induction N using Nat.strongRecOn with
  | _ N ih =>
    intro p i e e1 k3 k4 w x3 x4 c m Fc G hN hip hi hFc hp4 hp3 hY hew hwt hG
    obtain ⟨Fc, rfl⟩ : ∃ z, Fc = z + 1 := ⟨Fc - 1, by omega⟩
    have hFF : wk_F = 4096 := rfl
    have hn : n ≤ 240 := hY.1.1
    have hpn : p ≤ n := hY.1.2.1
    have hHp : h + k4 + k3 ≤ p := hY.2.1
    obtain ⟨l4, l4b⟩ := iv_pd_le hp4
    obtain ⟨l3, l3b⟩ := iv_pd_le hp3
    have hh : 0 < h := by
      by_cases k : 0 < h
      · exact k
      · exfalso
        unfold iv_wt at hwt
        rw [if_pos (by omega)] at hwt
        exact absurd hwt (by decide)
    have w4 : iv_wt m (h + k4) = nI 13 ∨ iv_wt m (h + k4) = nI 12 := by
      rcases iv_pd_wt hp4 (Or.inr rfl) (by omega) with ⟨_, k⟩ | ⟨_, k⟩
      · exact Or.inl (k.trans hwt)
      · exact Or.inr k
    have w3 : iv_wt m (h + k4 + k3) = nI 13 ∨ iv_wt m (h + k4 + k3) = nI 12 ∨ iv_wt m (h + k4 + k3) = nI 11 := by
      rcases iv_pd_wt hp3 (Or.inl rfl) (by omega) with ⟨_, k⟩ | ⟨_, k⟩
      · rw [k]
        rcases w4 with w4 | w4
        · exact Or.inl w4
        · exact Or.inr (Or.inl w4)
      · exact Or.inr (Or.inr k)
    obtain ⟨b, c1, m1, f1, f2, f3, f4⟩ := hf p e (h + k4 + k3) w c m G hY hew (by omega) (fun o o1 o2 k => by
      rcases w3 with w3 | w3 | w3
      all_goals
        rw [w3] at k
        have := (nI_eq (by omega) (by omega)).mp k
        omega) hG
    have sC : S_X5_readTests_6 (g_X5_readTests q).1 (g_X5_readTests q).2 (nI d) (x3, x4, nI i, c) = if b = true then
        Option.bind (f_X4_skipToHere x3 c1) fun v2 =>
        Option.bind (f_X6_sign 34 v2) fun v3 =>
        if ¬ v3 = (38 : Int32) then
          Option.bind (f_X4_skipToHere x4 v2) fun v4 =>
          if v3 = (124 : Int32) then
            Option.bind (f_X4_put v3 (0 : Int32) v4) fun v5 =>
            some (Sum.inr ((-1 : Int32), v5.1, nI (i + 1), (wk_si v5.2 34 3 ((v5.2.1 34 3) + (1 : Int32)))))
          else
            some (Sum.inl (Sum.inl (true, v4)))
        else
          Option.bind (f_X4_put v3 (0 : Int32) v2) fun v6 =>
          some (Sum.inr (v6.1, x4, nI (i + 1), (wk_si v6.2 34 3 ((v6.2.1 34 3) + (1 : Int32)))))
      else some (Sum.inl (Sum.inl (false, c1))) := by
      unfold S_X5_readTests_6
      dsimp only
      rw [if_neg (show ¬ nI i ≥ 240 from nI_ge (b := 240) (by omega) (by decide)), f1]
      dsimp only [Option.bind]
      rw [nI_1]
    rcases f4 with ⟨rfl, f5, f6⟩ | ⟨rfl, f5, p1, e2, Fe, F, G2, f6, f7, f8, f9, f10, f11, f12, f13, f14⟩
    · rw [if_neg Bool.false_ne_true] at sC
      rw [wk_loopI sC]
      exact ⟨false, c1, m1, rfl, f2, f3, Or.inl ⟨rfl, f5, f6⟩⟩
    · rw [if_pos rfl] at sC
      have hp1n : p1 ≤ n := f9.1.2.1
      have hs1 := (po_sign f9.1).2
      obtain ⟨Fe, rfl⟩ : ∃ z, Fe = z + 1 := ⟨Fe - 1, by omega⟩
      have hwt1 : iv_wt m1 (h + k4 + k3) = iv_wt m (h + k4 + k3) := iv_wt_old f5
      have eE : wk_loop S_X12_readsCondition_22 G m = iv_cD F G2 m1 := f11.trans (po_cEs (po_bangN f9.2.2.2.2.1 (by omega) (by
        rw [hwt1]
        rcases w3 with w3 | w3 | w3
        all_goals
          rw [w3]
          decide)))
      obtain ⟨c2, m2, a1, a2, a3, a4, a5, a6, a7⟩ := po_land (Or.inl rfl) (iv_pd_old hp3 f5 (Nat.le_refl e) (Nat.le_refl _)) f9 f7 (by omega) f10
      have v2 : iv_old e1 (h + k4) c m c2 m2 := iv_old_t (iv_old_m f5 l3 (Nat.le_add_right _ _)) (a6 (h + k4)) (Nat.le_refl e1) (Nat.le_refl _)
      have hp42 : iv_pd 12 x4 k4 e0 e1 h c2 m2 := iv_pd_old hp4 v2 (Nat.le_refl e1) (Nat.le_refl _)
      have hwt2 : iv_wt m2 (h + k4) = iv_wt m (h + k4) := iv_wt_old v2
      obtain ⟨c3, m3, b1, b2, b3, b4, b5, b6, b7⟩ := po_land (Or.inr rfl) hp42 a3 (by omega) (by omega) a7
      have v3 : iv_old e0 h c m c3 m3 := iv_old_t (iv_old_m v2 l4 (Nat.le_add_right _ _)) (b6 h) (Nat.le_refl e0) (Nat.le_refl h)
      have hwt3 : iv_wt m3 h = nI 13 := (iv_wt_old v3).trans hwt
      have hl0 : f_X12_lands 0 m1 = some m2 := by
        obtain ⟨F2, y1, y2, y3⟩ := a2 0 wk_F (Or.inr (Or.inl rfl))
        obtain ⟨F3, rfl⟩ : ∃ z, F2 = z + 1 := ⟨F2 - 1, by omega⟩
        have hstop : S_X12_lands_0 0 m2 = some (Sum.inl m2) := po_landN a3.2.2.2.2.1 (by omega) (by
          rw [hwt2]
          rcases w4 with w4 | w4
          all_goals
            rw [w4]
            decide) (Or.inl rfl)
        unfold f_X12_lands
        rw [y3 (by omega), wk_loopI hstop]
        rfl
      have hl1 : f_X12_lands 1 m1 = some m3 := by
        obtain ⟨F2, y1, y2, y3⟩ := a2 1 wk_F (Or.inr (Or.inl rfl))
        obtain ⟨F3, y4, y5, y6⟩ := b2 1 F2 (Or.inr (Or.inr rfl))
        obtain ⟨F4, rfl⟩ : ∃ z, F3 = z + 1 := ⟨F3 - 1, by omega⟩
        have hstop : S_X12_lands_0 1 m3 = some (Sum.inl m3) := po_landN b3.2.2.2.2.1 (by omega) (by rw [hwt3]; decide) (Or.inr (by rw [hwt3]; decide))
        unfold f_X12_lands
        rw [y3 (by omega), y6 (by omega), wk_loopI hstop]
        rfl
      obtain ⟨F, rfl⟩ : ∃ z, F = z + 1 := ⟨F - 1, by omega⟩
      rw [a1] at sC
      dsimp only [Option.bind] at sC
      rw [(po_sign a3.1).1] at sC
      dsimp only at sC
      by_cases h38 : iv_sgn t n p1 = 38
      · obtain ⟨hpp, _⟩ := po_sgnp (z := 38) f9.1 (by decide) h38
        obtain ⟨c4, C, M, q1, q2, q3, q4, q5, q6, q7, q8, q9, q10⟩ := po_jump 11 (by decide) a3 hpp (by omega) (by omega)
        have q1' : f_X4_put 38 0 c2 = some (nI e2, c4) := q1
        have q3' : f_X12_jumps 11 m2 = some M := q3
        rw [if_neg (fun k => k h38), h38, q1'] at sC
        dsimp only at sC
        rw [← q2] at sC
        have v4 : iv_old e1 (h + k4) c m C M := iv_old_t v2 q7 (by omega) (Nat.le_refl _)
        have eM : iv_cD (F + 1) G2 m1 = wk_loop S_X12_readsCondition_22 G2 M := (po_cDs hs1 (by rw [h38]; decide)).trans (po_cKj hs1 (Or.inl ⟨h38, rfl, rfl⟩) hl0 (po_sign a3.1).2 q3')
        obtain ⟨b, c5, m5, u1, u2, u3, u4⟩ := ih (n - (p1 + 1)) (by omega) (p1 + 1) (i + 1) (e2 + 1) e1 1 k4 w (nI e2) x4 C M Fc G2 (Nat.le_refl _) (by omega) (by omega) (by omega) (iv_pd_old hp4 v4 (Nat.le_refl e1) (Nat.le_refl _)) (Or.inr ⟨rfl, e2, rfl, by omega, rfl, iv_sgm_old a7 (fun j _ hj => q7.1 j hj), q8, q9, q10⟩) q4 (by omega) ((iv_wt_old (iv_old_m v4 (Nat.le_refl e1) (Nat.le_add_right h k4))).trans hwt) (by omega)
        rw [wk_loopS sC, eE, eM]
        refine ⟨b, c5, m5, u1, iv_wC_t f2 (iv_wC_t a4 (iv_wC_t q5 u2)), iv_wM_t f3 (iv_wM_t a5 (iv_wM_t q6 u3)), ?_⟩
        rcases u4 with u4 | ⟨u4, u5, p2, e3, F5, G3, n1, z1, z2, z3, z4, z5, z6, z7, z8, z9, z10, z11, z12, z13⟩
        · exact Or.inl u4
        · exact Or.inr ⟨u4, iv_old_t (iv_old_m v4 l4 (Nat.le_add_right h k4)) u5 (Nat.le_refl e0) (Nat.le_refl h), p2, e3, F5, G3, n1, by omega, by omega, z3, z4, z5, z6, z7, z8, z9, z10, iv_wM_t f3 (iv_wM_t a5 (iv_wM_t q6 z11)), z12, z13⟩
      · rw [if_pos h38, b1] at sC
        dsimp only at sC
        by_cases h124 : iv_sgn t n p1 = 124
        · obtain ⟨hpp, _⟩ := po_sgnp (z := 124) f9.1 (by decide) h124
          obtain ⟨c4, C, M, q1, q2, q3, q4, q5, q6, q7, q8, q9, q10⟩ := po_jump 12 (by decide) b3 hpp (by omega) (by omega)
          have q1' : f_X4_put 124 0 c3 = some (nI e2, c4) := q1
          have q3' : f_X12_jumps 12 m3 = some M := q3
          rw [if_pos h124, h124, q1'] at sC
          dsimp only at sC
          rw [← q2] at sC
          have v4 : iv_old e0 h c m C M := iv_old_t v3 q7 (by omega) (Nat.le_refl _)
          have eM : iv_cD (F + 1) G2 m1 = wk_loop S_X12_readsCondition_22 G2 M := (po_cDs hs1 (by rw [h124]; decide)).trans (po_cKj hs1 (Or.inr ⟨h124, rfl, rfl⟩) hl1 (po_sign b3.1).2 q3')
          obtain ⟨b, c5, m5, u1, u2, u3, u4⟩ := ih (n - (p1 + 1)) (by omega) (p1 + 1) (i + 1) (e2 + 1) (e2 + 1) 0 1 w (-1) (nI e2) C M Fc G2 (Nat.le_refl _) (by omega) (by omega) (by omega) (Or.inr ⟨rfl, e2, rfl, by omega, rfl, iv_sgm_old b7 (fun j _ hj => q7.1 j hj), q8, q9, q10⟩) (Or.inl ⟨rfl, rfl, rfl⟩) q4 (by omega) ((iv_wt_old v4).trans hwt) (by omega)
          rw [wk_loopS sC, eE, eM]
          refine ⟨b, c5, m5, u1, iv_wC_t f2 (iv_wC_t a4 (iv_wC_t b4 (iv_wC_t q5 u2))), iv_wM_t f3 (iv_wM_t a5 (iv_wM_t b5 (iv_wM_t q6 u3))), ?_⟩
          rcases u4 with u4 | ⟨u4, u5, p2, e3, F5, G3, n1, z1, z2, z3, z4, z5, z6, z7, z8, z9, z10, z11, z12, z13⟩
          · exact Or.inl u4
          · exact Or.inr ⟨u4, iv_old_t v4 u5 (Nat.le_refl e0) (Nat.le_refl h), p2, e3, F5, G3, n1, by omega, by omega, z3, z4, z5, z6, z7, z8, z9, z10, iv_wM_t f3 (iv_wM_t a5 (iv_wM_t b5 (iv_wM_t q6 z11))), z12, z13⟩
        · rw [if_neg h124] at sC
          rw [wk_loopI sC]
          refine ⟨true, c3, m3, rfl, iv_wC_t f2 (iv_wC_t a4 b4), iv_wM_t f3 (iv_wM_t a5 b5), Or.inr ⟨rfl, v3, p1, e2, F + 1, G2, m1, f6, f7, f8, b3, b7, eE, f13, f14, hl1, ?_, f3, h38, h124⟩⟩
          obtain ⟨⟨r1, r2, r3, r4, r5, r6, r7⟩, _⟩ := b3
          obtain ⟨⟨_, _, _, _, s5, s6, s7⟩, _⟩ := f9
          exact ⟨r1, r2, r3, r4, s5, s6, fun i hi => ⟨(r7 i hi).1, (r7 i hi).2.1, (s7 i hi).2.2⟩⟩
theorem po_tests {t : Nat → Nat} {n d q : Nat} (hf : iv_TEST t n d q) : iv_TESTS t n d (q + 1) := by
  intro p e h w c m G hY hew hwt hG
  have hn := hY.1.1
  have hFF : wk_F = 4096 := rfl
  exact po_testsL hf (n - p) p 0 e e 0 0 w (-1) (-1) c m wk_F G (Nat.le_refl _) (Nat.zero_le _) (by decide) (by omega) (Or.inl ⟨rfl, rfl, rfl⟩) (Or.inl ⟨rfl, rfl, rfl⟩) hY hew hwt hG
theorem po_testA {t : Nat → Nat} {n : Nat} : ∀ k d q, d + k = 6 → 2 * k + 1 ≤ q → iv_TEST t n d q := by
  intro k
  induction k with
  | zero =>
    intro d q hd hq
    obtain ⟨q, rfl⟩ : ∃ z, q = z + 1 := ⟨q - 1, by omega⟩
    exact po_test (by omega) (fun h => by omega) (fun h => by omega)
  | succ k ih =>
    intro d q hd hq
    obtain ⟨q, rfl⟩ : ∃ z, q = z + 1 + 1 := ⟨q - 2, by omega⟩
    exact po_test (by omega) (fun _ => ih (d + 1) (q + 1) (by omega) (by omega)) (fun _ => po_tests (ih (d + 1) q (by omega) (by omega)))
theorem po_testsA {t : Nat → Nat} {n : Nat} : iv_TESTS t n 1 20 := po_tests (po_testA 5 1 19 (by decide) (by decide))
