/-! PURE: rumour, middle, between: the ops -/
theorem po_op_18 : lw_op_18 iv_I := by
  intro a0 a1 σC σM hI
  have hI2 := hI
  obtain ⟨T, w, N, hT, hF, hH, hR, hK, hL⟩ := hI
  have hF2 := hF
  obtain ⟨f1, f2, f3, f4, f5, f6, f7, f8, f9, f10⟩ := hF
  have go : ∀ r m2, f_X11_rumour a0 a1 σC = some r → f_X12_rumour a0 a1 σM = some (r, m2) → iv_sM σM m2 → ∃ (r : Int32) (σC2 σM2 : wk_St), wk_T wk_shC 200 19 [.ref 0, .int a0, .int a1] σC (some (.int r), σC2) ∧ wk_T wk_shM 200 119 [.ref 0, .int a0, .int a1] σM (some (.int r), σM2) ∧ iv_I σC2 σM2 := fun r m2 e1 e2 e3 => ⟨r, σC, m2, (t_X11_rumour e1).up (by decide), (t_X12_rumour e2).up (by decide), iv_I_s hI2 iv_sC_r e3⟩
  unfold f_X11_rumour f_X12_rumour at go
  rcases po_toldF (x := a0) hF2 with ⟨c1, m1⟩ | ⟨c1, m1, p, hp, rfl, hTp⟩
  · rw [c1, m1] at go
    exact go (-1) σM rfl rfl iv_sM_r
  · rw [c1, m1] at go
    simp only [Bool.true_eq_false, if_false, if_true, eq_self] at go
    cases hin : f_X12_in a1 0 2 with
    | false =>
      rw [hin] at go
      have h0 : ¬ a1 = 0 := fun e => by rw [e] at hin; exact absurd hin (by decide)
      have h1 : ¬ a1 = 1 := fun e => by rw [e] at hin; exact absurd hin (by decide)
      have h2 : ¬ a1 = 2 := fun e => by rw [e] at hin; exact absurd hin (by decide)
      rw [if_neg h0, if_neg h1, if_neg h2] at go
      exact go (-1) σM rfl rfl iv_sM_r
    | true =>
      rw [hin, if_pos rfl] at go
      obtain ⟨g5, g6, e, hg⟩ := po_lays hp f8
      obtain ⟨z, hz, hz9, k1, k2⟩ := po_far (c := σC) (m := iv_2 σM g5 g6) f10 hp hTp hg
      rw [e, k1, po_reach f10 hp hTp] at go
      dsimp only [Option.bind] at go
      rw [k2] at go
      dsimp only at go
      obtain ⟨q, q1, rfl⟩ := po_inN (n := 2) rfl hin
      rcases (show q = 0 ∨ q = 1 ∨ q = 2 by omega) with rfl | rfl | rfl
      · refine go (nI (iv_d N p z)) (iv_2 σM g5 g6) ?_ ?_ iv_2_sM
        · rw [if_pos (by decide), po_stC f10 hp hz hTp]
        · rw [if_neg (by decide), if_pos (po_wkin hz (by decide)), nI_clamp (by omega), iv_2_at5, hg z hz, if_neg hz9]
      · refine go (nI z) (iv_2 σM g5 g6) ?_ ?_ iv_2_sM
        · rw [if_neg (by decide), if_pos (by decide)]
        · rw [if_pos (by decide), if_neg (by decide)]
      · refine go (nI (iv_pc T) - nI (iv_cnt (fun q => decide (iv_d N p q ≠ 99)) 12)) (iv_2 σM g5 g6) ?_ ?_ iv_2_sM
        · rw [if_neg (by decide), if_neg (by decide), if_pos (by decide), f3, po_bc f1]
        · have e4 : (iv_2 σM g5 g6).1 0 4 = nI T := f5
          rw [if_pos (by decide), if_pos (by decide), e4, po_bits f1]
theorem po_op_19 : lw_op_19 iv_I := by
  intro σC σM hI
  have hI2 := hI
  obtain ⟨T, w, N, hT, hF, hH, hR, hK, hL⟩ := hI
  obtain ⟨f1, f2, f3, f4, f5, f6, f7, f8, f9, f10⟩ := hF
  obtain ⟨a, b, e1, e2, r, m2, rfl, rfl, h3⟩ := po_rel (f := S_X11_middle_8 σC) (g := S_X12_middle_8)
    (fun i p q => ∃ m2, iv_sM σM m2 ∧ (∀ r, r < 12 → N r < 4096 ∧ m2.1 4 r = nI (N r)) ∧ ((p = (-2, 0, 99, nI i) ∧ q = (-2, 0, 0, nI i, m2)) ∨ (∃ z c d : Nat, z < 12 ∧ 1 ≤ c ∧ c ≤ 12 ∧ d ≤ 11 ∧ p = (nI z, nI c, nI d, nI i) ∧ q = (nI z, nI c, nI d, nI i, m2))))
    (fun a b => ∃ r m2, a = r ∧ b = (r, m2) ∧ iv_sM σM m2) 12 (by
      rintro i p q hi ⟨m2, hm2, hN2, hpq⟩
      have ht := po_told2 (c := σC) (m := m2) f1 f3 (hm2.1.trans f5) hi
      cases hb : T.testBit i with
      | false =>
        rw [hb] at ht
        rcases hpq with ⟨rfl, rfl⟩ | ⟨z, c, d, hz, hc1, hc2, hd, rfl, rfl⟩
        · unfold S_X11_middle_8 S_X12_middle_8
          dsimp only
          rw [if_neg (po_n12 hi), if_neg (po_n12 hi), ht.1, ht.2, if_pos rfl, if_neg (by decide), nI_1]
          exact ⟨_, _, rfl, rfl, m2, hm2, hN2, Or.inl ⟨rfl, rfl⟩⟩
        · unfold S_X11_middle_8 S_X12_middle_8
          dsimp only
          rw [if_neg (po_n12 hi), if_neg (po_n12 hi), ht.1, ht.2, if_pos rfl, if_neg (by decide), nI_1]
          exact ⟨_, _, rfl, rfl, m2, hm2, hN2, Or.inr ⟨z, c, d, hz, hc1, hc2, hd, rfl, rfl⟩⟩
      | true =>
        rw [hb] at ht
        obtain ⟨g5, g6, e, hg⟩ := po_lays hi hN2
        obtain ⟨y, hy, hy9, k1, k2⟩ := po_far (c := σC) (m := iv_2 m2 g5 g6) f10 hi hb hg
        have hdy : iv_d N i y ≤ 11 := by rcases iv_d_99 (N := N) (p := i) (q := y) with h1 | h1 <;> omega
        obtain ⟨R, hRdef⟩ : ∃ R, R = iv_cnt (fun q => decide (iv_d N i q ≠ 99)) 12 := ⟨_, rfl⟩
        have hR12 : R ≤ 12 := by rw [hRdef]; exact iv_cnt_n 12
        have hR1 : 1 ≤ R := by
          have h0 : iv_cnt (fun _ => false) 12 = 0 := rfl
          have h1 := iv_cnt_set (f := fun _ => false) (g := fun q => decide (q = i)) (k := i) 12 hi rfl (by simp) (fun q _ hne => (decide_eq_false hne).symm)
          have h2 := iv_cnt_le (f := fun q => decide (q = i)) (g := fun q => decide (iv_d N i q ≠ 99)) 12 (by
            intro q _ hq
            have hq := of_decide_eq_true hq
            have : iv_d N i q = 0 := iv_d_0.mpr hq.symm
            exact decide_eq_true (by omega))
          omega
        have hst : f_X2_stepsBetween (nI i) (nI y) σC = some (nI (iv_d N i y)) := po_stC f10 hi hy hb
        have hs2 : (iv_2 m2 g5 g6).1 5 (nI y).toNatClampNeg = nI (iv_d N i y) := by rw [nI_clamp (by omega), iv_2_at5, hg y hy, if_neg hy9]
        have hm3 : iv_sM σM (iv_2 m2 g5 g6) := hm2
        rcases hpq with ⟨rfl, rfl⟩ | ⟨z, c, d, hz, hc1, hc2, hd, rfl, rfl⟩
        · unfold S_X11_middle_8 S_X12_middle_8 wk_let
          dsimp only
          rw [if_neg (po_n12 hi), if_neg (po_n12 hi), ht.1, ht.2, if_neg (by decide), if_pos rfl, po_reach f10 hi hb, k1, e]
          dsimp only [Option.bind]
          rw [k2, hst]
          dsimp only
          rw [← hRdef, if_pos (po_wkin hy (by decide)), hs2, if_pos (show nI R > 0 from nI_lt (a := 0) (by omega) (by omega)), if_neg (show ¬ nI R < 0 from nI_pos (by omega)), if_pos (show ¬ nI R = 0 from po_nIne (b := 0) (by omega) (by decide) (by omega)), nI_1]
          exact ⟨_, _, rfl, rfl, _, hm3, hN2, Or.inr ⟨i, R, iv_d N i y, hi, hR1, hR12, hdy, rfl, rfl⟩⟩
        · unfold S_X11_middle_8 S_X12_middle_8 wk_let
          dsimp only
          rw [if_neg (po_n12 hi), if_neg (po_n12 hi), ht.1, ht.2, if_neg (by decide), if_pos rfl, po_reach f10 hi hb, k1, e]
          dsimp only [Option.bind]
          rw [k2, hst]
          dsimp only
          rw [← hRdef, if_pos (po_wkin hy (by decide)), hs2, nI_1]
          by_cases hgt : c < R
          · rw [if_pos (show nI R > nI c from nI_lt hgt (by omega)), if_neg (nI_nlt (a := R) (b := c) (by omega) (by omega)), if_pos (po_nIne (by omega) (by omega) (by omega))]
            exact ⟨_, _, rfl, rfl, _, hm3, hN2, Or.inr ⟨i, R, iv_d N i y, hi, hR1, hR12, hdy, rfl, rfl⟩⟩
          · rw [if_neg (show ¬ nI R > nI c from nI_nlt (by omega) (by omega))]
            by_cases hlt : R < c
            · rw [if_pos (po_nIne (by omega) (by omega) (by omega)), if_pos (nI_lt hlt (by omega))]
              exact ⟨_, _, rfl, rfl, _, hm3, hN2, Or.inr ⟨z, c, d, hz, hc1, hc2, hd, rfl, rfl⟩⟩
            · have hRc : R = c := by omega
              rw [hRc, if_neg (not_not_intro rfl), if_neg (nI_nlt (Nat.le_refl c) (by omega)), if_neg (not_not_intro rfl)]
              by_cases hdd : iv_d N i y < d
              · rw [if_neg (nI_ge hdd (by omega)), if_pos (nI_lt hdd (by omega))]
                exact ⟨_, _, rfl, rfl, _, hm3, hN2, Or.inr ⟨i, c, iv_d N i y, hi, hc1, hc2, hdy, rfl, rfl⟩⟩
              · rw [if_pos (nI_le (by omega) (by omega)), if_neg (nI_nlt (by omega) (by omega))]
                exact ⟨_, _, rfl, rfl, _, hm3, hN2, Or.inr ⟨z, c, d, hz, hc1, hc2, hd, rfl, rfl⟩⟩) (by
      rintro p q ⟨m2, hm2, hN2, (⟨rfl, rfl⟩ | ⟨z, c, d, hz, hc1, hc2, hd, rfl, rfl⟩)⟩
      · unfold S_X11_middle_8 S_X12_middle_8
        dsimp only
        rw [if_pos (by decide), if_pos (by decide)]
        exact ⟨_, _, rfl, rfl, _, m2, rfl, rfl, hm2⟩
      · unfold S_X11_middle_8 S_X12_middle_8
        dsimp only
        rw [if_pos (by decide), if_pos (by decide)]
        exact ⟨_, _, rfl, rfl, _, m2, rfl, rfl, hm2⟩) (by decide) (p := ((-2 : Int32), (0 : Int32), (99 : Int32), (0 : Int32))) (q := ((-2 : Int32), (0 : Int32), (0 : Int32), (0 : Int32), σM)) ⟨σM, iv_sM_r, f8, Or.inl ⟨rfl, rfl⟩⟩
  have eC : f_X11_middle σC = some a := by
    unfold f_X11_middle
    rw [e1]; rfl
  have eM : f_X12_middle σM = some (a, m2) := by
    unfold f_X12_middle
    rw [e2]; rfl
  exact ⟨a, σC, m2, (t_X11_middle eC).up (by decide), (t_X12_middle eM).up (by decide), iv_I_s hI2 iv_sC_r h3⟩
theorem po_op_20 : lw_op_20 iv_I := by
  intro a0 a1 σC σM hI
  have hI2 := hI
  obtain ⟨T, w, N, hT, hF, hH, hR, hK, hL⟩ := hI
  have hF2 := hF
  obtain ⟨f1, f2, f3, f4, f5, f6, f7, f8, f9, f10⟩ := hF
  have go : ∀ r m2, f_X11_between a0 a1 σC = some r → f_X12_between a0 a1 σM = some (r, m2) → iv_sM σM m2 → ∃ (r : Int32) (σC2 σM2 : wk_St), wk_T wk_shC 200 21 [.ref 0, .int a0, .int a1] σC (some (.int r), σC2) ∧ wk_T wk_shM 200 121 [.ref 0, .int a0, .int a1] σM (some (.int r), σM2) ∧ iv_I σC2 σM2 := fun r m2 e1 e2 e3 => ⟨r, σC, m2, (t_X11_between e1).up (by decide), (t_X12_between e2).up (by decide), iv_I_s hI2 iv_sC_r e3⟩
  unfold f_X11_between f_X12_between at go
  rcases po_toldF (x := a0) hF2 with ⟨c1, m1⟩ | ⟨c1, m1, p, hp, rfl, hTp⟩
  · rw [c1, m1] at go
    exact go (-1) σM rfl rfl iv_sM_r
  rcases po_toldF (x := a1) hF2 with ⟨c2, m2⟩ | ⟨c2, m2, q, hq, rfl, hTq⟩
  · rw [c1, c2, m1, m2] at go
    exact go (-1) σM rfl rfl iv_sM_r
  rw [c1, c2, m1, m2] at go
  simp only [Bool.true_eq_false, if_false, if_true, eq_self] at go
  have hT0 : T ≠ 0 := fun e => by rw [e, Nat.zero_testBit] at hTp; cases hTp
  have hSy : ∀ p q, p < 12 → q < 12 → (N p).testBit q = true → (N q).testBit p = true := fun p q hp hq h => (f9 p q hp hq h).1
  have hreach : ∀ e, e < 12 → iv_d N p e ≠ 99 → T.testBit e = true := by
    intro e he h
    by_cases hpe : p = e
    · rw [← hpe]; exact hTp
    · obtain ⟨r, hr, _, hn⟩ := iv_d_prev hpe h
      exact (f9 e r he hr (hSy r e hr he hn)).2.2
  obtain ⟨g5, g6, e5, hg⟩ := po_lays hq f8
  -- the row is put aside
  have e16 : wk_loop (S_X12_between_16 (nI p) (nI q)) wk_F ((0 : Int32), iv_2 σM g5 g6) = some (iv_set (iv_2 σM g5 g6) 28 (fun b => if b < 12 then g5 b else σM.1 28 b)) := by
    refine po_for (fun i => (nI i, iv_set (iv_2 σM g5 g6) 28 (fun b => if b < i then g5 b else σM.1 28 b))) 12 ?_ ?_ ?_ (by decide)
    · refine Prod.ext rfl ?_
      show iv_2 σM g5 g6 = iv_set _ 28 _
      have e : (fun b => if b < 0 then g5 b else σM.1 28 b) = (iv_2 σM g5 g6).1 28 := by
        funext b
        rw [if_neg (by omega)]
        exact (iv_2_off (by decide) (by decide)).symm
      rw [e, iv_set_id]
    · intro j hj
      unfold S_X12_between_16
      dsimp only
      rw [if_neg (po_n12 hj), if_pos (po_wkin hj (by decide)), if_pos (po_wkin hj (by decide)), nI_clamp (by omega), iv_set_si, iv_set_off (by decide), iv_2_at5, nI_1]
      refine congrArg (fun x => some (Sum.inr (nI (j + 1), iv_set (iv_2 σM g5 g6) 28 x))) ?_
      funext b
      by_cases hbj : b = j
      · rw [if_pos hbj, if_pos (by omega), hbj]
      · rw [if_neg hbj]
        have : b < j ↔ b < j + 1 := by omega
        simp only [this]
    · unfold S_X12_between_16
      dsimp only
      rw [if_pos (by decide)]
  obtain ⟨h5, h6, e6, hh⟩ := po_lays (s := iv_set (iv_2 σM g5 g6) 28 (fun b => if b < 12 then g5 b else σM.1 28 b)) (N := N) hp (fun r hr => ⟨(f8 r hr).1, (iv_set_off (by decide)).trans ((iv_2_off (by decide) (by decide)).trans (f8 r hr).2)⟩)
  obtain ⟨M, hM⟩ : ∃ M, M = iv_2 (iv_set (iv_2 σM g5 g6) 28 (fun b => if b < 12 then g5 b else σM.1 28 b)) h5 h6 := ⟨_, rfl⟩
  have hMs : iv_sM σM M := by
    rw [hM]
    exact ⟨rfl, rfl, rfl, rfl, rfl, rfl, rfl, rfl, rfl, rfl, rfl, rfl, rfl, rfl, rfl, rfl⟩
  have hM5 : ∀ e, e < 12 → M.1 5 e = if iv_d N p e = 99 then -1 else nI (iv_d N p e) := by
    intro e he
    rw [hM, iv_2_at5, hh e he]
  have hM28 : ∀ e, e < 12 → M.1 28 e = if iv_d N q e = 99 then -1 else nI (iv_d N q e) := by
    intro e he
    rw [hM, iv_2_off (by decide) (by decide), iv_set_at, if_pos he, hg e he]
  rw [e5, po_stC f10 hp hq hTp] at go
  dsimp only [Option.bind] at go
  rw [e16] at go
  dsimp only at go
  rw [e6, ← hM] at go
  dsimp only at go
  have hle : ∀ a b, iv_d N a b ≠ 99 → iv_d N a b ≤ 11 := fun a b h => by rcases iv_d_99 (N := N) (p := a) (q := b) with h1 | h1 <;> omega
  by_cases h99 : iv_d N p q = 99
  · have e37 : wk_loop (S_X12_between_37 (nI q)) wk_F ((0 : Int32), (0 : Int32), M) = some (0, M) := by
      refine po_for (fun i => (0, nI i, M)) 12 rfl ?_ ?_ (by decide)
      · intro j hj
        unfold S_X12_between_37 wk_let
        dsimp only
        rw [if_neg (po_n12 hj), if_pos (po_wkin hj (by decide)), nI_clamp (by omega), hM5 j hj, nI_1]
        by_cases h1 : iv_d N p j = 99
        · rw [if_pos h1, if_pos rfl]
        · have hl1 := hle p j h1
          rw [if_neg h1, if_neg (po_m1 (by omega)), if_pos (po_wkin hj (by decide)), hM28 j hj]
          by_cases h2 : iv_d N q j = 99
          · rw [if_pos h2, if_neg (not_not_intro rfl)]
          · have hl2 := hle q j h2
            rw [if_neg h2, if_pos (po_m1 (by omega)), if_pos (po_wkin hj (by decide)), if_pos (po_wkin hj (by decide)), if_pos (po_wkin hq (by decide)), nI_clamp (by omega), hM5 q hq, if_pos h99, nI_add, if_pos (po_m1 (by omega))]
      · unfold S_X12_between_37
        dsimp only
        rw [if_pos (by decide)]
    rw [e37, h99] at go
    exact go 0 M rfl rfl hMs
  · have hdq := hle p q h99
    obtain ⟨a, b, k1, k2, r, rfl, rfl⟩ := po_rel (f := S_X11_between_27 (nI p) (nI q) (nI (iv_d N p q)) σC) (g := S_X12_between_37 (nI q))
      (fun i x y => ∃ r, x = (r, nI i) ∧ y = (r, nI i, M)) (fun a b => ∃ r, a = r ∧ b = (r, M)) 12 (by
        rintro j x y hj ⟨r, rfl, rfl⟩
        unfold S_X11_between_27 S_X12_between_37 wk_let
        dsimp only
        rw [if_neg (po_n12 hj), if_neg (po_n12 hj), po_stC f10 hp hj hTp, po_stC2 f10 hj hq hT0, if_pos (po_wkin hj (by decide)), nI_clamp (by omega), hM5 j hj, nI_1]
        dsimp only [Option.bind]
        rw [nI_add]
        by_cases h1 : iv_d N p j = 99
        · rw [if_pos h1, if_pos rfl]
          have hne : ¬ nI (iv_d N p j + iv_st N T j q) = nI (iv_d N p q) := by
            have : iv_st N T j q ≤ 99 := by
              unfold iv_st
              split
              · rcases iv_d_99 (N := N) (p := j) (q := q) with h | h <;> omega
              · omega
            exact po_nIne (by omega) (by omega) (by omega)
          rw [if_pos hne]
          exact ⟨_, _, rfl, rfl, r, rfl, rfl⟩
        · have hl1 := hle p j h1
          have hTj := hreach j hj h1
          have est : iv_st N T j q = iv_d N q j := by
            unfold iv_st
            rw [if_pos hTj, iv_d_sym hSy hj hq]
          rw [if_neg h1, if_neg (po_m1 (by omega)), if_pos (po_wkin hj (by decide)), hM28 j hj, est]
          by_cases h2 : iv_d N q j = 99
          · rw [if_pos h2, if_neg (not_not_intro rfl), h2, if_pos (po_nIne (by omega) (by omega) (by omega))]
            exact ⟨_, _, rfl, rfl, r, rfl, rfl⟩
          · have hl2 := hle q j h2
            rw [if_neg h2, if_pos (po_m1 (by omega)), if_pos (po_wkin hj (by decide)), if_pos (po_wkin hj (by decide)), if_pos (po_wkin hq (by decide)), nI_clamp (by omega), hM5 q hq, if_neg h99, nI_add]
            by_cases hs : nI (iv_d N p j + iv_d N q j) = nI (iv_d N p q)
            · rw [if_neg (not_not_intro hs), if_neg (not_not_intro hs)]
              exact ⟨_, _, rfl, rfl, _, rfl, rfl⟩
            · rw [if_pos hs, if_pos hs]
              exact ⟨_, _, rfl, rfl, _, rfl, rfl⟩) (by
        rintro x y ⟨r, rfl, rfl⟩
        unfold S_X11_between_27 S_X12_between_37
        dsimp only
        rw [if_pos (by decide), if_pos (by decide)]
        exact ⟨_, _, rfl, rfl, r, rfl, rfl⟩) (by decide) (p := ((0 : Int32), (0 : Int32))) (q := ((0 : Int32), (0 : Int32), M)) ⟨0, rfl, rfl⟩
    rw [k2, k1] at go
    refine go a M ?_ rfl hMs
    have hne : ¬ nI (iv_d N p q) = 99 := po_nIne (b := 99) (by omega) (by decide) h99
    rw [if_pos hne]
