/-! PURE: law: op 5 -/
theorem po_op_5 : lw_op_5 iv_I := by
  intro a0 σC σM hI
  have hI2 := hI
  have hFF : wk_F = 4096 := rfl
  obtain ⟨T, w, N, ⟨j, j1, j2, j3, j4⟩, hF, hH, hR, hK, hL⟩ := hI
  have go : ∀ r c2 m2, f_X11_law a0 σC = some (r, c2) → f_X12_law a0 σM = some (r, m2) → iv_I c2 m2 → ∃ (r : Int32) (σC2 σM2 : wk_St), wk_T wk_shC 200 6 [.ref 0, .int a0] σC (some (.int r), σC2) ∧ wk_T wk_shM 200 83 [.ref 0, .int a0] σM (some (.int r), σM2) ∧ iv_I σC2 σM2 := fun r c2 m2 e1 e2 e3 => ⟨r, c2, m2, (t_X11_law e1).up (by decide), (t_X12_law e2).up (by decide), e3⟩
  cases hin : f_X12_in a0 1 240 with
  | false => exact go (-1) σC σM (by unfold f_X11_law; rw [po_has j2, hin]; rfl) (by unfold f_X12_law; rw [hin]; rfl) hI2
  | true =>
    by_cases hle : a0 ≤ nI j
    · obtain ⟨n, n1, n2, rfl⟩ := po_inA (a := 1) (b := 240) rfl rfl hin
      have hnj : n ≤ j := (nI_leI (by omega) (by omega)).mp hle
      obtain ⟨g, hg1, hg2⟩ := po_begin (k0 := 34) (n := n) (j := j) (c := σC) (m := σM) (by decide) j2 j1 hnj (by omega) j4
      obtain ⟨C0, hC0⟩ : ∃ C0, C0 = f_X8_clear (wk_si (wk_si (iv_set (wk_si σC 34 1 (nI n)) (34 + 1) g) 34 3 0) 34 2 0) := ⟨_, rfl⟩
      obtain ⟨C1, hC1⟩ : ∃ C1, C1 = f_X4_clear C0 := ⟨_, rfl⟩
      obtain ⟨M1, hM1⟩ : ∃ M1, M1 = f_X12_beginsText (nI n) σM := ⟨_, rfl⟩
      have uC0 : ∀ a, a ≠ 1 → a ≠ 34 → a ≠ 35 → C0.1 a = σC.1 a := fun a h1 h2 h3 => by
        rw [hC0]
        unfold f_X8_clear
        funext b
        rw [po_si_c h1, po_si_c h2, po_si_c h2, iv_set_off h3, po_si_c h2]
      have uC10 : ∀ a, a ≠ 45 → C1.1 a = C0.1 a := fun a h1 => by
        rw [hC1]
        unfold f_X4_clear
        exact funext (fun b => by rw [po_si_c h1, po_si_c h1])
      have C1L : C1.2 = σC.2 := by rw [hC1, hC0]; rfl
      have uM : ∀ a, a ≠ 0 → M1.1 a = σM.1 a := fun a h => by
        rw [hM1]
        unfold f_X12_beginsText
        funext b
        rw [po_si_c h, po_si_c h, po_si_c h, po_si_c h]
      have uM0 : ∀ b, b ≠ 10 → b ≠ 11 → b ≠ 15 → b ≠ 17 → M1.1 0 b = σM.1 0 b := fun b h1 h2 h3 h4 => by
        rw [hM1]
        unfold f_X12_beginsText
        rw [po_si_ne h4, po_si_ne h3, po_si_ne h2, po_si_ne h1]
      have C011 : C0.1 1 1 = 0 := by rw [hC0]; unfold f_X8_clear; exact po_si_at
      have hRD : iv_RD 34 (iv_o (σM.1 7)) n 0 C1 M1 := by
        refine ⟨by omega, Nat.zero_le _, ?_, ?_, ?_, ?_, fun i hi => ⟨iv_o_lt, ?_, ?_⟩⟩
        · rw [uC10 34 (by decide), hC0]
          unfold f_X8_clear
          rw [po_si_c (by decide), po_si_ne (by decide), po_si_ne (by decide), iv_set_off (by decide), po_si_at]
        · rw [uC10 34 (by decide), hC0]
          unfold f_X8_clear
          rw [po_si_c (by decide), po_si_ne (by decide), po_si_at]
          rfl
        · rw [hM1]
          unfold f_X12_beginsText
          rw [po_si_ne (by decide), po_si_ne (by decide), po_si_ne (by decide), po_si_at]
          rfl
        · rw [hM1]
          unfold f_X12_beginsText
          rw [po_si_ne (by decide), po_si_ne (by decide), po_si_at]
        · rw [uC10 (34 + 1) (by decide), hC0]
          unfold f_X8_clear
          rw [po_si_c (by decide), po_si_c (by decide), po_si_c (by decide), iv_set_at]
          exact hg2 i hi
        · rw [uM 7 (by decide)]
          exact iv_o_e
      have h8 : C1.1 45 8 = nI 0 := by rw [hC1]; unfold f_X4_clear; exact po_si_at
      have h7 : C1.1 45 7 = nI 0 := by rw [hC1]; unfold f_X4_clear; rw [po_si_ne (by decide)]; exact po_si_at
      have h15 : M1.1 0 15 = nI 0 := by rw [hM1]; unfold f_X12_beginsText; rw [po_si_ne (by decide)]; exact po_si_at
      have h17 : M1.1 0 17 = nI 0 := by rw [hM1]; unfold f_X12_beginsText; exact po_si_at
      obtain ⟨b, c2, m2, e1, e2, e3, e4, e5⟩ := po_rules n 0 0 0 C1 M1 wk_F wk_F (by omega) (by omega) (by omega) hRD (Nat.le_refl 0) h8 h15 ⟨by decide, h7, h17, fun r hr => by omega⟩
      have e1' : wk_loop S_X5_readLaw_8 wk_F ((1 : Int32), (1 : Int32), (0 : Int32), C1) = some (b2i b, c2) := e1
      have eC : f_X11_law (nI n) σC = if f_X6_answer 34 (b2i b) (c2.1 45 7) c2 < 0 then some (f_X6_answer 34 (b2i b) (c2.1 45 7) c2, c2) else Option.bind (f_X4_copyFrom c2) fun v5 => some (f_X6_answer 34 (b2i b) (c2.1 45 7) c2, v5) := by
        unfold f_X11_law
        rw [po_has j2, hin, decide_eq_true hle, if_pos (show (true && true) = true from rfl), hg1]
        dsimp only [Option.bind]
        unfold wk_let
        rw [← hC0]
        dsimp only
        unfold f_X5_readLaw wk_let
        rw [← hC1]
        dsimp only
        rw [e1']
        dsimp only [Option.bind]
      have eM : f_X12_law (nI n) σM = j_X12_law_36 (b2i b) m2 := by
        unfold f_X12_law
        rw [hin, if_neg (by decide), j3, if_pos hle]
        unfold wk_let
        dsimp only
        rw [← hM1]
        cases hv : f_X12_readsRule M1 with
        | none => rw [hv] at e2; cases e2
        | some v3 =>
          rw [hv] at e2
          dsimp only [Option.bind] at e2 ⊢
          rw [e2]
      have v0 : ∀ b, (b < 10 ∨ 17 < b) → m2.1 0 b = σM.1 0 b := fun b k => by rw [e4.2.2 b k, uM0 b (by omega) (by omega) (by omega) (by omega)]
      have va : ∀ a, a ≠ 0 → (a < 8 ∨ 13 < a) → m2.1 a = σM.1 a := fun a k0 k1 => by rw [e4.2.1 a k0 k1, uM a k0]
      have ua : ∀ a, a ≠ 1 → (a < 34 ∨ (35 < a ∧ a < 45)) → c2.1 a = σC.1 a := fun a k1 k2 => by rw [e3.2 a (by omega) (by omega), uC10 a (by omega), uC0 a k1 (by omega) (by omega)]
      have c2L : c2.2 = σC.2 := e3.1.trans C1L
      have c211 : c2.1 1 1 = 0 := by rw [e3.2 1 (by decide) (by decide), uC10 1 (by decide)]; exact C011
      rcases e5 with ⟨rfl, ⟨f, i, f1, f2, f3, f4, f5⟩⟩ | ⟨rfl, R, e, g1, g2, g3⟩
      · have hr : f_X11_faultOf (nI f) (nI i) < 0 := by
          have h4 : ¬ (0 : Int32) ≤ f_X11_faultOf (nI f) (nI i) := po_fa f1 f2 f3
          rw [Int32.le_iff_toInt_le] at h4
          rw [Int32.lt_iff_toInt_lt]
          omega
        have ea : f_X6_answer 34 (b2i false) (c2.1 45 7) c2 = f_X11_faultOf (nI f) (nI i) := by
          unfold f_X6_answer
          rw [if_pos (show b2i false = 0 from rfl), f4]
        rw [ea, if_pos hr] at eC
        unfold j_X12_law_36 at eM
        rw [if_neg (fun h => h (show b2i false = 0 from rfl)), po_si_ne (by decide), f5] at eM
        obtain ⟨M, hM⟩ : ∃ M, M = wk_si m2 0 9 0 := ⟨_, rfl⟩
        rw [← hM] at eM
        have m0 : ∀ b, b ≠ 9 → M.1 0 b = m2.1 0 b := fun b h => by rw [hM]; exact po_si_ne h
        have ma : ∀ a, a ≠ 0 → M.1 a = m2.1 a := fun a h => by rw [hM]; exact funext (fun b => po_si_c h)
        refine go _ c2 M eC eM ⟨T, w, N, ⟨0, by decide, c211, by rw [hM]; exact po_si_at, fun i hi => by omega⟩, ?_, ?_, ?_, ?_, ?_⟩
        · rw [ua 3 (by decide) (by decide), ua 4 (by decide) (by decide), ua 5 (by decide) (by decide), m0 4 (by decide), m0 5 (by decide), ma 4 (by decide), v0 4 (by decide), v0 5 (by decide), va 4 (by decide) (by decide)]; exact hF
        · rw [ua 6 (by decide) (by decide), c2L, ma 22 (by decide), ma 21 (by decide), va 22 (by decide) (by decide), va 21 (by decide) (by decide)]; exact hH
        · rw [ua 8 (by decide) (by decide), ua 9 (by decide) (by decide), ua 10 (by decide) (by decide), ua 11 (by decide) (by decide), ua 12 (by decide) (by decide), ma 1 (by decide), va 1 (by decide) (by decide)]; exact hR
        · rw [ua 0 (by decide) (by decide), ua 13 (by decide) (by decide), ua 14 (by decide) (by decide), ua 15 (by decide) (by decide), ua 16 (by decide) (by decide), ua 17 (by decide) (by decide), m0 57 (by decide), ma 3 (by decide), v0 57 (by decide), va 3 (by decide) (by decide)]; exact hK
        · rw [ua 37 (by decide) (by decide), ua 38 (by decide) (by decide), ua 39 (by decide) (by decide), ua 40 (by decide) (by decide), ua 41 (by decide) (by decide), ua 42 (by decide) (by decide), ua 43 (by decide) (by decide), m0 18 (by decide), ma 14 (by decide), ma 15 (by decide), ma 16 (by decide), ma 17 (by decide), ma 18 (by decide), v0 18 (by decide), va 14 (by decide) (by decide), va 15 (by decide) (by decide), va 16 (by decide) (by decide), va 17 (by decide) (by decide), va 18 (by decide) (by decide)]; exact hL
      · have hR16 := g3.1
        have ea : f_X6_answer 34 (b2i true) (c2.1 45 7) c2 = nI R := by
          unfold f_X6_answer
          rw [if_neg (show ¬ b2i true = 0 by decide)]
          exact g3.2.1
        obtain ⟨s2, q1, q2, q3, q4, q5, q6⟩ := po_copyL c2
        rw [ea, if_neg (nI_pos (by omega)), q1] at eC
        dsimp only [Option.bind] at eC
        obtain ⟨M2, hM2⟩ : ∃ M, M = wk_si (wk_si m2 0 9 0) 0 18 (nI R) := ⟨_, rfl⟩
        have oM2 : ∀ a, a ≠ 0 → M2.1 a = m2.1 a := fun a h => by rw [hM2]; exact funext (fun b => by rw [po_si_c h, po_si_c h])
        have oM20 : ∀ b, b ≠ 9 → b ≠ 18 → M2.1 0 b = m2.1 0 b := fun b h1 h2 => by rw [hM2, po_si_ne h2, po_si_ne h1]
        obtain ⟨M3, x1, x2, x3, x4⟩ := po_saysC (m := M2) (e := e) (by rw [oM20 15 (by decide) (by decide)]; exact g2) g1
        obtain ⟨M4, y1, y2, y3, y4⟩ := po_saysR (m := M3) (R := R) (by rw [x3 0 (by decide), oM20 17 (by decide) (by decide)]; exact g3.2.2.1) hR16
        have m0 : ∀ b, b ≠ 9 → b ≠ 18 → M4.1 0 b = m2.1 0 b := fun b h1 h2 => by rw [y3 0 (by decide), x3 0 (by decide), oM20 b h1 h2]
        have ma : ∀ a, a ≠ 0 → (a < 14 ∨ 18 < a) → M4.1 a = m2.1 a := fun a h h1 => by rw [y3 a (by omega), x3 a (by omega), oM2 a h]
        have eM2 : f_X12_law (nI n) σM = some (nI R, M4) := by
          rw [eM]
          unfold j_X12_law_36
          rw [if_pos (show ¬ b2i true = 0 by decide), po_si_ne (by decide), g3.2.2.1, ← hM2, x1]
          dsimp only [Option.bind]
          rw [y1]
          dsimp only
          rw [m0 17 (by decide) (by decide), g3.2.2.1]
        have h18 : M4.1 0 18 = nI R := by rw [y3 0 (by decide), x3 0 (by decide), hM2]; exact po_si_at
        have hX8 : ∀ j, j < e → M4.1 14 j = m2.1 8 j := fun j hj => by rw [y3 14 (by decide), x4 j hj, oM2 8 (by decide)]
        have hXs : ∀ j, j < R → M4.1 15 j = m2.1 10 j ∧ M4.1 16 j = m2.1 11 j ∧ M4.1 17 j = m2.1 12 j ∧ M4.1 18 j = m2.1 13 j := fun j hj => by
          have := y4 j hj
          rw [x3 10 (by decide), x3 11 (by decide), x3 12 (by decide), x3 13 (by decide), oM2 10 (by decide), oM2 11 (by decide), oM2 12 (by decide), oM2 13 (by decide)] at this
          exact this
        refine go (nI R) s2 M4 eC eM2 ⟨T, w, N, ⟨0, by decide, ?_, ?_, fun i hi => by omega⟩, ?_, ?_, ?_, ?_, po_force g3 g1 q4 h18 q5 q6 hX8 hXs⟩
        · rw [q3 1 (by decide)]; exact c211
        · rw [y3 0 (by decide), x3 0 (by decide), hM2, po_si_ne (by decide)]; exact po_si_at
        · rw [q3 3 (by decide), q3 4 (by decide), q3 5 (by decide), ua 3 (by decide) (by decide), ua 4 (by decide) (by decide), ua 5 (by decide) (by decide), m0 4 (by decide) (by decide), m0 5 (by decide) (by decide), ma 4 (by decide) (by decide), v0 4 (by decide), v0 5 (by decide), va 4 (by decide) (by decide)]; exact hF
        · rw [q3 6 (by decide), q2, ua 6 (by decide) (by decide), c2L, ma 22 (by decide) (by decide), ma 21 (by decide) (by decide), va 22 (by decide) (by decide), va 21 (by decide) (by decide)]; exact hH
        · rw [q3 8 (by decide), q3 9 (by decide), q3 10 (by decide), q3 11 (by decide), q3 12 (by decide), ua 8 (by decide) (by decide), ua 9 (by decide) (by decide), ua 10 (by decide) (by decide), ua 11 (by decide) (by decide), ua 12 (by decide) (by decide), ma 1 (by decide) (by decide), va 1 (by decide) (by decide)]; exact hR
        · rw [q3 0 (by decide), q3 13 (by decide), q3 14 (by decide), q3 15 (by decide), q3 16 (by decide), q3 17 (by decide), ua 0 (by decide) (by decide), ua 13 (by decide) (by decide), ua 14 (by decide) (by decide), ua 15 (by decide) (by decide), ua 16 (by decide) (by decide), ua 17 (by decide) (by decide), m0 57 (by decide) (by decide), ma 3 (by decide) (by decide), v0 57 (by decide), va 3 (by decide) (by decide)]; exact hK
    · exact go (-1) σC σM (by unfold f_X11_law; rw [po_has j2, hin, decide_eq_false hle]; rfl) (by unfold f_X12_law; rw [hin, j3, if_neg (by decide), if_neg hle]) hI2
