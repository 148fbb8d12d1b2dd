/-! PURE: diary: the op -/
theorem po_op_7 : lw_op_7 iv_I := by
  intro a0 σC σM hI
  have hI2 := hI
  obtain ⟨T, w, N, ⟨j, j1, j2, j3, j4⟩, hF, hH, hR, hK, hL⟩ := hI
  have go : ∀ r c2 m2, f_X11_diary a0 σC = some (r, c2) → f_X12_diary a0 σM = some (r, m2) → iv_I c2 m2 → ∃ (r : Int32) (σC2 σM2 : wk_St), wk_T wk_shC 200 8 [.ref 0, .int a0] σC (some (.int r), σC2) ∧ wk_T wk_shM 200 99 [.ref 0, .int a0] σM (some (.int r), σM2) ∧ iv_I σC2 σM2 := fun r c2 m2 e1 e2 e3 => ⟨r, c2, m2, (t_X11_diary e1).up (by decide), (t_X12_diary e2).up (by decide), e3⟩
  cases hin : f_X12_in a0 1 120 with
  | false => exact go (-1) σC σM (by unfold f_X11_diary; rw [po_has j2, hin]; rfl) (by unfold f_X12_diary; rw [hin]; rfl) hI2
  | true =>
    by_cases hle : a0 ≤ nI j
    · obtain ⟨n, n1, n2, rfl⟩ := po_inA (a := 1) (b := 120) rfl rfl hin
      have hnj : n ≤ j := (nI_leI (by omega) (by omega)).mp hle
      obtain ⟨g, hg1, hg2⟩ := po_begin (k0 := 32) (n := n) (j := j) (c := σC) (m := σM) (by decide) j2 j1 hnj (by omega) j4
      obtain ⟨C1, hC1⟩ : ∃ C1, C1 = f_X8_clear (wk_si (wk_si (iv_set (wk_si σC 32 1 (nI n)) (32 + 1) g) 32 3 0) 32 2 0) := ⟨_, rfl⟩
      obtain ⟨M1, hM1⟩ : ∃ M1, M1 = wk_si (f_X12_beginsText (nI n) σM) 0 42 0 := ⟨_, rfl⟩
      have uC : ∀ a, a ≠ 1 → a ≠ 32 → a ≠ 33 → C1.1 a = σC.1 a := fun a h1 h2 h3 => by
        rw [hC1]
        unfold f_X8_clear
        funext b
        rw [po_si_c h1, po_si_c h2, po_si_c h2, iv_set_off h3, po_si_c h2]
      have uM : ∀ a, a ≠ 0 → M1.1 a = σM.1 a := fun a h => by
        rw [hM1]
        unfold f_X12_beginsText
        funext b
        rw [po_si_c h, po_si_c h, po_si_c h, po_si_c h, po_si_c h]
      have uM0 : ∀ b, b ≠ 10 → b ≠ 11 → b ≠ 15 → b ≠ 17 → b ≠ 42 → M1.1 0 b = σM.1 0 b := fun b h1 h2 h3 h4 h5 => by
        rw [hM1]
        unfold f_X12_beginsText
        rw [po_si_ne h5, po_si_ne h4, po_si_ne h3, po_si_ne h2, po_si_ne h1]
      have C2 : C1.2 = σC.2 := by rw [hC1]; rfl
      have M2 : M1.2 = σM.2 := by rw [hM1]; rfl
      have C11 : C1.1 1 1 = 0 := by rw [hC1]; exact po_si_at
      have hE1 : iv_E T w N 8 C1 M1 := by
        unfold iv_E
        rw [uC 3 (by decide) (by decide) (by decide), uC 4 (by decide) (by decide) (by decide), uC 5 (by decide) (by decide) (by decide), uC 6 (by decide) (by decide) (by decide), uC 37 (by decide) (by decide) (by decide), uC 38 (by decide) (by decide) (by decide), uC 39 (by decide) (by decide) (by decide), uC 40 (by decide) (by decide) (by decide), uC 41 (by decide) (by decide) (by decide), uC 42 (by decide) (by decide) (by decide), uC 43 (by decide) (by decide) (by decide), uC 8 (by decide) (by decide) (by decide), uC (8 + 1) (by decide) (by decide) (by decide), uC (8 + 2) (by decide) (by decide) (by decide), uC (8 + 3) (by decide) (by decide) (by decide), uC (8 + 4) (by decide) (by decide) (by decide), C2,
          uM0 4 (by decide) (by decide) (by decide) (by decide) (by decide), uM0 5 (by decide) (by decide) (by decide) (by decide) (by decide), uM0 18 (by decide) (by decide) (by decide) (by decide) (by decide), uM 4 (by decide), uM 22 (by decide), uM 21 (by decide), uM 14 (by decide), uM 15 (by decide), uM 16 (by decide), uM 17 (by decide), uM 18 (by decide), uM 1 (by decide)]
        exact ⟨hF, hH, hL, hR⟩
      obtain ⟨c1, m1, d1, d2, d3, d4, d5, d6, d7, d8⟩ := po_draft hE1
      have hRD : iv_RD 32 (iv_o (σM.1 7)) n 0 c1 m1 := by
        refine ⟨by omega, Nat.zero_le _, ?_, ?_, ?_, ?_, fun i hi => ⟨iv_o_lt, ?_, ?_⟩⟩
        · rw [d5 32 (by omega), hC1]
          unfold f_X8_clear
          rw [po_si_c (by decide), po_si_ne (by decide), po_si_ne (by decide), iv_set_off (by decide), po_si_at]
        · rw [d5 32 (by omega), hC1]
          unfold f_X8_clear
          rw [po_si_c (by decide), po_si_ne (by decide), po_si_at]
          rfl
        · rw [d7 0 (by decide), hM1]
          unfold f_X12_beginsText
          rw [po_si_ne (by decide), po_si_ne (by decide), po_si_ne (by decide), po_si_ne (by decide), po_si_at]
          rfl
        · rw [d7 0 (by decide), hM1]
          unfold f_X12_beginsText
          rw [po_si_ne (by decide), po_si_ne (by decide), po_si_ne (by decide), po_si_at]
        · rw [d5 (32 + 1) (by omega), hC1]
          unfold f_X8_clear
          rw [po_si_c (by decide), po_si_c (by decide), po_si_c (by decide), iv_set_at]
          exact hg2 i hi
        · rw [d7 7 (by decide), uM 7 (by decide)]
          exact iv_o_e
      have h42 : m1.1 0 42 = nI 0 := by
        rw [d7 0 (by decide), hM1]
        exact po_si_at
      obtain ⟨r, c2, m2, b, e1, e2, e3, e4, e5⟩ := po_linesL (T := T) (w := w) (N := N) n 0 0 c1 m1 wk_F wk_F (by omega) (show n + 1 < 4096 by omega) (show n + 2 < 4096 by omega) (by decide) d3 hRD h42
      have e1' : wk_loop S_X1_readDiary_2 wk_F ((1 : Int32), c1) = _ := e1
      have eC : f_X11_diary (nI n) σC = if r < 0 then some (r, c2) else Option.bind (f_X0_copyFrom 8 18 c2) fun v6 => some (r, v6) := by
        unfold f_X11_diary
        rw [po_has j2, hin, decide_eq_true hle, if_pos (show (true && true) = true from rfl), hg1]
        dsimp only [Option.bind]
        unfold wk_let
        rw [← hC1]
        dsimp only
        rw [d1]
        dsimp only
        unfold f_X1_readDiary
        rw [e1']
        rfl
      have eM : f_X12_diary (nI n) σM = j_X12_diary_44 (b2i b) m2 := by
        unfold f_X12_diary
        rw [hin, if_neg (by decide), j3, if_pos hle]
        unfold wk_let
        dsimp only
        rw [← hM1, d2]
        dsimp only [Option.bind]
        cases hv : f_X12_readsLine m1 with
        | none => rw [hv] at e2; cases e2
        | some v4 =>
          rw [hv] at e2
          dsimp only [Option.bind] at e2 ⊢
          rw [e2]
      have v0 : ∀ b, b ≠ 10 → b ≠ 11 → b ≠ 12 → b ≠ 13 → b ≠ 15 → b ≠ 17 → b ≠ 42 → m2.1 0 b = σM.1 0 b := fun b k0 k1 k2 k3 k5 k7 k4 => by rw [e4.2.2 b k0 k1 k2 k3 k4, d7 0 (by decide), uM0 b k0 k1 k5 k7 k4]
      have va : ∀ a, a ≠ 0 → a ≠ 1 → a ≠ 2 → m2.1 a = σM.1 a := fun a k0 k1 k2 => by rw [e4.2.1 a k0 k1, d7 a k2, uM a k0]
      have ua : ∀ a, (a < 18 ∨ 22 < a) → a ≠ 1 → a ≠ 32 → a ≠ 33 → c2.1 a = σC.1 a := fun a k0 k1 k2 k3 => by rw [e3.2 a k0 k2, d5 a k0, uC a k1 k2 k3]
      have c2L : c2.2 = σC.2 := e3.1.trans (d4.trans C2)
      have c211 : c2.1 1 1 = 0 := by rw [e3.2 1 (by decide) (by decide), d5 1 (by decide), C11]
      rcases e5 with ⟨rfl, l2, hl2, hr, hm42, hE2⟩ | ⟨rfl, hr, hm12⟩
      · have hr0 : ¬ r < 0 := by rw [hr]; exact nI_pos (by omega)
        obtain ⟨s2, q, q2, qc, qk, q4, q5, q6⟩ := po_copy (s := c2) (k0 := 8) (k1 := 18) (by decide)
        have qc' : ∀ a, (a < 8 ∨ 12 < a) → s2.1 a = c2.1 a := fun a h => qc a (by omega)
        rw [if_neg hr0, q] at eC
        unfold j_X12_diary_44 at eM
        rw [if_neg (show ¬ b2i true = 0 by decide), po_si_ne (by decide), hm42, ← hr] at eM
        refine go r _ _ eC eM ⟨T, w, N, ⟨0, by decide, (qc' 1 (by decide) ▸ c211 : s2.1 1 1 = nI 0), po_si_at, fun i hi => by omega⟩, ?_, ?_, ?_, ?_, ?_⟩
        all_goals (obtain ⟨M, hM⟩ : ∃ M, M = wk_si m2 0 9 0 := ⟨_, rfl⟩; rw [← hM])
        all_goals have m0 : ∀ b, b ≠ 9 → M.1 0 b = m2.1 0 b := fun b h => by rw [hM]; exact po_si_ne h
        all_goals have ma : ∀ a, a ≠ 0 → M.1 a = m2.1 a := fun a h => by rw [hM]; exact funext (fun b => po_si_c h)
        all_goals obtain ⟨k1, k2, k3, k4⟩ := hE2
        · rw [qc' 3 (by decide), qc' 4 (by decide), qc' 5 (by decide), m0 4 (by decide), m0 5 (by decide), ma 4 (by decide)]; exact k1
        · rw [qc' 6 (by decide), q2, ma 22 (by decide), ma 21 (by decide)]; exact k2
        · rw [ma 1 (by decide)]
          exact iv_R_congr k4 q4 q5 q6 qk (fun j _ => rfl)
        · rw [qc' 0 (by decide), qc' 13 (by decide), qc' 14 (by decide), qc' 15 (by decide), qc' 16 (by decide), qc' 17 (by decide), m0 57 (by decide), ma 3 (by decide)]
          rw [ua 0 (by decide) (by decide) (by decide) (by decide), ua 13 (by decide) (by decide) (by decide) (by decide), ua 14 (by decide) (by decide) (by decide) (by decide), ua 15 (by decide) (by decide) (by decide) (by decide), ua 16 (by decide) (by decide) (by decide) (by decide), ua 17 (by decide) (by decide) (by decide) (by decide), v0 57 (by decide) (by decide) (by decide) (by decide) (by decide) (by decide) (by decide), va 3 (by decide) (by decide) (by decide)]
          exact hK
        · rw [qc' 37 (by decide), qc' 38 (by decide), qc' 39 (by decide), qc' 40 (by decide), qc' 41 (by decide), qc' 42 (by decide), qc' 43 (by decide), m0 18 (by decide), ma 14 (by decide), ma 15 (by decide), ma 16 (by decide), ma 17 (by decide), ma 18 (by decide)]; exact k3
      · rw [if_pos hr] at eC
        unfold j_X12_diary_44 at eM
        rw [if_pos (show b2i false = 0 from rfl), po_copies (by decide)] at eM
        obtain ⟨M, hM⟩ : ∃ M, M = iv_set (wk_si m2 0 9 0) 1 (fun b => if b < 47 then (wk_si m2 0 9 0).1 2 b else (wk_si m2 0 9 0).1 1 b) := ⟨_, rfl⟩
        rw [← hM] at eM
        dsimp only [Option.bind] at eM
        have m0 : ∀ b, b ≠ 9 → M.1 0 b = m2.1 0 b := fun b h => by rw [hM, iv_set_off (by decide)]; exact po_si_ne h
        have ma : ∀ a, a ≠ 0 → a ≠ 1 → M.1 a = m2.1 a := fun a h h1 => by rw [hM]; exact funext (fun b => (iv_set_off h1).trans (po_si_c h))
        rw [m0 12 (by decide), hm12] at eM
        refine go r _ _ eC eM ⟨T, w, N, ⟨0, by decide, c211, ?_, fun i hi => by omega⟩, ?_, ?_, ?_, ?_, ?_⟩
        · rw [hM, iv_set_off (by decide)]; exact po_si_at
        · rw [ua 3 (by decide) (by decide) (by decide) (by decide), ua 4 (by decide) (by decide) (by decide) (by decide), ua 5 (by decide) (by decide) (by decide) (by decide), m0 4 (by decide), m0 5 (by decide), ma 4 (by decide) (by decide), v0 4 (by decide) (by decide) (by decide) (by decide) (by decide) (by decide) (by decide), v0 5 (by decide) (by decide) (by decide) (by decide) (by decide) (by decide) (by decide), va 4 (by decide) (by decide) (by decide)]; exact hF
        · rw [ua 6 (by decide) (by decide) (by decide) (by decide), c2L, ma 22 (by decide) (by decide), ma 21 (by decide) (by decide), va 22 (by decide) (by decide) (by decide), va 21 (by decide) (by decide) (by decide)]; exact hH
        · rw [ua 8 (by decide) (by decide) (by decide) (by decide), ua 9 (by decide) (by decide) (by decide) (by decide), ua 10 (by decide) (by decide) (by decide) (by decide), ua 11 (by decide) (by decide) (by decide) (by decide), ua 12 (by decide) (by decide) (by decide) (by decide)]
          refine iv_R_congr hR rfl rfl rfl (fun k _ => ⟨rfl, rfl, rfl, rfl⟩) (fun j hj => ?_)
          rw [hM, iv_set_at, if_pos hj, po_si_c (by decide), e4.2.1 2 (by decide) (by decide), d8 j hj, uM 1 (by decide)]
        · rw [ua 0 (by decide) (by decide) (by decide) (by decide), ua 13 (by decide) (by decide) (by decide) (by decide), ua 14 (by decide) (by decide) (by decide) (by decide), ua 15 (by decide) (by decide) (by decide) (by decide), ua 16 (by decide) (by decide) (by decide) (by decide), ua 17 (by decide) (by decide) (by decide) (by decide), m0 57 (by decide), ma 3 (by decide) (by decide), v0 57 (by decide) (by decide) (by decide) (by decide) (by decide) (by decide) (by decide), va 3 (by decide) (by decide) (by decide)]
          exact hK
        · rw [ua 37 (by decide) (by decide) (by decide) (by decide), ua 38 (by decide) (by decide) (by decide) (by decide), ua 39 (by decide) (by decide) (by decide) (by decide), ua 40 (by decide) (by decide) (by decide) (by decide), ua 41 (by decide) (by decide) (by decide) (by decide), ua 42 (by decide) (by decide) (by decide) (by decide), ua 43 (by decide) (by decide) (by decide) (by decide), m0 18 (by decide), ma 14 (by decide) (by decide), ma 15 (by decide) (by decide), ma 16 (by decide) (by decide), ma 17 (by decide) (by decide), ma 18 (by decide) (by decide), v0 18 (by decide) (by decide) (by decide) (by decide) (by decide) (by decide) (by decide), va 14 (by decide) (by decide) (by decide), va 15 (by decide) (by decide) (by decide), va 16 (by decide) (by decide) (by decide), va 17 (by decide) (by decide) (by decide), va 18 (by decide) (by decide) (by decide)]; exact hL
    · exact go (-1) σC σM (by unfold f_X11_diary; rw [po_has j2, hin, decide_eq_false hle]; rfl) (by unfold f_X12_diary; rw [hin, j3, if_neg (by decide), if_neg hle]) hI2
