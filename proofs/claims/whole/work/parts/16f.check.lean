/-! PURE: check -/
theorem po_checkL {T j n : Nat} {c m : wk_St} (hj : c.1 1 1 = nI j) (hj2 : j ≤ 260) (hn : n ≤ 9) (hnj : n ≤ j) (hb : ∀ i, i < j → c.1 2 i = m.1 7 i &&& 255) (hR : iv_R T (c.1 8) (c.1 9) (c.1 10) (c.1 11) (c.1 12) (m.1 1)) :
    ∀ d k F, k + d = n → d + 1 < F → ∃ r, wk_loop (S_X11_check_13 (nI n)) F ((-1 : Int32), nI k, c) = some (r, c) ∧ ((r = -1 ∧ wk_loop (S_X12_check_16 (nI n)) F (nI k, m) = some (Sum.inr m)) ∨ wk_loop (S_X12_check_16 (nI n)) F (nI k, m) = some (Sum.inl (r, m))) := by
  obtain ⟨K, D, X, a1, a2, a3, a4, a5, a6, a7, a8, a9⟩ := hR
  intro d
  induction d with
  | zero =>
    intro k F hk hF
    obtain ⟨F, rfl⟩ : ∃ f, F = f + 1 := ⟨F - 1, by omega⟩
    have e : k = n := by omega
    subst e
    have hge : nI k ≥ nI k := nI_le (Nat.le_refl _) (by omega)
    refine ⟨-1, wk_loopI ?_, Or.inl ⟨rfl, wk_loopI ?_⟩⟩
    · unfold S_X11_check_13
      dsimp only
      rw [if_pos hge]
    · unfold S_X12_check_16
      dsimp only
      rw [if_pos hge]
  | succ d ih =>
    intro k F hk hF
    obtain ⟨F, rfl⟩ : ∃ f, F = f + 2 := ⟨F - 2, by omega⟩
    have hlt : ¬ nI k ≥ nI n := nI_ge (by omega) (by omega)
    have hne1 : ¬ nI k = (-1 : Int32) := po_m1 (by omega)
    -- what the knight's place is to be
    have key : ∃ v : Int32, (∀ s0, s0 = (-1 : Int32) → S_X11_check_13 (nI n) (s0, nI k, c) = if c.1 2 k = v then some (Sum.inr (-1, nI (k + 1), c)) else some (Sum.inr (nI k, nI (k + 1), c))) ∧ S_X12_check_16 (nI n) (nI k, m) = if c.1 2 k = v then some (Sum.inr (nI (k + 1), m)) else some (Sum.inl (Sum.inl (nI k, m))) := by
      have hby : f_X8_byteAt (nI k) c = some (c.1 2 k) := po_byteAt hj hj2 (by omega) rfl
      have hoc : f_X12_octet (nI k) m = some (c.1 2 k) := by rw [po_octet (by omega), hb k (by omega)]
      rcases po_kn (x := nI k) a1 a4 a9 with ⟨c1, m1⟩ | ⟨c1, m1, k2, hk2, e2, hb2⟩
      · refine ⟨255, ?_, ?_⟩
        · rintro _ rfl
          unfold S_X11_check_13 j_X11_check_30_l13
          dsimp only
          rw [if_neg hlt, if_neg (by decide), c1, if_pos rfl, hby, nI_1]
          rfl
        · unfold S_X12_check_16
          dsimp only
          rw [if_neg hlt, hoc, m1, nI_1]
          rfl
      · have e3 : k2 = k := ((nI_eq (by omega) (by omega)).mp e2).symm
        subst e3
        have hkk := a9 k2 hk2
        rw [hb2] at hkk
        obtain ⟨t1, t2, t3, t4, t5, ⟨P, hP, hp, hPT⟩, t7, t8⟩ := iv_k_t hkk
        have hpl : f_X0_placeOf 8 (nI k2) c = some (c.1 9 k2) := by
          unfold f_X0_placeOf
          rw [po_W, po_inT (n := 8) rfl (by omega), if_neg (by decide), if_pos (po_wkin hk2 (by decide)), nI_clamp (by omega)]
        refine ⟨c.1 9 k2, ?_, ?_⟩
        · rintro _ rfl
          unfold S_X11_check_13 j_X11_check_30_l13
          dsimp only
          rw [if_neg hlt, if_neg (by decide), c1, if_neg (by decide), hpl, hby, nI_1]
          rfl
        · have e18 : (18 : Int32) + nI k2 = nI (18 + k2) := nI_add 18 k2
          unfold S_X12_check_16
          dsimp only
          rw [if_neg hlt, hoc, m1, nI_1]
          dsimp only [Option.bind]
          rw [if_neg (by decide), e18, if_pos (po_wkin (by omega) (by decide)), nI_clamp (by omega), t3]
    obtain ⟨v, kC, kM⟩ := key
    by_cases hv : c.1 2 k = v
    · rw [if_pos hv] at kM
      have kC := kC _ rfl
      rw [if_pos hv] at kC
      obtain ⟨r, i1, i2⟩ := ih (k + 1) (F + 1) (by omega) (by omega)
      exact ⟨r, (wk_loopS kC).trans i1, i2.elim (fun h => Or.inl ⟨h.1, (wk_loopS kM).trans h.2⟩) (fun h => Or.inr ((wk_loopS kM).trans h))⟩
    · rw [if_neg hv] at kM
      have kC := kC _ rfl
      rw [if_neg hv] at kC
      refine ⟨nI k, (wk_loopS kC).trans (wk_loopI ?_), Or.inr (wk_loopI kM)⟩
      unfold S_X11_check_13
      dsimp only
      by_cases hge : nI (k + 1) ≥ nI n
      · rw [if_pos hge]
      · rw [if_neg hge, if_pos hne1]
theorem po_op_33 : lw_op_33 iv_I := by
  intro a0 σC σM hI
  have hI2 := hI
  obtain ⟨T, w, N, ⟨j, j1, j2, j3, j4⟩, hF, hH, hR, hK, hL⟩ := hI
  have no : f_X11_check a0 σC = some (-2, σC) → f_X12_check a0 σM = some (-2, σM) → ∃ (r : Int32) (σC2 σM2 : wk_St), wk_T wk_shC 200 38 [.ref 0, .int a0] σC (some (.int r), σC2) ∧ wk_T wk_shM 200 145 [.ref 0, .int a0] σM (some (.int r), σM2) ∧ iv_I σC2 σM2 := fun h1 h2 => ⟨-2, σC, σM, (t_X11_check h1).up (by decide), (t_X12_check h2).up (by decide), hI2⟩
  cases hin : f_X12_in a0 0 9 with
  | false => exact no (by unfold f_X11_check; rw [po_has j2, hin]; rfl) (by unfold f_X12_check; rw [hin]; rfl)
  | true =>
    by_cases hle : a0 ≤ nI j
    · obtain ⟨n, hn, rfl⟩ := po_inN (n := 9) rfl hin
      have hnj : n ≤ j := (nI_leI (by omega) (by omega)).mp hle
      obtain ⟨r, e1, e2⟩ := po_checkL (c := σC) (m := wk_si σM 0 9 0) (T := T) j2 j1 hn hnj j4 hR n 0 wk_F (by omega) (by show n + 1 < 4096; omega)
      have e1' : wk_loop (S_X11_check_13 (nI n)) wk_F ((-1 : Int32), (0 : Int32), σC) = some (r, σC) := e1
      have eC : f_X11_check (nI n) σC = some (r, wk_si σC 1 1 0) := by
        unfold f_X11_check
        rw [po_has j2, hin, decide_eq_true hle, e1']
        rfl
      have eM : f_X12_check (nI n) σM = some (r, wk_si σM 0 9 0) := by
        unfold f_X12_check
        rw [hin, if_neg (by decide), j3, if_pos hle]
        rcases e2 with ⟨h1, h2⟩ | h2
        · have h2' : wk_loop (S_X12_check_16 (nI n)) wk_F ((0 : Int32), wk_si σM 0 9 0) = _ := h2
          rw [h2', h1]; rfl
        · have h2' : wk_loop (S_X12_check_16 (nI n)) wk_F ((0 : Int32), wk_si σM 0 9 0) = _ := h2
          rw [h2']; rfl
      exact ⟨r, _, _, (t_X11_check eC).up (by decide), (t_X12_check eM).up (by decide), iv_I_tape hI2⟩
    · exact no (by unfold f_X11_check; rw [po_has j2, hin, decide_eq_false hle]; rfl) (by unfold f_X12_check; rw [hin, j3, if_neg (by decide), if_neg hle])
