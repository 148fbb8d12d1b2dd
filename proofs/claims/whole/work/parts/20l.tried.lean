/-! PURE: tried -/
theorem po_subK {x : Int32} {k a : Nat} {A : Int32} (hA : A = nI a) (h : x - A = nI k) : x = nI (a + k) := by
  have := Int32.sub_eq_iff_eq_add.mp h
  rw [this, hA, nI_add, Nat.add_comm]
theorem po_op_9 : lw_op_9 iv_I := by
  intro a0 a1 σC σM hI
  have hI2 := hI
  obtain ⟨T, w, N, hT, hF, hH, hR, hK, hL⟩ := hI
  have hE : iv_E T w N 8 σC σM := ⟨hF, hH, hL, hR⟩
  obtain ⟨K, D, X, h1, h2, h3, h4, h5, h6, h7, h8, h9⟩ := hR
  have go : ∀ r c2 m2, f_X11_tried a0 a1 σC = some (r, c2) → f_X12_tried a0 a1 σM = some (r, m2) → iv_I c2 m2 → ∃ (r : Int32) (σC2 σM2 : wk_St), wk_T wk_shC 200 10 [.ref 0, .int a0, .int a1] σC (some (.int r), σC2) ∧ wk_T wk_shM 200 108 [.ref 0, .int a0, .int a1] σM (some (.int r), σM2) ∧ iv_I σC2 σM2 := fun r c2 m2 e1 e2 e3 => ⟨r, c2, m2, (t_X11_tried e1).up (by decide), (t_X12_tried e2).up (by decide), e3⟩
  cases hin : f_X12_in a0 1 240 with
  | false =>
    refine go (-1) σC σM ?_ (by unfold f_X12_tried; rw [hin]; rfl) hI2
    unfold f_X11_tried j_X11_tried_22
    rw [po_W, hin]
    rw [if_pos rfl, if_pos rfl]
    split
    · rfl
    · split
      · rfl
      · split <;> rfl
  | true =>
    obtain ⟨n, n1, n2, rfl⟩ := po_inA (a := 1) (b := 240) rfl rfl hin
    -- the days go over a draft
    obtain ⟨c1, m1, d1, d2, d3, d4, d5, d6, d7, d8⟩ := po_draft hE
    obtain ⟨hEf, hWf, hdC, hdM⟩ := po_forget (k0 := 18) (by decide) d3
    have run : ∀ x, ∃ c2 m2, wk_loop (S_X11_tried_42 (nI n) x) wk_F ((0 : Int32), f_X10_forget c1) = some c2 ∧ f_X12_daysGo (nI n) m1 = some m2 ∧ iv_E T w N 18 c2 m2 ∧ iv_Wk true (0 + 9 * n) c2 m2 ∧ iv_dC 18 c1 c2 ∧ iv_dM m1 m2 ∧ c2.1 18 4 = c1.1 18 4 := by
      intro x
      obtain ⟨c2, m2, e1, e2, e3, e4, e5, e6, e7⟩ := po_daysL (T := T) (w := w) (N := N) (k0 := 18) (n := n) (q := true) (f := S_X11_tried_42 (nI n) x) (by decide) (by decide) n2 (fun i s hi => by
        unfold S_X11_tried_42
        dsimp only
        rw [if_neg (nI_ge hi (by omega)), nI_1]) (fun s => by
        unfold S_X11_tried_42
        dsimp only
        rw [if_pos (nI_le (Nat.le_refl n) (by omega))]) n 0 0 (f_X10_forget c1) (f_X12_beginsDays m1) wk_F wk_F (by omega) (show n < 4096 by omega) (show n < 4096 by omega) (by omega) hEf hWf
      refine ⟨c2, m2, e1, ?_, e3, e4, iv_dC_t hdC e5, iv_dM_t hdM e6, e7⟩
      have e2' : wk_loop (S_X12_daysGo_4 (nI n)) wk_F ((0 : Int32), f_X12_beginsDays m1) = some m2 := e2
      unfold f_X12_daysGo wk_let
      dsimp only
      rw [e2']
      rfl
    obtain ⟨c2, m2, e1, e2, e3, e4, e5, e6, e7⟩ := run a1
    obtain ⟨m5, b1, b2, b3⟩ := po_back (T := T) (w := w) (N := N) hI2 d4 d5 d7 d8 e5 e6
    obtain ⟨w1, w2, w3, w4, w5, _⟩ := e4 rfl
    have eC : j_X11_tried_22 (nI n) a1 1 σC = (if a1 = 0 then some (c2.1 23 1, c2) else if a1 = 1 then some (c2.1 23 2, c2) else if a1 = 2 then some (c2.1 23 3, c2) else if a1 = 3 then some (c2.1 23 4, c2) else if a1 ≥ 20 then Option.bind (f_X0_kindOf 18 (a1 - 20) c2) fun v9 => some (v9, c2) else Option.bind (f_X0_placeOf 18 (a1 - 10) c2) fun v10 => some (v10, c2)) := by
      unfold j_X11_tried_22 wk_let
      rw [po_W, hin, if_neg (by decide), if_pos (show ¬ (1 : Int32) = 0 by decide), d1]
      dsimp only [Option.bind]
      rw [e1]
    have eM : j_X12_tried_24 (nI n) a1 σM = (if a1 = 0 then some (m2.1 0 43, m5) else if a1 = 1 then some (m2.1 0 44, m5) else if a1 = 2 then some (m2.1 0 45, m5) else if a1 = 3 then some (m2.1 0 46, m5) else if a1 ≥ 20 then (if wk_in ((27 : Int32) + a1 - 20) 47 = true then some (m2.1 1 ((27 : Int32) + a1 - 20).toNatClampNeg, m5) else none) else (if wk_in ((18 : Int32) + a1 - 10) 47 = true then some (m2.1 1 ((18 : Int32) + a1 - 10).toNatClampNeg, m5) else none)) := by
      unfold j_X12_tried_24 j_X12_tried_71 wk_let
      rw [d2]
      dsimp only [Option.bind]
      rw [e2]
      dsimp only
      rw [b1]
    have hin03 : f_X12_in a1 0 3 = true → ∃ r, j_X11_tried_22 (nI n) a1 1 σC = some (r, c2) ∧ j_X12_tried_24 (nI n) a1 σM = some (r, m5) := by
      intro h
      obtain ⟨q, q1, rfl⟩ := po_inN (n := 3) rfl h
      rw [eC, eM]
      rcases (show q = 0 ∨ q = 1 ∨ q = 2 ∨ q = 3 by omega) with rfl | rfl | rfl | rfl
      · exact ⟨_, rfl, by rw [w1]; rfl⟩
      · exact ⟨_, rfl, by rw [w2]; rfl⟩
      · exact ⟨_, rfl, by rw [w3]; rfl⟩
      · exact ⟨_, rfl, by rw [w4]; rfl⟩
    -- a told knight of the draft
    have recd : ∀ k, k < 9 → K.testBit k = true → c2.1 19 k = m2.1 1 (18 + k) ∧ c2.1 21 k = m2.1 1 (27 + k) := by
      intro k hk hb
      have hbk : iv_tk 18 k c2 := fun K' hK' hlt => by
        have c14 : c1.1 18 4 = nI K := by
          obtain ⟨s2, e, q2, qc, qk, q4, q5, q6⟩ := po_copy (s := σC) (k0 := 18) (k1 := 8) (by decide)
          rw [e] at d1
          cases d1
          exact q4.trans h4
        rw [e7, c14] at hK'
        have : K = K' := (nI_eq (by omega) (by omega)).mp hK'
        rw [← this]; exact hb
      obtain ⟨t1, t2, t3, t4, _⟩ := iv_k_t (iv_E_r e3 hk hbk)
      exact ⟨t3.symm, t4.symm⟩
    have ne : ∀ (q z : Nat), q < 100 → z < 100 → q ≠ z → ¬ nI q = nI z := fun q z h1 h2 h => po_nIne (by omega) (by omega) h
    have tenB : ∀ k, k < 9 → K.testBit k = true → a1 = nI (10 + k) → ∃ r, j_X11_tried_22 (nI n) a1 1 σC = some (r, c2) ∧ j_X12_tried_24 (nI n) a1 σM = some (r, m5) := by
      rintro k hk hb rfl
      rw [eC, eM, if_neg (show ¬ nI (10 + k) = 0 from ne (10 + k) 0 (by omega) (by omega) (by omega)), if_neg (show ¬ nI (10 + k) = 1 from ne (10 + k) 1 (by omega) (by omega) (by omega)), if_neg (show ¬ nI (10 + k) = 2 from ne (10 + k) 2 (by omega) (by omega) (by omega)), if_neg (show ¬ nI (10 + k) = 3 from ne (10 + k) 3 (by omega) (by omega) (by omega)), if_neg (show ¬ nI (10 + k) = 0 from ne (10 + k) 0 (by omega) (by omega) (by omega)), if_neg (show ¬ nI (10 + k) = 1 from ne (10 + k) 1 (by omega) (by omega) (by omega)), if_neg (show ¬ nI (10 + k) = 2 from ne (10 + k) 2 (by omega) (by omega) (by omega)), if_neg (show ¬ nI (10 + k) = 3 from ne (10 + k) 3 (by omega) (by omega) (by omega)), if_neg (show ¬ nI (10 + k) ≥ 20 from nI_ge (b := 20) (by omega) (by decide)), if_neg (show ¬ nI (10 + k) ≥ 20 from nI_ge (b := 20) (by omega) (by decide))]
      have s1 : nI (10 + k) - 10 = nI k := by
        have := pk_sub (a := 10 + k) (b := 10) (by omega)
        rw [show 10 + k - 10 = k by omega] at this
        exact this
      have s2 : (18 : Int32) + nI (10 + k) - 10 = nI (18 + k) := by
        have e1 : (18 : Int32) + nI (10 + k) = nI (18 + (10 + k)) := nI_add 18 _
        have e2 := pk_sub (a := 18 + (10 + k)) (b := 10) (by omega)
        rw [show 18 + (10 + k) - 10 = 18 + k by omega] at e2
        rw [e1]; exact e2
      rw [s1, s2, po_placeOf hk, if_pos (po_wkin (by omega) (by decide)), nI_clamp (by omega)]
      exact ⟨_, rfl, by rw [← (recd k hk hb).1]⟩
    have twB : ∀ k, k < 9 → K.testBit k = true → a1 = nI (20 + k) → ∃ r, j_X11_tried_22 (nI n) a1 1 σC = some (r, c2) ∧ j_X12_tried_24 (nI n) a1 σM = some (r, m5) := by
      rintro k hk hb rfl
      rw [eC, eM, if_neg (show ¬ nI (20 + k) = 0 from ne (20 + k) 0 (by omega) (by omega) (by omega)), if_neg (show ¬ nI (20 + k) = 1 from ne (20 + k) 1 (by omega) (by omega) (by omega)), if_neg (show ¬ nI (20 + k) = 2 from ne (20 + k) 2 (by omega) (by omega) (by omega)), if_neg (show ¬ nI (20 + k) = 3 from ne (20 + k) 3 (by omega) (by omega) (by omega)), if_neg (show ¬ nI (20 + k) = 0 from ne (20 + k) 0 (by omega) (by omega) (by omega)), if_neg (show ¬ nI (20 + k) = 1 from ne (20 + k) 1 (by omega) (by omega) (by omega)), if_neg (show ¬ nI (20 + k) = 2 from ne (20 + k) 2 (by omega) (by omega) (by omega)), if_neg (show ¬ nI (20 + k) = 3 from ne (20 + k) 3 (by omega) (by omega) (by omega)), if_pos (show nI (20 + k) ≥ 20 from nI_le (a := 20) (by omega) (by omega)), if_pos (show nI (20 + k) ≥ 20 from nI_le (a := 20) (by omega) (by omega))]
      have s1 : nI (20 + k) - 20 = nI k := by
        have := pk_sub (a := 20 + k) (b := 20) (by omega)
        rw [show 20 + k - 20 = k by omega] at this
        exact this
      have s2 : (27 : Int32) + nI (20 + k) - 20 = nI (27 + k) := by
        have e1 : (27 : Int32) + nI (20 + k) = nI (27 + (20 + k)) := nI_add 27 _
        have e2 := pk_sub (a := 27 + (20 + k)) (b := 20) (by omega)
        rw [show 27 + (20 + k) - 20 = 27 + k by omega] at e2
        rw [e1]; exact e2
      rw [s1, s2, po_kindOf hk, if_pos (po_wkin (by omega) (by decide)), nI_clamp (by omega)]
      exact ⟨_, rfl, by rw [← (recd k hk hb).2]⟩
    unfold f_X11_tried f_X12_tried at go
    rw [po_W, hin] at go
    cases hin2 : f_X12_in a1 0 3 with
    | true =>
      rw [hin2] at go
      obtain ⟨r, q1, q2⟩ := hin03 hin2
      exact go r c2 m5 (by rw [if_pos rfl]; exact q1) (by rw [if_neg (by decide), if_pos rfl]; exact q2) b2
    | false =>
      rw [hin2] at go
      rcases po_kn (x := a1 - 10) h1 h4 h9 with ⟨c3, m3⟩ | ⟨c3, m3, k, hk, hk10, hb⟩
      · rcases po_kn (x := a1 - 20) h1 h4 h9 with ⟨c4, m4⟩ | ⟨c4, m4, k, hk, hk20, hb⟩
        · rw [c3, c4, m3, m4] at go
          refine go (-1) σC σM ?_ rfl hI2
          rw [if_neg (by decide), if_neg (by decide), if_pos rfl]
          unfold j_X11_tried_22
          rw [po_W, hin, if_neg (by decide), if_neg (by decide)]
        · obtain ⟨r, q1, q2⟩ := twB k hk hb (po_subK (a := 20) rfl hk20)
          rw [c3, c4, m3, m4] at go
          exact go r c2 m5 (by rw [if_neg (by decide), if_neg (by decide), if_neg (by decide)]; exact q1) q2 b2
      · obtain ⟨r, q1, q2⟩ := tenB k hk hb (po_subK (a := 10) rfl hk10)
        rw [c3, m3] at go
        exact go r c2 m5 (by rw [if_neg (by decide), if_pos rfl]; exact q1) q2 b2
