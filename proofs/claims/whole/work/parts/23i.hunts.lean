/-! PURE: hunts: op 6 -/
theorem po_i8 {x : Int32} (h : x = 0 ∨ x = 1) : x.toInt8.toInt32.toInt8.toInt32 = x := by
  rcases h with rfl | rfl <;> decide
theorem po_op_6 : lw_op_6 iv_I := by
  intro a0 a1 σC σM hI
  have hI2 := hI
  obtain ⟨T, w, N, ⟨j, j1, j2, j3, j4⟩, hF, hH, hR, hK, hL⟩ := hI
  have go : ∀ r c2 m2, f_X11_hunts a0 a1 σC = some (r, c2) → f_X12_hunts a0 a1 σM = some (r, m2) → iv_I c2 m2 → ∃ (r : Int32) (σC2 σM2 : wk_St), wk_T wk_shC 200 7 [.ref 0, .int a0, .int a1] σC (some (.int r), σC2) ∧ wk_T wk_shM 200 93 [.ref 0, .int a0, .int a1] σM (some (.int r), σM2) ∧ iv_I σC2 σM2 := fun r c2 m2 e1 e2 e3 => ⟨r, c2, m2, (t_X11_hunts e1).up (by decide), (t_X12_hunts e2).up (by decide), e3⟩
  cases hin0 : f_X12_in a0 0 11 with
  | false => exact go (-1) σC σM (by unfold f_X11_hunts; rw [po_W, hin0]; rfl) (by unfold f_X12_hunts; rw [hin0]; rfl) hI2
  | true =>
  cases hin : f_X12_in a1 1 40 with
  | false => exact go (-1) σC σM (by unfold f_X11_hunts; rw [po_W, hin0, po_has j2, hin]; rfl) (by unfold f_X12_hunts; rw [hin0, hin]; rfl) hI2
  | true =>
    by_cases hle : a1 ≤ nI j
    · obtain ⟨n, n1, n2, rfl⟩ := po_inA (a := 1) (b := 40) rfl rfl hin
      obtain ⟨P, hP, rfl⟩ := po_inN (n := 11) rfl hin0
      have hnj : n ≤ j := (nI_leI (by omega) (by omega)).mp hle
      obtain ⟨g, hg1, hg2⟩ := po_begin (k0 := 30) (n := n) (j := j) (c := σC) (m := σM) (by decide) j2 j1 hnj (by omega) j4
      obtain ⟨C1, hC1⟩ : ∃ C1, C1 = wk_si (wk_sl (f_X8_clear (wk_si (wk_si (iv_set (wk_si σC 30 1 (nI n)) (30 + 1) g) 30 3 0) 30 2 0)) 30 4 0) 30 5 0 := ⟨_, rfl⟩
      obtain ⟨M1, hM1⟩ : ∃ M1, M1 = wk_si (wk_si (f_X12_beginsText (nI n) σM) 0 38 0) 0 39 0 := ⟨_, rfl⟩
      have uC : ∀ a, a ≠ 1 → a ≠ 30 → a ≠ 31 → C1.1 a = σC.1 a := fun a h1 h2 h3 => by
        rw [hC1]
        unfold f_X8_clear
        funext b
        rw [po_si_c h2]
        show (wk_si (wk_si (wk_si (iv_set (wk_si σC 30 1 (nI n)) (30 + 1) g) 30 3 0) 30 2 0) 1 1 0).1 a b = _
        rw [po_si_c h1, po_si_c h2, po_si_c h2, iv_set_off h3, po_si_c h2]
      have uCl : ∀ a, a ≠ 30 → C1.2 a = σC.2 a := fun a h => by rw [hC1]; exact funext (fun b => if_neg (fun w => h w.1))
      have uM : ∀ a, a ≠ 0 → M1.1 a = σM.1 a := fun a h => by
        rw [hM1]
        unfold f_X12_beginsText
        funext b
        rw [po_si_c h, po_si_c h, po_si_c h, po_si_c h, po_si_c h, po_si_c h]
      have uM0 : ∀ b, b ≠ 10 → b ≠ 11 → b ≠ 15 → b ≠ 17 → b ≠ 38 → b ≠ 39 → M1.1 0 b = σM.1 0 b := fun b h1 h2 h3 h4 h5 h6 => by
        rw [hM1]
        unfold f_X12_beginsText
        rw [po_si_ne h6, po_si_ne h5, po_si_ne h4, po_si_ne h3, po_si_ne h2, po_si_ne h1]
      have C11 : C1.1 1 1 = 0 := by
        rw [hC1, po_si_c (by decide)]
        show (wk_si (wk_si (wk_si (iv_set (wk_si σC 30 1 (nI n)) (30 + 1) g) 30 3 0) 30 2 0) 1 1 0).1 1 1 = 0
        exact po_si_at
      have hQ : iv_Q (iv_o (σM.1 7)) n 0 0 0 C1 M1 := by
        refine ⟨⟨by omega, Nat.zero_le _, ?_, ?_, ?_, ?_, fun i hi => ⟨iv_o_lt, ?_, ?_⟩⟩, by decide, ?_, ?_, ?_, fun j hj => by omega, fun j _ _ => ?_⟩
        · rw [hC1, po_si_ne (by decide)]
          show (wk_si (wk_si (wk_si (iv_set (wk_si σC 30 1 (nI n)) (30 + 1) g) 30 3 0) 30 2 0) 1 1 0).1 30 1 = _
          rw [po_si_c (by decide), po_si_ne (by decide), po_si_ne (by decide), iv_set_off (by decide), po_si_at]
        · rw [hC1, po_si_ne (by decide)]
          show (wk_si (wk_si (wk_si (iv_set (wk_si σC 30 1 (nI n)) (30 + 1) g) 30 3 0) 30 2 0) 1 1 0).1 30 3 = _
          rw [po_si_c (by decide), po_si_ne (by decide), po_si_at]
          rfl
        · rw [hM1]
          unfold f_X12_beginsText
          rw [po_si_ne (by decide), po_si_ne (by decide), po_si_ne (by decide), po_si_ne (by decide), po_si_ne (by decide), po_si_at]
          rfl
        · rw [hM1]
          unfold f_X12_beginsText
          rw [po_si_ne (by decide), po_si_ne (by decide), po_si_ne (by decide), po_si_ne (by decide), po_si_at]
        · rw [hC1, po_si_c (by decide)]
          show (wk_si (wk_si (wk_si (iv_set (wk_si σC 30 1 (nI n)) (30 + 1) g) 30 3 0) 30 2 0) 1 1 0).1 (30 + 1) i = _
          rw [po_si_c (by decide), po_si_c (by decide), po_si_c (by decide), iv_set_at]
          exact hg2 i hi
        · rw [uM 7 (by decide)]
          exact iv_o_e
        · rw [hC1]; exact po_si_at
        · rw [hM1, po_si_ne (by decide)]; exact po_si_at
        · rw [hM1]; exact po_si_at
        · rw [hC1, po_sl_at]; exact po_bit0
      obtain ⟨b, c2, m2, e1, e2, e3, e4⟩ := po_huntsR (x := nI P) hQ
      have eM : f_X12_hunts (nI P) (nI n) σM = j_X12_hunts_42 (nI P) (b2i b) m2 := by
        unfold f_X12_hunts
        rw [hin0, if_neg (by decide), hin, if_neg (by decide), j3, if_pos hle]
        unfold wk_let
        dsimp only
        rw [← hM1]
        unfold iv_A iv_on at e3
        rw [← iv_RI_e] at e3
        cases hv : f_X12_readsItem M1 with
        | none => rw [hv] at e3; cases e3
        | some v4 =>
          rw [hv] at e3
          dsimp only [Option.bind] at e3 ⊢
          rw [e3]
      have eC : f_X11_hunts (nI P) (nI n) σC = Option.bind (f_X3_readHunts (f_X8_clear (wk_si (wk_si (iv_set (wk_si σC 30 1 (nI n)) (30 + 1) g) 30 3 0) 30 2 0))) fun v5 => if v5.1 < 0 then some (v5.1, v5.2) else Option.bind (f_X2_setHunts (nI P) v5.1 (v5.2.2 30 4) v5.2) fun v6 => some (v5.1, v6) := by
        unfold f_X11_hunts
        rw [po_W, hin0, if_neg (by decide), po_has j2, hin, decide_eq_true hle, if_pos (show (true && true) = true from rfl), hg1]
        rfl
      have v0 : ∀ b, b ≠ 10 → b ≠ 11 → b ≠ 12 → b ≠ 15 → b ≠ 17 → b ≠ 38 → b ≠ 39 → b ≠ 40 → b ≠ 41 → m2.1 0 b = σM.1 0 b := fun b k0 k1 k2 k3 k4 k5 k6 k7 k8 => by rw [e2.2.2.1 b k0 k2 k5 k6 k7 k8, uM0 b k0 k1 k3 k4 k5 k6]
      have va : ∀ a, a ≠ 0 → a ≠ 23 → a ≠ 24 → a ≠ 25 → a ≠ 26 → m2.1 a = σM.1 a := fun a k0 k1 k2 k3 k4 => by rw [e2.2.1 a k0 k1 k2 k3 k4, uM a k0]
      have ua : ∀ a, a ≠ 1 → a ≠ 30 → a ≠ 31 → c2.1 a = σC.1 a := fun a k1 k2 k3 => by rw [e1.1 a k2, uC a k1 k2 k3]
      have ul : ∀ a, a ≠ 30 → c2.2 a = σC.2 a := fun a k => by rw [e1.2 a k, uCl a k]
      have c211 : c2.1 1 1 = 0 := by rw [e1.1 1 (by decide), C11]
      rcases e4 with ⟨rfl, r, hr, hm12, e5⟩ | ⟨rfl, k, hk, h38, hkb, e5⟩
      · have e5' : f_X3_readHunts (f_X8_clear (wk_si (wk_si (iv_set (wk_si σC 30 1 (nI n)) (30 + 1) g) 30 3 0) 30 2 0)) = some (r, c2) := by
          rw [hC1] at e5
          exact e5
        rw [e5'] at eC
        dsimp only [Option.bind] at eC
        rw [if_pos hr] at eC
        unfold j_X12_hunts_42 at eM
        rw [if_neg (fun h => h (show b2i false = 0 from rfl)), po_si_ne (by decide), hm12] at eM
        obtain ⟨M, hM⟩ : ∃ M, M = wk_si m2 0 9 0 := ⟨_, rfl⟩
        rw [← hM] at eM
        have m0 : ∀ b, b ≠ 9 → M.1 0 b = m2.1 0 b := fun b h => by rw [hM]; exact po_si_ne h
        have ma : ∀ a, a ≠ 0 → M.1 a = m2.1 a := fun a h => by rw [hM]; exact funext (fun b => po_si_c h)
        refine go r c2 M eC eM ⟨T, w, N, ⟨0, by decide, c211, by rw [hM]; exact po_si_at, fun i hi => by omega⟩, ?_, ?_, ?_, ?_, ?_⟩
        · rw [ua 3 (by decide) (by decide) (by decide), ua 4 (by decide) (by decide) (by decide), ua 5 (by decide) (by decide) (by decide), m0 4 (by decide), m0 5 (by decide), ma 4 (by decide), v0 4 (by decide) (by decide) (by decide) (by decide) (by decide) (by decide) (by decide) (by decide) (by decide), v0 5 (by decide) (by decide) (by decide) (by decide) (by decide) (by decide) (by decide) (by decide) (by decide), va 4 (by decide) (by decide) (by decide) (by decide) (by decide)]; exact hF
        · rw [ua 6 (by decide) (by decide) (by decide), ul 7 (by decide), ma 22 (by decide), ma 21 (by decide), va 22 (by decide) (by decide) (by decide) (by decide) (by decide), va 21 (by decide) (by decide) (by decide) (by decide) (by decide)]; exact hH
        · rw [ua 8 (by decide) (by decide) (by decide), ua 9 (by decide) (by decide) (by decide), ua 10 (by decide) (by decide) (by decide), ua 11 (by decide) (by decide) (by decide), ua 12 (by decide) (by decide) (by decide), ma 1 (by decide), va 1 (by decide) (by decide) (by decide) (by decide) (by decide)]; exact hR
        · rw [ua 0 (by decide) (by decide) (by decide), ua 13 (by decide) (by decide) (by decide), ua 14 (by decide) (by decide) (by decide), ua 15 (by decide) (by decide) (by decide), ua 16 (by decide) (by decide) (by decide), ua 17 (by decide) (by decide) (by decide), m0 57 (by decide), ma 3 (by decide), v0 57 (by decide) (by decide) (by decide) (by decide) (by decide) (by decide) (by decide) (by decide) (by decide), va 3 (by decide) (by decide) (by decide) (by decide) (by decide)]; exact hK
        · rw [ua 37 (by decide) (by decide) (by decide), ua 38 (by decide) (by decide) (by decide), ua 39 (by decide) (by decide) (by decide), ua 40 (by decide) (by decide) (by decide), ua 41 (by decide) (by decide) (by decide), ua 42 (by decide) (by decide) (by decide), ua 43 (by decide) (by decide) (by decide), m0 18 (by decide), ma 14 (by decide), ma 15 (by decide), ma 16 (by decide), ma 17 (by decide), ma 18 (by decide), v0 18 (by decide) (by decide) (by decide) (by decide) (by decide) (by decide) (by decide) (by decide) (by decide), va 14 (by decide) (by decide) (by decide) (by decide) (by decide), va 15 (by decide) (by decide) (by decide) (by decide) (by decide), va 16 (by decide) (by decide) (by decide) (by decide) (by decide), va 17 (by decide) (by decide) (by decide) (by decide) (by decide), va 18 (by decide) (by decide) (by decide) (by decide) (by decide)]; exact hL
      · have e5' : f_X3_readHunts (f_X8_clear (wk_si (wk_si (iv_set (wk_si σC 30 1 (nI n)) (30 + 1) g) 30 3 0) 30 2 0)) = some (nI k, c2) := by
          rw [hC1] at e5
          exact e5
        obtain ⟨C, hC⟩ : ∃ C, C = wk_sl (wk_si c2 6 P (nI k)) 7 P (c2.2 30 4) := ⟨_, rfl⟩
        have eS : f_X2_setHunts (nI P) (nI k) (c2.2 30 4) c2 = some C := by
          unfold f_X2_setHunts
          rw [po_W, hin0, if_neg (by decide), po_inK (A := 0) (B := 48) (a := 0) (b := 48) rfl rfl (by omega) (by decide) (by decide), decide_eq_true ⟨Nat.zero_le _, hk⟩, if_neg (by decide), if_pos (po_wkin (by omega) (by decide)), if_pos (po_wkin (by omega) (by decide)), nI_clamp (by omega), hC]
        rw [e5'] at eC
        dsimp only [Option.bind] at eC
        rw [if_neg (nI_pos (by omega)), eS] at eC
        obtain ⟨M0, hM0⟩ : ∃ M0, M0 = wk_si (wk_si m2 0 9 0) 22 P (nI k) := ⟨_, rfl⟩
        have M038 : M0.1 0 38 = nI k := by rw [hM0, po_si_c (by decide), po_si_ne (by decide)]; exact h38
        have M023 : ∀ j, M0.1 23 j = m2.1 23 j := fun j => by rw [hM0, po_si_c (by decide), po_si_c (by decide)]
        obtain ⟨A, eA, h, rfl, hh1, hh2⟩ := po_inv (f := S_X12_hunts_58 (nI P))
          (fun i q => ∃ h, q = (nI i, iv_set M0 21 h) ∧ (∀ z, z < i → h (48 * P + z) = m2.1 23 z) ∧ ∀ z, (z < 48 * P ∨ 48 * P + 48 ≤ z) → h z = M0.1 21 z)
          (fun A => ∃ h, A = iv_set M0 21 h ∧ (∀ z, z < k → h (48 * P + z) = m2.1 23 z) ∧ ∀ z, (z < 48 * P ∨ 48 * P + 48 ≤ z) → h z = M0.1 21 z) k (by
            rintro i q hi ⟨h, rfl, hh1, hh2⟩
            have g1 : (iv_set M0 21 h).1 0 38 = nI k := (iv_set_off (by decide)).trans M038
            have g2 : (48 : Int32) * nI P + nI i = nI (48 * P + i) := by
              rw [show (48 : Int32) * nI P = nI (48 * P) from po_mulN 48 P, nI_add]
            unfold S_X12_hunts_58
            dsimp only
            rw [g1, if_neg (nI_ge hi (by omega)), if_pos (po_wkin (by omega) (by decide)), g2, if_pos (po_wkin (by omega) (by decide)), nI_clamp (by omega), nI_clamp (by omega), iv_set_off (by decide), M023, po_i8 (hkb i hi).1, iv_set_si, nI_1]
            refine ⟨_, rfl, _, rfl, fun z hz => ?_, fun z hz => ?_⟩
            · by_cases hzi : z = i
              · rw [hzi, if_pos rfl]
              · rw [if_neg (by omega)]; exact hh1 z (by omega)
            · rw [if_neg (by omega)]; exact hh2 z hz) (by
            rintro q ⟨h, rfl, hh1, hh2⟩
            have g1 : (iv_set M0 21 h).1 0 38 = nI k := (iv_set_off (by decide)).trans M038
            unfold S_X12_hunts_58
            dsimp only
            rw [g1, if_pos (nI_le (Nat.le_refl k) (by omega))]
            exact ⟨_, rfl, h, rfl, hh1, hh2⟩) (by omega) (p := ((0 : Int32), M0)) ⟨M0.1 21, by rw [iv_set_id]; rfl, fun z hz => by omega, fun z _ => rfl⟩
        obtain ⟨M, hM⟩ : ∃ M, M = iv_set M0 21 h := ⟨_, rfl⟩
        rw [← hM] at eA
        have eM2 : f_X12_hunts (nI P) (nI n) σM = some (nI k, M) := by
          rw [eM]
          unfold j_X12_hunts_42
          rw [if_pos (show ¬ b2i true = 0 by decide), if_pos (po_wkin (by omega) (by decide)), nI_clamp (by omega), po_si_ne (by decide), h38, ← hM0, eA]
          dsimp only [Option.bind]
          rw [hM, iv_set_off (by decide), M038]
        have m0 : ∀ b, b ≠ 9 → M.1 0 b = m2.1 0 b := fun b hb => by rw [hM, iv_set_off (by decide), hM0, po_si_c (by decide)]; exact po_si_ne hb
        have ma : ∀ a, a ≠ 0 → a ≠ 22 → a ≠ 21 → M.1 a = m2.1 a := fun a h0 h1 h2 => by rw [hM, hM0]; exact funext (fun b => (iv_set_off h2).trans ((po_si_c h1).trans (po_si_c h0)))
        have Ca : ∀ a, a ≠ 6 → C.1 a = c2.1 a := fun a ha => by rw [hC]; exact (funext (fun b => po_si_c ha) : (wk_si c2 6 P (nI k)).1 a = _)
        refine go (nI k) C M eC eM2 ⟨T, w, N, ⟨0, by decide, by rw [Ca 1 (by decide)]; exact c211, by rw [hM, iv_set_off (by decide), hM0, po_si_c (by decide)]; exact po_si_at, fun i hi => by omega⟩, ?_, ?_, ?_, ?_, ?_⟩
        · rw [Ca 3 (by decide), Ca 4 (by decide), Ca 5 (by decide), ua 3 (by decide) (by decide) (by decide), ua 4 (by decide) (by decide) (by decide), ua 5 (by decide) (by decide) (by decide), m0 4 (by decide), m0 5 (by decide), ma 4 (by decide) (by decide) (by decide), v0 4 (by decide) (by decide) (by decide) (by decide) (by decide) (by decide) (by decide) (by decide) (by decide), v0 5 (by decide) (by decide) (by decide) (by decide) (by decide) (by decide) (by decide) (by decide) (by decide), va 4 (by decide) (by decide) (by decide) (by decide) (by decide)]; exact hF
        · intro p hp
          have x6 : C.1 6 p = if p = P then nI k else σC.1 6 p := by
            rw [hC]
            show (wk_si c2 6 P (nI k)).1 6 p = _
            by_cases h : p = P
            · rw [if_pos h, h]; exact po_si_at
            · rw [if_neg h, po_si_ne h, ua 6 (by decide) (by decide) (by decide)]
          have x7 : C.2 7 p = if p = P then c2.2 30 4 else σC.2 7 p := by
            rw [hC]
            show (if 7 = 7 ∧ p = P then c2.2 30 4 else c2.2 7 p) = _
            by_cases h : p = P
            · rw [if_pos h, if_pos ⟨rfl, h⟩]
            · rw [if_neg h, if_neg (fun w => h w.2), ul 7 (by decide)]
          have x22 : M.1 22 p = if p = P then nI k else σM.1 22 p := by
            rw [hM, iv_set_off (by decide), hM0]
            by_cases h : p = P
            · rw [if_pos h, h]; exact po_si_at
            · rw [if_neg h, po_si_ne h, po_si_c (by decide), va 22 (by decide) (by decide) (by decide) (by decide) (by decide)]
          have x21 : ∀ z, M.1 21 z = h z := fun z => by rw [hM]; exact iv_set_at
          by_cases hpP : p = P
          · rw [if_pos hpP] at x6 x7 x22
            refine ⟨k, hk, x6, x22, fun z hz => ?_⟩
            rw [x7, po_bitL (by omega), (hkb z hz).2, x21, hpP, hh1 z hz]
          · rw [if_neg hpP] at x6 x7 x22
            obtain ⟨l, y1, y2, y3, y4⟩ := hH p hp
            refine ⟨l, y1, x6.trans y2, x22.trans y3, fun z hz => ?_⟩
            rw [x7, y4 z hz, x21, hh2 (48 * p + z) (by omega), hM0, po_si_c (by decide), po_si_c (by decide), va 21 (by decide) (by decide) (by decide) (by decide) (by decide)]
        · rw [Ca 8 (by decide), Ca 9 (by decide), Ca 10 (by decide), Ca 11 (by decide), Ca 12 (by decide), ua 8 (by decide) (by decide) (by decide), ua 9 (by decide) (by decide) (by decide), ua 10 (by decide) (by decide) (by decide), ua 11 (by decide) (by decide) (by decide), ua 12 (by decide) (by decide) (by decide), ma 1 (by decide) (by decide) (by decide), va 1 (by decide) (by decide) (by decide) (by decide) (by decide)]; exact hR
        · rw [Ca 0 (by decide), Ca 13 (by decide), Ca 14 (by decide), Ca 15 (by decide), Ca 16 (by decide), Ca 17 (by decide), ua 0 (by decide) (by decide) (by decide), ua 13 (by decide) (by decide) (by decide), ua 14 (by decide) (by decide) (by decide), ua 15 (by decide) (by decide) (by decide), ua 16 (by decide) (by decide) (by decide), ua 17 (by decide) (by decide) (by decide), m0 57 (by decide), ma 3 (by decide) (by decide) (by decide), v0 57 (by decide) (by decide) (by decide) (by decide) (by decide) (by decide) (by decide) (by decide) (by decide), va 3 (by decide) (by decide) (by decide) (by decide) (by decide)]; exact hK
        · rw [Ca 37 (by decide), Ca 38 (by decide), Ca 39 (by decide), Ca 40 (by decide), Ca 41 (by decide), Ca 42 (by decide), Ca 43 (by decide), ua 37 (by decide) (by decide) (by decide), ua 38 (by decide) (by decide) (by decide), ua 39 (by decide) (by decide) (by decide), ua 40 (by decide) (by decide) (by decide), ua 41 (by decide) (by decide) (by decide), ua 42 (by decide) (by decide) (by decide), ua 43 (by decide) (by decide) (by decide), m0 18 (by decide), ma 14 (by decide) (by decide) (by decide), ma 15 (by decide) (by decide) (by decide), ma 16 (by decide) (by decide) (by decide), ma 17 (by decide) (by decide) (by decide), ma 18 (by decide) (by decide) (by decide), v0 18 (by decide) (by decide) (by decide) (by decide) (by decide) (by decide) (by decide) (by decide) (by decide), va 14 (by decide) (by decide) (by decide) (by decide) (by decide), va 15 (by decide) (by decide) (by decide) (by decide) (by decide), va 16 (by decide) (by decide) (by decide) (by decide) (by decide), va 17 (by decide) (by decide) (by decide) (by decide) (by decide), va 18 (by decide) (by decide) (by decide) (by decide) (by decide)]; exact hL
    · exact go (-1) σC σM (by unfold f_X11_hunts; rw [po_W, hin0, po_has j2, hin, decide_eq_false hle]; rfl) (by unfold f_X12_hunts; rw [hin0, hin, j3, if_neg (by decide), if_neg (by decide), if_neg hle]) hI2
