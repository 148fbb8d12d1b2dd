/-! PURE: a day goes -/
def iv_dd (m m2 : wk_St) : Prop := m2.1 0 47 = m.1 0 47 + 1 ∧ ((m2.1 0 48 = m.1 0 48 ∧ m2.1 0 49 = m.1 0 49) ∨ (m.1 0 48 = -1 ∧ m2.1 0 49 = m.1 0 47 + 1))
theorem po_day {T w k0 B D : Nat} {N : Nat → Nat} {q : Bool} {c m : wk_St} (hk0 : k0 + 4 < 23) (hk7 : 7 < k0) (hB : B < 900000) (hE : iv_E T w N k0 c m) (hW : iv_Wk q B c m) (hD : c.1 k0 5 = nI D) (hD9 : D < 9999) :
    ∃ c2 m2, f_X10_goDay k0 c = some c2 ∧ f_X12_dayGoes m = some m2 ∧ iv_E T w N k0 c2 m2 ∧ iv_Wk q (B + 9) c2 m2 ∧ iv_dC k0 c c2 ∧ iv_dM m m2 ∧ iv_dd m m2 ∧ c2.1 k0 5 = nI (D + 1) ∧ c2.1 k0 4 = c.1 k0 4 := by
  obtain ⟨M, hM⟩ : ∃ M, M = wk_si m 0 47 (m.1 0 47 + 1) := ⟨_, rfl⟩
  have M0 : ∀ b, b ≠ 47 → M.1 0 b = m.1 0 b := fun b h => by rw [hM]; exact po_si_ne h
  have Ma : ∀ a b, a ≠ 0 → M.1 a b = m.1 a b := fun a b h => by rw [hM]; exact po_si_c h
  have M47 : M.1 0 47 = m.1 0 47 + 1 := by rw [hM]; exact po_si_at
  have hEM : iv_E T w N k0 c M := by
    unfold iv_E at hE ⊢
    rw [M0 4 (by decide), M0 5 (by decide), M0 18 (by decide), show M.1 4 = m.1 4 from funext (fun b => Ma 4 b (by decide)), show M.1 22 = m.1 22 from funext (fun b => Ma 22 b (by decide)), show M.1 21 = m.1 21 from funext (fun b => Ma 21 b (by decide)), show M.1 14 = m.1 14 from funext (fun b => Ma 14 b (by decide)), show M.1 15 = m.1 15 from funext (fun b => Ma 15 b (by decide)), show M.1 16 = m.1 16 from funext (fun b => Ma 16 b (by decide)), show M.1 17 = m.1 17 from funext (fun b => Ma 17 b (by decide)), show M.1 18 = m.1 18 from funext (fun b => Ma 18 b (by decide)), show M.1 1 = m.1 1 from funext (fun b => Ma 1 b (by decide))]
    exact hE
  have hWM : iv_Wk q B c M := by
    intro hq
    have := hW hq
    rw [M0 43 (by decide), M0 44 (by decide), M0 45 (by decide), M0 46 (by decide), M0 48 (by decide)]
    exact this
  have h5k : ∀ c2 m2, iv_E T w N k0 c2 m2 → ∃ K, K < 512 ∧ c2.1 k0 4 = nI K ∧ ∀ k, k < 9 → iv_k T (K.testBit k) (c2.1 (k0 + 1) k) (c2.1 (k0 + 2) k) (c2.1 (k0 + 3) k) (c2.1 (k0 + 4) k) (m2.1 1 k) (m2.1 1 (9 + k)) (m2.1 1 (18 + k)) (m2.1 1 (27 + k)) (m2.1 1 (36 + k)) := by
    rintro c2 m2 ⟨_, _, _, ⟨K, D', X, h1, h2, h3, h4, h5, h6, h7, h8, h9⟩⟩
    exact ⟨K, h1, h4, h9⟩
  -- the knights go; the day stays
  obtain ⟨c2, m2, e1, e2, hE2, hW2, hZ2, h52⟩ := po_rel (f := S_X10_goDay_7 k0) (g := S_X12_dayGoes_8)
    (fun i x y => ∃ c2 m2, x = (nI i, c2) ∧ y = (nI i, m2) ∧ iv_E T w N k0 c2 m2 ∧ iv_Wk q (B + i) c2 m2 ∧ iv_Z k0 c M c2 m2)
    (fun c2 m2 => iv_E T w N k0 c2 m2 ∧ iv_Wk q (B + 9) c2 m2 ∧ iv_Z k0 c M c2 m2 ∧ True) 9 (by
      rintro i x y hi ⟨c2, m2, rfl, rfl, hE2, hW2, hZ2⟩
      obtain ⟨K, h1, h4, h9⟩ := h5k c2 m2 hE2
      unfold S_X10_goDay_7 S_X12_dayGoes_8
      dsimp only
      rw [if_neg (po_n9 hi), if_neg (po_n9 hi), po_livC h1 h4 hi, po_livM h1 h4 hi h9, nI_1]
      dsimp only [Option.bind]
      cases hl : iv_li K (c2.1 (k0 + 3)) i with
      | false =>
        rw [if_pos rfl, if_pos rfl]
        exact ⟨_, _, rfl, rfl, c2, m2, rfl, rfl, hE2, iv_Wk_mono hW2 (by omega), hZ2⟩
      | true =>
        unfold iv_li at hl
        rw [Bool.and_eq_true] at hl
        have hb : iv_tk k0 i c2 := fun K' hK' hlt => by
          rw [h4] at hK'
          have : K = K' := (nI_eq (by omega) (by omega)).mp hK'
          rw [← this]; exact hl.1
        have hn2 : ¬ c2.1 (k0 + 3) i = 2 := by
          intro h
          have := hl.2
          rw [decide_eq_true h] at this
          cases this
        obtain ⟨c3, m3, q1, q2, q3, q4, q5⟩ := po_knight hk0 hk7 (by omega) hE2 hW2 hi hb hn2
        rw [if_neg (by decide), if_neg (by decide), q1, q2]
        exact ⟨_, _, rfl, rfl, c3, m3, rfl, rfl, q3, q4, iv_Z_t hZ2 q5⟩) (by
      rintro x y ⟨c2, m2, rfl, rfl, hE2, hW2, hZ2⟩
      unfold S_X10_goDay_7 S_X12_dayGoes_8
      dsimp only
      rw [if_pos (by decide), if_pos (by decide)]
      exact ⟨_, _, rfl, rfl, hE2, hW2, hZ2, trivial⟩) (by decide) (p := ((0 : Int32), c)) (q := ((0 : Int32), M)) ⟨c, M, rfl, rfl, hEM, hWM, iv_Z_r⟩
  obtain ⟨z0, ⟨z1, z2, z3⟩, ⟨y1, y2, y3⟩, ⟨x1, x2⟩⟩ := hZ2
  obtain ⟨hF2, hH2, hL2, ⟨K, D', X, g1, g2, g3, g4, g5, g6, g7, g8, g9⟩⟩ := hE2
  have eDD : nI D' = nI D := g5.symm.trans ((z0 5 (by decide)).trans hD)
  have eD : D' = D := (nI_eq (by omega) (by omega)).mp eDD
  subst eD
  obtain ⟨C3, hC3⟩ : ∃ C3, C3 = wk_si c2 k0 5 (nI (D' + 1)) := ⟨_, rfl⟩
  obtain ⟨M3, hM3⟩ : ∃ M3, M3 = wk_si m2 1 45 (nI (D' + 1)) := ⟨_, rfl⟩
  have oC : ∀ a b, a ≠ k0 → C3.1 a b = c2.1 a b := fun a b h => by rw [hC3]; exact po_si_c h
  have oC2 : ∀ b, b ≠ 5 → C3.1 k0 b = c2.1 k0 b := fun b h => by rw [hC3]; exact po_si_ne h
  have oC3 : ∀ a, a ≠ k0 → C3.1 a = c2.1 a := fun a h => funext (fun b => oC a b h)
  have oM : ∀ a b, a ≠ 1 → M3.1 a b = m2.1 a b := fun a b h => by rw [hM3]; exact po_si_c h
  have oM2 : ∀ b, b ≠ 45 → M3.1 1 b = m2.1 1 b := fun b h => by rw [hM3]; exact po_si_ne h
  have oM3 : ∀ a, a ≠ 1 → M3.1 a = m2.1 a := fun a h => funext (fun b => oM a b h)
  refine ⟨C3, M3, ?_, ?_, ⟨?_, ?_, ?_, ?_⟩, ?_, ⟨?_, ?_, ?_⟩, ⟨?_, ?_, ?_⟩, ⟨?_, ?_⟩, ?_, ?_⟩
  · unfold f_X10_goDay
    rw [hD, if_pos (show nI D' < 9999 from nI_lt (b := 9999) hD9 (by decide)), e1]
    dsimp only [Option.bind]
    rw [g5, nI_1, hC3]
  · unfold f_X12_dayGoes
    rw [← hM, e2]
    dsimp only [Option.bind]
    rw [g6, nI_1, hM3]
  · rw [oC 3 _ (by omega), oC 3 _ (by omega), oC3 4 (by omega), oC3 5 (by omega), oM 0 _ (by decide), oM 0 _ (by decide), oM3 4 (by decide)]
    exact hF2
  · rw [oC3 6 (by omega), show C3.2 = c2.2 by rw [hC3]; rfl, oM3 22 (by decide), oM3 21 (by decide)]
    exact hH2
  · rw [oC 37 _ (by omega), oC3 38 (by omega), oC3 39 (by omega), oC3 40 (by omega), oC3 41 (by omega), oC3 42 (by omega), oC3 43 (by omega), oM 0 _ (by decide), oM3 14 (by decide), oM3 15 (by decide), oM3 16 (by decide), oM3 17 (by decide), oM3 18 (by decide)]
    exact hL2
  · refine ⟨K, D' + 1, X, g1, by omega, g3, (oC2 4 (by decide)).trans g4, by rw [hC3]; exact po_si_at, by rw [hM3]; exact po_si_at, (oC2 6 (by decide)).trans g7, (oM2 46 (by decide)).trans g8, fun k hk => ?_⟩
    rw [oC _ _ (by omega), oC _ _ (by omega), oC _ _ (by omega), oC _ _ (by omega), oM2 _ (by omega), oM2 _ (by omega), oM2 _ (by omega), oM2 _ (by omega), oM2 _ (by omega)]
    exact g9 k hk
  · intro hq
    have := hW2 hq
    rw [oC3 23 (by omega), oM3 0 (by decide)]
    exact this
  · rw [hC3]; exact z1
  · intro a h1 h2 h3 h4 h5
    rw [oC3 a (by omega)]
    exact z2 a h1 h2 h3 h4 h5
  · intro b h1 h2
    rw [oC3 37 (by omega)]
    exact z3 b h1 h2
  · have : M.2 = m.2 := by rw [hM]; rfl
    rw [hM3]; exact y1.trans this
  · intro a h1 h2 h3 h4 h5 h6
    rw [oM3 a h2, y2 a h1 h2 h3 h4 h5 h6]
    exact funext (fun b => Ma a b h1)
  · intro b hb
    rw [oM3 0 (by decide), y3 b hb]
    exact M0 b (by omega)
  · rw [oM3 0 (by decide), x1, M47]
  · rw [oM3 0 (by decide)]
    rcases x2 with ⟨x3, x4⟩ | ⟨x3, x4⟩
    · exact Or.inl ⟨x3.trans (M0 48 (by decide)), x4.trans (M0 49 (by decide))⟩
    · exact Or.inr ⟨(M0 48 (by decide)).symm.trans x3, x4.trans M47⟩
  · rw [hC3]; exact po_si_at
  · rw [oC2 4 (by decide)]; exact z0 4 (by decide)
