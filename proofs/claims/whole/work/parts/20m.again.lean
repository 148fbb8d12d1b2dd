/-! PURE: manAgain, deadFirst -/
theorem iv_tk_4 {k0 k : Nat} {c c2 : wk_St} (h : iv_tk k0 k c) (h4 : c2.1 k0 4 = c.1 k0 4) : iv_tk k0 k c2 := fun K hK hlt => h K (h4.symm.trans hK) hlt
theorem po_manL {T w k n : Nat} {N : Nat → Nat} (hn : n ≤ 240) (hk : k < 9) :
    ∀ d i B c m F G, i + d = n + 1 → 1 ≤ i → d + 1 < F → d + 1 < G → B + 9 * d < 900000 → iv_E T w N 18 c m → iv_Wk false B c m → iv_tk 18 k c → ¬ c.1 21 k = 0 →
      ∃ r c2 m2, wk_loop (S_X11_manAgain_27 (nI k) (nI n)) F (nI i, c) = some (if r = -2 then Sum.inr c2 else Sum.inl (r, c2)) ∧ wk_loop (S_X12_manAgain_32 (nI k) (nI n)) G (-2, nI i, m) = some (r, m2) ∧ iv_dC 18 c c2 ∧ iv_dM m m2 := by
  have stay : ∀ d i c F, i + d = n + 1 → d + 1 < F → c.1 18 5 = nI 9999 → ¬ c.1 21 k = 0 → wk_loop (S_X11_manAgain_27 (nI k) (nI n)) F (nI i, c) = some (Sum.inr c) := by
    intro d
    induction d with
    | zero =>
      intro i c F hi hF _ _
      obtain ⟨F, rfl⟩ : ∃ z, F = z + 1 := ⟨F - 1, by omega⟩
      refine wk_loopI ?_
      unfold S_X11_manAgain_27
      dsimp only
      rw [if_pos (show nI i > nI n from nI_lt (by omega) (by omega))]
    | succ d ih =>
      intro i c F hi hF hc hnk
      obtain ⟨F, rfl⟩ : ∃ z, F = z + 1 := ⟨F - 1, by omega⟩
      have st : S_X11_manAgain_27 (nI k) (nI n) (nI i, c) = some (Sum.inr (nI (i + 1), c)) := by
        unfold S_X11_manAgain_27
        dsimp only
        rw [if_neg (show ¬ nI i > nI n from nI_nlt (by omega) (by omega)), po_goNo hc]
        dsimp only [Option.bind]
        rw [po_kindOf hk]
        dsimp only
        rw [if_pos hnk, nI_1]
      exact (wk_loopS st).trans (ih (i + 1) c F (by omega) (by omega) hc hnk)
  intro d
  induction d with
  | zero =>
    intro i B c m F G hi h1 hF hG hB hE hW hb hnk
    obtain ⟨F, rfl⟩ : ∃ z, F = z + 1 := ⟨F - 1, by omega⟩
    obtain ⟨G, rfl⟩ : ∃ z, G = z + 1 := ⟨G - 1, by omega⟩
    refine ⟨-2, c, m, wk_loopI ?_, wk_loopI ?_, iv_dC_r, iv_dM_r⟩
    · unfold S_X11_manAgain_27
      dsimp only
      rw [if_pos (show nI i > nI n from nI_lt (by omega) (by omega)), if_pos rfl]
    · unfold S_X12_manAgain_32
      dsimp only
      rw [if_pos (show nI i > nI n from nI_lt (by omega) (by omega))]
  | succ d ih =>
    intro i B c m F G hi h1 hF hG hB hE hW hb hnk
    obtain ⟨D, hD9, hD1, hD2⟩ := iv_E_D hE
    obtain ⟨G, rfl⟩ : ∃ z, G = z + 2 := ⟨G - 2, by omega⟩
    have hni : ¬ nI i > nI n := nI_nlt (by omega) (by omega)
    by_cases hlt : D < 9999
    · obtain ⟨F, rfl⟩ : ∃ z, F = z + 1 := ⟨F - 1, by omega⟩
      obtain ⟨c2, m2, e1, e2, e3, e4, e5, e6, e7, e8, e9⟩ := po_day (by decide) (by decide) (by omega) hE hW hD1 hlt
      have hb2 := iv_tk_4 hb e9
      obtain ⟨_, _, _, t4, _⟩ := iv_k_t (iv_E_r e3 hk hb2)
      have t4 : m2.1 1 (27 + k) = c2.1 21 k := t4
      have sC : S_X11_manAgain_27 (nI k) (nI n) (nI i, c) = if ¬ c2.1 21 k = 0 then some (Sum.inr (nI (i + 1), c2)) else some (Sum.inl (Sum.inl (nI i, c2))) := by
        unfold S_X11_manAgain_27
        dsimp only
        rw [if_neg hni, e1]
        dsimp only [Option.bind]
        rw [po_kindOf hk, nI_1]
      have sM : S_X12_manAgain_32 (nI k) (nI n) (-2, nI i, m) = if ¬ c2.1 21 k = 0 then some (Sum.inr (-2, nI (i + 1), m2)) else some (Sum.inr (nI i, nI (i + 1), m2)) := by
        unfold S_X12_manAgain_32
        dsimp only
        rw [if_neg hni, if_neg (show ¬ ¬ (-2 : Int32) = -2 by decide), hD2, if_neg (show ¬ nI D ≥ 9999 from nI_ge (b := 9999) hlt (by decide)), e2]
        dsimp only [Option.bind]
        rw [po_e27, if_pos (po_wkin (by omega) (by decide)), nI_clamp (by omega), t4, nI_1]
      by_cases hz : c2.1 21 k = 0
      · rw [if_neg (not_not_intro hz)] at sC sM
        refine ⟨nI i, c2, m2, ?_, (wk_loopS sM).trans (wk_loopI ?_), e5, e6⟩
        · rw [if_neg (po_m2 (by omega))]
          exact wk_loopI sC
        · unfold S_X12_manAgain_32
          dsimp only
          by_cases hgt : nI (i + 1) > nI n
          · rw [if_pos hgt]
          · rw [if_neg hgt, if_pos (po_m2 (by omega))]
      · rw [if_pos hz] at sC sM
        obtain ⟨r, c3, m3, q1, q2, q3, q4⟩ := ih (i + 1) (B + 9) c2 m2 F (G + 1) (by omega) (by omega) (by omega) (by omega) (by omega) e3 e4 hb2 hz
        exact ⟨r, c3, m3, (wk_loopS sC).trans q1, (wk_loopS sM).trans q2, iv_dC_t e5 q3, iv_dM_t e6 q4⟩
    · have e : D = 9999 := by omega
      subst e
      refine ⟨-2, c, m, ?_, wk_loopI ?_, iv_dC_r, iv_dM_r⟩
      · rw [if_pos rfl]
        exact stay (d + 1) i c F hi hF hD1 hnk
      · unfold S_X12_manAgain_32
        dsimp only
        rw [if_neg hni, if_neg (show ¬ ¬ (-2 : Int32) = -2 by decide), hD2, if_pos (by decide)]
theorem po_op_13 : lw_op_13 iv_I := by
  intro a0 a1 σC σM hI
  have hI2 := hI
  obtain ⟨T, w, N, hT, hF, hH, hR, hK, hL⟩ := hI
  have hE : iv_E T w N 8 σC σM := ⟨hF, hH, hL, hR⟩
  obtain ⟨K, D, X, h1, h2, h3, h4, h5, h6, h7, h8, h9⟩ := hR
  have go : ∀ r c2 m2, f_X11_manAgain a0 a1 σC = some (r, c2) → f_X12_manAgain a0 a1 σM = some (r, m2) → iv_I c2 m2 → ∃ (r : Int32) (σC2 σM2 : wk_St), wk_T wk_shC 200 14 [.ref 0, .int a0, .int a1] σC (some (.int r), σC2) ∧ wk_T wk_shM 200 111 [.ref 0, .int a0, .int a1] σM (some (.int r), σM2) ∧ iv_I σC2 σM2 := fun r c2 m2 e1 e2 e3 => ⟨r, c2, m2, (t_X11_manAgain e1).up (by decide), (t_X12_manAgain e2).up (by decide), e3⟩
  unfold f_X11_manAgain f_X12_manAgain wk_let at go
  rw [po_W] at go
  rcases po_kn (x := a0) h1 h4 h9 with ⟨c1, m1⟩ | ⟨c1, m1, k, hk, rfl, hb⟩
  · rw [c1, m1] at go
    exact go (-1) _ _ rfl rfl hI2
  · rw [c1, m1] at go
    cases hin : f_X12_in a1 1 240 with
    | false =>
      rw [hin] at go
      exact go (-1) _ _ rfl rfl hI2
    | true =>
      obtain ⟨n, n1, n2, rfl⟩ := po_inA (a := 1) (b := 240) rfl rfl hin
      have hkk := h9 k hk
      rw [hb] at hkk
      obtain ⟨t1, t2, t3, t4, _⟩ := iv_k_t hkk
      rw [hin, po_kindOf hk] at go
      dsimp only [Option.bind] at go
      rw [po_e27, if_pos (po_wkin (n := 47) (show 27 + k < 47 by omega) (by decide)), nI_clamp (show 27 + k < 2 ^ 31 by omega), t4] at go
      simp only [Bool.true_eq_false, if_false, if_true, eq_self] at go
      by_cases hk1 : σC.1 11 k = 1
      · obtain ⟨c1', m1', d1, d2, d3, d4, d5, d6, d7, d8⟩ := po_draft hE
        have hEf := po_forget (k0 := 18) (by decide) d3
        have hEb : iv_E T w N 18 c1' (f_X12_beginsDays m1') := by
          obtain ⟨g1, g2, g3, g4⟩ := hEf.1
          exact ⟨g1, g2, g3, g4⟩
        obtain ⟨s2, e, q2, qc, qk, q4, q5, q6⟩ := po_copy (s := σC) (k0 := 18) (k1 := 8) (by decide)
        have es : s2 = c1' := by rw [e] at d1; cases d1; rfl
        rw [es] at q4 qk
        have hb18 : iv_tk 18 k c1' := fun K' hK' hlt => by
          rw [q4, h4] at hK'
          have : K = K' := (nI_eq (by omega) (by omega)).mp hK'
          rw [← this]; exact hb
        have hnk : ¬ c1'.1 21 k = 0 := by
          have : c1'.1 (18 + 3) k = σC.1 (8 + 3) k := (qk k hk).2.2.1
          have this : c1'.1 21 k = σC.1 11 k := this
          rw [this, hk1]; decide
        obtain ⟨r, c2, m2, p1, p2, p3, p4⟩ := po_manL (T := T) (w := w) (N := N) n2 hk n 1 0 c1' (f_X12_beginsDays m1') wk_F wk_F (by omega) (by omega) (show n + 1 < 4096 by omega) (show n + 1 < 4096 by omega) (by omega) hEb (fun h => by cases h) hb18 hnk
        obtain ⟨m5, b1, b2, b3⟩ := po_back (T := T) (w := w) (N := N) hI2 d4 d5 d7 d8 p3 (iv_dM_t hEf.2.2.2 p4)
        have p1' : wk_loop (S_X11_manAgain_27 (nI k) (nI n)) wk_F ((1 : Int32), c1') = _ := p1
        have p2' : wk_loop (S_X12_manAgain_32 (nI k) (nI n)) wk_F ((-2 : Int32), (1 : Int32), f_X12_beginsDays m1') = _ := p2
        have hk1' : σC.1 (8 + 3) k = 1 := hk1
        rw [if_pos hk1', if_pos hk1', d1, d2] at go
        dsimp only at go
        rw [p1', p2'] at go
        dsimp only at go
        rw [b1] at go
        refine go r c2 m5 ?_ rfl b2
        by_cases hr : r = -2
        · rw [if_pos hr]
          dsimp only
          rw [hr]
        · rw [if_neg hr]
      · have hk1' : ¬ σC.1 (8 + 3) k = 1 := hk1
        rw [if_neg hk1', if_neg hk1'] at go
        exact go (-3) _ _ rfl rfl hI2
theorem po_restL {T w n : Nat} {N : Nat → Nat} (hn : n ≤ 240) : ∀ d i B c m G, i + d = n → d < G → B + 9 * d < 900000 → iv_E T w N 18 c m → iv_Wk true B c m → ¬ m.1 0 48 = -1 → ∃ m2, wk_loop (S_X12_daysGo_4 (nI n)) G (nI i, m) = some m2 ∧ iv_dM m m2 ∧ m2.1 0 48 = m.1 0 48 ∧ m2.1 0 49 = m.1 0 49 := by
  intro d
  induction d with
  | zero =>
    intro i B c m G hi hG hB hE hW hm
    obtain ⟨G, rfl⟩ : ∃ z, G = z + 1 := ⟨G - 1, by omega⟩
    have e : i = n := by omega
    subst e
    refine ⟨m, wk_loopI ?_, iv_dM_r, rfl, rfl⟩
    unfold S_X12_daysGo_4
    dsimp only
    rw [if_pos (nI_le (Nat.le_refl i) (by omega))]
  | succ d ih =>
    intro i B c m G hi hG hB hE hW hm
    obtain ⟨G, rfl⟩ : ∃ z, G = z + 1 := ⟨G - 1, by omega⟩
    obtain ⟨D, hD9, hD1, hD2⟩ := iv_E_D hE
    by_cases hlt : D < 9999
    · obtain ⟨c2, m2, e1, e2, e3, e4, e5, e6, ⟨e7, e7'⟩, e8, e9⟩ := po_day (by decide) (by decide) (by omega) hE hW hD1 hlt
      obtain ⟨x1, x2⟩ : m2.1 0 48 = m.1 0 48 ∧ m2.1 0 49 = m.1 0 49 := by
        rcases e7' with h | ⟨h, _⟩
        · exact h
        · exact absurd h hm
      obtain ⟨m3, q1, q2, q3, q4⟩ := ih (i + 1) (B + 9) c2 m2 G (by omega) (by omega) (by omega) e3 e4 (by rw [x1]; exact hm)
      have sM : S_X12_daysGo_4 (nI n) (nI i, m) = some (Sum.inr (nI (i + 1), m2)) := by
        unfold S_X12_daysGo_4
        dsimp only
        rw [if_neg (nI_ge (by omega) (by omega)), hD2, if_neg (show ¬ nI D ≥ 9999 from nI_ge (b := 9999) hlt (by decide)), e2, nI_1]
        rfl
      exact ⟨m3, (wk_loopS sM).trans q1, iv_dM_t e6 q2, q3.trans x1, q4.trans x2⟩
    · have e : D = 9999 := by omega
      subst e
      refine ⟨m, wk_loopI ?_, iv_dM_r, rfl, rfl⟩
      unfold S_X12_daysGo_4
      dsimp only
      rw [if_neg (nI_ge (by omega) (by omega)), hD2, if_pos (by decide)]
theorem po_deadL {T w n : Nat} {N : Nat → Nat} {x2 : Int32} (hn : n ≤ 240) :
    ∀ d i B c m F G, i + d = n → d + 1 < F → d < G → B + 9 * d < 800000 → iv_E T w N 18 c m → iv_Wk true B c m → c.1 23 1 = 0 → m.1 0 47 = nI i →
      ∃ c2 m2, wk_loop (S_X12_daysGo_4 (nI n)) G (nI i, m) = some m2 ∧ iv_dM m m2 ∧ iv_dC 18 c c2 ∧
        ((wk_loop (S_X11_deadFirst_22 (nI n) x2) F (nI (i + 1), c) = some (Sum.inr c2) ∧ m2.1 0 48 = -1) ∨
         (¬ m2.1 0 48 = -1 ∧ wk_loop (S_X11_deadFirst_22 (nI n) x2) F (nI (i + 1), c) = some (Sum.inl (if ¬ x2 = 0 then m2.1 0 49 else m2.1 0 48, c2)))) := by
  have stay : ∀ d i c F, i + d = n → d < F → c.1 18 5 = nI 9999 → c.1 23 1 = 0 → wk_loop (S_X11_deadFirst_22 (nI n) x2) F (nI (i + 1), c) = some (Sum.inr c) := by
    intro d
    induction d with
    | zero =>
      intro i c F hi hF _ _
      obtain ⟨F, rfl⟩ : ∃ z, F = z + 1 := ⟨F - 1, by omega⟩
      refine wk_loopI ?_
      unfold S_X11_deadFirst_22
      dsimp only
      rw [if_pos (show nI (i + 1) > nI n from nI_lt (by omega) (by omega))]
    | succ d ih =>
      intro i c F hi hF hc h0
      obtain ⟨F, rfl⟩ : ∃ z, F = z + 1 := ⟨F - 1, by omega⟩
      have st : S_X11_deadFirst_22 (nI n) x2 (nI (i + 1), c) = some (Sum.inr (nI (i + 1 + 1), c)) := by
        unfold S_X11_deadFirst_22
        dsimp only
        rw [if_neg (show ¬ nI (i + 1) > nI n from nI_nlt (by omega) (by omega)), po_goNo hc]
        dsimp only [Option.bind]
        rw [h0, if_pos (by decide), nI_1]
      exact (wk_loopS st).trans (ih (i + 1) c F (by omega) (by omega) hc h0)
  have m48 : ∀ {B : Nat} {c m : wk_St}, iv_Wk true B c m → c.1 23 1 = 0 → B < 2000000 → m.1 0 48 = -1 := by
    intro B c m hW h0 hB
    obtain ⟨w1, w2, w3, w4, w5, d, wd1, wd2, wd3⟩ := hW rfl
    rcases wd3 with ⟨_, h⟩ | ⟨h, _⟩
    · exact w5.symm.trans h
    · rw [wd2] at h0
      exact absurd h0 (po_nIne (b := 0) (by omega) (by decide) (by omega))
  intro d
  induction d with
  | zero =>
    intro i B c m F G hi hF hG hB hE hW h0 h47
    obtain ⟨F, rfl⟩ : ∃ z, F = z + 1 := ⟨F - 1, by omega⟩
    obtain ⟨G, rfl⟩ : ∃ z, G = z + 1 := ⟨G - 1, by omega⟩
    have e : i = n := by omega
    subst e
    refine ⟨c, m, wk_loopI ?_, iv_dM_r, iv_dC_r, Or.inl ⟨wk_loopI ?_, m48 hW h0 (by omega)⟩⟩
    · unfold S_X12_daysGo_4
      dsimp only
      rw [if_pos (nI_le (Nat.le_refl i) (by omega))]
    · unfold S_X11_deadFirst_22
      dsimp only
      rw [if_pos (show nI (i + 1) > nI i from nI_lt (by omega) (by omega))]
  | succ d ih =>
    intro i B c m F G hi hF hG hB hE hW h0 h47
    obtain ⟨D, hD9, hD1, hD2⟩ := iv_E_D hE
    by_cases hlt : D < 9999
    · obtain ⟨F, rfl⟩ : ∃ z, F = z + 1 := ⟨F - 1, by omega⟩
      obtain ⟨G, rfl⟩ : ∃ z, G = z + 1 := ⟨G - 1, by omega⟩
      obtain ⟨c2, m2, e1, e2, e3, e4, e5, e6, ⟨e7, e7'⟩, e8, e9⟩ := po_day (by decide) (by decide) (by omega) hE hW hD1 hlt
      have sM : S_X12_daysGo_4 (nI n) (nI i, m) = some (Sum.inr (nI (i + 1), m2)) := by
        unfold S_X12_daysGo_4
        dsimp only
        rw [if_neg (nI_ge (by omega) (by omega)), hD2, if_neg (show ¬ nI D ≥ 9999 from nI_ge (b := 9999) hlt (by decide)), e2, nI_1]
        rfl
      have sC : S_X11_deadFirst_22 (nI n) x2 (nI (i + 1), c) = if c2.1 23 1 ≤ 0 then some (Sum.inr (nI (i + 1 + 1), c2)) else if ¬ x2 = 0 then some (Sum.inl (Sum.inl (nI (i + 1), c2))) else some (Sum.inl (Sum.inl (c2.1 23 5, c2))) := by
        unfold S_X11_deadFirst_22
        dsimp only
        rw [if_neg (show ¬ nI (i + 1) > nI n from nI_nlt (by omega) (by omega)), e1]
        dsimp only [Option.bind]
        rw [nI_1]
      have h47' : m2.1 0 47 = nI (i + 1) := by rw [e7, h47, nI_1]
      obtain ⟨w1, w2, w3, w4, w5, dd, wd1, wd2, wd3⟩ := e4 rfl
      by_cases hdd : dd = 0
      · subst hdd
        have hz : c2.1 23 1 = 0 := wd2
        rw [hz, if_pos (by decide)] at sC
        obtain ⟨c3, m3, q1, q2, q3, q4⟩ := ih (i + 1) (B + 9) c2 m2 F G (by omega) (by omega) (by omega) (by omega) e3 e4 hz h47'
        refine ⟨c3, m3, (wk_loopS sM).trans q1, iv_dM_t e6 q2, iv_dC_t e5 q3, ?_⟩
        rcases q4 with ⟨q5, q6⟩ | ⟨q5, q6⟩
        · exact Or.inl ⟨(wk_loopS sC).trans q5, q6⟩
        · exact Or.inr ⟨q5, (wk_loopS sC).trans q6⟩
      · rcases wd3 with ⟨h, _⟩ | ⟨_, k', hk', hfd⟩
        · exact absurd h hdd
        · have hgt : ¬ c2.1 23 1 ≤ 0 := by
            rw [wd2]
            intro h
            have := (nI_leI (a := dd) (b := 0) (by omega) (by decide)).mp h
            omega
          rw [if_neg hgt] at sC
          have fd48 : m2.1 0 48 = nI k' := w5.symm.trans hfd
          have hne : ¬ m2.1 0 48 = -1 := by rw [fd48]; exact po_m1 (by omega)
          have f49 : m2.1 0 49 = nI (i + 1) := by
            rcases e7' with ⟨h, _⟩ | ⟨_, h⟩
            · rw [m48 hW h0 (by omega)] at h
              exact absurd h hne
            · rw [h, h47, nI_1]
          obtain ⟨m3, q1, q2, q3, q4⟩ := po_restL (T := T) (w := w) (N := N) hn d (i + 1) (B + 9) c2 m2 G (by omega) (by omega) (by omega) e3 e4 hne
          refine ⟨c2, m3, (wk_loopS sM).trans q1, iv_dM_t e6 q2, e5, Or.inr ⟨by rw [q3]; exact hne, ?_⟩⟩
          rw [q3, q4, f49, fd48]
          rw [hfd] at sC
          by_cases hx : x2 = 0
          · rw [if_neg (not_not_intro hx)] at sC ⊢
            exact wk_loopI sC
          · rw [if_pos hx] at sC ⊢
            exact wk_loopI sC
    · have e : D = 9999 := by omega
      subst e
      obtain ⟨G, rfl⟩ : ∃ z, G = z + 1 := ⟨G - 1, by omega⟩
      refine ⟨c, m, wk_loopI ?_, iv_dM_r, iv_dC_r, Or.inl ⟨stay (d + 1) i c F hi (by omega) hD1 h0, m48 hW h0 (by omega)⟩⟩
      unfold S_X12_daysGo_4
      dsimp only
      rw [if_neg (nI_ge (by omega) (by omega)), hD2, if_pos (by decide)]
theorem po_op_14 : lw_op_14 iv_I := by
  intro a0 a1 σC σM hI
  have hI2 := hI
  obtain ⟨T, w, N, hT, hF, hH, hR, hK, hL⟩ := hI
  have hE : iv_E T w N 8 σC σM := ⟨hF, hH, hL, hR⟩
  have go : ∀ r c2 m2, f_X11_deadFirst a0 a1 σC = some (r, c2) → f_X12_deadFirst a0 a1 σM = some (r, m2) → iv_I c2 m2 → ∃ (r : Int32) (σC2 σM2 : wk_St), wk_T wk_shC 200 15 [.ref 0, .int a0, .int a1] σC (some (.int r), σC2) ∧ wk_T wk_shM 200 112 [.ref 0, .int a0, .int a1] σM (some (.int r), σM2) ∧ iv_I σC2 σM2 := fun r c2 m2 e1 e2 e3 => ⟨r, c2, m2, (t_X11_deadFirst e1).up (by decide), (t_X12_deadFirst e2).up (by decide), e3⟩
  unfold f_X11_deadFirst f_X12_deadFirst wk_let at go
  rw [po_W] at go
  cases hin : f_X12_in a0 1 240 with
  | false =>
    rw [hin] at go
    exact go (-1) _ _ rfl rfl hI2
  | true =>
    obtain ⟨n, n1, n2, rfl⟩ := po_inA (a := 1) (b := 240) rfl rfl hin
    cases hin2 : f_X12_in a1 0 1 with
    | false =>
      rw [hin, hin2] at go
      exact go (-1) _ _ rfl rfl hI2
    | true =>
      obtain ⟨c1, m1, d1, d2, d3, d4, d5, d6, d7, d8⟩ := po_draft hE
      obtain ⟨hEf, hWf, hdC, hdM⟩ := po_forget (k0 := 18) (by decide) d3
      obtain ⟨c2, m2, e1, e2, e3, e4⟩ := po_deadL (T := T) (w := w) (N := N) (x2 := a1) n2 n 0 0 (f_X10_forget c1) (f_X12_beginsDays m1) wk_F wk_F (by omega) (show n + 1 < 4096 by omega) (show n < 4096 by omega) (by omega) hEf hWf rfl rfl
      obtain ⟨m5, b1, b2, b3⟩ := po_back (T := T) (w := w) (N := N) hI2 d4 d5 d7 d8 (iv_dC_t hdC e3) (iv_dM_t hdM e2)
      have eM : f_X12_daysGo (nI n) m1 = some m2 := by
        have e1' : wk_loop (S_X12_daysGo_4 (nI n)) wk_F ((0 : Int32), f_X12_beginsDays m1) = some m2 := e1
        unfold f_X12_daysGo wk_let
        dsimp only
        rw [e1']
        rfl
      rw [hin, hin2, d1, d2] at go
      simp only [Bool.true_eq_false, if_false, if_true, eq_self, Option.bind] at go
      rw [eM] at go
      dsimp only at go
      rw [b1] at go
      dsimp only at go
      rw [b3] at go
      rcases e4 with ⟨q1, q2⟩ | ⟨q1, q2⟩
      · have q1' : wk_loop (S_X11_deadFirst_22 (nI n) a1) wk_F ((1 : Int32), f_X10_forget c1) = some (Sum.inr c2) := q1
        rw [q1', q2] at go
        exact go (-2) c2 m5 rfl (if_neg (by decide)) b2
      · have q2' : wk_loop (S_X11_deadFirst_22 (nI n) a1) wk_F ((1 : Int32), f_X10_forget c1) = _ := q2
        rw [q2', if_pos q1] at go
        refine go (if ¬ a1 = 0 then m2.1 0 49 else m2.1 0 48) c2 m5 rfl ?_ b2
        by_cases hx : a1 = 0
        · rw [if_neg (not_not_intro hx), if_neg (not_not_intro hx)]
        · rw [if_pos hx, if_pos hx]
