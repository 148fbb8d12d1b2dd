/-! PURE: where a wolf goes -/
def iv_tk (k0 k : Nat) (c : wk_St) : Prop := ∀ K, c.1 k0 4 = nI K → K < 512 → K.testBit k = true
theorem iv_tk_c {k0 k : Nat} {c c2 : wk_St} (hk0 : k0 + 4 < 23) (h : iv_tk k0 k c) (hc : iv_c c c2) : iv_tk k0 k c2 := by
  intro K hK hlt
  rw [hc.2.1 k0 (by omega) (by omega) (by omega)] at hK
  exact h K hK hlt
theorem po_liking {T w k0 k P : Nat} {N : Nat → Nat} {c m : wk_St} (hk0 : k0 + 4 < 23) (hE : iv_E T w N k0 c m) (hk9 : k < 9) (hb : iv_tk k0 k c) (hP : P < 12) (hTP : T.testBit P = true) :
    ∃ V c2 m2, f_X10_liking k0 (nI k) (nI P) c = some (nI V, c2) ∧ f_X12_likedNow (nI k) (nI P) m = some (nI V, m2) ∧ iv_c c c2 ∧ iv_m m m2 ∧ V ≤ 9999 := by
  obtain ⟨c1, m1, e1, e2, hc, hm, hlet⟩ := po_look hk0 hE hk9 hb hP hTP
  have hE1 := iv_E_c hk0 hE hc hm
  obtain ⟨V, h2, rf2, K2, L2, q1, q2, q3⟩ := po_value (c := c1) (m := m1) (kd := 101) (H := 9999) hE1.2.2.1 hlet (by decide) (by decide) (c1.1 37 9) (c1.1 37 10) (c1.1 44) (m1.1 19)
  rw [iv_rs_id] at q1
  rw [iv_set_id] at q2
  refine ⟨V, iv_rs c1 h2 rf2 K2, iv_set m1 19 L2, ?_, ?_, iv_c_t hc iv_c_rs, iv_m_t hm iv_m_19, q3⟩
  · have q1' : f_X4_valueOf 101 9999 c1 = some (nI V, iv_rs c1 h2 rf2 K2) := q1
    unfold f_X10_liking
    rw [e1]
    dsimp only [Option.bind]
    rw [q1']
  · have q2' : f_X12_byLaw 101 9999 m1 = some (nI V, iv_set m1 19 L2) := q2
    unfold f_X12_likedNow
    rw [e2]
    dsimp only [Option.bind]
    rw [q2']
theorem po_goal {T w k0 k P0 : Nat} {N : Nat → Nat} {c m : wk_St} (hk0 : k0 + 4 < 23) (hE : iv_E T w N k0 c m) (hk9 : k < 9) (hb : iv_tk k0 k c) (hP : P0 < 12) (hTP : T.testBit P0 = true) (hpl : c.1 (k0 + 1) k = nI P0) (hplM : m.1 1 (18 + k) = nI P0) :
    ∃ G c2 m2 m3, G < 12 ∧ T.testBit G = true ∧ f_X10_goalOf k0 (nI k) c = some (nI G, c2) ∧ f_X12_goesOn (nI k) m = some m3 ∧ iv_c c c2 ∧ iv_m m m2 ∧ ((G = P0 ∧ m3 = m2) ∨ m3 = wk_si m2 1 (18 + k) (nI G)) := by
  obtain ⟨⟨f1, f2, f3, f4, f5, f6, f7, f8, f9, f10⟩, hH, hL, hR⟩ := id hE
  have hN0 := (f7 P0 hP).1
  obtain ⟨a, b, e1, e2, c2, m2, hc, hm, h3⟩ := po_rel (f := S_X10_goalOf_12 k0 (nI k) (nI (N P0))) (g := S_X12_goesOn_6 (nI k))
    (fun i p q => ∃ c2 m2, iv_c c c2 ∧ iv_m m m2 ∧ ((p = (nI P0, nI 0, nI i, c2) ∧ q = (-1, nI 0, nI i, m2)) ∨ ∃ z M : Nat, z < 12 ∧ T.testBit z = true ∧ 0 < M ∧ M ≤ 9999 ∧ p = (nI z, nI M, nI i, c2) ∧ q = (nI z, nI M, nI i, m2)))
    (fun a b => ∃ c2 m2, iv_c c c2 ∧ iv_m m m2 ∧ ((a = (nI P0, c2) ∧ b = (-1, m2)) ∨ ∃ z : Nat, z < 12 ∧ T.testBit z = true ∧ a = (nI z, c2) ∧ b = (nI z, m2))) 12 (by
      rintro i p q hi ⟨c2, m2, hc, hm, hpq⟩
      have hE2 := iv_E_c hk0 hE hc hm
      have hb2 := iv_tk_c hk0 hb hc
      have m4 : m2.1 4 P0 = nI (N P0) := by rw [hm.2 4 (by decide) (by decide) (by decide) (by decide)]; exact (f8 P0 hP).2
      have mp : m2.1 1 (18 + k) = nI P0 := by rw [hm.2 1 (by decide) (by decide) (by decide) (by decide)]; exact hplM
      have m04 : m2.1 0 4 = nI T := by rw [hm.2 0 (by decide) (by decide) (by decide) (by decide)]; exact f5
      have c34 : c2.1 3 4 = nI T := by rw [hc.2.1 3 (by decide) (by decide) (by decide)]; exact f3
      have hpl2 := (po_told2 (c := c2) (m := m2) f1 c34 m04 hi).2
      -- one step, for any best so far
      have stepC : ∀ (g M : Nat), S_X10_goalOf_12 k0 (nI k) (nI (N P0)) (nI g, nI M, nI i, c2) = (if (N P0).testBit i = false then j_X10_goalOf_28_l12 k0 (nI k) (nI g) (nI (N P0)) (nI M) (nI i) 0 c2 else Option.bind (f_X10_liking k0 (nI k) (nI i) c2) fun v4 => j_X10_goalOf_28_l12 k0 (nI k) (nI g) (nI (N P0)) (nI M) (nI i) v4.1 v4.2) := by
        intro g M
        unfold S_X10_goalOf_12
        dsimp only
        rw [if_neg (po_n12 hi), po_hasC (by omega) (by omega)]
      have stepM : ∀ (x : Int32) (M : Nat), S_X12_goesOn_6 (nI k) (x, nI M, nI i, m2) = (if (N P0).testBit i = false then some (Sum.inr (x, nI M, nI (i + 1), m2)) else if T.testBit i = true then Option.bind (f_X12_likedNow (nI k) (nI i) m2) fun v3 => (if v3.1 > nI M then some (Sum.inr (nI i, v3.1, nI (i + 1), v3.2)) else some (Sum.inr (x, nI M, nI (i + 1), v3.2))) else some (Sum.inr (x, nI M, nI (i + 1), m2))) := by
        intro x M
        unfold S_X12_goesOn_6
        dsimp only
        rw [if_neg (po_n12 hi), po_e18, if_pos (po_wkin (by omega) (by decide)), nI_clamp (by omega), mp, if_pos (po_wkin hP (by decide)), nI_clamp (by omega), m4, po_hasM (by omega) (by omega), hpl2, nI_1]
      cases hn : (N P0).testBit i with
      | false =>
        rcases hpq with ⟨rfl, rfl⟩ | ⟨z, M, hz, hTz, hM0, hM9, rfl, rfl⟩
        · have sC := stepC P0 0
          have sM := stepM (-1) 0
          rw [hn, if_pos rfl] at sC sM
          unfold j_X10_goalOf_28_l12 at sC
          rw [if_pos (show (0 : Int32) ≤ nI 0 by decide), nI_1] at sC
          exact ⟨_, _, sC, sM, c2, m2, hc, hm, Or.inl ⟨rfl, rfl⟩⟩
        · have sC := stepC z M
          have sM := stepM (nI z) M
          rw [hn, if_pos rfl] at sC sM
          unfold j_X10_goalOf_28_l12 at sC
          rw [if_pos (show (0 : Int32) ≤ nI M from nI_pos' (by omega)), nI_1] at sC
          exact ⟨_, _, sC, sM, c2, m2, hc, hm, Or.inr ⟨z, M, hz, hTz, hM0, hM9, rfl, rfl⟩⟩
      | true =>
        have hTi : T.testBit i = true := (f9 i P0 hi hP (f9 P0 i hP hi hn).1).2.2
        obtain ⟨V, c3, m3, q1, q2, hc3, hm3, hV⟩ := po_liking hk0 hE2 hk9 hb2 hi hTi
        rcases hpq with ⟨rfl, rfl⟩ | ⟨z, M, hz, hTz, hM0, hM9, rfl, rfl⟩
        · have sC := stepC P0 0
          have sM := stepM (-1) 0
          rw [hn, if_neg (by decide), q1] at sC
          rw [hn, if_neg (by decide), hTi, if_pos rfl, q2] at sM
          dsimp only [Option.bind] at sC sM
          unfold j_X10_goalOf_28_l12 at sC
          rw [nI_1] at sC
          by_cases h0 : V = 0
          · subst h0
            rw [if_pos (show nI 0 ≤ nI 0 by decide)] at sC
            rw [if_neg (show ¬ nI 0 > nI 0 by decide)] at sM
            exact ⟨_, _, sC, sM, c3, m3, iv_c_t hc hc3, iv_m_t hm hm3, Or.inl ⟨rfl, rfl⟩⟩
          · rw [if_neg (nI_ge (by omega) (by omega))] at sC
            rw [if_pos (show nI V > nI 0 from nI_lt (by omega) (by omega))] at sM
            exact ⟨_, _, sC, sM, c3, m3, iv_c_t hc hc3, iv_m_t hm hm3, Or.inr ⟨i, V, hi, hTi, by omega, hV, rfl, rfl⟩⟩
        · have sC := stepC z M
          have sM := stepM (nI z) M
          rw [hn, if_neg (by decide), q1] at sC
          rw [hn, if_neg (by decide), hTi, if_pos rfl, q2] at sM
          dsimp only [Option.bind] at sC sM
          unfold j_X10_goalOf_28_l12 at sC
          rw [nI_1] at sC
          by_cases h0 : V ≤ M
          · rw [if_pos (nI_le h0 (by omega))] at sC
            rw [if_neg (show ¬ nI V > nI M from nI_nlt h0 (by omega))] at sM
            exact ⟨_, _, sC, sM, c3, m3, iv_c_t hc hc3, iv_m_t hm hm3, Or.inr ⟨z, M, hz, hTz, hM0, hM9, rfl, rfl⟩⟩
          · rw [if_neg (nI_ge (by omega) (by omega))] at sC
            rw [if_pos (show nI V > nI M from nI_lt (by omega) (by omega))] at sM
            exact ⟨_, _, sC, sM, c3, m3, iv_c_t hc hc3, iv_m_t hm hm3, Or.inr ⟨i, V, hi, hTi, by omega, hV, rfl, rfl⟩⟩) (by
      rintro p q ⟨c2, m2, hc, hm, hpq⟩
      rcases hpq with ⟨rfl, rfl⟩ | ⟨z, M, hz, hTz, hM0, hM9, rfl, rfl⟩
      · unfold S_X10_goalOf_12 S_X12_goesOn_6
        dsimp only
        rw [if_pos (by decide), if_pos (by decide)]
        exact ⟨_, _, rfl, rfl, c2, m2, hc, hm, Or.inl ⟨rfl, rfl⟩⟩
      · unfold S_X10_goalOf_12 S_X12_goesOn_6
        dsimp only
        rw [if_pos (by decide), if_pos (by decide)]
        exact ⟨_, _, rfl, rfl, c2, m2, hc, hm, Or.inr ⟨z, hz, hTz, rfl, rfl⟩⟩) (by decide) (p := (nI P0, (0 : Int32), (0 : Int32), c)) (q := ((-1 : Int32), (0 : Int32), (0 : Int32), m)) ⟨c, m, iv_c_r, iv_m_r, Or.inl ⟨rfl, rfl⟩⟩
  have eC : f_X10_goalOf k0 (nI k) c = some a := by
    unfold f_X10_goalOf
    rw [po_placeOf hk9, hpl]
    dsimp only [Option.bind]
    rw [po_nextToC f7 hP]
    dsimp only
    rw [e1]
  rcases h3 with ⟨rfl, rfl⟩ | ⟨z, hz, hTz, rfl, rfl⟩
  · refine ⟨P0, c2, m2, m2, hP, hTP, eC, ?_, hc, hm, Or.inl ⟨rfl, rfl⟩⟩
    unfold f_X12_goesOn
    rw [e2]
    rfl
  · refine ⟨z, c2, m2, wk_si m2 1 (18 + k) (nI z), hz, hTz, eC, ?_, hc, hm, Or.inr rfl⟩
    unfold f_X12_goesOn
    rw [e2]
    dsimp only [Option.bind]
    rw [if_neg (po_m1 (by omega)), po_e18, if_pos (po_wkin (by omega) (by decide)), nI_clamp (by omega)]
