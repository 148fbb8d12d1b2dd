/-! PURE: days, tried, likes -/
theorem iv_dC_t {k0 : Nat} {a b c : wk_St} (h : iv_dC k0 a b) (k : iv_dC k0 b c) : iv_dC k0 a c := ⟨k.1.trans h.1, fun x h1 h2 h3 h4 h5 => (k.2.1 x h1 h2 h3 h4 h5).trans (h.2.1 x h1 h2 h3 h4 h5), fun x h1 h2 => (k.2.2 x h1 h2).trans (h.2.2 x h1 h2)⟩
theorem iv_dM_t {a b c : wk_St} (h : iv_dM a b) (k : iv_dM b c) : iv_dM a c := ⟨k.1.trans h.1, fun x h1 h2 h3 h4 h5 h6 => (k.2.1 x h1 h2 h3 h4 h5 h6).trans (h.2.1 x h1 h2 h3 h4 h5 h6), fun x h1 => (k.2.2 x h1).trans (h.2.2 x h1)⟩
theorem iv_dC_r {k0 : Nat} {c : wk_St} : iv_dC k0 c c := ⟨rfl, fun _ _ _ _ _ _ => rfl, fun _ _ _ => rfl⟩
theorem iv_dM_r {m : wk_St} : iv_dM m m := ⟨rfl, fun _ _ _ _ _ _ _ => rfl, fun _ _ => rfl⟩
theorem iv_E_D {T w k0 : Nat} {N : Nat → Nat} {c m : wk_St} (hE : iv_E T w N k0 c m) : ∃ D, D ≤ 9999 ∧ c.1 k0 5 = nI D ∧ m.1 1 45 = nI D := by
  obtain ⟨_, _, _, ⟨K, D, X, g1, g2, g3, g4, g5, g6, g7, g8, g9⟩⟩ := hE
  exact ⟨D, g2, g5, g6⟩
theorem po_goNo {k0 : Nat} {c : wk_St} (h : c.1 k0 5 = nI 9999) : f_X10_goDay k0 c = some c := by
  unfold f_X10_goDay
  rw [h, if_neg (by decide)]
theorem po_daysL {T w k0 n : Nat} {N : Nat → Nat} {q : Bool} {f : Int32 × wk_St → Option (wk_St ⊕ (Int32 × wk_St))} (hk0 : k0 + 4 < 23) (hk7 : 7 < k0) (hn : n ≤ 240) (hf : ∀ i s, i < n → f (nI i, s) = Option.bind (f_X10_goDay k0 s) fun v => some (Sum.inr (nI (i + 1), v))) (hf2 : ∀ s, f (nI n, s) = some (Sum.inl s)) :
    ∀ d i B c m F G, i + d = n → d < F → d < G → B + 9 * d < 900000 → iv_E T w N k0 c m → iv_Wk q B c m → ∃ c2 m2, wk_loop f F (nI i, c) = some c2 ∧ wk_loop (S_X12_daysGo_4 (nI n)) G (nI i, m) = some m2 ∧ iv_E T w N k0 c2 m2 ∧ iv_Wk q (B + 9 * d) c2 m2 ∧ iv_dC k0 c c2 ∧ iv_dM m m2 ∧ c2.1 k0 4 = c.1 k0 4 := by
  have stay : ∀ d i c F, i + d = n → d < F → c.1 k0 5 = nI 9999 → wk_loop f F (nI i, c) = some c := by
    intro d
    induction d with
    | zero =>
      intro i c F hi hF _
      obtain ⟨F, rfl⟩ : ∃ z, F = z + 1 := ⟨F - 1, by omega⟩
      have e : i = n := by omega
      subst e
      exact wk_loopI (hf2 c)
    | succ d ih =>
      intro i c F hi hF hc
      obtain ⟨F, rfl⟩ : ∃ z, F = z + 1 := ⟨F - 1, by omega⟩
      have := hf i c (by omega)
      rw [po_goNo hc] at this
      exact (wk_loopS this).trans (ih (i + 1) c F (by omega) (by omega) hc)
  intro d
  induction d with
  | zero =>
    intro i B c m F G hi hF hG hB hE hW
    obtain ⟨F, rfl⟩ : ∃ z, F = z + 1 := ⟨F - 1, by omega⟩
    obtain ⟨G, rfl⟩ : ∃ z, G = z + 1 := ⟨G - 1, by omega⟩
    have e : i = n := by omega
    subst e
    refine ⟨c, m, wk_loopI (hf2 c), wk_loopI ?_, hE, hW, iv_dC_r, iv_dM_r, rfl⟩
    unfold S_X12_daysGo_4
    dsimp only
    rw [if_pos (nI_le (Nat.le_refl i) (by omega))]
  | succ d ih =>
    intro i B c m F G hi hF hG hB hE hW
    obtain ⟨D, hD9, hD1, hD2⟩ := iv_E_D hE
    by_cases hlt : D < 9999
    · obtain ⟨F, rfl⟩ : ∃ z, F = z + 1 := ⟨F - 1, by omega⟩
      obtain ⟨G, rfl⟩ : ∃ z, G = z + 1 := ⟨G - 1, by omega⟩
      obtain ⟨c2, m2, e1, e2, e3, e4, e5, e6, e7, e8, e9⟩ := po_day hk0 hk7 (by omega) hE hW hD1 hlt
      obtain ⟨c3, m3, q1, q2, q3, q4, q5, q6, q7⟩ := ih (i + 1) (B + 9) c2 m2 F G (by omega) (by omega) (by omega) (by omega) e3 e4
      have sC := hf i c (by omega)
      rw [e1] at sC
      have sM : S_X12_daysGo_4 (nI n) (nI i, m) = some (Sum.inr (nI (i + 1), m2)) := by
        unfold S_X12_daysGo_4
        dsimp only
        rw [if_neg (nI_ge (by omega) (by omega)), hD2, if_neg (show ¬ nI D ≥ 9999 from nI_ge (b := 9999) hlt (by decide)), e2, nI_1]
        rfl
      exact ⟨c3, m3, (wk_loopS sC).trans q1, (wk_loopS sM).trans q2, q3, iv_Wk_mono q4 (by omega), iv_dC_t e5 q5, iv_dM_t e6 q6, q7.trans e9⟩
    · have e : D = 9999 := by omega
      subst e
      obtain ⟨G, rfl⟩ : ∃ z, G = z + 1 := ⟨G - 1, by omega⟩
      refine ⟨c, m, stay (d + 1) i c F hi hF hD1, wk_loopI ?_, hE, iv_Wk_mono hW (by omega), iv_dC_r, iv_dM_r, rfl⟩
      unfold S_X12_daysGo_4
      dsimp only
      rw [if_neg (nI_ge (by omega) (by omega)), hD2, if_pos (by decide)]
theorem po_forget {T w k0 : Nat} {N : Nat → Nat} {c m : wk_St} (hk0 : k0 + 4 < 23) (hE : iv_E T w N k0 c m) : iv_E T w N k0 (f_X10_forget c) (f_X12_beginsDays m) ∧ iv_Wk true 0 (f_X10_forget c) (f_X12_beginsDays m) ∧ iv_dC k0 c (f_X10_forget c) ∧ iv_dM m (f_X12_beginsDays m) := by
  have oC : ∀ a, a ≠ 23 → (f_X10_forget c).1 a = c.1 a := fun a h => funext (fun b => by
    unfold f_X10_forget
    rw [po_si_c h, po_si_c h, po_si_c h, po_si_c h, po_si_c h])
  have oM : ∀ a, a ≠ 0 → (f_X12_beginsDays m).1 a = m.1 a := fun a h => funext (fun b => by
    unfold f_X12_beginsDays
    rw [po_si_c h, po_si_c h, po_si_c h, po_si_c h, po_si_c h, po_si_c h, po_si_c h])
  have oM0 : ∀ b, (b < 43 ∨ 49 < b) → (f_X12_beginsDays m).1 0 b = m.1 0 b := fun b h => by
    unfold f_X12_beginsDays
    rw [po_si_ne (by omega), po_si_ne (by omega), po_si_ne (by omega), po_si_ne (by omega), po_si_ne (by omega), po_si_ne (by omega), po_si_ne (by omega)]
  refine ⟨?_, ?_, ⟨rfl, fun a _ h _ _ _ => oC a h, fun b _ _ => by rw [oC 37 (by decide)]⟩, ⟨rfl, fun a h _ _ _ _ _ => oM a h, oM0⟩⟩
  · obtain ⟨hF, hH, hL, hR⟩ := hE
    refine ⟨?_, ?_, ?_, ?_⟩
    · rw [oC 3 (by decide), oC 4 (by decide), oC 5 (by decide), oM0 4 (by decide), oM0 5 (by decide), oM 4 (by decide)]; exact hF
    · rw [oC 6 (by decide), oM 22 (by decide), oM 21 (by decide)]; exact hH
    · rw [oC 37 (by decide), oC 38 (by decide), oC 39 (by decide), oC 40 (by decide), oC 41 (by decide), oC 42 (by decide), oC 43 (by decide), oM0 18 (by decide), oM 14 (by decide), oM 15 (by decide), oM 16 (by decide), oM 17 (by decide), oM 18 (by decide)]; exact hL
    · rw [oC k0 (by omega), oC (k0 + 1) (by omega), oC (k0 + 2) (by omega), oC (k0 + 3) (by omega), oC (k0 + 4) (by omega), oM 1 (by decide)]; exact hR
  · intro _
    exact ⟨rfl, rfl, rfl, rfl, rfl, 0, Nat.le_refl _, rfl, Or.inl ⟨rfl, rfl⟩⟩
theorem po_op_8 : lw_op_8 iv_I := by
  intro a0 σC σM hI
  cases hin : f_X12_in a0 1 240 with
  | false =>
    exact ⟨-1, σC, σM, (t_X11_days (r := (-1, σC)) (by unfold f_X11_days; rw [po_W, hin]; rfl)).up (by decide), (t_X12_days (r := (-1, σM)) (by unfold f_X12_days; rw [hin]; rfl)).up (by decide), hI⟩
  | true =>
    obtain ⟨n, n1, n2, rfl⟩ := po_inA (a := 1) (b := 240) rfl rfl hin
    obtain ⟨T, w, N, hT, hF, hH, hR, hK, hL⟩ := hI
    obtain ⟨hE, hW, hdC, hdM⟩ := po_forget (T := T) (w := w) (N := N) (k0 := 8) (c := σC) (m := σM) (by decide) ⟨hF, hH, hL, hR⟩
    obtain ⟨c2, m2, e1, e2, e3, e4, e5, e6, _⟩ := po_daysL (T := T) (w := w) (N := N) (k0 := 8) (n := n) (q := true) (f := S_X11_days_12 (nI n)) (by decide) (by decide) n2 (fun i s hi => by
      unfold S_X11_days_12
      dsimp only
      rw [if_neg (nI_ge hi (by omega)), nI_1]) (fun s => by
      unfold S_X11_days_12
      dsimp only
      rw [if_pos (nI_le (Nat.le_refl n) (by omega))]) n 0 0 (f_X10_forget σC) (f_X12_beginsDays σM) wk_F wk_F (by omega) (show n < 4096 by omega) (show n < 4096 by omega) (by omega) hE hW
    obtain ⟨w1, _⟩ := e4 rfl
    have eC : f_X11_days (nI n) σC = some (m2.1 0 43, c2) := by
      have e1' : wk_loop (S_X11_days_12 (nI n)) wk_F ((0 : Int32), f_X10_forget σC) = some c2 := e1
      unfold f_X11_days wk_let
      rw [po_W, hin, if_pos rfl]
      dsimp only
      rw [e1']
      dsimp only [Option.bind]
      rw [w1]
    have eM : f_X12_days (nI n) σM = some (m2.1 0 43, m2) := by
      have e2' : wk_loop (S_X12_daysGo_4 (nI n)) wk_F ((0 : Int32), f_X12_beginsDays σM) = some m2 := e2
      unfold f_X12_days f_X12_daysGo wk_let
      rw [hin, if_pos rfl]
      dsimp only
      rw [e2']
      rfl
    have fC := iv_dC_t hdC e5
    have fM := iv_dM_t hdM e6
    obtain ⟨g1, g2, g3, g4⟩ := e3
    have u : ∀ a, (a < 8 ∨ 12 < a) → a ≠ 23 → a ≠ 24 → a ≠ 44 → a ≠ 37 → c2.1 a = σC.1 a := fun a h1 h2 h3 h4 h5 => fC.2.1 a h1 h2 h3 h4 h5
    refine ⟨_, c2, m2, (t_X11_days eC).up (by decide), (t_X12_days eM).up (by decide), T, w, N, ?_, g1, g2, g4, ?_, g3⟩
    · rw [u 1 (by decide) (by decide) (by decide) (by decide) (by decide), u 2 (by decide) (by decide) (by decide) (by decide) (by decide), fM.2.2 9 (by decide), fM.2.1 7 (by decide) (by decide) (by decide) (by decide) (by decide) (by decide)]
      exact hT
    · rw [u 0 (by decide) (by decide) (by decide) (by decide) (by decide), u 13 (by decide) (by decide) (by decide) (by decide) (by decide), u 14 (by decide) (by decide) (by decide) (by decide) (by decide), u 15 (by decide) (by decide) (by decide) (by decide) (by decide), u 16 (by decide) (by decide) (by decide) (by decide) (by decide), u 17 (by decide) (by decide) (by decide) (by decide) (by decide), fM.2.2 57 (by decide), fM.2.1 3 (by decide) (by decide) (by decide) (by decide) (by decide) (by decide)]
      exact hK
/-- a draft of the knights -/
theorem po_draft {T w : Nat} {N : Nat → Nat} {σC σM : wk_St} (hE : iv_E T w N 8 σC σM) : ∃ c1 m1, f_X0_copyFrom 18 8 σC = some c1 ∧ f_X12_copies 1 2 σM = some m1 ∧ iv_E T w N 18 c1 m1 ∧ c1.2 = σC.2 ∧ (∀ a, (a < 18 ∨ 22 < a) → c1.1 a = σC.1 a) ∧ m1.2 = σM.2 ∧ (∀ a, a ≠ 2 → m1.1 a = σM.1 a) ∧ (∀ b, b < 47 → m1.1 2 b = σM.1 1 b) := by
  obtain ⟨hF, hH, hL, hR⟩ := hE
  obtain ⟨s2, e, q2, qc, qk, q4, q5, q6⟩ := po_copy (s := σC) (k0 := 18) (k1 := 8) (by decide)
  refine ⟨s2, _, e, po_copies (by decide), ⟨?_, ?_, ?_, ?_⟩, q2, fun a h => qc a (by omega), rfl, fun a h => funext (fun b => iv_set_off h), fun b hb => iv_set_at.trans (if_pos hb)⟩
  · rw [qc 3 (by decide), qc 4 (by decide), qc 5 (by decide)]; exact hF
  · rw [qc 6 (by decide), q2]; exact hH
  · rw [qc 37 (by decide), qc 38 (by decide), qc 39 (by decide), qc 40 (by decide), qc 41 (by decide), qc 42 (by decide), qc 43 (by decide)]; exact hL
  · exact iv_R_congr (c2 := s2.1 18) (p2 := s2.1 19) (d2 := s2.1 20) (w2 := s2.1 21) (l2 := s2.1 22) (b := σM.1 1) hR q4 q5 q6 qk (fun j hj => rfl)
theorem po_back {T w : Nat} {N : Nat → Nat} {σC σM c1 m1 c4 m4 : wk_St} (hI : iv_I σC σM) (h1 : c1.2 = σC.2) (h2 : ∀ a, (a < 18 ∨ 22 < a) → c1.1 a = σC.1 a) (h4 : ∀ a, a ≠ 2 → m1.1 a = σM.1 a) (h5 : ∀ b, b < 47 → m1.1 2 b = σM.1 1 b) (hdC : iv_dC 18 c1 c4) (hdM : iv_dM m1 m4) : ∃ m5, f_X12_copies 2 1 m4 = some m5 ∧ iv_I c4 m5 ∧ m5.1 0 = m4.1 0 := by
  obtain ⟨T, w, N, hT, hF, hH, hR, hK, hL⟩ := hI
  refine ⟨_, po_copies (by decide), ⟨T, w, N, ?_, ?_, ?_, ?_, ?_, ?_⟩, funext (fun b => iv_set_off (by decide))⟩
  all_goals (obtain ⟨M, hM⟩ : ∃ M, M = iv_set m4 1 (fun b => if b < 47 then m4.1 2 b else m4.1 1 b) := ⟨_, rfl⟩; rw [← hM])
  all_goals have u : ∀ a, a < 18 → c4.1 a = σC.1 a := fun a ha => (hdC.2.1 a (Or.inl ha) (by omega) (by omega) (by omega) (by omega)).trans (h2 a (Or.inl ha))
  all_goals have v : ∀ a, a ≠ 0 → a ≠ 1 → a ≠ 2 → a ≠ 5 → a ≠ 6 → a ≠ 19 → a ≠ 20 → M.1 a = σM.1 a := fun a k0 k1 k2 k5 k6 k19 k20 => by rw [hM, show (iv_set m4 1 (fun b => if b < 47 then m4.1 2 b else m4.1 1 b)).1 a = m4.1 a from funext (fun b => iv_set_off k1), hdM.2.1 a k0 k1 k5 k6 k19 k20, h4 a k2]
  all_goals have v0 : ∀ b, (b < 43 ∨ 49 < b) → M.1 0 b = σM.1 0 b := fun b hb => by rw [hM, iv_set_off (by decide), hdM.2.2 b hb, h4 0 (by decide)]
  · rw [u 1 (by decide), u 2 (by decide), v0 9 (by decide), v 7 (by decide) (by decide) (by decide) (by decide) (by decide) (by decide) (by decide)]; exact hT
  · rw [u 3 (by decide), u 4 (by decide), u 5 (by decide), v0 4 (by decide), v0 5 (by decide), v 4 (by decide) (by decide) (by decide) (by decide) (by decide) (by decide) (by decide)]; exact hF
  · rw [u 6 (by decide), hdC.1, h1, v 22 (by decide) (by decide) (by decide) (by decide) (by decide) (by decide) (by decide), v 21 (by decide) (by decide) (by decide) (by decide) (by decide) (by decide) (by decide)]; exact hH
  · rw [u 8 (by decide), u 9 (by decide), u 10 (by decide), u 11 (by decide), u 12 (by decide)]
    refine iv_R_congr hR rfl rfl rfl (fun k _ => ⟨rfl, rfl, rfl, rfl⟩) (fun j hj => ?_)
    rw [hM, iv_set_at, if_pos hj, hdM.2.1 2 (by decide) (by decide) (by decide) (by decide) (by decide) (by decide), h5 j hj]
  · rw [u 0 (by decide), u 13 (by decide), u 14 (by decide), u 15 (by decide), u 16 (by decide), u 17 (by decide), v0 57 (by decide), v 3 (by decide) (by decide) (by decide) (by decide) (by decide) (by decide) (by decide)]; exact hK
  · have x : ∀ a, 37 < a → a < 44 → c4.1 a = σC.1 a := fun a k1 k2 => (hdC.2.1 a (Or.inr (by omega)) (by omega) (by omega) (by omega) (by omega)).trans (h2 a (Or.inr (by omega)))
    have y : ∀ a, 13 < a → a < 19 → M.1 a = σM.1 a := fun a k1 k2 => v a (by omega) (by omega) (by omega) (by omega) (by omega) (by omega) (by omega)
    have z : c4.1 37 7 = σC.1 37 7 := by rw [hdC.2.2 7 (by decide) (by decide), h2 37 (by decide)]
    rw [z, x 38 (by decide) (by decide), x 39 (by decide) (by decide), x 40 (by decide) (by decide), x 41 (by decide) (by decide), x 42 (by decide) (by decide), x 43 (by decide) (by decide), v0 18 (by decide), y 14 (by decide) (by decide), y 15 (by decide) (by decide), y 16 (by decide) (by decide), y 17 (by decide) (by decide), y 18 (by decide) (by decide)]
    exact hL
theorem po_op_12 : lw_op_12 iv_I := by
  intro a0 a1 σC σM hI
  have hI2 := hI
  obtain ⟨T, w, N, hT, hF, hH, hR, hK, hL⟩ := hI
  have hF2 := hF
  have hE : iv_E T w N 8 σC σM := ⟨hF, hH, hL, hR⟩
  obtain ⟨K, D, X, h1, h2, h3, h4, h5, h6, h7, h8, h9⟩ := hR
  have go : ∀ r c2 m2, f_X11_likes a0 a1 σC = some (r, c2) → f_X12_likes a0 a1 σM = some (r, m2) → iv_I c2 m2 → ∃ (r : Int32) (σC2 σM2 : wk_St), wk_T wk_shC 200 13 [.ref 0, .int a0, .int a1] σC (some (.int r), σC2) ∧ wk_T wk_shM 200 110 [.ref 0, .int a0, .int a1] σM (some (.int r), σM2) ∧ iv_I σC2 σM2 := fun r c2 m2 e1 e2 e3 => ⟨r, c2, m2, (t_X11_likes e1).up (by decide), (t_X12_likes e2).up (by decide), e3⟩
  unfold f_X11_likes f_X12_likes at go
  have hliv : (f_X0_isLiving 8 a0 σC = some false ∧ f_X12_isLiving a0 σM = some false) ∨ (f_X0_isLiving 8 a0 σC = some true ∧ f_X12_isLiving a0 σM = some true ∧ ∃ k, k < 9 ∧ a0 = nI k ∧ K.testBit k = true) := by
    rcases po_kn (x := a0) h1 h4 h9 with ⟨c1, m1⟩ | ⟨c1, m1, k, hk, rfl, hb⟩
    · left
      unfold f_X0_isLiving f_X12_isLiving
      rw [c1, m1]
      exact ⟨rfl, rfl⟩
    · have l1 := po_livC h1 h4 hk
      have l2 := po_livM (k0 := 8) h1 h4 hk h9
      rw [l1, l2]
      cases iv_li K (σC.1 (8 + 3)) k with
      | false => exact Or.inl ⟨rfl, rfl⟩
      | true => exact Or.inr ⟨rfl, rfl, k, hk, rfl, hb⟩
  rcases hliv with ⟨c1, m1⟩ | ⟨c1, m1, k, hk, rfl, hb⟩
  · rw [c1, m1] at go
    exact go (-1) _ _ rfl rfl hI2
  · rw [c1, m1] at go
    rcases po_toldF (x := a1) hF2 with ⟨c2, m2⟩ | ⟨c2, m2, P, hP, rfl, hTP⟩
    · rw [c2, m2] at go
      exact go (-1) _ _ rfl rfl hI2
    · rw [c2, m2] at go
      have hbk : iv_tk 8 k σC := fun K' hK' hlt => by
        rw [h4] at hK'
        have : K = K' := (nI_eq (by omega) (by omega)).mp hK'
        rw [← this]; exact hb
      obtain ⟨V, c3, m3, e1, e2, e3, e4, e5⟩ := po_liking (k0 := 8) (by decide) hE hk hbk hP hTP
      rw [e1, e2] at go
      refine go (nI V) c3 m3 rfl rfl ?_
      have u : ∀ a, a ≠ 24 → a ≠ 44 → a ≠ 37 → c3.1 a = σC.1 a := e3.2.1
      have v : ∀ a, a ≠ 5 → a ≠ 6 → a ≠ 19 → a ≠ 20 → m3.1 a = σM.1 a := e4.2
      refine iv_I_s hI2 ⟨?_, u 0 ?_ ?_ ?_, u 1 ?_ ?_ ?_, u 2 ?_ ?_ ?_, u 3 ?_ ?_ ?_, u 4 ?_ ?_ ?_, u 5 ?_ ?_ ?_, u 6 ?_ ?_ ?_, u 8 ?_ ?_ ?_, u 9 ?_ ?_ ?_, u 10 ?_ ?_ ?_, u 11 ?_ ?_ ?_, u 12 ?_ ?_ ?_, u 13 ?_ ?_ ?_, u 14 ?_ ?_ ?_, u 15 ?_ ?_ ?_, u 16 ?_ ?_ ?_, u 17 ?_ ?_ ?_, e3.2.2 7 ?_ ?_, u 38 ?_ ?_ ?_, u 39 ?_ ?_ ?_, u 40 ?_ ?_ ?_, u 41 ?_ ?_ ?_, u 42 ?_ ?_ ?_, u 43 ?_ ?_ ?_⟩ ⟨?_, ?_, ?_, ?_, ?_, v 1 ?_ ?_ ?_ ?_, v 3 ?_ ?_ ?_ ?_, v 4 ?_ ?_ ?_ ?_, v 7 ?_ ?_ ?_ ?_, v 14 ?_ ?_ ?_ ?_, v 15 ?_ ?_ ?_ ?_, v 16 ?_ ?_ ?_ ?_, v 17 ?_ ?_ ?_ ?_, v 18 ?_ ?_ ?_ ?_, v 21 ?_ ?_ ?_ ?_, v 22 ?_ ?_ ?_ ?_⟩
      all_goals first | decide | exact congrArg (fun x => x 7) e3.1 | rw [v 0 (by decide) (by decide) (by decide) (by decide)]
