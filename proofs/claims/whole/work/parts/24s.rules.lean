/-! PURE: law: all its rules -/
theorem po_signT (k0 : Nat) (s : wk_St) : ∃ v, f_X6_sign k0 s = some v := by
  unfold f_X6_sign
  by_cases h0 : s.1 k0 3 < 0
  · exact ⟨_, if_pos h0⟩
  · rw [if_neg h0]
    by_cases h1 : s.1 k0 3 ≥ s.1 k0 1
    · exact ⟨_, if_pos h1⟩
    · rw [if_neg h1]
      by_cases h2 : s.1 k0 3 ≥ 240
      · exact ⟨_, if_pos h2⟩
      · rw [if_neg h2]
        obtain ⟨e, he, hee⟩ := nI_of2 (M := 239) (n := 239) (x := s.1 k0 3) rfl h0 (by
          have h3 : ¬ (240 : Int32) ≤ s.1 k0 3 := h2
          rw [Int32.le_iff_toInt_le] at h3 ⊢
          have a1 : (240 : Int32).toInt = 240 := rfl
          have a2 : (239 : Int32).toInt = 239 := rfl
          omega)
        rw [hee, if_pos (po_wkin (by omega) (by decide))]
        exact ⟨_, rfl⟩
/-- a rule is closed, whatever stands -/
theorem po_closeT (c : wk_St) : ∃ c2, f_X4_closeRule c = some c2 ∧ iv_uC c c2 ∧ c2.1 34 = c.1 34 := by
  unfold f_X4_closeRule
  by_cases h0 : c.1 45 7 < 0
  · exact ⟨c, if_pos h0, iv_uC_r, rfl⟩
  · rw [if_neg h0]
    by_cases h1 : c.1 45 7 ≥ 16
    · exact ⟨c, if_pos h1, iv_uC_r, rfl⟩
    · rw [if_neg h1]
      obtain ⟨e, he, hee⟩ := nI_of2 (M := 15) (n := 15) (x := c.1 45 7) rfl h0 (by
        have h3 : ¬ (16 : Int32) ≤ c.1 45 7 := h1
        rw [Int32.le_iff_toInt_le] at h3 ⊢
        have a1 : (16 : Int32).toInt = 16 := rfl
        have a2 : (15 : Int32).toInt = 15 := rfl
        omega)
      rw [if_pos (show wk_in (c.1 45 7) 16 = true by rw [hee]; exact po_wkin (by omega) (by decide))]
      exact ⟨_, rfl, iv_uC_t (iv_uC_si (Or.inr (by decide))) (iv_uC_si (Or.inr (by decide))), funext (fun b => by rw [po_si_c (by decide), po_si_c (by decide)])⟩
theorem iv_LZ_p {R e : Nat} {c m c2 m2 : wk_St} (h : iv_LZ R e c m) (hc : ∀ a, a ≠ 34 → c2.1 a = c.1 a) (hm : ∀ a, a ≠ 0 → m2.1 a = m.1 a) (h17 : m2.1 0 17 = m.1 0 17) : iv_LZ R e c2 m2 := by
  obtain ⟨z1, z2, z3, z4⟩ := h
  refine ⟨z1, by rw [hc 45 (by decide)]; exact z2, h17.trans z3, fun r hr => ?_⟩
  have k : ∀ f g j, f ≤ j → j < g → c2.1 50 j = c.1 50 j ∧ c2.1 51 j = c.1 51 j ∧ m2.1 8 j = m.1 8 j := fun f g j _ _ => ⟨by rw [hc 50 (by decide)], by rw [hc 51 (by decide)], by rw [hm 8 (by decide)]⟩
  obtain ⟨w1, f, h, g, w2, w3, w4, w5, w6, w7, w8, w9, w10, w11, w12⟩ := z4 r hr
  rw [hc 46 (by decide), hc 47 (by decide), hc 48 (by decide), hc 49 (by decide), hm 10 (by decide), hm 11 (by decide), hm 12 (by decide), hm 13 (by decide)]
  exact ⟨w1, f, h, g, w2, w3, w4, w5, w6, w7, w8, w9, w10, fun hz => iv_sgm_old (w11 hz) (k f h), iv_sgm_old w12 (k h g)⟩
theorem po_endL {F : Nat} {y i : Int32} {c : wk_St} : wk_loop S_X5_readLaw_8 (F + 1) (y, 0, i, c) = some (0, c) := by
  refine wk_loopI ?_
  unfold S_X5_readLaw_8
  dsimp only
  by_cases h : i ≥ 240
  · rw [if_pos h]
  · rw [if_neg h, if_pos rfl]
theorem po_endL1 {F : Nat} {i : Int32} {c : wk_St} : wk_loop S_X5_readLaw_8 (F + 1) (0, 1, i, c) = some (1, c) := by
  refine wk_loopI ?_
  unfold S_X5_readLaw_8
  dsimp only
  by_cases h : i ≥ 240
  · rw [if_pos h]
  · rw [if_neg h, if_neg (by decide), if_pos rfl]
theorem po_rules {t : Nat → Nat} {n : Nat} : ∀ N p e R c m Fc F, n - p ≤ N → N + 2 < Fc → N + 2 < F → iv_RD 34 t n p c m → e ≤ p → c.1 45 8 = nI e → m.1 0 15 = nI e → iv_LZ R e c m →
    ∃ b c2 m2, wk_loop S_X5_readLaw_8 Fc (1, 1, nI R, c) = some (b2i b, c2) ∧ (Option.bind (f_X12_readsRule m) fun v => wk_loop S_X12_law_17 F (b2i v.1, v.2)) = some (b2i b, m2) ∧ iv_uC c c2 ∧ iv_uM m m2 ∧
      ((b = false ∧ iv_flL c2 m2) ∨ (b = true ∧ ∃ R2 e2, e2 ≤ 240 ∧ m2.1 0 15 = nI e2 ∧ iv_LZ R2 e2 c2 m2)) := by
  intro N
  induction N using Nat.strongRecOn with
  | _ N ih =>
    intro p e R c m Fc F hN hFc hF hRD he h8 h15 hZ
    obtain ⟨Fc, rfl⟩ : ∃ z, Fc = z + 2 := ⟨Fc - 2, by omega⟩
    obtain ⟨F, rfl⟩ : ∃ z, F = z + 2 := ⟨F - 2, by omega⟩
    have hn := hRD.1
    have hR16 := hZ.1
    obtain ⟨b, c2, m2, f1, f2, f3, f4, f5⟩ := po_rule hRD he h8 h15 hZ
    have sC := po_rCS (nI R) c (show ¬ nI R ≥ 240 from nI_ge (b := 240) (by omega) (by decide))
    rw [f1] at sC
    rw [f2]
    dsimp only [Option.bind] at sC ⊢
    rcases f5 with ⟨rfl, f6⟩ | ⟨rfl, hR, p2, e2, c3, g1, g2, g3, g4, g5, g6, g7, g8⟩
    · rw [if_pos rfl] at sC
      obtain ⟨c3, k1, k2, k3⟩ := po_closeT c2
      obtain ⟨v, k4⟩ := po_signT 34 c3
      have e46 : ∃ y, j_X5_readLaw_46_l8 (nI R) c2 = some (Sum.inr (y, 0, nI R + 1, c3)) := by
        unfold j_X5_readLaw_46_l8
        rw [k1]
        dsimp only [Option.bind]
        rw [k4]
        dsimp only
        unfold j_X5_readLaw_57_l8
        by_cases hv : v = -1
        · exact ⟨0, by rw [if_pos hv, if_pos rfl]⟩
        · exact ⟨1, by rw [if_neg hv, if_pos rfl]⟩
      obtain ⟨y, e46⟩ := e46
      rw [e46] at sC
      refine ⟨false, c3, m2, (wk_loopS sC).trans po_endL, ?_, iv_uC_t f3 k2, f4, Or.inl ⟨rfl, iv_flL_34 f6 k3⟩⟩
      refine wk_loopI ?_
      unfold S_X12_law_17
      dsimp only
      rw [if_pos (show b2i false = 0 from rfl)]
    · rw [if_neg (fun k => Bool.false_ne_true k.symm), g3] at sC
      dsimp only at sC
      rw [(po_sign g5).1] at sC
      dsimp only at sC
      have hp2n := g5.2.1
      have sM0 : S_X12_law_17 (b2i true, m2) = if nI p2 ≥ nI n then some (Sum.inl (1, m2)) else Option.bind (f_X12_takes 59 m2) fun v4 => if v4.1 = false then some (Sum.inr (0, v4.2)) else Option.bind (f_X12_readsRule v4.2) fun v5 => if v5.1 = false then some (Sum.inr (0, v5.2)) else some (Sum.inr (1, v5.2)) := by
        unfold S_X12_law_17
        dsimp only
        rw [if_neg (show ¬ b2i true = 0 by decide), g5.2.2.2.2.1, g5.2.2.2.2.2.1]
        rfl
      by_cases hend : p2 < n
      · have hv : ¬ iv_sgn t n p2 = -1 := by
          rw [show iv_sgn t n p2 = nI (t p2) from if_pos hend]
          exact po_m1 (by have := (g5.2.2.2.2.2.2 p2 hend).1; omega)
        rw [if_neg (nI_ge hend (by omega))] at sM0
        rw [if_neg hv] at sC
        unfold j_X5_readLaw_57_l8 at sC
        rw [if_neg (by decide), if_neg (by decide)] at sC
        rcases po_passD (z := 59) g5 (by decide) (by decide) with ⟨_, c4, m3, q1, q2, q3, q4, hR3⟩ | ⟨_, q1, q2⟩
        · have q1' : f_X6_pass 34 59 c3 = some (true, c4) := q1
          have q2' : f_X12_takes 59 m2 = some (true, m3) := q2
          rw [q1'] at sC
          rw [q2'] at sM0
          dsimp only [Option.bind] at sC sM0
          rw [if_neg (fun k => Bool.false_ne_true k.symm), nI_1] at sC
          rw [if_neg (fun k => Bool.false_ne_true k.symm)] at sM0
          have hZ4 : iv_LZ (R + 1) e2 c4 m3 := iv_LZ_p g8 (fun a h => by rw [q3]; exact funext (fun b => po_si_c h)) (fun a h => by rw [q4]; exact funext (fun b => po_si_c h)) (by rw [q4]; exact po_si_ne (by decide))
          obtain ⟨b, c5, m5, u1, u2, u3, u4, u5⟩ := ih (n - (p2 + 1)) (by omega) (p2 + 1) e2 (R + 1) c4 m3 (Fc + 1) (F + 1) (Nat.le_refl _) (by omega) (by omega) hR3 (by omega) (by rw [q3, po_si_c (by decide)]; exact g6) (by rw [q4, po_si_ne (by decide)]; exact g7) hZ4
          refine ⟨b, c5, m5, (wk_loopS sC).trans u1, ?_, iv_uC_t f3 (iv_uC_t g4 (iv_uC_t (by rw [q3]; exact iv_uC_si (Or.inl rfl)) u3)), iv_uM_t f4 (iv_uM_t (by rw [q4]; exact iv_uM_s0 (by decide)) u4), u5⟩
          cases hv6 : f_X12_readsRule m3 with
          | none => rw [hv6] at u2; cases u2
          | some v6 =>
            rw [hv6] at u2 sM0
            dsimp only [Option.bind] at u2 sM0
            have sM2 : S_X12_law_17 (b2i true, m2) = some (Sum.inr (b2i v6.1, v6.2)) := by
              rw [sM0]
              cases v6.1 with
              | false => rw [if_pos rfl]; rfl
              | true => rw [if_neg (by decide)]; rfl
            exact (wk_loopS sM2).trans u2
        · have q1' : f_X6_pass 34 59 c3 = _ := q1
          have q2' : f_X12_takes 59 m2 = _ := q2
          rw [q1'] at sC
          rw [q2'] at sM0
          dsimp only [Option.bind] at sC sM0
          rw [if_pos rfl] at sC
          rw [if_pos rfl] at sM0
          refine ⟨false, _, _, (wk_loopS sC).trans po_endL, (wk_loopS sM0).trans ?_, iv_uC_t f3 (iv_uC_t g4 (iv_uC_si (Or.inl rfl))), iv_uM_t f4 (iv_uM_s0 (by decide)), Or.inl ⟨rfl, 1, p2, by decide, by decide, by omega, po_si_at, po_si_at⟩⟩
          refine wk_loopI ?_
          unfold S_X12_law_17
          dsimp only
          rw [if_pos rfl]
          rfl
      · rw [if_pos (show nI p2 ≥ nI n from nI_le (by omega) (by omega))] at sM0
        rw [if_pos (show iv_sgn t n p2 = -1 from if_neg hend)] at sC
        unfold j_X5_readLaw_57_l8 at sC
        rw [if_neg (by decide), if_pos rfl] at sC
        exact ⟨true, c3, m2, (wk_loopS sC).trans po_endL1, wk_loopI sM0, iv_uC_t f3 g4, f4, Or.inr ⟨rfl, R + 1, e2, by omega, g7, g8⟩⟩
