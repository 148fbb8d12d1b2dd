/-! PURE: law: a factor that is no bracket -/
theorem po_fleaf {t : Nat → Nat} {n p e h d Ff : Nat} {c m : wk_St} (hY : iv_Y t n p e h d c m) (he : e ≤ p) (hFf : 0 < Ff) (hs91 : ¬ iv_sgn t n p = 91) (A B : Int32 → wk_St → Option (Bool × wk_St)) (x : Int32) :
    ∃ b c2 m2, b_X5_readFactor A B x c = some (b, c2) ∧ iv_rF Ff m = some (b, m2) ∧ iv_wC c c2 ∧ iv_wM m m2 ∧ (∀ H, iv_old e H c m c2 m2) ∧
      ((b = false ∧ iv_flL c2 m2) ∨ (b = true ∧ ∃ p2, p < p2 ∧ iv_Y t n p2 (e + 1) h d c2 m2 ∧ iv_sgm c2 m2 1 e (e + 1) [] [false])) := by
  have hR := hY.1
  have hn := hR.1
  have hpn := hR.2.1
  have hs := po_sign hR
  have hdg := po_dg hR
  have eR : iv_rF Ff m = if iv_dg t n p = false then (if ¬ f_X4_letterOf (iv_sgn t n p) = -1 then Option.bind (f_X12_notes 1 (f_X4_letterOf (iv_sgn t n p)) m) fun v8 => some (true, wk_si v8 0 10 (v8.1 0 10 + 1)) else some ((f_X12_wrongAt 1 (nI p) m).1, (f_X12_wrongAt 1 (nI p) m).2)) else Option.bind (f_X12_readsNumber m) fun v10 => if v10.1 = true then Option.bind (f_X12_notes 0 (v10.2.1 0 13) v10.2) fun v11 => some (true, v11) else some (false, v10.2) := by
    obtain ⟨f, rfl⟩ : ∃ f, Ff = f + 1 := ⟨Ff - 1, by omega⟩
    have e2 : wk_loop S_X12_readsFactor_0 (f + 1) m = some (Sum.inr m) := by
      refine wk_loopI ?_
      unfold S_X12_readsFactor_0
      rw [hs.2]
      dsimp only [Option.bind]
      rw [if_pos hs91]
    unfold iv_rF wk_let
    rw [e2]
    dsimp only [Option.bind]
    rw [hdg.2, hs.2, hR.2.2.2.2.1]
    rfl
  have eC : b_X5_readFactor A B x c = if iv_dg t n p = false then (if ¬ f_X4_letterOf (iv_sgn t n p) = -1 then Option.bind (f_X4_put 97 (f_X4_letterOf (iv_sgn t n p)) c) fun v5 => some (true, wk_si v5.2 34 3 (v5.2.1 34 3 + 1)) else some ((f_X6_blame 34 1 (nI p) c).1, (f_X6_blame 34 1 (nI p) c).2)) else Option.bind (f_X6_readNumber 34 5 c) fun v7 => Option.bind (f_X4_put 48 v7.1 v7.2) fun v8 => if v7.1 = -1 then some (false, v8.2) else some (true, v8.2) := by
    unfold b_X5_readFactor wk_let
    rw [hs.1]
    dsimp only [Option.bind]
    rw [if_pos hs91, hdg.1, hR.2.2.2.1]
  cases hd : iv_dg t n p with
  | false =>
    rw [hd, if_pos rfl] at eR eC
    by_cases hl : ¬ f_X4_letterOf (iv_sgn t n p) = -1
    · rw [if_pos hl] at eR eC
      obtain ⟨v, hv, hve⟩ := po_let8 hl
      have hp : p < n := by
        by_cases hp : p < n
        · exact hp
        · exfalso
          apply hl
          rw [show iv_sgn t n p = -1 from if_neg hp]
          decide
      obtain ⟨c2, m2, q1, q2, q3, q4, q5, q6, q7, q8, q9, q10, q11⟩ := po_emit 1 v hY (by omega) 97 (f_X4_letterOf (iv_sgn t n p)) rfl hve
      have q2' : f_X12_notes 1 (f_X4_letterOf (iv_sgn t n p)) m = some m2 := by rw [hve]; exact q2
      rw [q1] at eC
      rw [q2'] at eR
      dsimp only [Option.bind] at eC eR
      have e3 : c2.1 34 3 + 1 = nI (p + 1) := by rw [q3.1.2.2.2.1, nI_1]
      have e10 : m2.1 0 10 + 1 = nI (p + 1) := by rw [q3.1.2.2.2.2.1, nI_1]
      rw [e3] at eC
      rw [e10] at eR
      obtain ⟨C, hC⟩ : ∃ C, C = wk_si c2 34 3 (nI (p + 1)) := ⟨_, rfl⟩
      obtain ⟨M, hM⟩ : ∃ M, M = wk_si m2 0 10 (nI (p + 1)) := ⟨_, rfl⟩
      rw [← hC] at eC
      rw [← hM] at eR
      have oC : ∀ a, a ≠ 34 → C.1 a = c2.1 a := fun a h => by rw [hC]; exact funext (fun b => po_si_c h)
      have oM : ∀ a, a ≠ 0 → M.1 a = m2.1 a := fun a h => by rw [hM]; exact funext (fun b => po_si_c h)
      have oM0 : ∀ b, b ≠ 10 → M.1 0 b = m2.1 0 b := fun b h => by rw [hM]; exact po_si_ne h
      refine ⟨true, C, M, eC, eR, iv_wC_t q4 ⟨by rw [hC]; rfl, fun a h _ _ _ => oC a h, by rw [oC 45 (by decide)]⟩, iv_wM_t q5 ⟨by rw [hM]; rfl, fun a h _ _ => oM a h, fun b h _ _ _ _ _ => oM0 b h⟩, fun H => ⟨fun j hj => ?_, fun j hj => by rw [oM 9 (by decide)]; exact (q6 H).2 j hj⟩, Or.inr ⟨rfl, p + 1, by omega, ?_, ?_⟩⟩
      · rw [oC 50 (by decide), oC 51 (by decide), oM 8 (by decide)]; exact (q6 H).1 j hj
      · refine iv_Y_p q3 (by omega) (by omega) oC ?_ ?_ oM ?_ (fun b h _ _ => oM0 b h)
        · rw [hC]; exact po_si_ne (by decide)
        · rw [hC]; exact po_si_at
        · rw [hM]; exact po_si_at
      · exact iv_sgm_1 1 v (by decide) (by omega) (by rw [oC 50 (by decide)]; exact q7) (by rw [oC 51 (by decide)]; exact q8) (by rw [oM 8 (by decide)]; exact q9) (by decide) (by decide) (by decide) (Or.inr (Or.inl ⟨rfl, hv, rfl⟩))
    · rw [if_neg hl] at eR eC
      obtain ⟨c3, m3, q1, q2, q3, q4, q5, q6⟩ := po_blameL (c := c) (m := m) 1 p (by decide) (by decide) (by omega)
      have q1' : f_X6_blame 34 1 (nI p) c = _ := q1
      have q2' : f_X12_wrongAt 1 (nI p) m = _ := q2
      rw [q1'] at eC
      rw [q2'] at eR
      exact ⟨false, c3, m3, eC, eR, q4, q5, fun H => q6 e H, Or.inl ⟨rfl, q3⟩⟩
  | true =>
    rw [hd, if_neg (fun h => Bool.false_ne_true h.symm)] at eR eC
    obtain ⟨q, hq2, hqd, hqn⟩ := po_digits t n p 5
    have hq0 : ¬ q = 0 := fun h => by
      have := hqn (by omega)
      rw [h] at this
      exact Bool.false_ne_true (this.symm.trans hd)
    have hpq : p + q ≤ n := by
      have := (iv_dg_p (hqd (q - 1) (by omega))).1
      omega
    have eC' : f_X6_readNumber 34 5 c = _ := po_numC (D := 5) hR (by decide) hq2 hqd hqn
    have eM := po_numM (D := 5) (f := S_X12_readsNumber_6 (nI p)) hR (by decide) (by decide) (fun s => by
      unfold S_X12_readsNumber_6
      have : nI p + 5 = nI (p + 5) := nI_add p 5
      rw [this]) hq2 hqd hqn
    have eN : f_X12_readsNumber m = Option.bind (wk_loop (S_X12_readsNumber_6 (nI p)) wk_F (wk_si m 0 13 0)) fun v4 => match v4 with | Sum.inl v4r => some v4r | Sum.inr v4 => some (true, v4) := by
      unfold f_X12_readsNumber
      rw [hR.2.2.2.2.1]
      rfl
    rw [eM] at eN
    cases hdq : iv_dg t n (p + q) with
    | true =>
      rw [hdq, if_pos rfl] at eC' eN
      dsimp only [Option.bind] at eN
      rw [eC'] at eC
      rw [eN] at eR
      dsimp only [Option.bind] at eC eR
      rw [if_neg Bool.false_ne_true] at eR
      obtain ⟨C, hC⟩ : ∃ C, C = wk_si (wk_si c 34 3 (nI (p + q))) 34 2 (f_X11_faultOf 2 (nI (p + q))) := ⟨_, rfl⟩
      have oC : ∀ a, a ≠ 34 → C.1 a = c.1 a := fun a h => by rw [hC]; exact funext (fun b => (po_si_c h).trans (po_si_c h))
      have h45 : C.1 45 8 = nI e := by rw [oC 45 (by decide)]; exact hY.2.2.1
      rw [← hC, po_put 48 (-1) h45 (by omega)] at eC
      dsimp only at eC
      rw [if_pos rfl] at eC
      refine ⟨false, _, _, eC, eR, ⟨by rw [hC]; rfl, fun a a1 a2 a3 a4 => funext (fun b => by rw [po_si_c a2, po_si_c a4, po_si_c a3, oC a a1]), by rw [po_si_ne (by decide), po_si_c (by decide), po_si_c (by decide), oC 45 (by decide)]⟩, ⟨rfl, fun a h _ _ => funext (fun b => iv_set_off h), fun b h10 h12 h13 _ _ _ => ?_⟩, fun H => ⟨fun j hj => ⟨?_, ?_, iv_set_off (by decide)⟩, fun j _ => iv_set_off (by decide)⟩, Or.inl ⟨rfl, 2, p + q, by decide, by decide, by omega, ?_, ?_⟩⟩
      · rw [iv_set_at, if_neg h12, if_neg h10, if_neg h13]
      · rw [po_si_c (by decide), po_si_c (by decide), po_si_ne (by omega), oC 50 (by decide)]
      · rw [po_si_c (by decide), po_si_ne (by omega), po_si_c (by decide), oC 51 (by decide)]
      · rw [po_si_c (by decide), po_si_c (by decide), po_si_c (by decide), hC]; exact po_si_at
      · rw [iv_set_at, if_pos rfl]; rfl
    | false =>
      rw [hdq, if_neg Bool.false_ne_true] at eC' eN
      rw [if_neg hq0] at eC'
      dsimp only [Option.bind] at eN
      rw [eC'] at eC
      rw [eN] at eR
      dsimp only [Option.bind] at eC eR
      rw [if_pos rfl] at eR
      have hnv := iv_nv_lt (t := t) (p := p) q (fun j hj => (iv_dg_p (hqd j (by omega))).2.2)
      have hp10 : 10 ^ q ≤ 10 ^ 5 := Nat.pow_le_pow_right (by decide) hq2
      obtain ⟨M1, hM1⟩ : ∃ M1, M1 = iv_set m 0 (fun z => if z = 10 then nI (p + q) else if z = 13 then nI (iv_nv t p q) else m.1 0 z) := ⟨_, rfl⟩
      obtain ⟨C1, hC1⟩ : ∃ C1, C1 = wk_si c 34 3 (nI (p + q)) := ⟨_, rfl⟩
      rw [← hC1] at eC
      have m13 : M1.1 0 13 = nI (iv_nv t p q) := by rw [hM1]; rfl
      rw [← hM1, m13] at eR
      have oM : ∀ a, a ≠ 0 → M1.1 a = m.1 a := fun a h => funext (fun b => by rw [hM1]; exact iv_set_off h)
      have oM0 : ∀ b, b ≠ 10 → b ≠ 13 → M1.1 0 b = m.1 0 b := fun b h1 h2 => by rw [hM1, iv_set_at, if_neg h1, if_neg h2]
      have oC : ∀ a, a ≠ 34 → C1.1 a = c.1 a := fun a h => funext (fun b => by rw [hC1]; exact po_si_c h)
      have hY1 : iv_Y t n (p + q) e h d C1 M1 := by
        refine iv_Y_p hY (by omega) hpq oC ?_ ?_ oM ?_ (fun b h _ h2 => oM0 b h h2)
        · rw [hC1]; exact po_si_ne (by decide)
        · rw [hC1]; exact po_si_at
        · rw [hM1]; rfl
      obtain ⟨c2, m2, q1, q2, q3, q4, q5, q6, q7, q8, q9, q10, q11⟩ := po_emit 0 (iv_nv t p q) hY1 (by omega) 48 (nI (iv_nv t p q)) rfl rfl
      have q2' : f_X12_notes 0 (nI (iv_nv t p q)) M1 = some m2 := q2
      rw [q1] at eC
      rw [q2'] at eR
      dsimp only at eC eR
      rw [if_neg (po_m1 (by omega))] at eC
      refine ⟨true, c2, m2, eC, eR, iv_wC_t ⟨by rw [hC1]; rfl, fun a h _ _ _ => oC a h, by rw [oC 45 (by decide)]⟩ q4, iv_wM_t ⟨by rw [hM1]; rfl, fun a h _ _ => oM a h, fun b h _ h13 _ _ _ => oM0 b h h13⟩ q5, fun H => iv_old_t (e2 := e) (h2 := H) ⟨fun j _ => ⟨by rw [oC 50 (by decide)], by rw [oC 51 (by decide)], by rw [oM 8 (by decide)]⟩, fun j _ => by rw [oM 9 (by decide)]⟩ (q6 H) (Nat.le_refl e) (Nat.le_refl H), Or.inr ⟨rfl, p + q, by omega, q3, ?_⟩⟩
      exact iv_sgm_1 0 (iv_nv t p q) (by decide) (by omega) q7 q8 q9 (by decide) (by decide) (by decide) (Or.inl ⟨rfl, rfl⟩)
