/-! PURE: diary: the op -/
theorem po_lineR {T w n p l : Nat} {N : Nat → Nat} {t : Nat → Nat} {c m : wk_St} (hE : iv_E T w N 18 c m) (hR : iv_RD 32 t n p c m) (hl : m.1 0 42 = nI l) (hl20 : l ≤ 20) :
    iv_lnR T w N t n p (l + 1) c m (iv_CL (nI (l + 1)) c) (f_X12_readsLine m) := by
  obtain ⟨_, _, _, ⟨K, D, X, z1, z2, z3, z4, z5, z6, z7, z8, z9⟩⟩ := id hE
  have h10 := hR.2.2.2.2.1
  have hc3 := hR.2.2.2.1
  have hn240 := hR.1
  have hpn := hR.2.1
  have hs := po_sign hR
  obtain ⟨v, hv⟩ : ∃ v, v = iv_sgn t n p - 97 := ⟨_, rfl⟩
  -- a fault at p
  have fault : ∀ f : Nat, f < 10 → f ≠ 0 → iv_lnR T w N t n p (l + 1) c m (Option.bind (j_X1_readKnight_27 v (nI f) c) fun v1 => if v1.1 = (-1 : Int32) then some (false, v1.2) else f_X1_readDeed v1.1 v1.2) (wk_let (f_X12_wrongAt (nI f) (m.1 0 10) m) fun v6 => some (v6.1, v6.2)) := by
    intro f hf hf0
    unfold j_X1_readKnight_27
    rw [if_neg (show ¬ nI f = 0 from po_nIne (b := 0) (by omega) (by decide) hf0), hc3, h10]
    refine ⟨false, _, _, rfl, rfl, ⟨rfl, fun a _ h => funext (fun b => po_si_c h)⟩, ⟨rfl, fun a h _ => funext (fun b => po_si_c h), fun b _ _ h12 _ _ => po_si_ne h12⟩, Or.inr ⟨rfl, f, p, hf, hf0, by omega, po_si_at, po_si_at⟩⟩
  unfold iv_CL f_X1_readKnight f_X12_readsLine wk_let
  rw [hs.1, hs.2]
  dsimp only [Option.bind]
  rw [← hv, po_W]
  cases hin : f_X12_in v 0 8 with
  | false =>
    rw [if_neg (by decide), if_neg (by decide)]
    exact fault 1 (by decide) (by decide)
  | true =>
    rw [if_pos rfl, if_pos rfl, hl]
    by_cases h20 : l = 20
    · rw [if_neg (show ¬ nI (l + 1) ≤ 20 from fun h => by have := (nI_leI (a := l + 1) (b := 20) (by omega) (by decide)).mp h; omega), if_neg (show ¬ ¬ nI l = 20 by rw [h20]; decide)]
      exact fault 4 (by decide) (by decide)
    · rw [if_pos (show nI (l + 1) ≤ 20 from nI_le (b := 20) (by omega) (by decide)), if_pos (show ¬ nI l = 20 from po_nIne (b := 20) (by omega) (by decide) h20)]
      have hliv : (f_X0_isLiving 18 v c = some false ∧ f_X12_isLiving v m = some false) ∨ (f_X0_isLiving 18 v c = some true ∧ f_X12_isLiving v m = some true ∧ ∃ k, k < 9 ∧ v = nI k ∧ iv_tk 18 k c ∧ ¬ c.1 21 k = 2) := by
        rcases po_kn (x := v) z1 z4 z9 with ⟨c1, m1⟩ | ⟨c1, m1, k, hk, hvk, hb⟩
        · left
          unfold f_X0_isLiving f_X12_isLiving
          rw [c1, m1]
          exact ⟨rfl, rfl⟩
        · have l1 := po_livC z1 z4 hk
          have l2 := po_livM (k0 := 18) z1 z4 hk z9
          rw [hvk, l1, l2]
          cases hl : iv_li K (c.1 (18 + 3)) k with
          | false => exact Or.inl ⟨rfl, rfl⟩
          | true =>
            unfold iv_li at hl
            rw [Bool.and_eq_true] at hl
            obtain ⟨k', q1, q2, q3⟩ := po_knT (k0 := 18) (c := c) (x := nI k) z4 z1 ⟨k, hk, rfl, hb⟩
            have ek : k' = k := ((nI_eq (by omega) (by omega)).mp q2).symm
            subst ek
            refine Or.inr ⟨rfl, rfl, k', hk, rfl, q3, fun h2 => ?_⟩
            have h2' : c.1 (18 + 3) k' = 2 := h2
            have := hl.2
            rw [decide_eq_true h2'] at this
            cases this
      rcases hliv with ⟨u1, u2⟩ | ⟨u1, u2, k, hk, hvk, hb, hn2⟩
      · rw [u1, u2]
        dsimp only
        rw [if_neg Bool.false_ne_true, if_neg Bool.false_ne_true]
        exact fault 7 (by decide) (by decide)
      · rw [u1, u2]
        dsimp only
        rw [if_pos rfl, if_pos rfl]
        have hsg : iv_sgn t n p = nI (97 + k) := by
          have := po_subK (x := iv_sgn t n p) (a := 97) (k := k) rfl (hv.symm.trans hvk)
          exact this
        obtain ⟨hp, htp⟩ := po_sgnp hR (by omega) hsg
        -- behind the knight
        obtain ⟨C1, hC1⟩ : ∃ C1, C1 = wk_si c 32 3 (nI (p + 1)) := ⟨_, rfl⟩
        obtain ⟨M1, hM1⟩ : ∃ M1, M1 = wk_si (wk_si m 0 10 (nI (p + 1))) 0 42 (nI (l + 1)) := ⟨_, rfl⟩
        have oC : ∀ a, a ≠ 32 → C1.1 a = c.1 a := fun a h => funext (fun b => by rw [hC1]; exact po_si_c h)
        have oM : ∀ a, a ≠ 0 → M1.1 a = m.1 a := fun a h => funext (fun b => by rw [hM1, po_si_c h, po_si_c h])
        have oM0 : ∀ b, b ≠ 10 → b ≠ 42 → M1.1 0 b = m.1 0 b := fun b h1 h2 => by rw [hM1, po_si_ne h2, po_si_ne h1]
        have hE1 : iv_E T w N 18 C1 M1 := iv_E_y hE (by rw [hC1]; rfl) oC oM (oM0 4 (by decide) (by decide)) (oM0 5 (by decide) (by decide)) (oM0 18 (by decide) (by decide))
        have hR1 : iv_RD 32 t n (p + 1) C1 M1 := po_adv hR hp (by rw [hC1]; exact po_si_ne (by decide)) (by rw [hC1]; exact po_si_at) (oC 33 (by decide)) (by rw [hM1, po_si_ne (by decide)]; exact po_si_at) (oM0 11 (by decide) (by decide)) (oM 7 (by decide))
        have hyC : iv_yC c C1 := ⟨by rw [hC1]; rfl, fun a _ h => oC a h⟩
        have hyM : iv_yM m M1 := ⟨by rw [hM1]; rfl, fun a h _ => oM a h, fun b h10 _ _ _ h42 => oM0 b h10 h42⟩
        have hb1 : iv_tk 18 k C1 := iv_tk_4 hb (by rw [oC 18 (by decide)])
        have hl1 : M1.1 0 42 = nI (l + 1) := by rw [hM1]; exact po_si_at
        have eKn : j_X1_readKnight_27 v 0 c = some (v, C1) := by
          unfold j_X1_readKnight_27
          rw [if_pos rfl, hc3, nI_1, hC1]
        have adM : wk_si (wk_si m 0 10 (m.1 0 10 + 1)) 0 42 ((wk_si m 0 10 (m.1 0 10 + 1)).1 0 42 + 1) = M1 := by
          rw [po_si_ne (by decide), hl, h10, nI_1, nI_1, hM1]
        have hs1 := po_sign hR1
        rw [eKn, adM]
        dsimp only
        rw [hs1.2, hvk, if_neg (po_m1 (by omega))]
        dsimp only
        unfold f_X1_readDeed
        rw [hs1.1]
        dsimp only [Option.bind]
        rw [po_kindOf hk]
        dsimp only
        obtain ⟨d, hd⟩ : ∃ d, d = iv_sgn t n (p + 1) := ⟨_, rfl⟩
        rw [← hd]
        obtain ⟨t1, t2, t3, t4, t5, t6, t7, t8⟩ := iv_k_t (iv_E_r hE1 hk hb1)
        -- what he is
        obtain ⟨wolf, hw⟩ : ∃ wolf : Bool, if wolf = true then C1.1 21 k = 1 else C1.1 21 k = 0 := by
          rcases t8 with ⟨u, _⟩ | ⟨u | u, _⟩
          · exact ⟨false, u⟩
          · exact ⟨true, u⟩
          · have : C1.1 21 k = c.1 21 k := by rw [oC 21 (by decide)]
            exact absurd (this.symm.trans u) hn2
        have eW : (if ¬ C1.1 (18 + 3) k = 1 then j_X1_readDeed_11 (nI k) d 0 C1 else j_X1_readDeed_11 (nI k) d 1 C1) = j_X1_readDeed_11 (nI k) d (b2i wolf) C1 := by
          cases wolf with
          | true =>
            have hw' : C1.1 (18 + 3) k = 1 := hw
            rw [if_neg (not_not_intro hw')]; rfl
          | false =>
            have hw' : C1.1 (18 + 3) k = 0 := hw
            rw [if_pos (show ¬ C1.1 (18 + 3) k = 1 by rw [hw']; decide)]; rfl
        have e69 : j_X12_readsLine_69 (nI k) d M1 = j_X12_readsLine_80 (nI k) d (b2i wolf) M1 := by
          unfold j_X12_readsLine_69
          rw [po_e27, if_pos (po_wkin (by omega) (by decide)), nI_clamp (by omega), t4]
          cases wolf with
          | true =>
            have hw' : C1.1 (18 + 3) k = 1 := hw
            rw [if_neg (not_not_intro hw')]; rfl
          | false =>
            have hw' : C1.1 (18 + 3) k = 0 := hw
            rw [if_pos (show ¬ C1.1 (18 + 3) k = 1 by rw [hw']; decide)]; rfl
        rw [eW, e69]
        have good : (d = 62 ∨ d = 64 ∨ d = 43 ∨ d = 45) → iv_lnR T w N t n p (l + 1) c m (j_X1_readDeed_30 (nI k) d (b2i wolf) C1) (j_X12_readsLine_80 (nI k) d (b2i wolf) M1) := by
          intro hd4
          have hp1 : p + 1 < n := by
            by_cases h : p + 1 < n
            · exact h
            · exfalso
              unfold iv_sgn at hd
              rw [if_neg h] at hd
              rw [hd] at hd4
              revert hd4
              decide
          obtain ⟨b, c2, m2, e1, e2, e3, e4, e5⟩ := po_deed (wolf := wolf) hE1 hR1 hk hb1 hl1 (by omega) hp1 hw d hd4
          refine ⟨b, c2, m2, e1, e2, iv_yC_t hyC e3, iv_yM_t hyM e4, ?_⟩
          rcases e5 with ⟨h1, h20', h2, p2, h3, h4⟩ | h
          · exact Or.inl ⟨h1, h20', h2, p2, by omega, h4⟩
          · exact Or.inr h
        unfold j_X1_readDeed_11
        by_cases d1 : d = 62
        · rw [if_pos d1, if_pos d1]
          exact good (Or.inl d1)
        · rw [if_neg d1, if_neg d1]
          by_cases d2 : d = 64
          · rw [if_pos d2, if_pos d2]
            exact good (Or.inr (Or.inl d2))
          · rw [if_neg d2, if_neg d2]
            by_cases d3 : d = 43
            · rw [if_pos d3, if_pos d3]
              exact good (Or.inr (Or.inr (Or.inl d3)))
            · rw [if_neg d3, if_neg d3]
              by_cases d4 : d = 45
              · rw [if_pos d4, if_pos d4]
                exact good (Or.inr (Or.inr (Or.inr d4)))
              · rw [if_neg d4, if_neg d4]
                have c3' := hR1.2.2.2.1
                have m10' := hR1.2.2.2.2.1
                rw [c3', m10']
                refine ⟨false, _, _, rfl, rfl, iv_yC_t hyC ⟨rfl, fun a _ h => funext (fun b => po_si_c h)⟩, iv_yM_t hyM ⟨rfl, fun a h _ => funext (fun b => po_si_c h), fun b _ _ h12 _ _ => po_si_ne h12⟩, Or.inr ⟨rfl, 1, p + 1, by decide, by decide, by omega, po_si_at, po_si_at⟩⟩
