/-! PURE: law: a factor -/
def iv_AS (b : Int32) (Ff G : Nat) (m : wk_St) : Option (Bool × wk_St) := Option.bind (iv_rF Ff m) fun v => if v.1 = true then wk_loop (S_X12_readsSum_8 b) G v.2 else some (false, v.2)
def iv_FACT (b0 : Nat) (t : Nat → Nat) (n d q : Nat) : Prop := ∀ p e h w c m Ff G, iv_Y t n p e h d c m → e + w ≤ p → b0 ≤ h → 7 ≤ Ff + d → wk_F ≤ G + p →
  ∃ b c2 m2, (g_X5_readSum q).2 (nI d) c = some (b, c2) ∧ iv_wC c c2 ∧ iv_wM m m2 ∧ iv_old e h c m c2 m2 ∧ ((b = false ∧ iv_AS (nI b0) Ff G m = some (false, m2) ∧ iv_flL c2 m2) ∨
    (b = true ∧ ∃ p2 e2 G2, p < p2 ∧ e < e2 ∧ e2 + w ≤ p2 ∧ iv_Y t n p2 e2 h d c2 m2 ∧ iv_sgm c2 m2 (13 - 2 * d) e e2 [] [false] ∧ iv_AS (nI b0) Ff G m = wk_loop (S_X12_readsSum_8 (nI b0)) G2 m2 ∧ wk_F + 1 ≤ G2 + p2))
def iv_SUM (b0 : Nat) (t : Nat → Nat) (n d q : Nat) : Prop := ∀ p e h w c m Ff G, iv_Y t n p e h d c m → e + w ≤ p → b0 ≤ h → 7 ≤ Ff + d → wk_F ≤ G + p → (∀ o, 2 ≤ o → o ≤ 6 → ¬ iv_wt m h = nI o) →
  ∃ b c2 m2, (g_X5_readSum q).1 (nI d) c = some (b, c2) ∧ iv_wC c c2 ∧ iv_wM m m2 ∧ iv_old e h c m c2 m2 ∧ ((b = false ∧ iv_AS (nI b0) Ff G m = some (false, m2) ∧ iv_flL c2 m2) ∨
    (b = true ∧ ∃ p2 e2 G2 m1 H, p < p2 ∧ e < e2 ∧ e2 + w ≤ p2 ∧ iv_Y t n p2 e2 h d c2 m2 ∧ iv_sgm c2 m2 (15 - 2 * d) e e2 [] [false] ∧ iv_AS (nI b0) Ff G m = wk_loop (S_X12_readsSum_8 (nI b0)) G2 m1 ∧ wk_F + 1 ≤ G2 + p2 ∧
      f_X12_closesSums 1 m1 = some m2 ∧ iv_RD 34 t n p2 c2 m1 ∧ h ≤ H ∧ H ≤ p2 ∧ m1.1 0 16 = nI H ∧ (∀ i, h ≤ i → i < H → ∃ o, 2 ≤ o ∧ o ≤ 6 ∧ m1.1 9 i = nI (1048576 * o)) ∧ iv_wM m m1 ∧ iv_old e h c m c2 m1 ∧ f_X12_sumSign (iv_sgn t n p2) = -1))
theorem po_factor {b0 : Nat} {t : Nat → Nat} {n d q : Nat} (hd : d ≤ 6) (hsum : d < 6 → iv_SUM b0 t n (d + 1) q) : iv_FACT b0 t n d (q + 1) := by
  intro p e h w c m Ff G hY hew hb hFf hG
  have hFF : wk_F = 4096 := rfl
  have hR := hY.1
  have hn := hR.1
  have hpn := hR.2.1
  have hs := po_sign hR
  have eC : (g_X5_readSum (q + 1)).2 (nI d) c = b_X5_readFactor (g_X5_readSum q).1 (g_X5_readSum q).2 (nI d) c := rfl
  rw [eC]
  by_cases hs91 : iv_sgn t n p = 91
  · obtain ⟨hp, _⟩ := po_sgnp (z := 91) hR (by decide) hs91
    obtain ⟨f, rfl⟩ : ∃ f, Ff = f + 1 := ⟨Ff - 1, by omega⟩
    have eC1 : b_X5_readFactor (g_X5_readSum q).1 (g_X5_readSum q).2 (nI d) c = if (f_X5_open (nI d) c).1 = false then some (false, (f_X5_open (nI d) c).2) else Option.bind ((g_X5_readSum q).1 (nI (d + 1)) (f_X5_open (nI d) c).2) fun v10 => if v10.1 = false then some (false, v10.2) else Option.bind (f_X6_pass 34 93 v10.2) fun v11 => if v11.1 = false then some (false, v11.2) else some (true, v11.2) := by
      unfold b_X5_readFactor wk_let
      rw [hs.1]
      dsimp only [Option.bind]
      rw [if_neg (fun k => k hs91), nI_1]
    have eS : S_X12_readsFactor_0 m = Option.bind (f_X12_opens 14 m) fun v2 => if v2.1 = true then some (Sum.inr v2.2) else some (Sum.inl (Sum.inl (false, v2.2))) := by
      unfold S_X12_readsFactor_0
      rw [hs.2]
      dsimp only [Option.bind]
      rw [if_neg (fun k => k hs91)]
    by_cases hd6 : d = 6
    · obtain ⟨c2, m2, q1, q2, q3, q4, q5, q6, _⟩ := po_opensN (x := 14) hY hd6
      have q2' : f_X12_opens 14 m = _ := q2
      rw [q1, if_pos rfl] at eC1
      rw [q2'] at eS
      dsimp only [Option.bind] at eS
      rw [if_neg Bool.false_ne_true] at eS
      refine ⟨false, c2, m2, eC1, q3, q4, q5 e h, Or.inl ⟨rfl, ?_, q6⟩⟩
      unfold iv_AS iv_rF
      rw [wk_loopI eS]
      dsimp only [Option.bind]
      rw [if_neg Bool.false_ne_true]
    · have hd5 : d < 6 := by omega
      obtain ⟨c1, m1, q1, q2, q3, q4, q5, q6, q7⟩ := po_opens (x := 14) hY hp hd5 (by decide)
      have q2' : f_X12_opens 14 m = _ := q2
      rw [q1, if_neg (fun k => Bool.false_ne_true k.symm)] at eC1
      dsimp only at eC1
      rw [q2'] at eS
      dsimp only [Option.bind] at eS
      rw [if_pos rfl] at eS
      have eA : iv_AS (nI b0) (f + 1) G m = iv_AS (nI b0) f G m1 := by
        unfold iv_AS iv_rF
        rw [wk_loopS eS]
      have hwt : iv_wt m1 (h + 1) = nI 14 := po_wtk (y := 0) q7 (by decide) (by decide)
      obtain ⟨b, c2, m2, g1, g2, g3, g4, g5⟩ := hsum hd5 (p + 1) e (h + 1) w c1 m1 f G q3 (by omega) (by omega) (by omega) (by omega) (fun o o1 o2 k => by
        rw [hwt] at k
        have := (nI_eq (by omega) (by omega)).mp k
        omega)
      rw [g1] at eC1
      dsimp only [Option.bind] at eC1
      have hcc := iv_wC_t q4 g2
      have hmm := iv_wM_t q5 g3
      have hoo : iv_old e h c m c2 m2 := iv_old_t q6 g4 (Nat.le_refl e) (by omega)
      rcases g5 with ⟨rfl, g6, g7⟩ | ⟨rfl, p2, e2, G2, n1, H, g6, g7, g8, g9, g10, g11, g12, g13, g14, g15, g16, g17, g18, g19, g20, g21⟩
      · rw [if_pos rfl] at eC1
        exact ⟨false, c2, m2, eC1, hcc, hmm, hoo, Or.inl ⟨rfl, eA.trans g6, g7⟩⟩
      · rw [if_neg (fun k => Bool.false_ne_true k.symm)] at eC1
        have hR2 := g9.1
        have hp2 := hR2.2.1
        have hs2 := po_sign hR2
        have hs1 := (po_sign g14).2
        have h14 : n1.1 9 h = nI (1048576 * 14) := by rw [g20.2 h (by omega)]; exact q7
        have hho : f_X12_hasOpenSum (nI b0) n1 = some true := po_hasOpen g17 (by omega) (by omega) hb h14
        obtain ⟨G3, rfl⟩ : ∃ z, G2 = z + 1 := ⟨G2 - 1, by omega⟩
        by_cases hs93 : iv_sgn t n p2 = 93
        · obtain ⟨hp2n, _⟩ := po_sgnp (z := 93) hR2 (by decide) hs93
          obtain ⟨C, hC⟩ : ∃ C, C = wk_si c2 34 3 (nI (p2 + 1)) := ⟨_, rfl⟩
          obtain ⟨M, hM⟩ : ∃ M, M = wk_si (wk_si (wk_si m2 0 16 (nI h)) 0 14 (nI d)) 0 10 (nI (p2 + 1)) := ⟨_, rfl⟩
          have e1 : f_X6_pass 34 93 c2 = some (true, C) := by
            unfold f_X6_pass wk_let
            rw [hs2.1, hs93, hR2.2.2.2.1]
            dsimp only [Option.bind]
            rw [if_pos rfl, nI_1, hC]
          rw [e1] at eC1
          dsimp only at eC1
          rw [if_neg (fun k => Bool.false_ne_true k.symm)] at eC1
          have eM : S_X12_readsSum_8 (nI b0) n1 = some (Sum.inr M) := by
            have u1 : m2.1 0 16 - 1 = nI h := by rw [g9.2.2.2.2.1, Int32.sub_eq_iff_eq_add, nI_1]
            have u2 : (wk_si m2 0 16 (nI h)).1 0 14 - 1 = nI d := by rw [po_si_ne (by decide), g9.2.2.2.2.2, Int32.sub_eq_iff_eq_add, nI_1]
            have u3 : (wk_si (wk_si m2 0 16 (nI h)) 0 14 (nI d)).1 0 10 = nI p2 := by rw [po_si_ne (by decide), po_si_ne (by decide)]; exact hR2.2.2.2.2.1
            unfold S_X12_readsSum_8 wk_let
            rw [hs1]
            dsimp only [Option.bind]
            rw [g21, if_pos rfl, hs93, if_neg (fun k => k rfl), hho]
            dsimp only
            rw [if_neg (fun k => Bool.false_ne_true k.symm), g13]
            dsimp only
            rw [u1, u2, u3, nI_1, hM]
          have oC : ∀ a, a ≠ 34 → C.1 a = c2.1 a := fun a h => by rw [hC]; exact funext (fun b => po_si_c h)
          have oM : ∀ a, a ≠ 0 → M.1 a = m2.1 a := fun a h => by rw [hM]; exact funext (fun b => by rw [po_si_c h, po_si_c h, po_si_c h])
          have oM0 : ∀ b, b ≠ 10 → b ≠ 14 → b ≠ 16 → M.1 0 b = m2.1 0 b := fun b h1 h2 h3 => by rw [hM, po_si_ne h1, po_si_ne h2, po_si_ne h3]
          obtain ⟨⟨r1, r2, r3, r4, r5, r6, r7⟩, y1, y2, y3, y4, y5⟩ := g9
          refine ⟨true, C, M, eC1, iv_wC_t hcc ⟨by rw [hC]; rfl, fun a h _ _ _ => oC a h, by rw [oC 45 (by decide)]⟩, iv_wM_t hmm ⟨by rw [hM]; rfl, fun a h _ _ => oM a h, fun b h1 _ _ h2 _ h3 => oM0 b h1 h2 h3⟩, iv_old_t hoo (e2 := e) (h2 := h) ⟨fun j _ => ⟨by rw [oC 50 (by decide)], by rw [oC 51 (by decide)], by rw [oM 8 (by decide)]⟩, fun j _ => by rw [oM 9 (by decide)]⟩ (Nat.le_refl e) (Nat.le_refl h), Or.inr ⟨rfl, p2 + 1, e2, G3, by omega, g7, by omega, ⟨⟨r1, by omega, ?_, ?_, ?_, ?_, fun i hi => ⟨(r7 i hi).1, ?_, ?_⟩⟩, by omega, ?_, ?_, ?_, ?_⟩, ?_, ?_, by omega⟩⟩
          · rw [hC]; exact (po_si_ne (by decide)).trans r3
          · rw [hC]; exact po_si_at
          · rw [hM]; exact po_si_at
          · rw [oM0 11 (by decide) (by decide) (by decide)]; exact r6
          · rw [oC (34 + 1) (by decide)]; exact (r7 i hi).2.1
          · rw [oM 7 (by decide)]; exact (r7 i hi).2.2
          · rw [oC 45 (by decide)]; exact y2
          · rw [oM0 15 (by decide) (by decide) (by decide)]; exact y3
          · rw [hM, po_si_ne (by decide), po_si_ne (by decide)]; exact po_si_at
          · rw [hM, po_si_ne (by decide)]; exact po_si_at
          · refine iv_sgm_L (iv_sgm_old g10 (fun j _ _ => ⟨by rw [oC 50 (by decide)], by rw [oC 51 (by decide)], by rw [oM 8 (by decide)]⟩)) (by omega)
          · rw [eA, g11]
            exact wk_loopS eM
        · obtain ⟨c3, m3, k1, k2, k3, k4, k5, k6⟩ := po_blameL (c := c2) (m := n1) 1 p2 (by decide) (by decide) (by omega)
          have k1' : f_X6_blame 34 1 (nI p2) c2 = _ := k1
          have k2' : f_X12_wrongAt 1 (nI p2) n1 = _ := k2
          have e1 : f_X6_pass 34 93 c2 = some (false, c3) := by
            unfold f_X6_pass wk_let
            rw [hs2.1, hR2.2.2.2.1]
            dsimp only [Option.bind]
            rw [if_neg hs93, k1']
          rw [e1] at eC1
          dsimp only at eC1
          rw [if_pos rfl] at eC1
          have eM : S_X12_readsSum_8 (nI b0) n1 = some (Sum.inl (false, m3)) := by
            unfold S_X12_readsSum_8 wk_let
            rw [hs1]
            dsimp only [Option.bind]
            rw [g21, if_pos rfl, if_pos hs93]
            unfold j_X12_readsSum_78_l8 wk_let
            rw [hho]
            dsimp only [Option.bind]
            rw [if_neg (fun k => Bool.false_ne_true k.symm), g14.2.2.2.2.1, k2']
          refine ⟨false, c3, m3, eC1, iv_wC_t hcc k4, iv_wM_t (iv_wM_t q5 g19) k5, iv_old_t (iv_old_t q6 g20 (Nat.le_refl e) (by omega)) (k6 e h) (Nat.le_refl e) (Nat.le_refl h), Or.inl ⟨rfl, ?_, k3⟩⟩
          rw [eA, g11]
          exact wk_loopI eM
  · obtain ⟨b, c2, m2, g1, g2, g3, g4, g5, g6⟩ := po_fleaf hY (by omega : e ≤ p) (by omega : 0 < Ff) hs91 (g_X5_readSum q).1 (g_X5_readSum q).2 (nI d)
    refine ⟨b, c2, m2, g1, g3, g4, g5 h, ?_⟩
    unfold iv_AS
    rw [g2]
    dsimp only [Option.bind]
    rcases g6 with ⟨rfl, g7⟩ | ⟨rfl, p2, g7, g8, g9⟩
    · rw [if_neg Bool.false_ne_true]
      exact Or.inl ⟨rfl, rfl, g7⟩
    · rw [if_pos rfl]
      exact Or.inr ⟨rfl, p2, e + 1, G, g7, by omega, by omega, g8, iv_sgm_L g9 (by omega), rfl, by omega⟩
