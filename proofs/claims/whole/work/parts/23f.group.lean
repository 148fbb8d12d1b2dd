/-! PURE: hunts: parts and rows -/
def iv_ROW (x : Int32) (t : Nat → Nat) (n d q : Nat) : Prop := ∀ p k c m Fo G, iv_Q t n p d k c m → 4 ≤ Fo + d → wk_F ≤ G + p → iv_out x t n p d k (fun p2 => iv_sgn t n p2 = -1 ∨ iv_sgn t n p2 = 41) c m ((g_X3_readRow q).1 (nI d) c) (iv_A x Fo G m)
def iv_PART (x : Int32) (t : Nat → Nat) (n d q : Nat) : Prop := ∀ p k c m Fo G, iv_Q t n p d k c m → 4 ≤ Fo + d → wk_F ≤ G + p → iv_out x t n p d k (fun _ => True) c m ((g_X3_readRow q).2.1 (nI d) c) (iv_A x Fo G m)
theorem iv_out_t {x : Int32} {t : Nat → Nat} {n p d k : Nat} {E : Nat → Prop} {c m c1 m1 : wk_St} {C : Option (Bool × wk_St)} {M : Option (Int32 × wk_St)} (hc : iv_qC c c1) (hm : iv_qM d m m1) (h : iv_out x t n p d k E c1 m1 C M) : iv_out x t n p d k E c m C M := by
  obtain ⟨b, c2, m2, h1, h2, h3, h4⟩ := h
  exact ⟨b, c2, m2, h1, iv_qC_t hc h2, iv_qM_t hm h3, h4⟩
theorem po_RIend {t : Nat → Nat} {n p d k Fo : Nat} {c m : wk_St} (hQ : iv_Q t n p d k c m) (hFo : 0 < Fo) (hs1 : iv_sgn t n p = -1) : iv_RI Fo m = some (false, wk_si m 0 12 (f_X11_faultOf 1 (nI p))) := by
  have hs := (po_sign hQ.1).2
  obtain ⟨f, rfl⟩ : ∃ f, Fo = f + 1 := ⟨Fo - 1, by omega⟩
  have e : wk_loop S_X12_readsItem_2 (f + 1) m = some (Sum.inr m) := by
    refine wk_loopI ?_
    unfold S_X12_readsItem_2
    rw [hs, hs1]
    dsimp only [Option.bind]
    rw [if_pos (show ¬ (-1 : Int32) = 40 by decide)]
  unfold iv_RI wk_let
  rw [e]
  dsimp only [Option.bind]
  rw [hs, hs1, hQ.1.2.2.2.2.1]
  dsimp only
  rw [if_neg (show ¬ (-1 : Int32) = 46 by decide), if_neg (show ¬ (-1 : Int32) = 104 by decide)]
  rfl
theorem po_28 {x : Int32} {g : Nat} {m : wk_St} (h : S_X12_hunts_28 x (b2i true, m) = Option.bind (f_X12_readsItem m) fun v5 => some (Sum.inr (b2i v5.1, v5.2))) : iv_on x (g + 1) (some (true, m)) = iv_on x g (f_X12_readsItem m) := by
  unfold iv_on
  dsimp only [Option.bind]
  cases hv : f_X12_readsItem m with
  | none =>
    rw [hv] at h
    conv => lhs; unfold wk_loop
    rw [h]
    rfl
  | some v =>
    rw [hv] at h
    exact wk_loopS h
theorem po_cl1 {t : Nat → Nat} {n p F : Nat} {c m : wk_St} (hR : iv_RD 30 t n p c m) (hF : 0 < F) (h : ¬ iv_sgn t n p = 41) : iv_cl F m = some (true, m) := by
  have hs := (po_sign hR).2
  obtain ⟨f, rfl⟩ : ∃ f, F = f + 1 := ⟨F - 1, by omega⟩
  have e : wk_loop S_X12_readsItem_118 (f + 1) m = some (Sum.inr m) := by
    refine wk_loopI ?_
    unfold S_X12_readsItem_118
    rw [hs]
    dsimp only [Option.bind]
    rw [if_pos h]
  unfold iv_cl
  rw [e]
  rfl
theorem po_part {x : Int32} {t : Nat → Nat} {n d q : Nat} (hd : d ≤ 2) (hrow : d < 2 → iv_ROW x t n (d + 1) q) : iv_PART x t n d (q + 2) := by
  intro p k c m Fo G hQ hFo hG
  obtain ⟨p1, z, c1, m1, hz, hz9, hp, eT, eP, hQ1, h40, h41, hc1, hm1⟩ := po_times hQ
  have hFF : wk_F = 4096 := rfl
  have hR1 := hQ1.1
  have hn := hR1.1
  have hp1 := hR1.2.1
  have hs := po_sign hR1
  have eC : (g_X3_readRow (q + 2)).2.1 (nI d) c = j_X3_readPart_27 (g_X3_readRow (q + 1)).1 (g_X3_readRow (q + 1)).2.1 (g_X3_readRow (q + 1)).2.2 (nI d) (nI p) (nI k) (nI z) c1 := eP _ _ _ _
  have eM : iv_A x Fo G m = iv_on x G (iv_RI Fo m1) := by
    unfold iv_A
    rw [eT]
    rfl
  rw [eC, eM]
  refine iv_out_t hc1 (hm1 d) ?_
  unfold j_X3_readPart_27
  rw [hs.1]
  dsimp only [Option.bind]
  by_cases hs40 : iv_sgn t n p1 = 40
  · rw [if_neg (fun h => h hs40)]
    obtain ⟨hp1n, _⟩ := po_sgnp (z := 40) hR1 (by decide) hs40
    obtain ⟨a2, a3, a4, a5, a6, a7⟩ := hQ1.2
    have eG : (g_X3_readRow (q + 1)).2.2 (nI d) c1 = b_X3_readGroup (g_X3_readRow q).1 (g_X3_readRow q).2.1 (g_X3_readRow q).2.2 (nI d) c1 := rfl
    rw [eG]
    obtain ⟨f, rfl⟩ : ∃ f, Fo = f + 1 := ⟨Fo - 1, by omega⟩
    by_cases hd2 : d = 2
    · -- too deep
      obtain ⟨c3, m3, q1, q2, q3, q4, q5⟩ := po_blame (c := c1) (m := m1) 5 p1 (by decide) (by decide) (by omega)
      have q1' : f_X6_blame 30 5 (nI p1) c1 = _ := q1
      have q2' : f_X12_wrongAt 5 (nI p1) m1 = _ := q2
      have e1 : b_X3_readGroup (g_X3_readRow q).1 (g_X3_readRow q).2.1 (g_X3_readRow q).2.2 (nI d) c1 = some (false, c3) := by
        unfold b_X3_readGroup wk_let
        rw [hd2, if_neg (show ¬ nI 2 < 2 by decide), hR1.2.2.2.1, q1']
      have e2 : iv_RI (f + 1) m1 = some (false, m3) := by
        have e : wk_loop S_X12_readsItem_2 (f + 1) m1 = some (Sum.inl (false, m3)) := by
          refine wk_loopI ?_
          unfold S_X12_readsItem_2 wk_let
          rw [hs.2]
          dsimp only [Option.bind]
          rw [if_neg (fun h => h hs40), a5, hd2, if_neg (fun h => h (show nI 2 = 2 from rfl)), hR1.2.2.2.2.1, q2']
        unfold iv_RI
        rw [e]
        rfl
      rw [e1, e2]
      refine ⟨false, c3, m3, ?_, q4, q5 d, Or.inl ⟨rfl, iv_on_f (by omega), q3⟩⟩
      dsimp only
      unfold j_X3_readPart_37
      rw [if_pos (show b2i false = 0 from rfl)]
    · -- a group
      have hd3 : d < 2 := by omega
      obtain ⟨c2, hc2⟩ : ∃ c2, c2 = wk_si c1 30 3 (nI (p1 + 1)) := ⟨_, rfl⟩
      obtain ⟨M3, hM3⟩ : ∃ M3, M3 = wk_si (wk_si (wk_si (wk_si (wk_si m1 24 d (nI p)) 25 d (nI k)) 26 d (nI z)) 0 39 (nI (d + 1))) 0 10 (nI (p1 + 1)) := ⟨_, rfl⟩
      have N0 : ∀ b, b ≠ 10 → b ≠ 39 → M3.1 0 b = m1.1 0 b := fun b h1 h2 => by rw [hM3, po_si_ne h1, po_si_ne h2, po_si_c (by decide), po_si_c (by decide), po_si_c (by decide)]
      have Na : ∀ a, a ≠ 0 → a ≠ 24 → a ≠ 25 → a ≠ 26 → M3.1 a = m1.1 a := fun a h1 h2 h3 h4 => by rw [hM3]; exact funext (fun b => by rw [po_si_c h1, po_si_c h1, po_si_c h4, po_si_c h3, po_si_c h2])
      have S24 : ∀ i, M3.1 24 i = if i = d then nI p else m1.1 24 i := fun i => by
        rw [hM3, po_si_c (by decide), po_si_c (by decide), po_si_c (by decide), po_si_c (by decide)]
        by_cases hi : i = d
        · rw [if_pos hi, hi]; exact po_si_at
        · rw [if_neg hi]; exact po_si_ne hi
      have S25 : ∀ i, M3.1 25 i = if i = d then nI k else m1.1 25 i := fun i => by
        rw [hM3, po_si_c (by decide), po_si_c (by decide), po_si_c (by decide)]
        by_cases hi : i = d
        · rw [if_pos hi, hi]; exact po_si_at
        · rw [if_neg hi, po_si_ne hi]; exact po_si_c (by decide)
      have S26 : ∀ i, M3.1 26 i = if i = d then nI z else m1.1 26 i := fun i => by
        rw [hM3, po_si_c (by decide), po_si_c (by decide)]
        by_cases hi : i = d
        · rw [if_pos hi, hi]; exact po_si_at
        · rw [if_neg hi, po_si_ne hi, po_si_c (by decide)]; exact po_si_c (by decide)
      have hqm : iv_qM d m1 M3 := ⟨by rw [hM3]; rfl, fun a h0 _ h2 h3 h4 => Na a h0 h2 h3 h4, fun b h1 _ _ h2 _ _ => N0 b h1 h2, fun i hi => ⟨(S24 i).trans (if_neg (by omega)), (S25 i).trans (if_neg (by omega)), (S26 i).trans (if_neg (by omega))⟩⟩
      have hqc : iv_qC c1 c2 := by rw [hc2]; exact iv_qC_si
      have hQ3 : iv_Q t n (p1 + 1) (d + 1) k c2 M3 := by
        refine iv_Q_r hQ1 (po_adv hR1 hp1n ?_ ?_ ?_ ?_ (N0 11 (by decide) (by decide)) (Na 7 (by decide) (by decide) (by decide) (by decide))) ?_ ?_ (N0 38 (by decide) (by decide)) ?_ (Na 23 (by decide) (by decide) (by decide) (by decide))
        · rw [hc2]; exact po_si_ne (by decide)
        · rw [hc2]; exact po_si_at
        · rw [hc2]; exact funext (fun b => po_si_c (by decide))
        · rw [hM3]; exact po_si_at
        · rw [hc2]; exact po_si_ne (by decide)
        · rw [hc2]; rfl
        · rw [hM3, po_si_ne (by decide)]; exact po_si_at
      have eS : S_X12_readsItem_2 m1 = Option.bind (f_X12_readsTimes M3) fun v3 => some (Sum.inr v3) := by
        have u1 : ∀ y, (wk_si m1 24 d y).1 0 39 = nI d := fun y => (po_si_c (by decide)).trans a5
        have u2 : ∀ y w, (wk_si (wk_si m1 24 d y) 25 d w).1 0 39 = nI d := fun y w => (po_si_c (by decide)).trans (u1 y)
        have u3 : ∀ y w v, (wk_si (wk_si (wk_si m1 24 d y) 25 d w) 26 d v).1 0 39 = nI d := fun y w v => (po_si_c (by decide)).trans (u2 y w)
        have u4 : ∀ y, (wk_si m1 24 d y).1 0 38 = nI k := fun y => (po_si_c (by decide)).trans a4
        have u5 : ∀ y w, (wk_si (wk_si m1 24 d y) 25 d w).1 0 41 = nI z := fun y w => (po_si_c (by decide)).trans ((po_si_c (by decide)).trans h41)
        have u6 : ∀ y w v r, (wk_si (wk_si (wk_si (wk_si m1 24 d y) 25 d w) 26 d v) 0 39 r).1 0 10 = nI p1 := fun y w v r => by rw [po_si_ne (by decide), po_si_c (by decide), po_si_c (by decide), po_si_c (by decide)]; exact hR1.2.2.2.2.1
        unfold S_X12_readsItem_2
        rw [hs.2]
        dsimp only [Option.bind]
        rw [if_neg (fun h => h hs40), a5, h40, nI_clamp (by omega)]
        rw [if_pos (show ¬ nI d = 2 from fun h => hd2 ((nI_eq (b := 2) (by omega) (by decide)).mp h)), if_pos (po_wkin (by omega) (by decide)), u1, if_pos (po_wkin (by omega) (by decide)), nI_clamp (by omega), u4, u2, if_pos (po_wkin (by omega) (by decide)), nI_clamp (by omega), u5, u3, u6, nI_1, nI_1, ← hM3]
      have eRI : iv_on x G (iv_RI (f + 1) m1) = iv_A x f G M3 := by
        obtain ⟨_, _, _, m4, _, _, _, eT4, _⟩ := po_times hQ3
        rw [eT4] at eS
        have e : wk_loop S_X12_readsItem_2 (f + 1) m1 = wk_loop S_X12_readsItem_2 f m4 := wk_loopS eS
        unfold iv_A
        rw [eT4]
        dsimp only [Option.bind]
        congr 1
        unfold iv_RI
        rw [e]
      rw [eRI]
      have hb2 : b_X3_readGroup (g_X3_readRow q).1 (g_X3_readRow q).2.1 (g_X3_readRow q).2.2 (nI d) c1 = Option.bind ((g_X3_readRow q).1 (nI (d + 1)) c2) fun v1 => if v1.1 = false then some (false, v1.2) else Option.bind (f_X6_pass 30 41 v1.2) fun v2 => if v2.1 = false then some (false, v2.2) else some (true, v2.2) := by
        unfold b_X3_readGroup
        rw [if_pos (show nI d < 2 from nI_lt (b := 2) hd3 (by decide)), nI_1, hR1.2.2.2.1, nI_1, ← hc2]
      rw [hb2]
      obtain ⟨b, c3, m3, g1, g2, g3, g4⟩ := hrow hd3 (p1 + 1) k c2 M3 f G hQ3 (by omega) (by omega)
      rw [g1]
      dsimp only [Option.bind]
      have hcc : iv_qC c1 c3 := iv_qC_t hqc g2
      have hmm : iv_qM d m1 m3 := iv_qM_t hqm (iv_qM_le g3 (by omega))
      rcases g4 with ⟨rfl, g5, g6⟩ | ⟨rfl, p2, k2, F, G2, g5, g6, g7, g8, g9, g10, g11⟩
      · rw [if_pos rfl, g5]
        refine ⟨false, c3, m3, ?_, hcc, hmm, Or.inl ⟨rfl, rfl, g6⟩⟩
        dsimp only
        unfold j_X3_readPart_37
        rw [if_pos (show b2i false = 0 from rfl)]
      · rw [if_neg (fun h => Bool.false_ne_true h.symm), g9]
        have hR3 := g8.1
        have hp2 := hR3.2.1
        rcases g7 with hm1' | h41'
        · -- the text ends
          have e1 : f_X6_pass 30 41 c3 = some (false, wk_si c3 30 2 (f_X11_faultOf 1 (nI p2))) := by
            unfold f_X6_pass wk_let
            rw [(po_sign hR3).1, hm1', hR3.2.2.2.1]
            rfl
          have hp2n : p2 = n := by
            by_cases h : p2 < n
            · exfalso
              unfold iv_sgn at hm1'
              rw [if_pos h] at hm1'
              exact po_m1 (by have := (hR3.2.2.2.2.2.2 p2 h).1; omega) hm1'
            · omega
          obtain ⟨G3, rfl⟩ : ∃ G3, G2 = G3 + 1 := ⟨G2 - 1, by omega⟩
          obtain ⟨p4, z4, c4, m4, _, _, h4p, eT4, _, hQ4, _, _, _, hm4⟩ := po_times g8
          have hp4 : p4 = p2 := by have := hQ4.1.2.1; omega
          subst hp4
          have e2 : iv_BB x F (G3 + 1) m3 = some ((0 : Int32), wk_si m4 0 12 (f_X11_faultOf 1 (nI p4))) := by
            unfold iv_BB
            rw [po_cl1 hR3 (by omega) (by rw [hm1']; decide), po_28 ?_, iv_RI_e, eT4]
            · dsimp only [Option.bind]
              rw [po_RIend hQ4 (by omega) hm1']
              exact iv_on_f (by omega)
            · unfold S_X12_hunts_28
              dsimp only
              rw [if_neg (show ¬ b2i true = 0 by decide), hR3.2.2.2.2.1, hR3.2.2.2.2.2.1, if_neg (by rw [hp2n]; exact nI_nlt (Nat.le_refl n) (by omega)), g8.2.2.2.2.1, if_neg (show ¬ nI (d + 1) ≤ 0 from fun h => by have := (nI_leI (b := 0) (by omega) (by decide)).mp h; omega)]
          rw [e1, e2]
          refine ⟨false, wk_si c3 30 2 (f_X11_faultOf 1 (nI p4)), wk_si m4 0 12 (f_X11_faultOf 1 (nI p4)), ?_, iv_qC_t hcc iv_qC_si, iv_qM_t (iv_qM_t hmm (hm4 d)) ⟨rfl, fun a h _ _ _ _ => funext (fun b => po_si_c h), fun b _ h _ _ _ _ => po_si_ne h, fun i _ => ⟨po_si_c (by decide), po_si_c (by decide), po_si_c (by decide)⟩⟩, Or.inl ⟨rfl, rfl, ⟨1, p4, by decide, by decide, by omega, po_si_at, po_si_at⟩⟩⟩
          dsimp only
          rw [if_pos rfl]
          dsimp only
          unfold j_X3_readPart_37
          rw [if_pos (show b2i false = 0 from rfl)]
        · -- the group is closed
          obtain ⟨hp2n, _⟩ := po_sgnp (z := 41) hR3 (by decide) h41'
          obtain ⟨F2, rfl⟩ : ∃ F2, F = F2 + 1 := ⟨F - 1, by omega⟩
          obtain ⟨c4, hc4⟩ : ∃ c4, c4 = wk_si c3 30 3 (nI (p2 + 1)) := ⟨_, rfl⟩
          obtain ⟨m4, hm4⟩ : ∃ m4, m4 = wk_si (wk_si m3 0 10 (nI (p2 + 1))) 0 39 (nI d) := ⟨_, rfl⟩
          have e1 : f_X6_pass 30 41 c3 = some (true, c4) := by
            unfold f_X6_pass wk_let
            rw [(po_sign hR3).1, h41', hR3.2.2.2.1]
            dsimp only [Option.bind]
            rw [if_pos rfl, nI_1, hc4]
          have n0 : ∀ b, b ≠ 10 → b ≠ 39 → m4.1 0 b = m3.1 0 b := fun b h1 h2 => by rw [hm4, po_si_ne h2, po_si_ne h1]
          have na : ∀ a, a ≠ 0 → m4.1 a = m3.1 a := fun a h => by rw [hm4]; exact funext (fun b => (po_si_c h).trans (po_si_c h))
          have hQ4 : iv_Q t n (p2 + 1) d k2 c4 m4 := by
            refine iv_Q_r g8 (po_adv hR3 hp2n ?_ ?_ ?_ ?_ (n0 11 (by decide) (by decide)) (na 7 (by decide))) ?_ ?_ (n0 38 (by decide) (by decide)) ?_ (na 23 (by decide))
            · rw [hc4]; exact po_si_ne (by decide)
            · rw [hc4]; exact po_si_at
            · rw [hc4]; exact funext (fun b => po_si_c (by decide))
            · rw [hm4, po_si_ne (by decide)]; exact po_si_at
            · rw [hc4]; exact po_si_ne (by decide)
            · rw [hc4]; rfl
            · rw [hm4]; exact po_si_at
          have w24 : m4.1 24 d = nI p := by rw [na 24 (by decide), (g3.2.2.2 d (by omega)).1, S24, if_pos rfl]
          have w25 : m4.1 25 d = nI k := by rw [na 25 (by decide), (g3.2.2.2 d (by omega)).2.1, S25, if_pos rfl]
          have w26 : m4.1 26 d = nI z := by rw [na 26 (by decide), (g3.2.2.2 d (by omega)).2.2, S26, if_pos rfl]
          have eS2 : S_X12_readsItem_118 m3 = Option.bind (f_X12_repeats (nI k) (nI z) (nI p) m4) fun v9 => if v9.1 = true then some (Sum.inr v9.2) else some (Sum.inl (Sum.inl (false, v9.2))) := by
            have u1 : (wk_si m3 0 10 (nI (p2 + 1))).1 0 39 = nI (d + 1) := (po_si_ne (by decide)).trans g8.2.2.2.2.1
            have u2 : nI (d + 1) - 1 = nI d := by rw [Int32.sub_eq_iff_eq_add, nI_1]
            unfold S_X12_readsItem_118
            rw [(po_sign hR3).2]
            dsimp only [Option.bind]
            rw [if_neg (fun h => h h41'), g8.2.2.2.2.1, if_neg (show ¬ nI (d + 1) ≤ 0 from fun h => by have := (nI_leI (b := 0) (by omega) (by decide)).mp h; omega), hR3.2.2.2.2.1, nI_1, u1, u2, ← hm4, show m4.1 0 39 = nI d from hQ4.2.2.2.2.1, if_pos (po_wkin (by omega) (by decide)), if_pos (po_wkin (by omega) (by decide)), if_pos (po_wkin (by omega) (by decide)), nI_clamp (by omega), w24, w25, w26]
          obtain ⟨b, c5, m5, r1, r2, r3, r4, r5⟩ := po_rep p (by omega) hQ4 (by omega : k < k2) hz hz9
          rw [r2] at eS2
          dsimp only [Option.bind] at eS2
          rw [e1]
          dsimp only
          rw [if_neg (fun h => Bool.false_ne_true h.symm)]
          dsimp only
          unfold j_X3_readPart_37
          rw [if_neg (show ¬ b2i true = 0 by decide), r1]
          dsimp only [Option.bind]
          have h34 : iv_qM d m3 m4 := ⟨by rw [hm4]; rfl, fun a h _ _ _ _ => na a h, fun b h1 _ _ h2 _ _ => n0 b h1 h2, fun i _ => ⟨by rw [na 24 (by decide)], by rw [na 25 (by decide)], by rw [na 26 (by decide)]⟩⟩
          have hcE : iv_qC c1 c5 := iv_qC_t (iv_qC_t hcc (by rw [hc4]; exact iv_qC_si)) r3
          have hmE : iv_qM d m1 m5 := iv_qM_t (iv_qM_t hmm h34) (r4 d)
          rcases r5 with ⟨rfl, hQ5, hk5⟩ | ⟨rfl, hf⟩
          · rw [if_pos rfl] at eS2
            rw [if_neg (fun h => Bool.false_ne_true h.symm)]
            refine ⟨true, c5, m5, rfl, hcE, hmE, Or.inr ⟨rfl, p2 + 1, _, F2, G2, by omega, by omega, trivial, hQ5, ?_, by omega, by omega⟩⟩
            unfold iv_BB iv_cl
            rw [wk_loopS eS2]
          · rw [if_neg Bool.false_ne_true] at eS2
            rw [if_pos rfl]
            refine ⟨false, c5, m5, rfl, hcE, hmE, Or.inl ⟨rfl, ?_, hf⟩⟩
            unfold iv_BB iv_cl
            rw [wk_loopI eS2]
            exact iv_on_f (by omega)
  · rw [if_pos hs40]
    obtain ⟨b, c2, m2, h1, h2⟩ := po_leaf (x := x) (A := (g_X3_readRow (q + 1)).1) (B := (g_X3_readRow (q + 1)).2.1) (C := (g_X3_readRow (q + 1)).2.2) hQ1 h40 h41 hz hz9 hp (by omega : 0 < Fo) hG hs40
    exact ⟨b, c2, m2, h1, h2⟩
