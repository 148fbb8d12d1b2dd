/-! PURE: hunts: one letter -/
theorem po_leaf {x : Int32} {t : Nat → Nat} {n p p1 d k z Fo G : Nat} {c m : wk_St} (hQ : iv_Q t n p1 d k c m) (h40 : m.1 0 40 = nI p) (h41 : m.1 0 41 = nI z) (hz : 1 ≤ z) (hz9 : z ≤ 9) (hp : p ≤ p1) (hFo : 0 < Fo) (hG : wk_F ≤ G + p) (hs40 : ¬ iv_sgn t n p1 = 40) {A : Int32 → wk_St → Option (Bool × wk_St)} {B : Int32 → wk_St → Option (Bool × wk_St)} {C : Int32 → wk_St → Option (Bool × wk_St)} :
    iv_out x t n p d k (fun _ => True) c m (Option.bind (f_X3_readOne c) fun v4 => j_X3_readPart_37 A B C (nI p) (nI k) (nI z) (b2i v4.1) v4.2) (iv_on x G (iv_RI Fo m)) := by
  obtain ⟨hR, a2, a3, a4, a5, a6, a7⟩ := id hQ
  have hn := hR.1
  have hpn := hR.2.1
  have hF : wk_F = 4096 := rfl
  have hs := po_sign hR
  have eR : iv_RI Fo m = if iv_sgn t n p1 = 46 then j_X12_readsItem_73 (nI p) (nI z) (iv_sgn t n p1) m else if iv_sgn t n p1 = 104 then j_X12_readsItem_73 (nI p) (nI z) (iv_sgn t n p1) m else some ((f_X12_wrongAt 1 (nI p1) m).1, (f_X12_wrongAt 1 (nI p1) m).2) := by
    obtain ⟨f, rfl⟩ : ∃ f, Fo = f + 1 := ⟨Fo - 1, by omega⟩
    have e : wk_loop S_X12_readsItem_2 (f + 1) m = some (Sum.inr m) := by
      refine wk_loopI ?_
      unfold S_X12_readsItem_2
      rw [hs.2]
      dsimp only [Option.bind]
      rw [if_pos hs40]
    unfold iv_RI wk_let
    rw [e]
    dsimp only [Option.bind]
    rw [hs.2, h40, h41, hR.2.2.2.2.1]
  have eC : f_X3_readOne c = if iv_sgn t n p1 = 104 then j_X3_readOne_14 c else if iv_sgn t n p1 = 46 then j_X3_readOne_14 c else some ((f_X6_blame 30 1 (nI p1) c).1, (f_X6_blame 30 1 (nI p1) c).2) := by
    unfold f_X3_readOne wk_let
    rw [hs.1, hR.2.2.2.1]
    dsimp only [Option.bind]
  by_cases hlt : iv_sgn t n p1 = 104 ∨ iv_sgn t n p1 = 46
  · -- a letter
    obtain ⟨h, hh⟩ : ∃ h, h = decide (iv_sgn t n p1 = 104) := ⟨_, rfl⟩
    have hp1 : p1 < n := by
      rcases hlt with h | h
      · exact (po_sgnp (z := 104) hR (by decide) h).1
      · exact (po_sgnp (z := 46) hR (by decide) h).1
    have eR1 : iv_RI Fo m = j_X12_readsItem_73 (nI p) (nI z) (iv_sgn t n p1) m := by
      rw [eR]
      rcases hlt with h | h
      · rw [if_neg (fun h2 => by rw [h] at h2; revert h2; decide), if_pos h]
      · rw [if_pos h]
    have eC1 : f_X3_readOne c = j_X3_readOne_14 c := by
      rw [eC]
      rcases hlt with h | h
      · rw [if_pos h]
      · rw [if_neg (fun h2 => by rw [h] at h2; revert h2; decide), if_pos h]
    obtain ⟨X, hX⟩ : ∃ X, X = c.2 30 4 ||| (if h = true then (1 : Int64) <<< ((nI k).toInt64 &&& 63) else 0) := ⟨_, rfl⟩
    obtain ⟨c2, hc2⟩ : ∃ c2, c2 = wk_si (wk_si (wk_sl c 30 4 X) 30 5 (nI (k + 1))) 30 3 (nI (p1 + 1)) := ⟨_, rfl⟩
    have eC2 : f_X3_readOne c = some (true, c2) := by
      rw [eC1]
      have g5 : ∀ X, (wk_sl c 30 4 X).1 30 5 = nI k := fun X => a3
      have g3 : ∀ X y, (wk_si (wk_sl c 30 4 X) 30 5 y).1 30 3 = nI p1 := fun X y => (po_si_ne (by decide)).trans hR.2.2.2.1
      have e27 : ∀ s0, j_X3_readOne_27 s0 (c.2 30 4) c = some (true, wk_si (wk_si (wk_sl c 30 4 (c.2 30 4 ||| s0)) 30 5 (nI (k + 1))) 30 3 (nI (p1 + 1))) := fun s0 => by
        unfold j_X3_readOne_27
        rw [g5, g3, nI_1, nI_1]
      unfold j_X3_readOne_14
      rw [hs.1, a3]
      dsimp only [Option.bind]
      rw [e27, e27, hc2, hX, hh]
      by_cases h104 : iv_sgn t n p1 = 104
      · rw [if_neg (fun h => h h104), decide_eq_true h104, if_pos rfl]
      · rw [if_pos h104, decide_eq_false h104, if_neg Bool.false_ne_true]
    have hqc : iv_qC c c2 := by
      rw [hc2]
      exact ⟨fun a h => funext (fun b => (po_si_c h).trans (po_si_c h)), fun a h => funext (fun b => if_neg (fun w => h w.1))⟩
    rw [eC2]
    dsimp only [Option.bind]
    have e37 : j_X3_readPart_37 A B C (nI p) (nI k) (nI z) (b2i true) c2 = Option.bind (f_X3_repeat (nI k) (nI z) (nI p) c2) fun v5 => some v5 := by
      unfold j_X3_readPart_37
      rw [if_neg (show ¬ b2i true = 0 by decide)]
      congr 1
      funext v5
      by_cases h : v5.1 = false
      · rw [if_pos h]; exact congrArg some (Prod.ext h.symm rfl)
      · rw [if_neg h]
        have h' : v5.1 = true := by
          cases hv : v5.1 with
          | true => rfl
          | false => exact absurd hv h
        exact congrArg some (Prod.ext h'.symm rfl)
    rw [e37, eR1]
    by_cases h48 : k + z ≤ 48
    · -- it is said z times
      obtain ⟨m2, hm2⟩ : ∃ m2, m2 = wk_si (wk_si (wk_si m 23 k (if h = true then 1 else 0)) 0 38 (nI (k + 1))) 0 10 (nI (p1 + 1)) := ⟨_, rfl⟩
      have N0 : ∀ b, b ≠ 10 → b ≠ 38 → m2.1 0 b = m.1 0 b := fun b h1 h2 => by rw [hm2, po_si_ne h1, po_si_ne h2, po_si_c (by decide)]
      have Na : ∀ a, a ≠ 0 → a ≠ 23 → m2.1 a = m.1 a := fun a h1 h2 => by rw [hm2]; exact funext (fun b => (po_si_c h1).trans ((po_si_c h1).trans (po_si_c h2)))
      have N10 : m2.1 0 10 = nI (p1 + 1) := by rw [hm2]; exact po_si_at
      have N38 : m2.1 0 38 = nI (k + 1) := by rw [hm2, po_si_ne (by decide)]; exact po_si_at
      have N23 : ∀ j, m2.1 23 j = if j = k then (if h = true then 1 else 0) else m.1 23 j := fun j => by
        rw [hm2, po_si_c (by decide), po_si_c (by decide)]
        by_cases hj : j = k
        · rw [if_pos hj, hj]; exact po_si_at
        · rw [if_neg hj]; exact po_si_ne hj
      have C4 : c2.2 30 4 = X := by
        rw [hc2]
        show (if (30 : Nat) = 30 ∧ (4 : Nat) = 4 then X else c.2 30 4) = X
        exact if_pos ⟨rfl, rfl⟩
      have e94 : j_X12_readsItem_73 (nI p) (nI z) (iv_sgn t n p1) m = Option.bind (f_X12_repeats (nI k) (nI z) (nI p) m2) fun v7 => if v7.1 = true then iv_cl wk_F v7.2 else some (false, v7.2) := by
        have g1 : ∀ s0, (wk_si m 23 k s0).1 0 38 = nI k := fun s0 => (po_si_c (by decide)).trans a4
        have g2 : ∀ s0 y, (wk_si (wk_si m 23 k s0) 0 38 y).1 0 10 = nI p1 := fun s0 y => (po_si_ne (by decide)).trans ((po_si_c (by decide)).trans hR.2.2.2.2.1)
        have g3 : nI (k + 1) - 1 = nI k := by
          rw [Int32.sub_eq_iff_eq_add, nI_1]
        have ej : ∀ s0, j_X12_readsItem_94 (nI p) (nI z) s0 (nI k) m = Option.bind (f_X12_repeats (nI k) (nI z) (nI p) (wk_si (wk_si (wk_si m 23 k s0) 0 38 (nI (k + 1))) 0 10 (nI (p1 + 1)))) fun v7 => if v7.1 = true then iv_cl wk_F v7.2 else some (false, v7.2) := fun s0 => by
          unfold j_X12_readsItem_94
          rw [if_pos (po_wkin (by omega) (by decide)), nI_clamp (by omega), g1, nI_1, g2, nI_1, po_si_ne (show (38 : Nat) ≠ 10 by decide), po_si_at, g3]
          rfl
        unfold j_X12_readsItem_73
        rw [a4, nI_add, if_pos (show nI (k + z) ≤ 48 from (nI_leI (b := 48) (by omega) (by decide)).mpr h48), ej, ej, hm2, hh]
        by_cases h104 : iv_sgn t n p1 = 104
        · rw [if_neg (fun h => h h104), decide_eq_true h104, if_pos rfl]
        · rw [if_pos h104, decide_eq_false h104, if_neg Bool.false_ne_true]
      have hQ2 : iv_Q t n (p1 + 1) d (k + 1) c2 m2 := by
        have hbx : ∀ j, j < 64 → iv_bit X j = (iv_bit (c.2 30 4) j || (h && decide (j = k))) := fun j hj => by
          rw [hX, po_bitO]
          cases h with
          | true =>
            rw [if_pos rfl, po_bitS (by omega) hj, po_bit1, Bool.true_and]
            congr 1
            by_cases hjk : j = k
            · rw [decide_eq_true hjk, hjk, decide_eq_false (Nat.lt_irrefl k), Nat.sub_self]; rfl
            · rw [decide_eq_false hjk]
              by_cases h1 : j < k
              · rw [decide_eq_true h1]; rfl
              · rw [decide_eq_false h1, decide_eq_false (by omega)]; rfl
          | false => rw [if_neg Bool.false_ne_true, po_bit0]; rfl
        refine ⟨po_adv hR hp1 ?_ ?_ ?_ N10 (N0 11 (by decide) (by decide)) (Na 7 (by decide) (by decide)), by omega, ?_, N38, (N0 39 (by decide) (by decide)).trans a5, fun j hj => ?_, fun j h1 h2 => ?_⟩
        · rw [hc2, po_si_ne (by decide), po_si_ne (by decide)]; rfl
        · rw [hc2]; exact po_si_at
        · rw [hc2]; exact funext (fun b => (po_si_c (by decide)).trans (po_si_c (by decide)))
        · rw [hc2, po_si_ne (by decide)]; exact po_si_at
        · rw [C4, N23 j, hbx j (by omega)]
          by_cases hjk : j = k
          · rw [if_pos hjk, decide_eq_true hjk, hjk, a7 k (Nat.le_refl k) (by omega)]
            cases h with
            | true => rw [if_pos rfl]; exact ⟨Or.inr rfl, by decide⟩
            | false => rw [if_neg Bool.false_ne_true]; exact ⟨Or.inl rfl, by decide⟩
          · rw [if_neg hjk, decide_eq_false hjk, Bool.and_false, Bool.or_false]
            exact a6 j (by omega)
        · rw [C4, hbx j h2, a7 j (by omega) h2, decide_eq_false (by omega), Bool.and_false]
          rfl
      have hqm : ∀ e, iv_qM e m m2 := fun e => ⟨by rw [hm2]; rfl, fun a h0 h1 _ _ _ => Na a h0 h1, fun b h1 _ h2 _ _ _ => N0 b h1 h2, fun i _ => ⟨by rw [Na 24 (by decide) (by decide)], by rw [Na 25 (by decide) (by decide)], by rw [Na 26 (by decide) (by decide)]⟩⟩
      obtain ⟨b, c3, m3, q1, q2, q3, q4, q5⟩ := po_rep p (by omega) hQ2 (by omega : k < k + 1) hz hz9
      rw [e94, q1, q2]
      dsimp only [Option.bind]
      refine ⟨b, c3, m3, rfl, iv_qC_t hqc q3, iv_qM_t (hqm d) (q4 d), ?_⟩
      rcases q5 with ⟨rfl, hQ3, hk3⟩ | ⟨rfl, hf⟩
      · right
        refine ⟨rfl, p1 + 1, _, wk_F, G, by omega, by omega, trivial, hQ3, ?_, by omega, by omega⟩
        rw [if_pos rfl]
        rfl
      · left
        refine ⟨rfl, ?_, hf⟩
        rw [if_neg Bool.false_ne_true]
        exact iv_on_f (by omega)
    · -- too many
      obtain ⟨c3, m3, q1, q2, q3, q4, q5⟩ := po_blame (c := c2) (m := m) 6 p (by decide) (by decide) (by omega)
      have q1' : f_X6_blame 30 6 (nI p) c2 = _ := q1
      have q2' : f_X12_wrongAt 6 (nI p) m = _ := q2
      have hno : ¬ nI (k + z) ≤ 48 := fun h => h48 ((nI_leI (b := 48) (by omega) (by decide)).mp h)
      have C5 : c2.1 30 5 = nI (k + 1) := by rw [hc2, po_si_ne (by decide)]; exact po_si_at
      have g3 : nI (k + 1) - nI k = nI 1 := by
        rw [Int32.sub_eq_iff_eq_add, nI_add, Nat.add_comm]
      refine ⟨false, c3, m3, ?_, iv_qC_t hqc q4, q5 d, Or.inl ⟨rfl, ?_, q3⟩⟩
      · unfold f_X3_repeat wk_let
        dsimp only
        rw [C5, g3, po_mulN, Nat.one_mul, nI_add, if_neg hno, q1']
        rfl
      · unfold j_X12_readsItem_73 wk_let
        rw [a4, nI_add, if_neg hno, q2']
        exact iv_on_f (by omega)
  · -- no letter
    have n1 : ¬ iv_sgn t n p1 = 104 := fun h => hlt (Or.inl h)
    have n2 : ¬ iv_sgn t n p1 = 46 := fun h => hlt (Or.inr h)
    rw [if_neg n1, if_neg n2] at eC
    rw [if_neg n2, if_neg n1] at eR
    obtain ⟨c3, m3, q1, q2, q3, q4, q5⟩ := po_blame (c := c) (m := m) 1 p1 (by decide) (by decide) (by omega)
    have q1' : f_X6_blame 30 1 (nI p1) c = _ := q1
    have q2' : f_X12_wrongAt 1 (nI p1) m = _ := q2
    rw [q1'] at eC
    rw [q2'] at eR
    rw [eC, eR]
    refine ⟨false, c3, m3, ?_, q4, q5 d, Or.inl ⟨rfl, iv_on_f (by omega), q3⟩⟩
    dsimp only [Option.bind]
    unfold j_X3_readPart_37
    rw [if_pos (show b2i false = 0 from rfl)]
