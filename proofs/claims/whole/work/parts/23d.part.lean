/-! PURE: hunts: a part -/
def iv_RI (Fo : Nat) (v1 : wk_St) : Option (Bool × wk_St) :=
  Option.bind (wk_loop S_X12_readsItem_2 Fo v1) fun v5 =>
  match v5 with
  | Sum.inl v5r => some v5r
  | Sum.inr v5 =>
    Option.bind (f_X12_here v5) fun v6 =>
    if v6 = (46 : Int32) then
      j_X12_readsItem_73 (v5.1 0 40) (v5.1 0 41) v6 v5
    else
      if v6 = (104 : Int32) then
        j_X12_readsItem_73 (v5.1 0 40) (v5.1 0 41) v6 v5
      else
        wk_let (f_X12_wrongAt (1 : Int32) (v5.1 0 10) v5) fun v12 =>
        some (v12.1, v12.2)
theorem iv_RI_e (m : wk_St) : f_X12_readsItem m = Option.bind (f_X12_readsTimes m) (iv_RI wk_F) := rfl
def iv_cl (F : Nat) (m : wk_St) : Option (Bool × wk_St) :=
  Option.bind (wk_loop S_X12_readsItem_118 F m) fun v10 =>
  match v10 with
  | Sum.inl v10r => some v10r
  | Sum.inr v10 => some (true, v10)
def iv_on (x : Int32) (G : Nat) (o : Option (Bool × wk_St)) : Option (Int32 × wk_St) := Option.bind o fun v => wk_loop (S_X12_hunts_28 x) G (b2i v.1, v.2)
def iv_A (x : Int32) (Fo G : Nat) (m : wk_St) : Option (Int32 × wk_St) := iv_on x G (Option.bind (f_X12_readsTimes m) (iv_RI Fo))
def iv_BB (x : Int32) (F G : Nat) (m : wk_St) : Option (Int32 × wk_St) := iv_on x G (iv_cl F m)
def iv_out (x : Int32) (t : Nat → Nat) (n p d k : Nat) (E : Nat → Prop) (c m : wk_St) (C : Option (Bool × wk_St)) (M : Option (Int32 × wk_St)) : Prop :=
  ∃ b c2 m2, C = some (b, c2) ∧ iv_qC c c2 ∧ iv_qM d m m2 ∧ ((b = false ∧ M = some ((0 : Int32), m2) ∧ iv_flt c2 m2) ∨ (b = true ∧ ∃ p2 k2 F G, p < p2 ∧ k < k2 ∧ E p2 ∧ iv_Q t n p2 d k2 c2 m2 ∧ M = iv_BB x F G m2 ∧ wk_F ≤ F + p2 ∧ wk_F + 1 ≤ G + p2))
theorem iv_on_f {x : Int32} {G : Nat} {m : wk_St} (hG : 0 < G) : iv_on x G (some (false, m)) = some ((0 : Int32), m) := by
  obtain ⟨g, rfl⟩ : ∃ g, G = g + 1 := ⟨G - 1, by omega⟩
  unfold iv_on
  dsimp only [Option.bind]
  refine wk_loopI ?_
  unfold S_X12_hunts_28
  exact if_pos rfl
theorem iv_Q_r {t : Nat → Nat} {n p p2 d d2 k : Nat} {c m c2 m2 : wk_St} (hQ : iv_Q t n p d k c m) (hR : iv_RD 30 t n p2 c2 m2) (h5 : c2.1 30 5 = c.1 30 5) (hl : c2.2 30 4 = c.2 30 4) (h38 : m2.1 0 38 = m.1 0 38) (h39 : m2.1 0 39 = nI d2) (h23 : m2.1 23 = m.1 23) : iv_Q t n p2 d2 k c2 m2 := by
  obtain ⟨_, a2, a3, a4, a5, a6, a7⟩ := hQ
  refine ⟨hR, a2, h5.trans a3, h38.trans a4, h39, ?_, ?_⟩
  · rw [hl, h23]; exact a6
  · rw [hl]; exact a7
theorem po_times {t : Nat → Nat} {n p d k : Nat} {c m : wk_St} (hQ : iv_Q t n p d k c m) :
    ∃ p1 z c1 m1, 1 ≤ z ∧ z ≤ 9 ∧ p ≤ p1 ∧ f_X12_readsTimes m = some m1 ∧ (∀ A B C x, b_X3_readPart A B C x c = j_X3_readPart_27 A B C x (nI p) (nI k) (nI z) c1) ∧ iv_Q t n p1 d k c1 m1 ∧ m1.1 0 40 = nI p ∧ m1.1 0 41 = nI z ∧ iv_qC c c1 ∧ ∀ e, iv_qM e m m1 := by
  obtain ⟨hR, a2, a3, a4, a5, a6, a7⟩ := id hQ
  have hn := hR.1
  obtain ⟨M, hM⟩ : ∃ M, M = wk_si (wk_si m 0 40 (m.1 0 10)) 0 41 1 := ⟨_, rfl⟩
  have M0 : ∀ b, b ≠ 40 → b ≠ 41 → M.1 0 b = m.1 0 b := fun b h h1 => by rw [hM, po_si_ne h1, po_si_ne h]
  have Ma : ∀ a, a ≠ 0 → M.1 a = m.1 a := fun a h => by rw [hM]; exact funext (fun b => (po_si_c h).trans (po_si_c h))
  have M40 : M.1 0 40 = nI p := by rw [hM, po_si_ne (by decide), po_si_at]; exact hR.2.2.2.2.1
  have M41 : M.1 0 41 = nI 1 := by rw [hM]; exact po_si_at
  have hRM : iv_RD 30 t n p c M := by
    obtain ⟨r1, r2, r3, r4, r5, r6, r7⟩ := hR
    refine ⟨r1, r2, r3, r4, ?_, ?_, ?_⟩
    · rw [M0 10 (by decide) (by decide)]; exact r5
    · rw [M0 11 (by decide) (by decide)]; exact r6
    · rw [Ma 7 (by decide)]; exact r7
  have hQM : iv_Q t n p d k c M := iv_Q_r hQ hRM rfl rfl (M0 38 (by decide) (by decide)) ((M0 39 (by decide) (by decide)).trans a5) (Ma 23 (by decide))
  have frM : ∀ e, iv_qM e m M := fun e => ⟨by rw [hM]; rfl, fun a h _ _ _ _ => Ma a h, fun b _ _ _ _ h h1 => M0 b h h1, fun i _ => ⟨by rw [Ma 24 (by decide)], by rw [Ma 25 (by decide)], by rw [Ma 26 (by decide)]⟩⟩
  have hs := po_sign hRM
  have hdg := (po_dg hR).1
  have eT : f_X12_readsTimes m = if f_X12_in (iv_sgn t n p) 50 57 = true then some (wk_si (wk_si M 0 41 (iv_sgn t n p - 48)) 0 10 ((wk_si M 0 41 (iv_sgn t n p - 48)).1 0 10 + 1)) else some M := by
    unfold f_X12_readsTimes
    rw [← hM, hs.2]
    dsimp only [Option.bind]
  have eP : ∀ A B C x, b_X3_readPart A B C x c = if f_X6_isDigit (iv_sgn t n p) = false then j_X3_readPart_27 A B C x (nI p) (nI k) 1 c else if iv_sgn t n p < 50 then j_X3_readPart_27 A B C x (nI p) (nI k) 1 c else j_X3_readPart_27 A B C x (nI p) (nI k) (iv_sgn t n p - 48) (wk_si c 30 3 (nI p + 1)) := fun A B C x => by
    unfold b_X3_readPart wk_let
    rw [hs.1, a3, hR.2.2.2.1]
    dsimp only [Option.bind]
  by_cases hd : p < n ∧ 50 ≤ t p ∧ t p ≤ 57
  · have hsg : iv_sgn t n p = nI (t p) := if_pos hd.1
    have hd1 : iv_dg t n p = true := by
      unfold iv_dg
      rw [decide_eq_true hd.1, decide_eq_true (by omega : 48 ≤ t p), decide_eq_true hd.2.2]
      rfl
    have hsub : nI (t p) - 48 = nI (t p - 48) := by
      rw [Int32.sub_eq_iff_eq_add]
      show _ = nI (t p - 48) + nI 48
      rw [nI_add]
      congr 1; omega
    rw [hsg, po_inK (A := 50) (B := 57) (a := 50) (b := 57) rfl rfl (by omega) (by decide) (by decide), decide_eq_true hd.2, if_pos rfl, hsub] at eT
    obtain ⟨M2, hM2⟩ : ∃ M2, M2 = wk_si (wk_si M 0 41 (nI (t p - 48))) 0 10 (nI (p + 1)) := ⟨_, rfl⟩
    have eM2 : wk_si (wk_si M 0 41 (nI (t p - 48))) 0 10 ((wk_si M 0 41 (nI (t p - 48))).1 0 10 + 1) = M2 := by
      rw [hM2, po_si_ne (by decide), hRM.2.2.2.2.1, nI_1]
    rw [eM2] at eT
    have N0 : ∀ b, b ≠ 10 → b ≠ 41 → M2.1 0 b = M.1 0 b := fun b h h1 => by rw [hM2, po_si_ne h, po_si_ne h1]
    have Na : ∀ a, a ≠ 0 → M2.1 a = M.1 a := fun a h => by rw [hM2]; exact funext (fun b => (po_si_c h).trans (po_si_c h))
    refine ⟨p + 1, t p - 48, wk_si c 30 3 (nI (p + 1)), M2, by omega, by omega, by omega, eT, fun A B C x => ?_, ?_, ?_, ?_, iv_qC_si, fun e => iv_qM_t (frM e) ?_⟩
    · rw [eP, hdg, hd1, if_neg (fun h => Bool.false_ne_true h.symm), hsg, if_neg (show ¬ nI (t p) < 50 from nI_nlt (a := t p) (b := 50) (by omega) (by omega)), hsub, nI_1]
    · refine iv_Q_r hQM (po_adv hRM hd.1 (po_si_ne (by decide)) po_si_at (funext (fun b => po_si_c (by decide))) ?_ (N0 11 (by decide) (by decide)) (Na 7 (by decide))) (po_si_ne (by decide)) rfl (N0 38 (by decide) (by decide)) ?_ (Na 23 (by decide))
      · rw [hM2]; exact po_si_at
      · rw [N0 39 (by decide) (by decide), M0 39 (by decide) (by decide)]; exact a5
    · rw [N0 40 (by decide) (by decide)]; exact M40
    · rw [hM2, po_si_ne (by decide)]; exact po_si_at
    · exact ⟨by rw [hM2]; rfl, fun a h _ _ _ _ => Na a h, fun b h _ _ _ _ h1 => N0 b h h1, fun i _ => ⟨by rw [Na 24 (by decide)], by rw [Na 25 (by decide)], by rw [Na 26 (by decide)]⟩⟩
  · have h1 : f_X12_in (iv_sgn t n p) 50 57 = false := by
      unfold iv_sgn
      by_cases hp : p < n
      · rw [if_pos hp, po_inK (A := 50) (B := 57) (a := 50) (b := 57) rfl rfl (hR.2.2.2.2.2.2 p hp).1 (by decide) (by decide)]
        exact decide_eq_false (fun h => hd ⟨hp, h⟩)
      · rw [if_neg hp]; rfl
    rw [h1, if_neg (by decide)] at eT
    refine ⟨p, 1, c, M, by omega, by omega, by omega, eT, fun A B C x => ?_, hQM, M40, M41, iv_qC_r, frM⟩
    rw [eP]
    by_cases hdd : f_X6_isDigit (iv_sgn t n p) = false
    · rw [if_pos hdd]; rfl
    · rw [if_neg hdd]
      rw [hdg] at hdd
      have hdd' : iv_dg t n p = true := by
        cases h : iv_dg t n p with
        | true => rfl
        | false => exact absurd h hdd
      obtain ⟨b1, b2, b3⟩ := iv_dg_p hdd'
      have hsg : iv_sgn t n p = nI (t p) := if_pos b1
      rw [hsg, if_pos (show nI (t p) < 50 from nI_lt (b := 50) (by omega) (by decide))]
      rfl
