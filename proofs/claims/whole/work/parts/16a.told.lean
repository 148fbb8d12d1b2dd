/-! PURE: what is told: place, next, first, seed, knight -/
theorem po_si_c {s : wk_St} {c j a b : Nat} {x : Int32} (h : a ≠ c) : (wk_si s c j x).1 a b = s.1 a b := if_neg (fun k => h k.1)
theorem po_inN {x b : Int32} {n : Nat} (hb : b.toInt = n) (h : f_X12_in x 0 b = true) : ∃ p, p ≤ n ∧ x = nI p := by
  obtain ⟨p, hp, e⟩ := nI_of2 (M := b) (n := n) hb (po_in h).1 (po_le (po_in h).2)
  exact ⟨p, hp, e⟩
theorem po_inT {p n : Nat} {b : Int32} (hb : b.toInt = n) (h : p ≤ n) : f_X12_in (nI p) 0 b = true := by
  have hn : n < 2 ^ 31 := by
    have := Int32.toInt_lt b
    omega
  have e : b = nI n := Int32.toInt_inj.mp (by rw [hb, nI_toInt hn])
  unfold f_X12_in
  rw [if_neg (nI_pos (by omega)), e]
  exact if_neg (nI_nlt (a := n) (b := p) h hn)
theorem po_told {T : Nat} {c m : wk_St} {x : Int32} (hT : T < 4096) (hc : c.1 3 4 = nI T) (hm : m.1 0 4 = nI T) :
    (f_X2_isTold x c = false ∧ f_X12_isPlace x m = false) ∨ (f_X2_isTold x c = true ∧ f_X12_isPlace x m = true ∧ ∃ p, p < 12 ∧ x = nI p ∧ T.testBit p = true) := by
  unfold f_X2_isTold f_X12_isPlace
  rw [hc, hm]
  cases hin : f_X12_in x 0 11 with
  | false =>
    left
    refine ⟨?_, by rw [if_pos rfl]⟩
    by_cases h12 : x ≥ 12
    · rw [if_pos h12]
    · rw [if_neg h12]
      have h0 : x < 0 := by
        unfold f_X12_in at hin
        by_cases h0 : x < 0
        · exact h0
        · rw [if_neg h0] at hin
          by_cases h11 : x > 11
          · exfalso
            refine h12 ?_
            show (12 : Int32) ≤ x
            have h11 : (11 : Int32) < x := h11
            rw [Int32.lt_iff_toInt_lt] at h11
            rw [Int32.le_iff_toInt_le]
            have e1 : (11 : Int32).toInt = 11 := rfl
            have e2 : (12 : Int32).toInt = 12 := rfl
            omega
          · rw [if_neg h11] at hin; cases hin
      unfold f_X11_hasBit
      rw [if_pos h0]
      rfl
  | true =>
    obtain ⟨p, hp, rfl⟩ := po_inN (n := 11) rfl hin
    rw [if_neg (show ¬ nI p ≥ 12 from nI_ge (a := p) (b := 12) (by omega) (by decide)), po_hasC (by omega) (by omega), po_hasM (by omega) (by omega)]
    cases hb : T.testBit p with
    | false => left; simp
    | true => right; exact ⟨by simp, by simp, p, by omega, rfl, hb⟩
theorem po_toldF {T w : Nat} {N : Nat → Nat} {c m : wk_St} {x : Int32} (hF : iv_F T w N (c.1 3 4) (c.1 3 5) (c.1 4) (c.1 5) (m.1 0 4) (m.1 0 5) (m.1 4)) :
    (f_X2_isTold x c = false ∧ f_X12_isPlace x m = false) ∨ (f_X2_isTold x c = true ∧ f_X12_isPlace x m = true ∧ ∃ p, p < 12 ∧ x = nI p ∧ T.testBit p = true) := po_told hF.1 hF.2.2.1 hF.2.2.2.2.1
theorem po_op_0 : lw_op_0 iv_I := by
  intro a0 σC σM hI
  cases hin : f_X12_in a0 0 11 with
  | false => exact ⟨b2i false, σC, σM, (t_X11_place (r := (false, σC)) (by unfold f_X11_place f_X2_tell; rw [po_W, hin]; rfl)).up (by decide), (t_X12_place (r := (false, σM)) (by unfold f_X12_place; rw [hin]; rfl)).up (by decide), hI⟩
  | true =>
    obtain ⟨p, hp, rfl⟩ := po_inN (n := 11) rfl hin
    obtain ⟨T, w, N, hT, hF, hH, hR, hK, hL⟩ := hI
    obtain ⟨f1, f2, f3, f4, f5, f6, f7, f8, f9, f10⟩ := hF
    have h2 : 2 ^ p < 2 ^ 12 := Nat.pow_lt_pow_right (by decide) (by omega)
    have hT2 : T ||| 2 ^ p < 4096 := Nat.or_lt_two_pow (n := 12) f1 h2
    have hmono : ∀ q, T.testBit q = true → (T ||| 2 ^ p).testBit q = true := fun q h => by rw [po_setB, h]; rfl
    have eC : f_X11_place (nI p) σC = some (true, iv_set (wk_si σC 3 4 (nI (T ||| 2 ^ p))) 5 (fun b => if b < 144 then nI (iv_dk N ((T ||| 2 ^ p) &&& 2 ^ (b / 12)) 11 (b % 12)) else σC.1 5 b)) := by
      unfold f_X11_place f_X2_tell
      rw [po_W, hin, if_pos rfl, f3, po_bit (by omega), po_or (by omega) (by omega), po_reckon (s := wk_si σC 3 4 (nI (T ||| 2 ^ p))) (N := N) (T := T ||| 2 ^ p) hT2 rfl (fun r hr => f7 r hr)]
      rfl
    have eM : f_X12_place (nI p) σM = (true, wk_si σM 0 4 (nI (T ||| 2 ^ p))) := by
      unfold f_X12_place
      rw [hin, if_pos rfl, f5, po_bit (by omega), po_or (by omega) (by omega)]
    refine ⟨b2i true, _, _, (t_X11_place eC).up (by decide), (t_X12_place eM).up (by decide), T ||| 2 ^ p, w, N, hT, ⟨hT2, f2, rfl, f4, rfl, f6, f7, f8, ?_, ?_⟩, hH, iv_R_mono hmono hR, iv_K_mono hmono hK, hL⟩
    · intro a b ha hb h
      have := f9 a b ha hb h
      exact ⟨this.1, this.2.1, hmono _ this.2.2⟩
    · intro a b ha hb _
      rw [← iv_st_dk]
      show (if 12 * a + b < 144 then nI (iv_dk N ((T ||| 2 ^ p) &&& 2 ^ ((12 * a + b) / 12)) 11 ((12 * a + b) % 12)) else _) = _
      rw [if_pos (by omega), show (12 * a + b) / 12 = a by omega, show (12 * a + b) % 12 = b by omega]
theorem po_op_3 : lw_op_3 iv_I := by
  intro a0 σC σM hI
  cases hin : f_X12_in a0 0 6 with
  | false => exact ⟨b2i false, σC, σM, (t_X11_first (r := (false, σC)) (by unfold f_X11_first f_X2_beginWeekOn; rw [po_W, hin]; rfl)).up (by decide), (t_X12_first (r := (false, σM)) (by unfold f_X12_first; rw [hin]; rfl)).up (by decide), hI⟩
  | true =>
    obtain ⟨p, hp, rfl⟩ := po_inN (n := 6) rfl hin
    obtain ⟨T, w, N, hT, ⟨f1, f2, f3, f4, f5, f6, f7, f8, f9, f10⟩, hH, hR, hK, hL⟩ := hI
    have eC : f_X11_first (nI p) σC = (true, wk_si σC 3 5 (nI p)) := by
      unfold f_X11_first f_X2_beginWeekOn wk_let
      rw [po_W, hin, if_pos rfl]
    have eM : f_X12_first (nI p) σM = (true, wk_si σM 0 5 (nI p)) := by
      unfold f_X12_first
      rw [hin, if_pos rfl]
    exact ⟨b2i true, _, _, (t_X11_first eC).up (by decide), (t_X12_first eM).up (by decide), T, p, N, hT, ⟨f1, by omega, f3, rfl, f5, rfl, f7, f8, f9, f10⟩, hH, hR, hK, hL⟩
theorem po_op_30 : lw_op_30 iv_I := by
  intro a0 σC σM hI
  cases hin : f_X12_in a0 0 65535 with
  | false => exact ⟨b2i false, σC, σM, (t_X11_seed (r := (false, σC)) (by unfold f_X11_seed; rw [po_W, hin]; rfl)).up (by decide), (t_X12_seed (r := (false, σM)) (by unfold f_X12_seed; rw [hin]; rfl)).up (by decide), hI⟩
  | true =>
    obtain ⟨p, hp, rfl⟩ := po_inN (n := 65535) rfl hin
    obtain ⟨T, w, N, hT, hF, hH, ⟨K, D, X, h1, h2, h3, h4, h5, h6, h7, h8, h9⟩, hK, hL⟩ := hI
    have eC : f_X11_seed (nI p) σC = (true, wk_si σC 8 6 (nI p)) := by
      unfold f_X11_seed
      rw [po_W, hin, if_pos rfl]
    have eM : f_X12_seed (nI p) σM = (true, wk_si σM 1 46 (nI p)) := by
      unfold f_X12_seed
      rw [hin, if_pos rfl]
    refine ⟨b2i true, _, _, (t_X11_seed eC).up (by decide), (t_X12_seed eM).up (by decide), T, w, N, hT, hF, hH, ⟨K, D, p, h1, h2, by omega, h4, h5, h6, rfl, rfl, ?_⟩, hK, hL⟩
    intro k hk
    have e : ∀ b, b ≠ 46 → (wk_si σM 1 46 (nI p)).1 1 b = σM.1 1 b := fun b hb => by
      unfold wk_si
      dsimp only
      rw [if_neg (fun h => hb h.2)]
    rw [e _ (by omega), e _ (by omega), e _ (by omega), e _ (by omega), e _ (by omega)]
    exact h9 k hk
