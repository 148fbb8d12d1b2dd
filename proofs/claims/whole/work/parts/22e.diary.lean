/-! PURE: diary: all lines, the op -/
theorem po_readStep {x : Int32} {c : wk_St} (hx : ¬ x > 240) : S_X1_readDiary_2 (x, c) = Option.bind (iv_CL x c) fun v => if v.1 = false then j_X1_readDiary_31_l2 x 0 v.2 else Option.bind (f_X6_sign 32 v.2) fun v6 => if ¬ v6 = (-1 : Int32) then j_X1_readDiary_31_l2 x 1 v.2 else some (Sum.inl (Sum.inl (x, v.2))) := by
  unfold S_X1_readDiary_2 iv_CL
  dsimp only
  rw [if_neg hx]
  cases f_X1_readKnight x c with
  | none => rfl
  | some v1 =>
    dsimp only [Option.bind]
    by_cases h : v1.1 = -1
    · rw [if_pos h, if_pos h]
      show _ = (if (false : Bool) = false then j_X1_readDiary_31_l2 x 0 v1.2 else _)
      rw [if_pos rfl]
    · rw [if_neg h, if_neg h]
theorem po_passD {k0 n p : Nat} {t : Nat → Nat} {c m : wk_St} {z : Nat} (h : iv_RD k0 t n p c m) (hk7 : k0 ≠ 7) (hz : z < 256) :
    (iv_sgn t n p = nI z ∧ ∃ c2 m2, f_X6_pass k0 (nI z) c = some (true, c2) ∧ f_X12_takes (nI z) m = some (true, m2) ∧ c2 = wk_si c k0 3 (nI (p + 1)) ∧ m2 = wk_si m 0 10 (nI (p + 1)) ∧ iv_RD k0 t n (p + 1) c2 m2) ∨
    (¬ iv_sgn t n p = nI z ∧ f_X6_pass k0 (nI z) c = some (false, wk_si c k0 2 (f_X11_faultOf 1 (nI p))) ∧ f_X12_takes (nI z) m = some (false, wk_si m 0 12 (f_X11_faultOf 1 (nI p)))) := by
  have hs := po_sign h
  have h10 := h.2.2.2.2.1
  have hc3 := h.2.2.2.1
  unfold f_X6_pass f_X12_takes
  rw [hs.1, hs.2, h10, hc3]
  dsimp only [Option.bind]
  by_cases he : iv_sgn t n p = nI z
  · left
    obtain ⟨hp, _⟩ := po_sgnp h hz he
    rw [if_pos he, if_pos he, nI_1]
    exact ⟨he, _, _, rfl, rfl, rfl, rfl, po_adv h hp (po_si_ne (by decide)) po_si_at (funext (fun b => po_si_c (by omega))) po_si_at (po_si_ne (by decide)) (funext (fun b => po_si_c (by decide)))⟩
  · right
    rw [if_neg he, if_neg he]
    exact ⟨he, rfl, rfl⟩
theorem po_linesL {T w n : Nat} {N : Nat → Nat} {t : Nat → Nat} : ∀ d p l c m F G, n - p ≤ d → d + 1 < F → d + 2 < G → l ≤ 20 → iv_E T w N 18 c m → iv_RD 32 t n p c m → m.1 0 42 = nI l →
    ∃ r c2 m2 b, wk_loop S_X1_readDiary_2 F (nI (l + 1), c) = some (Sum.inl (r, c2)) ∧ (Option.bind (f_X12_readsLine m) fun v4 => wk_loop S_X12_diary_25 G (b2i v4.1, v4.2)) = some (b2i b, m2) ∧ iv_yC c c2 ∧ iv_yM m m2 ∧
      ((b = true ∧ ∃ l2, l2 ≤ 20 ∧ r = nI l2 ∧ m2.1 0 42 = nI l2 ∧ iv_E T w N 18 c2 m2) ∨ (b = false ∧ r < 0 ∧ m2.1 0 12 = r)) := by
  intro d
  induction d using Nat.strongRecOn with
  | _ d ih =>
    intro p l c m F G hd hF hG hl hE hR h42
    obtain ⟨F, rfl⟩ : ∃ z, F = z + 1 := ⟨F - 1, by omega⟩
    obtain ⟨G, rfl⟩ : ∃ z, G = z + 2 := ⟨G - 2, by omega⟩
    have hx : ¬ nI (l + 1) > 240 := nI_nlt (a := 240) (by omega) (by decide)
    have hn240 := hR.1
    have neg : ∀ f i, f < 10 → f ≠ 0 → i < 260 → f_X11_faultOf (nI f) (nI i) < 0 := fun f i h1 h2 h3 => by
      have := po_fa h1 h2 h3
      have h4 : ¬ (0 : Int32) ≤ f_X11_faultOf (nI f) (nI i) := this
      rw [Int32.le_iff_toInt_le] at h4
      rw [Int32.lt_iff_toInt_lt]
      omega
    obtain ⟨b, c2, m2, e1, e2, e3, e4, e5⟩ := po_lineR hE hR h42 hl
    have sC := po_readStep (c := c) hx
    rw [e1] at sC
    dsimp only [Option.bind] at sC
    rw [e2]
    dsimp only [Option.bind]
    rcases e5 with ⟨rfl, hl1, h42', p2, hp2, hR2, hE2⟩ | ⟨rfl, f, i, hf, hf0, hi, hc32, hm12⟩
    · rw [if_neg (by decide)] at sC
      have hs2 := po_sign hR2
      rw [hs2.1] at sC
      dsimp only at sC
      by_cases hend : p2 < n
      · -- more is to be read
        have hsne : ¬ iv_sgn t n p2 = -1 := by
          unfold iv_sgn
          rw [if_pos hend]
          exact po_m1 (by have := (hR2.2.2.2.2.2.2 p2 hend).1; omega)
        rw [if_pos hsne] at sC
        unfold j_X1_readDiary_31_l2 at sC
        rw [if_neg (show ¬ (1 : Int32) = 0 by decide)] at sC
        have sM : ∀ v : Option (Bool × wk_St), f_X12_takes 59 m2 = v → S_X12_diary_25 (b2i true, m2) = Option.bind v fun v5 => if v5.1 = false then some (Sum.inr ((0 : Int32), v5.2)) else Option.bind (f_X12_readsLine v5.2) fun v6 => if v6.1 = false then some (Sum.inr ((0 : Int32), v6.2)) else some (Sum.inr ((1 : Int32), v6.2)) := by
          intro v hv
          unfold S_X12_diary_25
          dsimp only
          rw [if_neg (show ¬ b2i true = 0 by decide), hR2.2.2.2.2.1, hR2.2.2.2.2.2.1, if_neg (nI_ge hend (by omega)), hv]
        rcases po_passD (z := 59) hR2 (by decide) (by decide) with ⟨_, c3, m3, q1, q2, q3, q4, hR3⟩ | ⟨_, q1, q2⟩
        · have q1' : f_X6_pass 32 59 c2 = some (true, c3) := q1
          rw [q1'] at sC
          dsimp only [Option.bind] at sC
          rw [if_pos rfl, nI_1] at sC
          have sM' := sM _ q2
          dsimp only [Option.bind] at sM'
          rw [if_neg (by decide)] at sM'
          have hE3 : iv_E T w N 18 c3 m3 := by
            rw [q3, q4]
            exact iv_E_y hE2 rfl (fun a h => funext (fun b => po_si_c h)) (fun a h => funext (fun b => po_si_c h)) (po_si_ne (by decide)) (po_si_ne (by decide)) (po_si_ne (by decide))
          have h423 : m3.1 0 42 = nI (l + 1) := by rw [q4, po_si_ne (by decide)]; exact h42'
          obtain ⟨r, c4, m4, b, k1, k2, k3, k4, k5⟩ := ih (n - (p2 + 1)) (by omega) (p2 + 1) (l + 1) c3 m3 F (G + 1) (Nat.le_refl _) (by omega) (by omega) hl1 hE3 hR3 h423
          have y3 : iv_yC c2 c3 := by rw [q3]; exact ⟨rfl, fun a _ h => funext (fun b => po_si_c h)⟩
          have z3 : iv_yM m2 m3 := by rw [q4]; exact ⟨rfl, fun a h _ => funext (fun b => po_si_c h), fun b h10 _ _ _ _ => po_si_ne h10⟩
          refine ⟨r, c4, m4, b, (wk_loopS sC).trans k1, ?_, iv_yC_t e3 (iv_yC_t y3 k3), iv_yM_t e4 (iv_yM_t z3 k4), k5⟩
          cases hv6 : f_X12_readsLine m3 with
          | none => rw [hv6] at k2; cases k2
          | some v6 =>
            rw [hv6] at k2 sM'
            dsimp only [Option.bind] at k2 sM'
            have sM2 : S_X12_diary_25 (b2i true, m2) = some (Sum.inr (b2i v6.1, v6.2)) := by
              rw [sM']
              cases v6.1 with
              | false => rw [if_pos rfl]; rfl
              | true => rw [if_neg (by decide)]; rfl
            exact (wk_loopS sM2).trans k2
        · have q1' : f_X6_pass 32 59 c2 = some (false, wk_si c2 32 2 (f_X11_faultOf 1 (nI p2))) := q1
          rw [q1'] at sC
          dsimp only [Option.bind] at sC
          rw [if_neg (by decide)] at sC
          unfold f_X6_answer at sC
          rw [if_pos rfl, po_si_at] at sC
          have sM' := sM _ q2
          dsimp only [Option.bind] at sM'
          rw [if_pos rfl] at sM'
          refine ⟨_, wk_si c2 32 2 (f_X11_faultOf 1 (nI p2)), wk_si m2 0 12 (f_X11_faultOf 1 (nI p2)), false, wk_loopI sC, (wk_loopS sM').trans (wk_loopI ?_), iv_yC_t e3 ⟨rfl, fun a _ h => funext (fun b => po_si_c h)⟩, iv_yM_t e4 ⟨rfl, fun a h _ => funext (fun b => po_si_c h), fun b _ _ h12 _ _ => po_si_ne h12⟩, Or.inr ⟨rfl, neg 1 p2 (by decide) (by decide) (by omega), po_si_at⟩⟩
          unfold S_X12_diary_25
          dsimp only
          rw [if_pos rfl]
          rfl
      · -- the end
        have hse : iv_sgn t n p2 = -1 := if_neg hend
        rw [hse, if_neg (by decide)] at sC
        refine ⟨nI (l + 1), c2, m2, true, wk_loopI sC, wk_loopI ?_, e3, e4, Or.inl ⟨rfl, l + 1, hl1, rfl, h42', hE2⟩⟩
        unfold S_X12_diary_25
        dsimp only
        have hp2n := hR2.2.1
        rw [if_neg (show ¬ b2i true = 0 by decide), hR2.2.2.2.2.1, hR2.2.2.2.2.2.1, if_pos (show nI p2 ≥ nI n from nI_le (by omega) (by omega))]
    · rw [if_pos rfl] at sC
      unfold j_X1_readDiary_31_l2 f_X6_answer at sC
      rw [if_pos rfl, if_pos rfl, hc32] at sC
      refine ⟨_, c2, m2, false, wk_loopI sC, wk_loopI ?_, e3, e4, Or.inr ⟨rfl, neg f i hf hf0 hi, hm12⟩⟩
      unfold S_X12_diary_25
      dsimp only
      rw [if_pos (by decide)]
/-- the text is laid out -/
theorem po_begin {k0 n j : Nat} {c m : wk_St} (hk : k0 ≠ 1 ∧ k0 ≠ 2 ∧ k0 + 1 ≠ 1 ∧ k0 + 1 ≠ 2) (hj : c.1 1 1 = nI j) (hj2 : j ≤ 260) (hn : n ≤ j) (hn240 : n ≤ 240) (hb : ∀ i, i < j → c.1 2 i = m.1 7 i &&& 255) :
    ∃ g, f_X6_begin k0 (nI n) c = some (wk_si (wk_si (iv_set (wk_si c k0 1 (nI n)) (k0 + 1) g) k0 3 0) k0 2 0) ∧ ∀ i, i < n → g i = nI (iv_o (m.1 7) i) := by
  obtain ⟨a, ea, g, rfl, hg⟩ := po_inv (f := S_X6_begin_5 k0 (nI n)) (fun i q => ∃ g, q = (nI i, iv_set (wk_si c k0 1 (nI n)) (k0 + 1) g) ∧ ∀ z, z < i → g z = nI (iv_o (m.1 7) z))
    (fun a => ∃ g, a = iv_set (wk_si c k0 1 (nI n)) (k0 + 1) g ∧ ∀ z, z < n → g z = nI (iv_o (m.1 7) z)) n (by
      rintro i q hi ⟨g, rfl, hg⟩
      have e2 : f_X8_byteAt (nI i) (iv_set (wk_si c k0 1 (nI n)) (k0 + 1) g) = some (nI (iv_o (m.1 7) i)) := by
        rw [po_byteAt (j := j) (b := c.1 2) ?_ hj2 (by omega) ?_, hb i (by omega), iv_o_e]
        · rw [iv_set_off (fun h => hk.2.2.1 h.symm), po_si_c (fun h => hk.1 h.symm)]; exact hj
        · exact funext (fun b => by rw [iv_set_off (fun h => hk.2.2.2 h.symm), po_si_c (fun h => hk.2.1 h.symm)])
      unfold S_X6_begin_5
      dsimp only
      rw [if_neg (nI_ge hi (by omega)), if_neg (show ¬ nI i ≥ 240 from nI_ge (b := 240) (by omega) (by decide)), e2]
      dsimp only [Option.bind]
      rw [if_pos (po_wkin (by omega) (by decide)), nI_clamp (by omega), iv_set_si, nI_1]
      refine ⟨_, rfl, _, rfl, fun z hz => ?_⟩
      by_cases hzi : z = i
      · rw [if_pos hzi, hzi]
      · rw [if_neg hzi]; exact hg z (by omega)) (by
      rintro q ⟨g, rfl, hg⟩
      unfold S_X6_begin_5
      dsimp only
      rw [if_pos (nI_le (Nat.le_refl n) (by omega))]
      exact ⟨_, rfl, g, rfl, hg⟩) (by omega) (p := ((0 : Int32), wk_si c k0 1 (nI n))) ⟨(wk_si c k0 1 (nI n)).1 (k0 + 1), by rw [iv_set_id]; rfl, fun z hz => by omega⟩
  refine ⟨g, ?_, hg⟩
  unfold f_X6_begin
  rw [ea]
  rfl
