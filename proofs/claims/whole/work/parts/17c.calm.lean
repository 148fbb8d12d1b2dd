/-! PURE: calm, safest -/
def iv_any (f : Nat → Bool) : Nat → Bool
  | 0 => false
  | n + 1 => iv_any f n || f n
def iv_li (K : Nat) (W : Nat → Int32) (k : Nat) : Bool := K.testBit k && !decide (W k = 2)
theorem po_livC {k0 K k : Nat} {c : wk_St} (hK : K < 512) (hc : c.1 k0 4 = nI K) (hk : k < 9) : f_X0_isLiving k0 (nI k) c = some (iv_li K (c.1 (k0 + 3)) k) := by
  unfold f_X0_isLiving iv_li
  rw [po_isToldB hK hc hk, po_kindOf hk]
  cases K.testBit k with
  | false => rfl
  | true =>
    dsimp only [Option.bind]
    rw [if_neg (by decide)]
    by_cases h : c.1 (k0 + 3) k = 2
    · rw [if_pos h, decide_eq_true h]; rfl
    · rw [if_neg h, decide_eq_false h]; rfl
theorem po_livM {T k0 K k : Nat} {c m : wk_St} (hK : K < 512) (hc : c.1 k0 4 = nI K) (hk9 : k < 9) (hk : ∀ k, k < 9 → iv_k T (K.testBit k) (c.1 (k0 + 1) k) (c.1 (k0 + 2) k) (c.1 (k0 + 3) k) (c.1 (k0 + 4) k) (m.1 1 k) (m.1 1 (9 + k)) (m.1 1 (18 + k)) (m.1 1 (27 + k)) (m.1 1 (36 + k))) : f_X12_isLiving (nI k) m = some (iv_li K (c.1 (k0 + 3)) k) := by
  have hkk := hk k hk9
  unfold f_X12_isLiving iv_li
  rcases po_kn (x := nI k) hK hc hk with ⟨c1, m1⟩ | ⟨c1, m1, k2, hk2, e2, hb2⟩
  · rw [po_isToldB hK hc hk9] at c1
    rw [m1, c1]
    rfl
  · have e3 : k2 = k := ((nI_eq (by omega) (by omega)).mp e2).symm
    subst e3
    rw [hb2] at hkk ⊢
    rw [m1]
    dsimp only [Option.bind]
    rw [if_neg (by decide), po_e27, if_pos (po_wkin (by omega) (by decide)), nI_clamp (by omega), (iv_k_t hkk).2.2.2.1]
    by_cases h : c.1 (k0 + 3) k2 = 2
    · rw [if_pos h, decide_eq_true h]; rfl
    · rw [if_neg h, decide_eq_false h]; rfl
/-- all days on which a living one is a wolf -/
def iv_lw (K : Nat) (W d : Nat → Int32) : Nat → Nat
  | 0 => 0
  | n + 1 => if iv_li K W n = true then iv_lw K W d n ||| (d n).toNatClampNeg else iv_lw K W d n
theorem iv_lw_any {K : Nat} {W d : Nat → Int32} {j : Nat} : ∀ n, (iv_lw K W d n).testBit j = iv_any (fun k => iv_li K W k && ((d k).toNatClampNeg).testBit j) n := by
  intro n
  induction n with
  | zero => unfold iv_lw iv_any; exact Nat.zero_testBit j
  | succ n ih =>
    unfold iv_lw iv_any
    rw [← ih]
    cases h : iv_li K W n with
    | false => simp
    | true => rw [if_pos rfl, Nat.testBit_or, Bool.true_and]
theorem iv_lw_lt {T K : Nat} {p d w l a : Nat → Int32} (hk : ∀ k, k < 9 → iv_k T (K.testBit k) (p k) (d k) (w k) (l k) (a k) (a (9 + k)) (a (18 + k)) (a (27 + k)) (a (36 + k))) : ∀ n, n ≤ 9 → iv_lw K w d n < 128 := by
  intro n
  induction n with
  | zero => intro _; exact (by decide : 0 < 128)
  | succ n ih =>
    intro hn
    unfold iv_lw
    by_cases h : iv_li K w n = true
    · rw [if_pos h]
      unfold iv_li at h
      rw [Bool.and_eq_true] at h
      have hh := hk n (by omega)
      rw [h.1] at hh
      obtain ⟨W, hW, e⟩ := (iv_k_t hh).2.2.2.2.2.2.1
      rw [e, nI_clamp (by omega)]
      exact Nat.or_lt_two_pow (n := 7) (ih (by omega)) hW
    · rw [if_neg h]; exact ih (by omega)
theorem po_lwd {T K : Nat} {c m : wk_St} (hK : K < 512) (hc : c.1 8 4 = nI K) (hk : ∀ k, k < 9 → iv_k T (K.testBit k) (c.1 9 k) (c.1 10 k) (c.1 11 k) (c.1 12 k) (m.1 1 k) (m.1 1 (9 + k)) (m.1 1 (18 + k)) (m.1 1 (27 + k)) (m.1 1 (36 + k))) : f_X0_livingWolfDays c = some (nI (iv_lw K (c.1 11) (c.1 10) 9)) := by
  have e : wk_loop (S_X0_livingWolfDays_4 c) wk_F ((0 : Int32), (0 : Int32)) = some (nI (iv_lw K (c.1 11) (c.1 10) 9)) := by
    refine po_for (fun i => (nI (iv_lw K (c.1 11) (c.1 10) i), nI i)) 9 rfl ?_ ?_ (by decide)
    · intro j hj
      have hlt := iv_lw_lt hk j (by omega)
      unfold S_X0_livingWolfDays_4 wk_let
      dsimp only
      rw [if_neg (po_n9 hj), nI_1, po_livC hK hc hj, po_or0 (by omega)]
      dsimp only [Option.bind]
      show _ = some (Sum.inr (nI (if iv_li K (c.1 11) j = true then iv_lw K (c.1 11) (c.1 10) j ||| (c.1 10 j).toNatClampNeg else iv_lw K (c.1 11) (c.1 10) j), nI (j + 1)))
      cases h : iv_li K (c.1 11) j with
      | false => rw [if_pos rfl, if_neg Bool.false_ne_true]
      | true =>
        have h2 := h
        unfold iv_li at h2
        rw [Bool.and_eq_true] at h2
        have hh := hk j hj
        rw [h2.1] at hh
        obtain ⟨W, hW, e⟩ := (iv_k_t hh).2.2.2.2.2.2.1
        rw [if_neg (by decide), if_pos (po_wkin hj (by decide)), nI_clamp (by omega), e, po_or (by omega) (by omega), if_pos rfl, nI_clamp (by omega)]
    · unfold S_X0_livingWolfDays_4
      dsimp only
      rw [if_pos (by decide)]
  unfold f_X0_livingWolfDays
  rw [e]
  rfl
theorem po_calm25 {T w K D t : Nat} {c m : wk_St} {x1 x2 x3 x4 : Int32} (hK : K < 512) (hc : c.1 8 4 = nI K) (hk : ∀ k, k < 9 → iv_k T (K.testBit k) (c.1 9 k) (c.1 10 k) (c.1 11 k) (c.1 12 k) (m.1 1 k) (m.1 1 (9 + k)) (m.1 1 (18 + k)) (m.1 1 (27 + k)) (m.1 1 (36 + k))) (hw : m.1 0 5 = nI w) (hD : m.1 1 45 = nI D) (hd : D + t + w < 2 ^ 31) :
    wk_loop (S_X12_calm_25 x1 x2 x3 x4 (nI t) m) wk_F ((0 : Int32), (0 : Int32)) = some (b2i (iv_any (fun k => iv_li K (c.1 11) k && ((c.1 10 k).toNatClampNeg).testBit ((D + t + w) % 7)) 9)) := by
  refine po_for (fun i => (b2i (iv_any (fun k => iv_li K (c.1 11) k && ((c.1 10 k).toNatClampNeg).testBit ((D + t + w) % 7)) i), nI i)) 9 rfl ?_ ?_ (by decide)
  · intro j hj
    show S_X12_calm_25 x1 x2 x3 x4 (nI t) m (b2i (iv_any (fun k => iv_li K (c.1 11) k && ((c.1 10 k).toNatClampNeg).testBit ((D + t + w) % 7)) j), nI j) = some (Sum.inr (b2i (iv_any (fun k => iv_li K (c.1 11) k && ((c.1 10 k).toNatClampNeg).testBit ((D + t + w) % 7)) j || (iv_li K (c.1 11) j && ((c.1 10 j).toNatClampNeg).testBit ((D + t + w) % 7))), nI (j + 1)))
    unfold S_X12_calm_25
    dsimp only
    rw [if_neg (po_n9 hj), nI_1]
    cases hA : iv_any (fun k => iv_li K (c.1 11) k && ((c.1 10 k).toNatClampNeg).testBit ((D + t + w) % 7)) j with
    | true => rw [if_pos (by decide)]; rfl
    | false =>
      have hm := po_livM (k0 := 8) hK hc hj hk
      rw [if_neg (by decide), hm]
      dsimp only [Option.bind]
      cases hl : iv_li K (c.1 11) j with
      | false =>
        rw [if_pos rfl]; rfl
      | true =>
        have h2 := hl
        unfold iv_li at h2
        rw [Bool.and_eq_true] at h2
        have hh := hk j hj
        rw [h2.1] at hh
        obtain ⟨W, hW, e⟩ := (iv_k_t hh).2.2.2.2.2.2.1
        rw [if_neg (by decide), po_e9, if_pos (po_wkin (by omega) (by decide)), nI_clamp (by omega), (iv_k_t hh).2.1, e, po_wdM hw hD hd, po_hasM (by omega) (by omega), nI_clamp (by omega)]
        cases W.testBit ((D + t + w) % 7) <;> rfl
  · unfold S_X12_calm_25
    dsimp only
    rw [if_pos (by decide)]
theorem po_op_17 : lw_op_17 iv_I := by
  intro a0 a1 σC σM hI
  have hI2 := hI
  obtain ⟨T, w, N, hT, hF, hH, ⟨K, D, X, h1, h2, h3, h4, h5, h6, h7, h8, h9⟩, hK, hL⟩ := hI
  obtain ⟨f1, f2, f3, f4, f5, f6, f7, f8, f9, f10⟩ := hF
  have go : ∀ r, f_X11_calm a0 a1 σC = some r → f_X12_calm a0 a1 σM = some r → ∃ (r : Int32) (σC2 σM2 : wk_St), wk_T wk_shC 200 18 [.ref 0, .int a0, .int a1] σC (some (.int r), σC2) ∧ wk_T wk_shM 200 117 [.ref 0, .int a0, .int a1] σM (some (.int r), σM2) ∧ iv_I σC2 σM2 := fun r e1 e2 => ⟨r, σC, σM, (t_X11_calm e1).up (by decide), (t_X12_calm e2).up (by decide), hI2⟩
  unfold f_X11_calm f_X12_calm at go
  rw [po_W] at go
  cases hin : f_X12_in a0 1 240 with
  | false =>
    rw [hin] at go
    exact go (-1) rfl rfl
  | true =>
    cases hin2 : f_X12_in a1 0 1 with
    | false =>
      rw [hin, hin2] at go
      exact go (-1) rfl rfl
    | true =>
      obtain ⟨n, n1, n2, rfl⟩ := po_inA (a := 1) (b := 240) rfl rfl hin
      have hlt := iv_lw_lt h9 9 (by decide)
      obtain ⟨⟨m1, e1⟩, b, q1, q2, q3⟩ := po_rel (f := S_X11_calm_22 (nI n) a1 (nI (iv_lw K (σC.1 11) (σC.1 10) 9)) σC) (g := S_X12_calm_18 (nI n) a1 σM)
        (fun i p q => ∃ a : Nat, ∃ f : Int32, a ≤ i ∧ p = (nI a, f, nI i) ∧ q = (nI a, f, nI i) ∧ ((a = 0 ∧ f = -2) ∨ (0 < a ∧ ∃ z : Nat, z < 240 ∧ f = nI z))) (fun a b => a = b) n (by
          rintro i p q hi ⟨a, f, hai, rfl, rfl, hf⟩
          unfold S_X11_calm_22 S_X12_calm_18 wk_let
          dsimp only
          rw [if_neg (nI_ge hi (by omega)), if_neg (nI_ge hi (by omega)), h5, nI_add, po_wdC f4 (by omega), po_calm25 h1 h4 h9 f6 h6 (by omega)]
          dsimp only [Option.bind]
          rw [po_hasC (by omega) (by omega), iv_lw_any, nI_1]
          cases hA : iv_any (fun k => iv_li K (σC.1 11) k && ((σC.1 10 k).toNatClampNeg).testBit ((D + i + w) % 7)) 9 with
          | true =>
            rw [if_pos rfl, if_neg (by decide)]
            exact ⟨_, _, rfl, rfl, a, f, by omega, rfl, rfl, hf⟩
          | false =>
            rw [if_neg Bool.false_ne_true, nI_1]
            rcases hf with ⟨h0, hf⟩ | ⟨h0, z, hz, hf⟩
            · subst h0 hf
              rw [if_neg (show ¬ ¬ nI 0 = 0 by decide), if_pos (show b2i false = 0 by decide), if_neg (show ¬ ¬ (-2 : Int32) = -2 by decide)]
              exact ⟨_, _, rfl, rfl, 1, nI i, by omega, rfl, rfl, Or.inr ⟨by omega, i, by omega, rfl⟩⟩
            · subst hf
              have hne : ¬ nI z = (-2 : Int32) := fun e => nI_pos (n := z) (by omega) (by rw [e]; decide)
              have hne0 : ¬ nI a = 0 := po_nIne (b := 0) (by omega) (by decide) (by omega)
              rw [if_pos hne0, if_pos (show b2i false = 0 by decide), if_pos hne]
              exact ⟨_, _, rfl, rfl, a + 1, nI z, by omega, rfl, rfl, Or.inr ⟨by omega, z, hz, rfl⟩⟩) (by
          rintro p q ⟨a, f, hai, rfl, rfl, hf⟩
          unfold S_X11_calm_22 S_X12_calm_18
          dsimp only
          rw [if_pos (nI_le (Nat.le_refl n) (by omega)), if_pos (nI_le (Nat.le_refl n) (by omega))]
          exact ⟨_, _, rfl, rfl, rfl⟩) (by omega) (p := ((0 : Int32), (-2 : Int32), (0 : Int32))) (q := ((0 : Int32), (-2 : Int32), (0 : Int32))) ⟨0, -2, by omega, rfl, rfl, Or.inl ⟨rfl, rfl⟩⟩
      subst q3
      rw [hin, hin2, po_lwd h1 h4 h9] at go
      dsimp only [Option.bind] at go
      rw [q1, q2] at go
      by_cases hz : a1 = 0
      · subst hz
        exact go _ rfl rfl
      · refine go e1 ?_ ?_
        · rw [if_neg (by decide), if_pos rfl]
          dsimp only
          rw [if_pos hz]
        · rw [if_neg (by decide), if_pos rfl]
          dsimp only
          rw [if_pos hz]
