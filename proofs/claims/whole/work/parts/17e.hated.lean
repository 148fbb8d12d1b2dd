/-! PURE: hated -/
def iv_o (h : Nat → Int32) (i : Nat) : Nat := (h i).toBitVec.toNat % 256
theorem iv_o_lt {h : Nat → Int32} {i : Nat} : iv_o h i < 256 := Nat.mod_lt _ (by decide)
theorem iv_o_e {h : Nat → Int32} {i : Nat} : h i &&& 255 = nI (iv_o h i) := pk_and (h i) 8 (by decide)
def iv_pr (h : Nat → Int32) (i : Nat) : Nat := 256 * iv_o h (2 * i) + iv_o h (2 * i + 1)
theorem iv_pr_lt {h : Nat → Int32} {i : Nat} : iv_pr h i < 65536 := by
  have h1 := iv_o_lt (h := h) (i := 2 * i)
  have h2 := iv_o_lt (h := h) (i := 2 * i + 1)
  unfold iv_pr
  omega
theorem po_pairC {c : wk_St} {j i : Nat} {h : Nat → Int32} (hj : c.1 1 1 = nI j) (hj2 : j ≤ 260) (hi : 2 * i + 1 < j) (hb : ∀ i, i < j → c.1 2 i = h i &&& 255) : f_X8_pairAt (nI i) c = some (nI (iv_pr h i)) := by
  have e2 : (2 : Int32) * nI i = nI (2 * i) := pk_mul 2 i
  have l1 := iv_o_lt (h := h) (i := 2 * i)
  have l2 := iv_o_lt (h := h) (i := 2 * i + 1)
  unfold f_X8_pairAt
  rw [e2, nI_1, po_byteAt hj hj2 (by omega) rfl, po_byteAt hj hj2 hi rfl, hb _ (by omega), hb _ hi, iv_o_e, iv_o_e]
  dsimp only [Option.bind]
  have e3 : nI (iv_o h (2 * i)) <<< ((8 : Int32) &&& 31) = nI (iv_o h (2 * i) * 2 ^ 8) := pk_shlN ((8 : Int32) &&& 31) 8 (by decide) (by omega)
  have e4 : iv_o h (2 * i) * 2 ^ 8 ||| iv_o h (2 * i + 1) = iv_pr h i := by
    have := Nat.two_pow_add_eq_or_of_lt (i := 8) (b := iv_o h (2 * i + 1)) (by omega) (iv_o h (2 * i))
    unfold iv_pr
    rw [Nat.mul_comm (iv_o h (2 * i))]
    exact this.symm
  rw [e3, po_or (by omega) (by omega), e4]
theorem po_pairM {m : wk_St} {i : Nat} (hi : 2 * i + 1 < 260) : f_X12_twoOctets (nI (2 * i)) m = some (nI (iv_pr (m.1 7) i)) := by
  unfold f_X12_twoOctets
  rw [nI_1, po_octet (by omega), po_octet hi, iv_o_e, iv_o_e]
  dsimp only [Option.bind]
  have e3 : (256 : Int32) * nI (iv_o (m.1 7) (2 * i)) = nI (256 * iv_o (m.1 7) (2 * i)) := pk_mul 256 _
  rw [e3, nI_add]
  rfl
theorem po_all2 {f g : Int32 → Option ((Bool ⊕ Unit) ⊕ Int32)} {good : Nat → Bool} {n : Nat} (hf : ∀ i, i < n → f (nI i) = if good i = true then some (Sum.inr (nI (i + 1))) else some (Sum.inl (Sum.inl false))) (hg : ∀ i, i < n → g (nI i) = if good i = true then some (Sum.inr (nI (i + 1))) else some (Sum.inl (Sum.inl false))) (hf2 : f (nI n) = some (Sum.inl (Sum.inr ()))) (hg2 : g (nI n) = some (Sum.inl (Sum.inr ()))) (hn : n < 4096) :
    ∃ r : Bool, wk_loop f wk_F (0 : Int32) = some (if r = true then Sum.inr () else Sum.inl false) ∧ wk_loop g wk_F (0 : Int32) = some (if r = true then Sum.inr () else Sum.inl false) := by
  have key : ∀ d i F, i + d = n → d < F → ∃ r : Bool, wk_loop f F (nI i) = some (if r = true then Sum.inr () else Sum.inl false) ∧ wk_loop g F (nI i) = some (if r = true then Sum.inr () else Sum.inl false) := by
    intro d
    induction d with
    | zero =>
      intro i F hi hF
      obtain ⟨F, rfl⟩ : ∃ f, F = f + 1 := ⟨F - 1, by omega⟩
      have e : i = n := by omega
      subst e
      exact ⟨true, wk_loopI hf2, wk_loopI hg2⟩
    | succ d ih =>
      intro i F hi hF
      obtain ⟨F, rfl⟩ : ∃ f, F = f + 1 := ⟨F - 1, by omega⟩
      have h1 := hf i (by omega)
      have h2 := hg i (by omega)
      cases hgd : good i with
      | true =>
        rw [hgd, if_pos rfl] at h1 h2
        obtain ⟨r, k1, k2⟩ := ih (i + 1) F (by omega) (by omega)
        exact ⟨r, (wk_loopS h1).trans k1, (wk_loopS h2).trans k2⟩
      | false =>
        rw [hgd, if_neg (by decide)] at h1 h2
        exact ⟨false, wk_loopI h1, wk_loopI h2⟩
  exact key n 0 wk_F (by omega) hn
theorem po_two {x a b : Nat} : x &&& (2 ^ a ||| 2 ^ b) = 0 ↔ (x.testBit a || x.testBit b) = false := by
  constructor
  · intro h
    have h1 : ∀ q, (x &&& (2 ^ a ||| 2 ^ b)).testBit q = false := fun q => by rw [h, Nat.zero_testBit]
    have ha := h1 a
    have hb := h1 b
    rw [Nat.testBit_and, Nat.testBit_or, Nat.testBit_two_pow, Nat.testBit_two_pow] at ha hb
    simp at ha hb
    rw [ha, hb]; rfl
  · intro h
    rw [Bool.or_eq_false_iff] at h
    refine Nat.eq_of_testBit_eq (fun q => ?_)
    rw [Nat.testBit_and, Nat.testBit_or, Nat.testBit_two_pow, Nat.testBit_two_pow, Nat.zero_testBit]
    by_cases ha : a = q
    · subst ha; rw [h.1]; rfl
    · by_cases hb : b = q
      · subst hb; rw [h.2]; rfl
      · rw [decide_eq_false ha, decide_eq_false hb]; simp
theorem po_hate {c m : wk_St} {j n a b : Nat} (hj : c.1 1 1 = nI j) (hj2 : j ≤ 260) (hn : 2 * n ≤ j) (hn16 : n ≤ 16) (hb : ∀ i, i < j → c.1 2 i = m.1 7 i &&& 255) (ha12 : a < 12) (hb12 : b < 12) :
    ∃ r : Bool, f_X11_canBeHated (((1 : Int32) <<< (nI a &&& 31)) ||| ((1 : Int32) <<< (nI b &&& 31))) (nI n) c = some r ∧ f_X12_isHated (nI n) (nI a) (nI b) m = some r := by
  have h2a : 2 ^ a < 2 ^ 12 := Nat.pow_lt_pow_right (by decide) ha12
  have h2b : 2 ^ b < 2 ^ 12 := Nat.pow_lt_pow_right (by decide) hb12
  have h2 : 2 ^ a ||| 2 ^ b < 2 ^ 12 := Nat.or_lt_two_pow h2a h2b
  obtain ⟨r, e1, e2⟩ := po_all2 (n := n) (f := S_X11_canBeHated_2 (nI (2 ^ a ||| 2 ^ b)) (nI n) c) (g := S_X12_isHated_2 (nI n) (nI a) (nI b) m)
    (good := fun i => ((iv_pr (m.1 7) i).testBit a || (iv_pr (m.1 7) i).testBit b) == (iv_pr (m.1 7) i).testBit 15) (by
      intro i hi
      have hlt := iv_pr_lt (h := m.1 7) (i := i)
      have h15 : f_X11_hasBit (nI (iv_pr (m.1 7) i)) 15 = (iv_pr (m.1 7) i).testBit 15 := po_hasC (k := 15) (by omega) (by decide)
      have hand : iv_pr (m.1 7) i &&& (2 ^ a ||| 2 ^ b) < 2 ^ 31 := Nat.lt_of_le_of_lt Nat.and_le_left (by omega)
      unfold S_X11_canBeHated_2
      rw [if_neg (nI_ge hi (by omega)), po_pairC hj hj2 (by omega) hb]
      dsimp only [Option.bind]
      rw [po_and (by omega) (by omega), h15, nI_1]
      cases ht : ((iv_pr (m.1 7) i).testBit a || (iv_pr (m.1 7) i).testBit b) with
      | false =>
        have hz := po_two.mpr ht
        rw [hz, if_pos (by decide)]
        cases (iv_pr (m.1 7) i).testBit 15 <;> rfl
      | true =>
        have hz : ¬ nI (iv_pr (m.1 7) i &&& (2 ^ a ||| 2 ^ b)) = 0 := by
          refine po_nIne (b := 0) hand (by decide) (fun h => ?_)
          have := po_two.mp h
          rw [ht] at this; cases this
        rw [if_neg hz]
        cases (iv_pr (m.1 7) i).testBit 15 <;> rfl) (by
      intro i hi
      have hlt := iv_pr_lt (h := m.1 7) (i := i)
      have h15 : f_X12_has (nI (iv_pr (m.1 7) i)) 15 = (iv_pr (m.1 7) i).testBit 15 := po_hasM (k := 15) (by omega) (by decide)
      have e2 : (2 : Int32) * nI i = nI (2 * i) := pk_mul 2 i
      unfold S_X12_isHated_2
      rw [if_neg (nI_ge hi (by omega)), e2, po_pairM (by omega)]
      dsimp only [Option.bind]
      rw [po_hasM (by omega) (by omega), po_hasM (by omega) (by omega), h15, nI_1]
      cases (iv_pr (m.1 7) i).testBit a <;> cases (iv_pr (m.1 7) i).testBit b <;> cases (iv_pr (m.1 7) i).testBit 15 <;> rfl) (by
      unfold S_X11_canBeHated_2
      rw [if_pos (nI_le (Nat.le_refl n) (by omega))]) (by
      unfold S_X12_isHated_2
      rw [if_pos (nI_le (Nat.le_refl n) (by omega))]) (by omega)
  refine ⟨r, ?_, ?_⟩
  · unfold f_X11_canBeHated
    rw [po_bit (by omega), po_bit (by omega), po_or (by omega) (by omega), e1]
    cases r <;> rfl
  · unfold f_X12_isHated
    rw [e2]
    cases r <;> rfl
def iv_ht (p q : Int32 × Int32 × Int32 × wk_St) (c m : wk_St) : Prop := ∃ a : Nat, ∃ f g : Int32, a ≤ 144 ∧ p = (nI a, f, g, c) ∧ q = (nI a, f, g, m) ∧ ((a = 0 ∧ f = -2 ∧ g = -2) ∨ (0 < a ∧ ∃ z : Nat, z < 12 ∧ f = nI z))
theorem po_hate36 {c m : wk_St} {j n a : Nat} {x2 y2 : Int32} (hj : c.1 1 1 = nI j) (hj2 : j ≤ 260) (hn : 2 * n ≤ j) (hn16 : n ≤ 16) (hb : ∀ i, i < j → c.1 2 i = m.1 7 i &&& 255) (ha12 : a < 12) {N0 : Nat} {f0 g0 : Int32} (hN0 : N0 ≤ 12 * a) (h0 : (N0 = 0 ∧ f0 = -2 ∧ g0 = -2) ∨ (0 < N0 ∧ ∃ z : Nat, z < 12 ∧ f0 = nI z)) :
    ∃ N1 f1 g1, wk_loop (S_X11_hated_36 (nI n) x2 (nI a)) wk_F (nI N0, f0, g0, nI (a + 1), c) = some (nI N1, f1, g1, c) ∧ wk_loop (S_X12_hated_36 (nI n) y2 (nI a)) wk_F (nI N0, f0, g0, nI (a + 1), m) = some (nI N1, f1, g1, m) ∧ N1 ≤ 12 * (a + 1) ∧ ((N1 = 0 ∧ f1 = -2 ∧ g1 = -2) ∨ (0 < N1 ∧ ∃ z : Nat, z < 12 ∧ f1 = nI z)) := by
  have e11 : a + 1 + (11 - a) = 12 := by omega
  have e12 : N0 + (11 - a) ≤ 12 * (a + 1) := by omega
  obtain ⟨p, q, e1, e2, N1, f1, g1, hN1, rfl, rfl, h1⟩ := po_rel (f := S_X11_hated_36 (nI n) x2 (nI a)) (g := S_X12_hated_36 (nI n) y2 (nI a))
    (fun i p q => ∃ N1 f1 g1, N1 ≤ N0 + i ∧ p = (nI N1, f1, g1, nI (a + 1 + i), c) ∧ q = (nI N1, f1, g1, nI (a + 1 + i), m) ∧ ((N1 = 0 ∧ f1 = -2 ∧ g1 = -2) ∨ (0 < N1 ∧ ∃ z : Nat, z < 12 ∧ f1 = nI z)))
    (fun p q => ∃ N1 f1 g1, N1 ≤ 12 * (a + 1) ∧ p = (nI N1, f1, g1, c) ∧ q = (nI N1, f1, g1, m) ∧ ((N1 = 0 ∧ f1 = -2 ∧ g1 = -2) ∨ (0 < N1 ∧ ∃ z : Nat, z < 12 ∧ f1 = nI z))) (11 - a) (by
      rintro i p q hi ⟨N1, f1, g1, hN1, rfl, rfl, h1⟩
      obtain ⟨r, k1, k2⟩ := po_hate (a := a) (b := a + 1 + i) hj hj2 hn hn16 hb ha12 (by omega)
      unfold S_X11_hated_36 S_X12_hated_36 wk_let
      dsimp only
      rw [if_neg (po_n12 (by omega)), if_neg (po_n12 (by omega)), k1, k2, nI_1 (a + 1 + i)]
      dsimp only [Option.bind]
      cases r with
      | false =>
        rw [if_pos rfl, if_neg (by decide)]
        exact ⟨_, _, rfl, rfl, N1, f1, g1, by omega, rfl, rfl, h1⟩
      | true =>
        rw [if_neg (by decide), if_pos rfl]
        unfold j_X11_hated_55_l36
        rcases h1 with ⟨rfl, rfl, rfl⟩ | ⟨hp, z, hz, rfl⟩
        · rw [if_neg (show ¬ ¬ nI 0 = 0 by decide), if_neg (show ¬ ¬ nI 0 = 0 by decide), if_pos rfl, nI_1 0, nI_1 (a + 1 + i)]
          exact ⟨_, _, rfl, rfl, 1, nI a, nI (a + 1 + i), by omega, rfl, rfl, Or.inr ⟨by omega, a, ha12, rfl⟩⟩
        · have hne0 : ¬ nI N1 = 0 := po_nIne (b := 0) (by omega) (by decide) (by omega)
          rw [if_pos hne0, if_pos hne0, if_neg (po_m2 (by omega)), nI_1 N1, nI_1 (a + 1 + i)]
          exact ⟨_, _, rfl, rfl, N1 + 1, nI z, g1, by omega, rfl, rfl, Or.inr ⟨by omega, z, hz, rfl⟩⟩) (by
      rintro p q ⟨N1, f1, g1, hN1, rfl, rfl, h1⟩
      unfold S_X11_hated_36 S_X12_hated_36
      dsimp only
      rw [e11, if_pos (by decide), if_pos (by decide)]
      exact ⟨_, _, rfl, rfl, N1, f1, g1, Nat.le_trans hN1 e12, rfl, rfl, h1⟩) (by omega) (p := (nI N0, f0, g0, nI (a + 1), c)) (q := (nI N0, f0, g0, nI (a + 1), m)) ⟨N0, f0, g0, by omega, rfl, rfl, h0⟩
  exact ⟨N1, f1, g1, e1, e2, hN1, h1⟩
theorem po_hate29 {c m : wk_St} {j n : Nat} {x2 y2 : Int32} (hj : c.1 1 1 = nI j) (hj2 : j ≤ 260) (hn : 2 * n ≤ j) (hn16 : n ≤ 16) (hb : ∀ i, i < j → c.1 2 i = m.1 7 i &&& 255) :
    ∃ N1 f1 g1, wk_loop (S_X11_hated_29 (nI n) x2) wk_F ((0 : Int32), (-2 : Int32), (-2 : Int32), (0 : Int32), c) = some (N1, f1, g1, c) ∧ wk_loop (S_X12_hated_29 (nI n) y2) wk_F ((0 : Int32), (-2 : Int32), (-2 : Int32), (0 : Int32), m) = some (N1, f1, g1, m) := by
  obtain ⟨p, q, e1, e2, N1, f1, g1, rfl, rfl⟩ := po_rel (f := S_X11_hated_29 (nI n) x2) (g := S_X12_hated_29 (nI n) y2)
    (fun i p q => ∃ N1 f1 g1, N1 ≤ 12 * i ∧ p = (nI N1, f1, g1, nI i, c) ∧ q = (nI N1, f1, g1, nI i, m) ∧ ((N1 = 0 ∧ f1 = -2 ∧ g1 = -2) ∨ (0 < N1 ∧ ∃ z : Nat, z < 12 ∧ f1 = nI z)))
    (fun p q => ∃ N1 f1 g1, p = (N1, f1, g1, c) ∧ q = (N1, f1, g1, m)) 12 (by
      rintro i p q hi ⟨N1, f1, g1, hN1, rfl, rfl, h1⟩
      obtain ⟨N2, f2, g2, k1, k2, k3, k4⟩ := po_hate36 (x2 := x2) (y2 := y2) hj hj2 hn hn16 hb hi hN1 h1
      unfold S_X11_hated_29 S_X12_hated_29 wk_let
      dsimp only
      rw [if_neg (po_n12 hi), if_neg (po_n12 hi), nI_1, k1, k2]
      exact ⟨_, _, rfl, rfl, N2, f2, g2, k3, rfl, rfl, k4⟩) (by
      rintro p q ⟨N1, f1, g1, hN1, rfl, rfl, h1⟩
      unfold S_X11_hated_29 S_X12_hated_29
      dsimp only
      rw [if_pos (by decide), if_pos (by decide)]
      exact ⟨_, _, rfl, rfl, _, _, _, rfl, rfl⟩) (by decide) (p := ((0 : Int32), (-2 : Int32), (-2 : Int32), (0 : Int32), c)) (q := ((0 : Int32), (-2 : Int32), (-2 : Int32), (0 : Int32), m)) ⟨0, -2, -2, by omega, rfl, rfl, Or.inl ⟨rfl, rfl, rfl⟩⟩
  exact ⟨N1, f1, g1, e1, e2⟩
theorem po_op_23 : lw_op_23 iv_I := by
  intro a0 a1 σC σM hI
  have hI2 := hI
  obtain ⟨T, w, N, ⟨j, j1, j2, j3, j4⟩, hF, hH, hR, hK, hL⟩ := hI
  have go : ∀ r c2 m2, f_X11_hated a0 a1 σC = some (r, c2) → f_X12_hated a0 a1 σM = some (r, m2) → iv_I c2 m2 → ∃ (r : Int32) (σC2 σM2 : wk_St), wk_T wk_shC 200 26 [.ref 0, .int a0, .int a1] σC (some (.int r), σC2) ∧ wk_T wk_shM 200 129 [.ref 0, .int a0, .int a1] σM (some (.int r), σM2) ∧ iv_I σC2 σM2 := fun r c2 m2 e1 e2 e3 => ⟨r, c2, m2, (t_X11_hated e1).up (by decide), (t_X12_hated e2).up (by decide), e3⟩
  unfold f_X11_hated f_X12_hated wk_let at go
  rw [po_W, po_has j2, j3] at go
  cases hin : f_X12_in a0 1 16 with
  | false =>
    rw [hin] at go
    exact go (-1) _ _ rfl rfl hI2
  | true =>
    obtain ⟨n, n1, n2, rfl⟩ := po_inA (a := 1) (b := 16) rfl rfl hin
    have e2 : (2 : Int32) * nI n = nI (2 * n) := pk_mul 2 n
    have hin32 : f_X12_in (nI (2 * n)) 2 32 = true := by
      unfold f_X12_in
      rw [if_neg (show ¬ nI (2 * n) < 2 from nI_nlt (a := 2 * n) (b := 2) (by omega) (by omega)), if_neg (show ¬ nI (2 * n) > 32 from nI_nlt (a := 32) (b := 2 * n) (by omega) (by decide))]
    rw [hin, e2, hin32, Bool.true_and] at go
    cases hin2 : f_X12_in a1 0 2 with
    | false =>
      rw [hin2] at go
      refine go (-1) _ _ ?_ rfl hI2
      rw [if_neg (by decide)]
      cases decide (nI (2 * n) ≤ nI j) <;> rfl
    | true =>
      rw [hin2] at go
      by_cases hle : nI (2 * n) ≤ nI j
      · have hnj := (nI_leI (by omega) (by omega)).mp hle
        obtain ⟨N1, f1, g1, k1, k2⟩ := po_hate29 (c := σC) (m := wk_si σM 0 9 0) (x2 := a1) (y2 := a1) j2 j1 hnj n2 j4
        rw [decide_eq_true hle, k1, k2, if_pos hle] at go
        dsimp only [Option.bind] at go
        simp only [Bool.true_eq_false, if_false, if_true, eq_self] at go
        by_cases h0 : a1 = 0
        · rw [if_neg (not_not_intro h0), if_neg (not_not_intro h0)] at go
          exact go _ _ _ rfl rfl (iv_I_tape hI2)
        · rw [if_pos h0, if_pos h0] at go
          by_cases h1 : a1 = 1
          · rw [if_neg (not_not_intro h1), if_neg (not_not_intro h1)] at go
            exact go _ _ _ rfl rfl (iv_I_tape hI2)
          · rw [if_pos h1, if_pos h1] at go
            exact go _ _ _ rfl rfl (iv_I_tape hI2)
      · rw [decide_eq_false hle, if_neg hle] at go
        exact go (-1) _ _ rfl rfl hI2
