/-! PURE: hunts, weekdays, steps as both see them; count, knightIs, hunted -/
theorem po_n9 {a : Nat} (h : a < 9) : ¬ nI a ≥ 9 := nI_ge (b := 9) h (by decide)
theorem po_n12 {a : Nat} (h : a < 12) : ¬ nI a ≥ 12 := nI_ge (b := 12) h (by decide)
theorem po_n7 {a : Nat} (h : a < 7) : ¬ nI a ≥ 7 := nI_ge (b := 7) h (by decide)
def iv_hu (n h : Nat → Int32) (p d : Nat) : Bool := decide (0 < (n p).toNatClampNeg ∧ h (48 * p + d % (n p).toNatClampNeg) = 1)
theorem po_huC {c : wk_St} {n h : Nat → Int32} {p d : Nat} (hH : iv_H (c.1 6) (c.2 7) n h) (hp : p < 12) (hd : d < 2 ^ 31) : f_X2_isHunted (nI p) (nI d) c = some (iv_hu n h p d) := by
  obtain ⟨k, k1, k2, k3, k4⟩ := hH p hp
  have e : (n p).toNatClampNeg = k := by rw [k3, nI_clamp (by omega)]
  unfold f_X2_isHunted wk_let iv_hu
  rw [po_W, po_inT (n := 11) rfl (by omega), e]
  dsimp only
  rw [if_neg (by decide), if_pos (show nI d ≥ 0 from nI_pos' hd), if_pos (po_wkin hp (by decide)), nI_clamp (by omega), k2]
  by_cases h0 : k = 0
  · subst h0
    rw [if_pos (by decide), decide_eq_false (fun h => Nat.lt_irrefl 0 h.1)]
  · have h1 : ¬ nI k ≤ 0 := by
      have := nI_nlt (a := 0) (b := 0)
      intro h
      have := (nI_leI (a := k) (b := 0) (by omega) (by decide)).mp h
      omega
    have hne : ¬ nI k = 0 := po_nIne (b := 0) (by omega) (by decide) h0
    have hm : d % k < k := Nat.mod_lt _ (by omega)
    rw [if_neg h1, if_pos (po_wkin hp (by decide)), if_neg hne, po_rem hd (by omega) (by omega)]
    have hb := k4 (d % k) hm
    unfold iv_lb at hb
    by_cases hz : wk_lcmp (wk_lushr (c.2 7 p) (nI (d % k)) &&& 1) 0 = 0
    · rw [if_pos hz]
      rw [decide_eq_false (not_not_intro hz)] at hb
      have : ¬ h (48 * p + d % k) = 1 := of_decide_eq_false hb.symm
      rw [decide_eq_false (fun h => this h.2)]
    · rw [if_neg hz]
      rw [decide_eq_true hz] at hb
      have : h (48 * p + d % k) = 1 := of_decide_eq_true hb.symm
      rw [decide_eq_true ⟨by omega, this⟩]
theorem po_huM {m : wk_St} {c6 : Nat → Int32} {c7 : Nat → Int64} {p D i : Nat} (hH : iv_H c6 c7 (m.1 22) (m.1 21)) (hD : m.1 1 45 = nI D) (hp : p < 12) (hd : D + i < 2 ^ 31) : f_X12_isHunted (nI p) (nI i) m = some (iv_hu (m.1 22) (m.1 21) p (D + i)) := by
  obtain ⟨k, k1, k2, k3, k4⟩ := hH p hp
  have e : (m.1 22 p).toNatClampNeg = k := by rw [k3, nI_clamp (by omega)]
  unfold f_X12_isHunted iv_hu
  rw [e, if_pos (po_wkin hp (by decide)), nI_clamp (by omega), k3, hD, nI_add]
  by_cases h0 : k = 0
  · subst h0
    rw [if_pos (by decide), decide_eq_false (fun h => Nat.lt_irrefl 0 h.1)]
  · have h1 : ¬ nI k ≤ 0 := by
      intro h
      have := (nI_leI (a := k) (b := 0) (by omega) (by decide)).mp h
      omega
    have hne : ¬ nI k = 0 := po_nIne (b := 0) (by omega) (by decide) h0
    have hm : (D + i) % k < k := Nat.mod_lt _ (by omega)
    have e48 : (48 : Int32) * nI p + nI ((D + i) % k) = nI (48 * p + (D + i) % k) := by
      have e1 : (48 : Int32) * nI p = nI (48 * p) := pk_mul 48 p
      rw [e1, nI_add]
    rw [if_neg h1, if_pos (po_wkin hp (by decide)), if_neg hne, po_rem hd (by omega) (by omega), e48, if_pos (po_wkin (by omega) (by decide)), nI_clamp (by omega)]
    by_cases hz : m.1 21 (48 * p + (D + i) % k) = 1
    · rw [if_neg (not_not_intro hz), decide_eq_true ⟨by omega, hz⟩]
    · rw [if_pos hz, decide_eq_false (fun h => hz h.2)]
theorem po_xor {a b : Nat} (ha : a < 2 ^ 31) (hb : b < 2 ^ 31) : nI a ^^^ nI b = nI (a ^^^ b) := by
  refine Int32.toBitVec_inj.mp (BitVec.eq_of_toNat_eq ?_)
  have h : a ^^^ b < 2 ^ 31 := Nat.xor_lt_two_pow ha hb
  rw [pk_tn (by omega), Int32.toBitVec_xor, BitVec.toNat_xor, pk_tn (by omega), pk_tn (by omega)]
theorem po_wdC {c : wk_St} {w d : Nat} (hw : c.1 3 5 = nI w) (hd : d + w < 2 ^ 31) : f_X2_weekdayOf (nI d) c = some (nI ((d + w) % 7)) := by
  have e : f_J9_floorMod_7cf53 (nI (d + w)) 7 = some (nI ((d + w) % 7)) := by
    have h7 : (nI (d + w) ^^^ 7) ≥ 0 := by
      have e1 : nI (d + w) ^^^ 7 = nI ((d + w) ^^^ 7) := po_xor (b := 7) hd (by decide)
      rw [e1]
      exact nI_pos' (Nat.xor_lt_two_pow hd (by decide))
    have e2 : wk_rem (nI (d + w)) 7 = nI ((d + w) % 7) := po_rem (d := 7) hd (by decide) (by decide)
    unfold f_J9_floorMod_7cf53
    rw [if_neg (by decide), if_pos h7, e2]
  unfold f_X2_weekdayOf
  rw [hw, nI_add, e]
  rfl
theorem po_wdM {m : wk_St} {w D i : Nat} (hw : m.1 0 5 = nI w) (hD : m.1 1 45 = nI D) (hd : D + i + w < 2 ^ 31) : f_X12_weekdayIn (nI i) m = nI ((D + i + w) % 7) := by
  unfold f_X12_weekdayIn
  rw [hw, hD, nI_add, nI_add]
  exact po_rem (d := 7) hd (by decide) (by decide)
theorem po_stC {c : wk_St} {T : Nat} {N : Nat → Nat} {p q : Nat} (h5 : ∀ p q, p < 12 → q < 12 → T ≠ 0 → c.1 5 (12 * p + q) = nI (iv_st N T p q)) (hp : p < 12) (hq : q < 12) (hT : T.testBit p = true) : f_X2_stepsBetween (nI p) (nI q) c = some (nI (iv_d N p q)) := by
  have hT0 : T ≠ 0 := fun e => by rw [e, Nat.zero_testBit] at hT; cases hT
  have e := h5 p q hp hq hT0
  unfold iv_st at e
  rw [if_pos hT] at e
  unfold f_X2_stepsBetween j_X2_stepsBetween_13
  rw [po_W, po_inT (n := 11) rfl (by omega), po_inT (n := 11) rfl (by omega), po_at12 hp hq]
  simp only [Bool.true_eq_false, if_false, if_true, po_wkin (show 12 * p + q < 144 by omega) (by decide), nI_clamp (show 12 * p + q < 2 ^ 31 by omega), e]
  rfl
theorem iv_2_sM {m : wk_St} {g5 g6 : Nat → Int32} : iv_sM m (iv_2 m g5 g6) := ⟨rfl, rfl, rfl, rfl, rfl, rfl, rfl, rfl, rfl, rfl, rfl, rfl, rfl, rfl, rfl, rfl⟩
theorem po_stM {m : wk_St} {N : Nat → Nat} {p q : Nat} (hN : ∀ r, r < 12 → N r < 4096 ∧ m.1 4 r = nI (N r)) (hp : p < 12) (hq : q < 12) : ∃ g5 g6, f_X12_stepsBetween (nI p) (nI q) m = some (if iv_d N p q = 99 then -1 else nI (iv_d N p q), iv_2 m g5 g6) := by
  obtain ⟨g5, g6, e, hg⟩ := po_lays hp hN
  refine ⟨g5, g6, ?_⟩
  unfold f_X12_stepsBetween
  rw [e]
  dsimp only [Option.bind]
  rw [if_pos (po_wkin hq (by decide)), nI_clamp (by omega), iv_2_at5, hg q hq]
theorem po_e0 {k : Nat} : (0 : Int32) + nI k = nI k := by
  have := nI_add 0 k
  rw [Nat.zero_add] at this
  exact this
theorem po_e9 {k : Nat} : (9 : Int32) + nI k = nI (9 + k) := nI_add 9 k
theorem po_e18 {k : Nat} : (18 : Int32) + nI k = nI (18 + k) := nI_add 18 k
theorem po_e27 {k : Nat} : (27 : Int32) + nI k = nI (27 + k) := nI_add 27 k
theorem po_e36 {k : Nat} : (36 : Int32) + nI k = nI (36 + k) := nI_add 36 k
/-- the told knights that are x -/
def iv_ks (K : Nat) (W : Nat → Int32) (x : Int32) : Nat → Nat
  | 0 => 0
  | n + 1 => if K.testBit n = true ∧ W n = x then iv_ks K W x n ||| 2 ^ n else iv_ks K W x n
theorem iv_ks_lt {K : Nat} {W : Nat → Int32} {x : Int32} : ∀ n, n ≤ 9 → iv_ks K W x n < 512 := by
  intro n
  induction n with
  | zero => intro _; exact (by decide : 0 < 512)
  | succ n ih =>
    intro hn
    have h2 : 2 ^ n < 2 ^ 9 := Nat.pow_lt_pow_right (by decide) (by omega)
    unfold iv_ks
    split
    · exact Nat.or_lt_two_pow (n := 9) (ih (by omega)) h2
    · exact ih (by omega)
theorem iv_ks_bit {K : Nat} {W : Nat → Int32} {x : Int32} {j : Nat} : ∀ n, (iv_ks K W x n).testBit j = true ↔ j < n ∧ K.testBit j = true ∧ W j = x := by
  intro n
  induction n with
  | zero => unfold iv_ks; rw [Nat.zero_testBit]; simp
  | succ n ih =>
    unfold iv_ks
    by_cases h : K.testBit n = true ∧ W n = x
    · rw [if_pos h, po_setB, Bool.or_eq_true, ih, decide_eq_true_iff]
      constructor
      · rintro (⟨h1, h2⟩ | rfl)
        · exact ⟨by omega, h2⟩
        · exact ⟨by omega, h⟩
      · rintro ⟨h1, h2⟩
        by_cases hj : n = j
        · exact Or.inr hj
        · exact Or.inl ⟨by omega, h2⟩
    · rw [if_neg h, ih]
      constructor
      · rintro ⟨h1, h2⟩; exact ⟨by omega, h2⟩
      · rintro ⟨h1, h2⟩
        refine ⟨?_, h2⟩
        by_cases hj : j = n
        · subst hj; exact absurd h2 h
        · omega
theorem po_setOf {T k0 K : Nat} {c m : wk_St} {x : Int32} (hK : K < 512) (hc : c.1 k0 4 = nI K) (hk : ∀ k, k < 9 → iv_k T (K.testBit k) (c.1 (k0 + 1) k) (c.1 (k0 + 2) k) (c.1 (k0 + 3) k) (c.1 (k0 + 4) k) (m.1 1 k) (m.1 1 (9 + k)) (m.1 1 (18 + k)) (m.1 1 (27 + k)) (m.1 1 (36 + k))) : f_X12_setOf x m = some (nI (iv_ks K (c.1 (k0 + 3)) x 9)) := by
  have e : wk_loop (S_X12_setOf_4 x m) wk_F ((0 : Int32), (0 : Int32)) = some (nI (iv_ks K (c.1 (k0 + 3)) x 9)) := by
    refine po_for (fun i => (nI (iv_ks K (c.1 (k0 + 3)) x i), nI i)) 9 rfl ?_ ?_ (by decide)
    · intro j hj
      have hlt := iv_ks_lt (K := K) (W := c.1 (k0 + 3)) (x := x) j (by omega)
      have hkj := hk j hj
      have h2 : 2 ^ j < 2 ^ 9 := Nat.pow_lt_pow_right (by decide) hj
      unfold S_X12_setOf_4 wk_let
      dsimp only
      rw [if_neg (po_n9 hj), nI_1]
      rcases po_kn (x := nI j) hK hc hk with ⟨c1, m1⟩ | ⟨c1, m1, k2, hk2, e2, hb2⟩
      · have hb : ¬ K.testBit j = true := by
          intro hb
          unfold f_X0_isTold at c1
          rw [if_neg (po_n9 hj), hc, po_hasC (by omega) (by omega), hb] at c1
          simp at c1
        rw [m1]
        dsimp only [Option.bind]
        rw [if_pos rfl]
        show _ = some (Sum.inr (nI (if K.testBit j = true ∧ c.1 (k0 + 3) j = x then _ else _), nI (j + 1)))
        rw [if_neg (fun h => hb h.1)]
      · have e3 : k2 = j := ((nI_eq (by omega) (by omega)).mp e2).symm
        subst e3
        rw [hb2] at hkj
        have hu := (iv_k_t hkj).2.2.2.1
        rw [m1]
        dsimp only [Option.bind]
        rw [if_neg (by decide), po_e27, if_pos (po_wkin (by omega) (by decide)), nI_clamp (by omega), hu]
        show _ = some (Sum.inr (nI (if K.testBit k2 = true ∧ c.1 (k0 + 3) k2 = x then iv_ks K (c.1 (k0 + 3)) x k2 ||| 2 ^ k2 else iv_ks K (c.1 (k0 + 3)) x k2), nI (k2 + 1)))
        by_cases hx : c.1 (k0 + 3) k2 = x
        · rw [if_neg (not_not_intro hx), if_pos ⟨hb2, hx⟩, po_bit (by omega), po_or (by omega) (by omega)]
        · rw [if_pos hx, if_neg (fun h => hx h.2)]
    · unfold S_X12_setOf_4
      dsimp only
      rw [if_pos (by decide)]
  unfold f_X12_setOf
  rw [e]
  rfl
theorem po_or0 {a : Nat} (ha : a < 2 ^ 31) : nI a ||| 0 = nI a := by
  have := po_or (b := 0) ha (by decide)
  rw [Nat.or_zero] at this
  exact this
theorem po_isToldB {k0 K k : Nat} {c : wk_St} (hK : K < 512) (hc : c.1 k0 4 = nI K) (hk : k < 9) : f_X0_isTold k0 (nI k) c = K.testBit k := by
  unfold f_X0_isTold
  rw [if_neg (po_n9 hk), hc, po_hasC (by omega) (by omega)]
  cases K.testBit k <;> rfl
theorem po_bitsOf {K : Nat} {c : wk_St} {x : Int32} (hK : K < 512) (hc : c.1 8 4 = nI K) : f_X0_bitsOfKind x c = some (nI (iv_ks K (c.1 11) x 9)) := by
  have e : wk_loop (S_X0_bitsOfKind_4 x c) wk_F ((0 : Int32), (0 : Int32)) = some (nI (iv_ks K (c.1 11) x 9)) := by
    refine po_for (fun i => (nI (iv_ks K (c.1 11) x i), nI i)) 9 rfl ?_ ?_ (by decide)
    · intro j hj
      have hlt := iv_ks_lt (K := K) (W := c.1 11) (x := x) j (by omega)
      have h2 : 2 ^ j < 2 ^ 9 := Nat.pow_lt_pow_right (by decide) hj
      unfold S_X0_bitsOfKind_4 wk_let
      dsimp only
      rw [if_neg (po_n9 hj), nI_1, po_isToldB hK hc hj, po_or0 (by omega)]
      show _ = some (Sum.inr (nI (if K.testBit j = true ∧ c.1 11 j = x then iv_ks K (c.1 11) x j ||| 2 ^ j else iv_ks K (c.1 11) x j), nI (j + 1)))
      cases hb : K.testBit j with
      | false => rw [if_pos rfl, if_neg (fun h => by cases h.1)]
      | true =>
        rw [if_neg (by decide), if_pos (po_wkin hj (by decide)), nI_clamp (by omega)]
        by_cases hx : c.1 11 j = x
        · rw [if_neg (not_not_intro hx), if_pos ⟨rfl, hx⟩, po_bit (by omega), po_or (by omega) (by omega)]
        · rw [if_pos hx, if_neg (fun h => hx h.2)]
    · unfold S_X0_bitsOfKind_4
      dsimp only
      rw [if_pos (by decide)]
  unfold f_X0_bitsOfKind
  rw [e]
  rfl
theorem iv_ks_all {T K : Nat} {p d w l a : Nat → Int32} (hK : K < 512) (hk : ∀ k, k < 9 → iv_k T (K.testBit k) (p k) (d k) (w k) (l k) (a k) (a (9 + k)) (a (18 + k)) (a (27 + k)) (a (36 + k))) : iv_ks K w 0 9 ||| iv_ks K w 1 9 ||| iv_ks K w 2 9 = K := by
  refine Nat.eq_of_testBit_eq (fun j => ?_)
  have e : ((iv_ks K w 0 9 ||| iv_ks K w 1 9 ||| iv_ks K w 2 9).testBit j = true) ↔ K.testBit j = true := by
    rw [Nat.testBit_or, Nat.testBit_or, Bool.or_eq_true, Bool.or_eq_true, iv_ks_bit, iv_ks_bit, iv_ks_bit]
    constructor
    · rintro ((h | h) | h) <;> exact h.2.1
    · intro hb
      have hj : j < 9 := by
        by_cases hj : j < 9
        · exact hj
        · have := Nat.testBit_lt_two_pow (Nat.lt_of_lt_of_le hK (Nat.pow_le_pow_right (n := 2) (by decide) (by omega : 9 ≤ j)))
          rw [this] at hb; cases hb
      have h := hk j hj
      rw [hb] at h
      rcases (iv_k_t h).2.2.2.2.2.2.2 with ⟨h, _⟩ | ⟨h | h, _⟩
      · exact Or.inl (Or.inl ⟨hj, hb, h⟩)
      · exact Or.inl (Or.inr ⟨hj, hb, h⟩)
      · exact Or.inr ⟨hj, hb, h⟩
  cases h1 : K.testBit j with
  | true => exact e.mpr h1
  | false =>
    cases h2 : (iv_ks K w 0 9 ||| iv_ks K w 1 9 ||| iv_ks K w 2 9).testBit j with
    | false => rfl
    | true => have := e.mp h2; rw [h1] at this; cases this
