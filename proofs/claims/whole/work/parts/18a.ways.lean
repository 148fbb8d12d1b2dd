/-! PURE: rumour, middle, between -/
theorem iv_bl_front {N : Nat → Nat} {q r : Nat} (hq : q < 12) (hn : (N q).testBit r = true) : ∀ k p, p < 12 → (iv_bl N (2 ^ r) k).testBit p = true → (iv_bl N (2 ^ q) (k + 1)).testBit p = true := by
  intro k
  induction k with
  | zero =>
    intro p _ h
    have e : (2 ^ r).testBit p = true := h
    rw [Nat.testBit_two_pow, decide_eq_true_iff] at e
    subst e
    exact iv_bl_bit.mpr (Or.inr ⟨q, hq, by show (2 ^ q).testBit q = true; rw [Nat.testBit_two_pow]; simp, hn⟩)
  | succ k ih =>
    intro p hp h
    rcases iv_bl_bit.mp h with h | ⟨s, hs, h1, h2⟩
    · exact iv_bl_bit.mpr (Or.inl (ih p hp h))
    · exact iv_bl_bit.mpr (Or.inr ⟨s, hs, ih s hs h1, h2⟩)
theorem iv_bl_sym {N : Nat → Nat} (hS : ∀ p q, p < 12 → q < 12 → (N p).testBit q = true → (N q).testBit p = true) : ∀ k p q, p < 12 → q < 12 → (iv_bl N (2 ^ p) k).testBit q = true → (iv_bl N (2 ^ q) k).testBit p = true := by
  intro k
  induction k with
  | zero =>
    intro p q _ _ h
    have e : (2 ^ p).testBit q = true := h
    rw [Nat.testBit_two_pow, decide_eq_true_iff] at e
    subst e
    exact h
  | succ k ih =>
    intro p q hp hq h
    rcases iv_bl_bit.mp h with h | ⟨r, hr, h1, h2⟩
    · exact iv_bl_bit.mpr (Or.inl (ih p q hp hq h))
    · exact iv_bl_front hq (hS r q hr hq h2) k p hp (ih p r hp hr h1)
theorem iv_d_sym {N : Nat → Nat} {p q : Nat} (hS : ∀ p q, p < 12 → q < 12 → (N p).testBit q = true → (N q).testBit p = true) (hp : p < 12) (hq : q < 12) : iv_d N p q = iv_d N q p := by
  have key : ∀ p q, p < 12 → q < 12 → iv_d N p q ≤ 11 → iv_d N q p ≤ iv_d N p q := fun p q hp hq h => (iv_d_bl h).mp (iv_bl_sym hS _ p q hp hq ((iv_d_bl h).mpr (Nat.le_refl _)))
  rcases iv_d_99 (N := N) (p := p) (q := q) with h1 | h1
  · have := key p q hp hq h1
    have := key q p hq hp (by omega)
    omega
  · rcases iv_d_99 (N := N) (p := q) (q := p) with h2 | h2
    · have := key q p hq hp h2
      omega
    · omega
theorem po_stC2 {c : wk_St} {T : Nat} {N : Nat → Nat} {p q : Nat} (h5 : ∀ p q, p < 12 → q < 12 → T ≠ 0 → c.1 5 (12 * p + q) = nI (iv_st N T p q)) (hp : p < 12) (hq : q < 12) (hT0 : T ≠ 0) : f_X2_stepsBetween (nI p) (nI q) c = some (nI (iv_st N T p q)) := by
  have e := h5 p q hp hq hT0
  unfold f_X2_stepsBetween j_X2_stepsBetween_13
  rw [po_W, po_inT (n := 11) rfl (by omega), po_inT (n := 11) rfl (by omega), po_at12 hp hq]
  simp only [Bool.true_eq_false, if_false, if_true, po_wkin (show 12 * p + q < 144 by omega) (by decide), nI_clamp (show 12 * p + q < 2 ^ 31 by omega), e]
  rfl
theorem po_bits {x : Nat} (hx : x < 4096) : f_X12_bits (nI x) = some (nI (iv_pc x)) := by
  have e : wk_loop (S_X12_bits_4 (nI x)) wk_F ((0 : Int32), (0 : Int32)) = some (nI (iv_pc x)) := by
    refine po_for (fun i => (nI (iv_cnt (fun k => x.testBit k) i), nI i)) 12 rfl ?_ ?_ (by decide)
    · intro j hj
      show _ = some (Sum.inr (nI (iv_cnt (fun k => x.testBit k) j + (if x.testBit j = true then 1 else 0)), nI (j + 1)))
      have hd : x / 2 ^ j < 2 ^ 31 := Nat.lt_of_le_of_lt (Nat.div_le_self _ _) (by omega)
      unfold S_X12_bits_4 wk_let
      dsimp only
      rw [if_neg (po_n12 hj), pk_shrN (by omega) _ j (po_sh (by omega)), pk_andN (n := x / 2 ^ j) (by omega) (m := 1) 1 (by decide), nI_add, nI_1, Nat.testBit_eq_decide_div_mod_eq]
      have h2 : x / 2 ^ j % 2 ^ 1 = x / 2 ^ j % 2 := rfl
      rw [h2]
      rcases Nat.mod_two_eq_zero_or_one (x / 2 ^ j) with h | h
      · rw [h]; rfl
      · rw [h]; rfl
    · unfold S_X12_bits_4
      dsimp only
      rw [if_pos (by decide)]
      rfl
  unfold f_X12_bits
  rw [e]
  rfl
set_option maxRecDepth 100000 in
theorem po_bcT : (List.range 4096).all (fun x => decide (f_J6_bitCount_0f7a4 (nI x) = nI (iv_pc x))) = true := by decide +kernel
theorem po_bc {x : Nat} (hx : x < 4096) : f_J6_bitCount_0f7a4 (nI x) = nI (iv_pc x) := of_decide_eq_true (List.all_eq_true.mp po_bcT x (List.mem_range.mpr hx))
theorem po_reach {c : wk_St} {T : Nat} {N : Nat → Nat} {p : Nat} (h5 : ∀ p q, p < 12 → q < 12 → T ≠ 0 → c.1 5 (12 * p + q) = nI (iv_st N T p q)) (hp : p < 12) (hT : T.testBit p = true) : f_X2_reachOf (nI p) c = some (nI (iv_cnt (fun q => decide (iv_d N p q ≠ 99)) 12)) := by
  have e : wk_loop (S_X2_reachOf_4 (nI p) c) wk_F ((0 : Int32), (0 : Int32)) = some (nI (iv_cnt (fun q => decide (iv_d N p q ≠ 99)) 12)) := by
    refine po_for (fun i => (nI (iv_cnt (fun q => decide (iv_d N p q ≠ 99)) i), nI i)) 12 rfl ?_ ?_ (by decide)
    · intro j hj
      show _ = some (Sum.inr (nI (iv_cnt (fun q => decide (iv_d N p q ≠ 99)) j + (if decide (iv_d N p j ≠ 99) = true then 1 else 0)), nI (j + 1)))
      unfold S_X2_reachOf_4 wk_let
      dsimp only
      rw [if_neg (po_n12 hj), po_stC h5 hp hj hT, nI_1, po_add0, nI_1]
      dsimp only [Option.bind]
      by_cases h : iv_d N p j = 99
      · rw [h, if_pos (by decide), decide_eq_false (not_not_intro rfl)]; rfl
      · have hlt : iv_d N p j < 99 := by rcases iv_d_99 (N := N) (p := p) (q := j) with h1 | h1 <;> omega
        rw [if_neg (show ¬ nI (iv_d N p j) ≥ 99 from nI_ge (b := 99) hlt (by decide)), decide_eq_true h]; rfl
    · unfold S_X2_reachOf_4
      dsimp only
      rw [if_pos (by decide)]
  unfold f_X2_reachOf
  rw [e]
  rfl
theorem iv_2_2 {m : wk_St} {a b c d : Nat → Int32} : iv_2 (iv_2 m a b) c d = iv_2 m c d := by
  unfold iv_2 iv_set
  refine Prod.ext ?_ rfl
  funext x y
  by_cases h6 : x = 6
  · simp [h6]
  · by_cases h5 : x = 5
    · simp [h5]
    · simp [h5, h6]
theorem po_far {c m : wk_St} {T : Nat} {N : Nat → Nat} {p : Nat} (h5 : ∀ p q, p < 12 → q < 12 → T ≠ 0 → c.1 5 (12 * p + q) = nI (iv_st N T p q)) (hp : p < 12) (hT : T.testBit p = true) (hg : iv_lays N p (m.1 5)) :
    ∃ z, z < 12 ∧ iv_d N p z ≠ 99 ∧ f_X2_farthestFrom (nI p) c = some (nI z) ∧ f_X12_farthest m = some (nI z) := by
  have hle : ∀ q, iv_d N p q ≠ 99 → iv_d N p q ≤ 11 := fun q h => by rcases iv_d_99 (N := N) (p := p) (q := q) with h1 | h1 <;> omega
  obtain ⟨a, b, e1, e2, z, hz, hz9, rfl, rfl⟩ := po_rel (f := S_X2_farthestFrom_4 (nI p) c) (g := S_X12_farthest_4 m)
    (fun i a b => (a = (nI p, nI i) ∧ b = (-1, nI i) ∧ ∀ q, q < i → iv_d N p q = 99) ∨ (∃ z, z < 12 ∧ iv_d N p z ≠ 99 ∧ a = (nI z, nI i) ∧ b = (nI z, nI i)))
    (fun a b => ∃ z, z < 12 ∧ iv_d N p z ≠ 99 ∧ a = nI z ∧ b = nI z) 12 (by
      intro i a b hi hab
      have hgi := hg i hi
      have hdpp : iv_d N p p = 0 := iv_d_0.mpr rfl
      rcases hab with ⟨rfl, rfl, hall⟩ | ⟨z, hz, hz9, rfl, rfl⟩
      · unfold S_X2_farthestFrom_4 S_X12_farthest_4
        dsimp only
        rw [if_neg (po_n12 hi), if_neg (po_n12 hi), po_stC h5 hp hi hT, po_stC h5 hp hp hT, if_pos (po_wkin hi (by decide)), nI_clamp (by omega), hgi, hdpp, nI_1]
        dsimp only [Option.bind]
        unfold j_X2_farthestFrom_21_l4
        by_cases h : iv_d N p i = 99
        · rw [if_pos h, if_pos rfl, h, if_neg (by decide), if_pos (by decide), nI_1]
          refine ⟨_, _, rfl, rfl, Or.inl ⟨rfl, rfl, fun q hq => ?_⟩⟩
          by_cases hqi : q = i
          · rw [hqi]; exact h
          · exact hall q (by omega)
        · have hle1 := hle i h
          rw [if_neg h, if_neg (po_m1 (by omega)), if_pos rfl]
          by_cases h0 : iv_d N p i = 0
          · have hpi := iv_d_0.mp h0
            rw [if_pos (nI_le (by omega) (by omega)), if_neg (show ¬ nI (iv_d N p i) ≥ 99 from nI_ge (b := 99) (by omega) (by decide)), if_pos rfl, nI_1]
            exact ⟨_, _, rfl, rfl, Or.inr ⟨i, hi, h, by rw [hpi], rfl⟩⟩
          · rw [if_neg (nI_ge (by omega) (by omega)), if_neg (show ¬ nI (iv_d N p i) ≥ 99 from nI_ge (b := 99) (by omega) (by decide)), if_neg (by decide), nI_1]
            exact ⟨_, _, rfl, rfl, Or.inr ⟨i, hi, h, rfl, rfl⟩⟩
      · have hlz := hle z hz9
        unfold S_X2_farthestFrom_4 S_X12_farthest_4
        dsimp only
        rw [if_neg (po_n12 hi), if_neg (po_n12 hi), po_stC h5 hp hi hT, po_stC h5 hp hz hT, if_pos (po_wkin hi (by decide)), nI_clamp (by omega), hgi, nI_1]
        dsimp only [Option.bind]
        unfold j_X2_farthestFrom_21_l4
        by_cases h : iv_d N p i = 99
        · rw [if_pos h, if_pos rfl, h, if_neg (nI_ge (by omega) (by decide)), if_pos (by decide), nI_1]
          exact ⟨_, _, rfl, rfl, Or.inr ⟨z, hz, hz9, rfl, rfl⟩⟩
        · have hle1 := hle i h
          rw [if_neg h, if_neg (po_m1 (by omega)), if_neg (po_m1 (by omega)), if_pos (po_wkin hi (by decide)), if_pos (po_wkin hz (by decide)), nI_clamp (by omega), hg z hz, if_neg hz9]
          by_cases hcmp : iv_d N p i ≤ iv_d N p z
          · rw [if_pos (nI_le hcmp (by omega)), if_pos (nI_le hcmp (by omega)), if_neg (show ¬ nI (iv_d N p i) ≥ 99 from nI_ge (b := 99) (by omega) (by decide)), if_pos rfl, nI_1]
            exact ⟨_, _, rfl, rfl, Or.inr ⟨z, hz, hz9, rfl, rfl⟩⟩
          · rw [if_neg (nI_ge (by omega) (by omega)), if_neg (nI_ge (by omega) (by omega)), if_neg (show ¬ nI (iv_d N p i) ≥ 99 from nI_ge (b := 99) (by omega) (by decide)), if_neg (by decide), nI_1]
            exact ⟨_, _, rfl, rfl, Or.inr ⟨i, hi, h, rfl, rfl⟩⟩) (by
      rintro a b (⟨rfl, rfl, hall⟩ | ⟨z, hz, hz9, rfl, rfl⟩)
      · have := hall p hp
        have hdpp : iv_d N p p = 0 := iv_d_0.mpr rfl
        omega
      · unfold S_X2_farthestFrom_4 S_X12_farthest_4
        dsimp only
        rw [if_pos (by decide), if_pos (by decide)]
        exact ⟨_, _, rfl, rfl, z, hz, hz9, rfl, rfl⟩) (by decide) (p := (nI p, (0 : Int32))) (q := ((-1 : Int32), (0 : Int32))) (Or.inl ⟨rfl, rfl, fun q hq => by omega⟩)
  refine ⟨z, hz, hz9, ?_, ?_⟩
  · unfold f_X2_farthestFrom
    rw [e1]; rfl
  · unfold f_X12_farthest
    rw [e2]; rfl
