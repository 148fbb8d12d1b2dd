/-! PURE: distances -/
def iv_cnt (f : Nat → Bool) : Nat → Nat
  | 0 => 0
  | n + 1 => iv_cnt f n + (if f n = true then 1 else 0)
theorem iv_cnt_n {f : Nat → Bool} : ∀ n, iv_cnt f n ≤ n := by
  intro n
  induction n with
  | zero => exact Nat.le_refl _
  | succ n ih =>
    unfold iv_cnt
    split <;> omega
theorem iv_cnt_le {f g : Nat → Bool} : ∀ n, (∀ q, q < n → f q = true → g q = true) → iv_cnt f n ≤ iv_cnt g n := by
  intro n
  induction n with
  | zero => intro _; exact Nat.le_refl _
  | succ n ih =>
    intro h
    have h1 := ih (fun q hq => h q (by omega))
    have h2 := h n (by omega)
    unfold iv_cnt
    by_cases hf : f n = true
    · rw [if_pos hf, if_pos (h2 hf)]; omega
    · rw [if_neg hf]; omega
theorem iv_cnt_eq {f g : Nat → Bool} : ∀ n, (∀ q, q < n → f q = true → g q = true) → iv_cnt g n ≤ iv_cnt f n → ∀ q, q < n → g q = true → f q = true := by
  intro n
  induction n with
  | zero => intro _ _ q hq; omega
  | succ n ih =>
    intro h hc q hq hg
    have h1 := iv_cnt_le n (fun q hq => h q (by omega))
    have h2 := h n (by omega)
    unfold iv_cnt at hc
    by_cases hf : f n = true
    · rw [if_pos hf, if_pos (h2 hf)] at hc
      by_cases hqn : q = n
      · rw [hqn]; exact hf
      · exact ih (fun q hq => h q (by omega)) (by omega) q (by omega) hg
    · rw [if_neg hf] at hc
      by_cases hgn : g n = true
      · rw [if_pos hgn] at hc; omega
      · rw [if_neg hgn] at hc
        by_cases hqn : q = n
        · rw [hqn] at hg; exact absurd hg hgn
        · exact ih (fun q hq => h q (by omega)) (by omega) q (by omega) hg
theorem iv_cnt_congr {f g : Nat → Bool} : ∀ n, (∀ q, q < n → f q = g q) → iv_cnt f n = iv_cnt g n := by
  intro n
  induction n with
  | zero => intro _; rfl
  | succ n ih =>
    intro h
    unfold iv_cnt
    rw [ih (fun q hq => h q (by omega)), h n (by omega)]
theorem iv_cnt_set {f g : Nat → Bool} {k : Nat} : ∀ n, k < n → f k = false → g k = true → (∀ q, q < n → q ≠ k → f q = g q) → iv_cnt g n = iv_cnt f n + 1 := by
  intro n
  induction n with
  | zero => intro h; omega
  | succ n ih =>
    intro hk hf hg h
    unfold iv_cnt
    by_cases hkn : k = n
    · subst hkn
      rw [iv_cnt_congr k (fun q hq => h q (by omega) (by omega)), if_pos hg, if_neg (by rw [hf]; simp)]
    · rw [ih (by omega) hf hg (fun q hq => h q (by omega)), h n (by omega) (by omega)]; omega
theorem iv_bl_bit {N : Nat → Nat} {K k q : Nat} : (iv_bl N K (k + 1)).testBit q = true ↔ (iv_bl N K k).testBit q = true ∨ ∃ r, r < 12 ∧ (iv_bl N K k).testBit r = true ∧ (N r).testBit q = true := iv_spn_bit 12
theorem iv_bl_mono {N : Nat → Nat} {K q i j : Nat} (hij : i ≤ j) (h : (iv_bl N K i).testBit q = true) : (iv_bl N K j).testBit q = true := by
  induction hij with
  | refl => exact h
  | step _ ih => exact iv_bl_bit.mpr (Or.inl ih)
theorem iv_bl_stab {N : Nat → Nat} {K k : Nat} (h : ∀ q, q < 12 → (iv_bl N K (k + 1)).testBit q = true → (iv_bl N K k).testBit q = true) : ∀ j, k ≤ j → ∀ q, q < 12 → (iv_bl N K (j + 1)).testBit q = true → (iv_bl N K j).testBit q = true := by
  intro j hj
  induction hj with
  | refl => exact h
  | step _ ih =>
    intro q hq h2
    rcases iv_bl_bit.mp h2 with h3 | ⟨r, h3, h4, h5⟩
    · exact h3
    · exact iv_bl_bit.mpr (Or.inr ⟨r, h3, ih r h3 h4, h5⟩)
theorem iv_bl_sat {N : Nat → Nat} {p : Nat} (hp : p < 12) : ∀ q, q < 12 → (iv_bl N (2 ^ p) 12).testBit q = true → (iv_bl N (2 ^ p) 11).testBit q = true := by
  have key : ∀ k, k ≤ 12 → k + 1 ≤ iv_cnt (fun q => (iv_bl N (2 ^ p) k).testBit q) 12 ∨ ∃ j, j < k ∧ ∀ q, q < 12 → (iv_bl N (2 ^ p) (j + 1)).testBit q = true → (iv_bl N (2 ^ p) j).testBit q = true := by
    intro k
    induction k with
    | zero =>
      intro _
      left
      have h0 : iv_cnt (fun _ => false) 12 = 0 := rfl
      have := iv_cnt_set (f := fun _ => false) (g := fun q => (iv_bl N (2 ^ p) 0).testBit q) (k := p) 12 hp rfl (by show (2 ^ p).testBit p = true; rw [Nat.testBit_two_pow]; simp) (by
        intro q _ hne
        show false = (2 ^ p).testBit q
        rw [Nat.testBit_two_pow]
        exact (decide_eq_false (fun e => hne e.symm)).symm)
      omega
    | succ k ih =>
      intro hk
      rcases ih (by omega) with h | ⟨j, hj, h⟩
      · by_cases hc : iv_cnt (fun q => (iv_bl N (2 ^ p) (k + 1)).testBit q) 12 ≤ iv_cnt (fun q => (iv_bl N (2 ^ p) k).testBit q) 12
        · right
          exact ⟨k, by omega, iv_cnt_eq 12 (fun q _ h => iv_bl_mono (by omega) h) hc⟩
        · left; omega
      · exact Or.inr ⟨j, by omega, h⟩
  rcases key 12 (Nat.le_refl _) with h | ⟨j, hj, h⟩
  · have := iv_cnt_n (f := fun q => (iv_bl N (2 ^ p) 12).testBit q) 12
    omega
  · exact iv_bl_stab h 11 (by omega)
theorem iv_dk_ok {N : Nat → Nat} {K q : Nat} : ∀ k, k < 99 → (iv_dk N K k q = 99 ∧ (iv_bl N K k).testBit q = false) ∨ (iv_dk N K k q ≤ k ∧ ∀ j, j ≤ k → ((iv_bl N K j).testBit q = true ↔ iv_dk N K k q ≤ j)) := by
  intro k
  induction k with
  | zero =>
    intro _
    unfold iv_dk
    cases h : K.testBit q with
    | false => left; exact ⟨by simp, h⟩
    | true =>
      right
      refine ⟨by simp, fun j hj => ⟨fun _ => by simp, fun _ => ?_⟩⟩
      rw [show j = 0 by omega]
      exact h
  | succ k ih =>
    intro hk
    unfold iv_dk
    rcases ih (by omega) with ⟨h1, h2⟩ | ⟨h1, h2⟩
    · rw [h2]
      cases h3 : (iv_bl N K (k + 1)).testBit q with
      | false => left; exact ⟨by simp [h1], rfl⟩
      | true =>
        right
        refine ⟨by simp, fun j hj => ⟨fun h4 => ?_, fun h4 => ?_⟩⟩
        · by_cases hjk : j ≤ k
          · have := iv_bl_mono hjk h4
            rw [this] at h2; cases h2
          · simp; omega
        · have : k + 1 ≤ j := by simpa using h4
          rw [show j = k + 1 by omega]; exact h3
    · have h3 : (iv_bl N K k).testBit q = true := (h2 k (Nat.le_refl _)).mpr h1
      rw [h3]
      right
      have e : (if ((iv_bl N K (k + 1)).testBit q && !true) = true then k + 1 else iv_dk N K k q) = iv_dk N K k q := by simp
      rw [e]
      refine ⟨by omega, fun j hj => ?_⟩
      by_cases hjk : j ≤ k
      · exact h2 j hjk
      · exact ⟨fun _ => by omega, fun _ => iv_bl_mono (by omega) h3⟩
/-- the distance; 99: there is no way -/
def iv_d (N : Nat → Nat) (p q : Nat) : Nat := iv_dk N (2 ^ p) 11 q
theorem iv_d_bl {N : Nat → Nat} {p q j : Nat} (hj : j ≤ 11) : (iv_bl N (2 ^ p) j).testBit q = true ↔ iv_d N p q ≤ j := by
  rcases iv_dk_ok (N := N) (K := 2 ^ p) (q := q) 11 (by decide) with ⟨h1, h2⟩ | ⟨h1, h2⟩
  · unfold iv_d
    rw [h1]
    refine ⟨fun h => ?_, fun h => by omega⟩
    rw [iv_bl_mono hj h] at h2; cases h2
  · exact h2 j hj
theorem iv_d_99 {N : Nat → Nat} {p q : Nat} : iv_d N p q ≤ 11 ∨ iv_d N p q = 99 := by
  rcases iv_dk_ok (N := N) (K := 2 ^ p) (q := q) 11 (by decide) with ⟨h1, h2⟩ | ⟨h1, h2⟩
  · exact Or.inr h1
  · exact Or.inl h1
theorem iv_d_0 {N : Nat → Nat} {p q : Nat} : iv_d N p q = 0 ↔ p = q := by
  have h := iv_d_bl (N := N) (p := p) (q := q) (j := 0) (by decide)
  have e : (iv_bl N (2 ^ p) 0).testBit q = decide (p = q) := Nat.testBit_two_pow
  rw [e, decide_eq_true_iff] at h
  omega
theorem iv_d_next {N : Nat → Nat} {p q r : Nat} (hp : p < 12) (hq : q < 12) (hr : r < 12) (h : iv_d N p r ≠ 99) (hn : (N r).testBit q = true) : iv_d N p q ≤ iv_d N p r + 1 := by
  rcases iv_d_99 (N := N) (p := p) (q := r) with h1 | h1
  · have h2 := (iv_d_bl (N := N) (p := p) (q := r) (j := iv_d N p r) h1).mpr (Nat.le_refl _)
    have h3 : (iv_bl N (2 ^ p) (iv_d N p r + 1)).testBit q = true := iv_bl_bit.mpr (Or.inr ⟨r, hr, h2, hn⟩)
    by_cases h4 : iv_d N p r + 1 ≤ 11
    · exact (iv_d_bl h4).mp h3
    · have e : iv_d N p r = 11 := by omega
      rw [e] at h3
      have := (iv_d_bl (j := 11) (by decide)).mp (iv_bl_sat hp q hq h3)
      omega
  · exact absurd h1 h
theorem iv_d_prev {N : Nat → Nat} {p q : Nat} (h0 : p ≠ q) (h9 : iv_d N p q ≠ 99) : ∃ r, r < 12 ∧ iv_d N p r + 1 = iv_d N p q ∧ (N r).testBit q = true := by
  have hp0 : iv_d N p q ≠ 0 := fun e => h0 (iv_d_0.mp e)
  rcases iv_d_99 (N := N) (p := p) (q := q) with h1 | h1
  · obtain ⟨d, hd⟩ : ∃ d, iv_d N p q = d + 1 := ⟨iv_d N p q - 1, by omega⟩
    have h2 := (iv_d_bl (N := N) (p := p) (q := q) (j := d + 1) (by omega)).mpr (by omega)
    rcases iv_bl_bit.mp h2 with h3 | ⟨r, h3, h4, h5⟩
    · have := (iv_d_bl (N := N) (p := p) (q := q) (j := d) (by omega)).mp h3
      omega
    · refine ⟨r, h3, ?_, h5⟩
      have h6 := (iv_d_bl (N := N) (p := p) (q := r) (j := d) (by omega)).mp h4
      by_cases h7 : iv_d N p r = d
      · omega
      · have h8 := (iv_d_bl (N := N) (p := p) (q := r) (j := d - 1) (by omega)).mpr (by omega)
        have h9 : (iv_bl N (2 ^ p) (d - 1 + 1)).testBit q = true := iv_bl_bit.mpr (Or.inr ⟨r, h3, h8, h5⟩)
        have := (iv_d_bl (N := N) (p := p) (q := q) (j := d - 1 + 1) (by omega)).mp h9
        omega
  · exact absurd h1 h9
theorem iv_dk_0 {N : Nat → Nat} {q : Nat} : ∀ k, iv_bl N 0 k = 0 ∧ iv_dk N 0 k q = 99 := by
  intro k
  induction k with
  | zero => exact ⟨rfl, by unfold iv_dk; simp⟩
  | succ k ih =>
    have h0 : ∀ n, iv_spn N 0 n = 0 := by
      intro n
      induction n with
      | zero => rfl
      | succ n ihn => unfold iv_spn; rw [Nat.zero_testBit, if_neg (by decide), ihn]
    have h1 : iv_bl N 0 (k + 1) = 0 := by
      show iv_sp N (iv_bl N 0 k) = 0
      rw [ih.1]
      exact h0 12
    refine ⟨h1, ?_⟩
    unfold iv_dk
    rw [h1, ih.2, Nat.zero_testBit]
    simp
/-- the class's steps: 99 from a place that is not told -/
def iv_st (N : Nat → Nat) (T p q : Nat) : Nat := if T.testBit p = true then iv_d N p q else 99
theorem iv_st_dk {N : Nat → Nat} {T p q : Nat} : iv_dk N (T &&& 2 ^ p) 11 q = iv_st N T p q := by
  unfold iv_st iv_d
  have e : T &&& 2 ^ p = if T.testBit p = true then 2 ^ p else 0 := by
    refine Nat.eq_of_testBit_eq (fun i => ?_)
    rw [Nat.testBit_and, Nat.testBit_two_pow]
    by_cases hpi : p = i
    · subst hpi
      cases T.testBit p <;> simp
    · rw [decide_eq_false hpi]
      cases T.testBit p <;> simp [Nat.testBit_two_pow, hpi]
  rw [e]
  cases T.testBit p with
  | true => rfl
  | false => exact (iv_dk_0 11).2
