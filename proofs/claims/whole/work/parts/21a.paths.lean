/-! PURE: the soonest way home: paths -/
def iv_fw (N : Nat → Nat) (hu : Nat → Nat → Bool) (D P : Nat) : Nat → Nat
  | 0 => 2 ^ P
  | i + 1 => iv_sp N (iv_fw N hu D P i) &&& (iv_bb (fun p => hu p (D + i)) 12 ^^^ 4095)
def iv_hd (hu : Nat → Nat → Bool) (D P : Nat) : Nat → Nat → Bool
  | 0, p => decide (p = P)
  | d + 1, p => !hu p (D + d)
def iv_bk (N : Nat → Nat) (hu : Nat → Nat → Bool) (D P Q L : Nat) : Nat → Nat
  | 0 => 2 ^ Q
  | j + 1 => iv_bb (fun p => iv_hd hu D P (L - (j + 1)) p && decide ((N p ||| 2 ^ p) &&& iv_bk N hu D P Q L j ≠ 0)) 12
def iv_aq (N : Nat → Nat) (r x : Nat) : Prop := r = x ∨ (N r).testBit x = true
theorem iv_bb_bit {f : Nat → Bool} {x : Nat} : ∀ n, (iv_bb f n).testBit x = true ↔ x < n ∧ f x = true := by
  intro n
  induction n with
  | zero => unfold iv_bb; rw [Nat.zero_testBit]; simp
  | succ n ih =>
    unfold iv_bb
    by_cases h : f n = true
    · rw [if_pos h, po_setB, Bool.or_eq_true, ih, decide_eq_true_iff]
      constructor
      · rintro (⟨h1, h2⟩ | rfl)
        · exact ⟨by omega, h2⟩
        · exact ⟨by omega, h⟩
      · rintro ⟨h1, h2⟩
        by_cases hj : n = x
        · exact Or.inr hj
        · exact Or.inl ⟨by omega, h2⟩
    · rw [if_neg h, ih]
      constructor
      · rintro ⟨h1, h2⟩; exact ⟨by omega, h2⟩
      · rintro ⟨h1, h2⟩
        refine ⟨?_, h2⟩
        by_cases hj : x = n
        · subst hj; exact absurd h2 h
        · omega
theorem iv_sp_bit {N : Nat → Nat} {m x : Nat} (hx : x < 12) : (iv_sp N m).testBit x = true ↔ ∃ r, r < 12 ∧ m.testBit r = true ∧ iv_aq N r x := by
  refine (iv_spn_bit (N := N) (m := m) (q := x) 12).trans ?_
  constructor
  · rintro (h | ⟨r, h1, h2, h3⟩)
    · exact ⟨x, hx, h, Or.inl rfl⟩
    · exact ⟨r, h1, h2, Or.inr h3⟩
  · rintro ⟨r, h1, h2, h3 | h3⟩
    · subst h3; exact Or.inl h2
    · exact Or.inr ⟨r, h1, h2, h3⟩
theorem iv_fw_bit {N : Nat → Nat} {hu : Nat → Nat → Bool} {D P i x : Nat} (hx : x < 12) : (iv_fw N hu D P (i + 1)).testBit x = true ↔ (∃ r, r < 12 ∧ (iv_fw N hu D P i).testBit r = true ∧ iv_aq N r x) ∧ hu x (D + i) = false := by
  show (iv_sp N (iv_fw N hu D P i) &&& (iv_bb (fun p => hu p (D + i)) 12 ^^^ 4095)).testBit x = true ↔ _
  rw [po_difB hx, Bool.and_eq_true, iv_sp_bit hx]
  refine and_congr Iff.rfl ?_
  have := iv_bb_bit (f := fun p => hu p (D + i)) (x := x) 12
  cases h : hu x (D + i) with
  | false =>
    cases h2 : (iv_bb (fun p => hu p (D + i)) 12).testBit x with
    | false => simp
    | true => have := (this.mp h2).2; rw [h] at this; cases this
  | true =>
    rw [this.mpr ⟨hx, h⟩]; simp
theorem po_ne0 {M : Nat} (hM : M < 4096) : M ≠ 0 ↔ ∃ x, x < 12 ∧ M.testBit x = true := by
  constructor
  · intro h
    obtain ⟨j, _, h2, h3⟩ := po_exB hM h
    exact ⟨j, by omega, h3⟩
  · rintro ⟨x, _, h⟩ rfl
    rw [Nat.zero_testBit] at h; cases h
theorem iv_bk_lt {N : Nat → Nat} {hu : Nat → Nat → Bool} {D P Q L j : Nat} (hQ : Q < 12) : iv_bk N hu D P Q L j < 4096 := by
  cases j with
  | zero => exact Nat.pow_lt_pow_right (a := 2) (n := 12) (by decide) hQ
  | succ j => exact iv_bb_lt 12 (Nat.le_refl _)
theorem iv_fw_lt {N : Nat → Nat} {hu : Nat → Nat → Bool} {D P i : Nat} (hP : P < 12) (hN : ∀ r, r < 12 → N r < 4096) : iv_fw N hu D P i < 4096 := by
  induction i with
  | zero => exact Nat.pow_lt_pow_right (a := 2) (n := 12) (by decide) hP
  | succ i ih => exact Nat.lt_of_le_of_lt Nat.and_le_left (iv_spn_lt ih hN 12 (Nat.le_refl _))
theorem po_aqB {N : Nat → Nat} {p x : Nat} : (N p ||| 2 ^ p).testBit x = true ↔ iv_aq N p x := by
  rw [po_setB, Bool.or_eq_true, decide_eq_true_iff]
  exact Or.comm
theorem iv_bk_bit {N : Nat → Nat} {hu : Nat → Nat → Bool} {D P Q L j p : Nat} (hQ : Q < 12) (hp : p < 12) : (iv_bk N hu D P Q L (j + 1)).testBit p = true ↔ iv_hd hu D P (L - (j + 1)) p = true ∧ ∃ x, x < 12 ∧ iv_aq N p x ∧ (iv_bk N hu D P Q L j).testBit x = true := by
  have hlt : (N p ||| 2 ^ p) &&& iv_bk N hu D P Q L j < 4096 := Nat.lt_of_le_of_lt Nat.and_le_right (iv_bk_lt hQ)
  show (iv_bb (fun p => iv_hd hu D P (L - (j + 1)) p && decide ((N p ||| 2 ^ p) &&& iv_bk N hu D P Q L j ≠ 0)) 12).testBit p = true ↔ _
  rw [iv_bb_bit, Bool.and_eq_true, decide_eq_true_iff, po_ne0 hlt]
  constructor
  · rintro ⟨_, h1, x, h2, h3⟩
    rw [Nat.testBit_and, Bool.and_eq_true, po_aqB] at h3
    exact ⟨h1, x, h2, h3⟩
  · rintro ⟨h1, x, h2, h3⟩
    refine ⟨hp, h1, x, h2, ?_⟩
    rw [Nat.testBit_and, Bool.and_eq_true, po_aqB]
    exact h3
/-- on the way: what is behind is before -/
theorem iv_way {N : Nat → Nat} {hu : Nat → Nat → Bool} {D P Q L j h x : Nat} (hL : j < L) (hQh : hu Q (D + (L - 1)) = false) (hQ : Q < 12) (hx : x < 12) (hh : h < 12) (hf : (iv_fw N hu D P (L - (j + 1))).testBit h = true) (ha : iv_aq N h x) (hb : (iv_bk N hu D P Q L j).testBit x = true) : (iv_fw N hu D P (L - j)).testBit x = true := by
  have e : L - j = (L - (j + 1)) + 1 := by omega
  rw [e]
  refine (iv_fw_bit hx).mpr ⟨⟨h, hh, hf, ha⟩, ?_⟩
  cases j with
  | zero =>
    have e1 : (2 ^ Q).testBit x = true := hb
    rw [Nat.testBit_two_pow, decide_eq_true_iff] at e1
    subst e1
    exact hQh
  | succ j =>
    have h1 := ((iv_bk_bit hQ hx).mp hb).1
    have e2 : L - (j + 1) = (L - (j + 1 + 1)) + 1 := by omega
    rw [e2] at h1
    have h2 : (!hu x (D + (L - (j + 1 + 1)))) = true := h1
    cases h3 : hu x (D + (L - (j + 1 + 1))) with
    | false => rfl
    | true => rw [h3] at h2; cases h2
theorem iv_hold {N : Nat → Nat} {hu : Nat → Nat → Bool} {D P d p : Nat} (hp : p < 12) (hf : (iv_fw N hu D P d).testBit p = true) : iv_hd hu D P d p = true := by
  cases d with
  | zero =>
    have e1 : (2 ^ P).testBit p = true := hf
    rw [Nat.testBit_two_pow, decide_eq_true_iff] at e1
    exact decide_eq_true e1.symm
  | succ d =>
    have := ((iv_fw_bit hp).mp hf).2
    show (!hu p (D + d)) = true
    rw [this]; rfl
theorem iv_meet {N : Nat → Nat} {hu : Nat → Nat → Bool} {D P Q L : Nat} (hQh : hu Q (D + (L - 1)) = false) (hQ : Q < 12) : ∀ j, j ≤ L → ((∃ x, x < 12 ∧ (iv_fw N hu D P (L - j)).testBit x = true ∧ (iv_bk N hu D P Q L j).testBit x = true) ↔ (iv_fw N hu D P L).testBit Q = true) := by
  intro j
  induction j with
  | zero =>
    intro _
    constructor
    · rintro ⟨x, _, h1, h2⟩
      have e1 : (2 ^ Q).testBit x = true := h2
      rw [Nat.testBit_two_pow, decide_eq_true_iff] at e1
      subst e1; exact h1
    · intro h
      exact ⟨Q, hQ, h, by show (2 ^ Q).testBit Q = true; rw [Nat.testBit_two_pow]; simp⟩
  | succ j ih =>
    intro hj
    refine Iff.trans ?_ (ih (by omega))
    constructor
    · rintro ⟨p, hp, h1, h2⟩
      obtain ⟨_, x, hx, h4, h5⟩ := (iv_bk_bit hQ hp).mp h2
      exact ⟨x, hx, iv_way (by omega) hQh hQ hx hp h1 h4 h5, h5⟩
    · rintro ⟨x, hx, h1, h2⟩
      have e : L - j = (L - (j + 1)) + 1 := by omega
      rw [e] at h1
      obtain ⟨⟨r, hr, h3, h4⟩, _⟩ := (iv_fw_bit hx).mp h1
      exact ⟨r, hr, h3, (iv_bk_bit hQ hr).mpr ⟨iv_hold hr h3, x, hx, h4, h2⟩⟩
theorem iv_meet0 {N : Nat → Nat} {hu : Nat → Nat → Bool} {D P Q L : Nat} (hL : 1 ≤ L) (hQh : hu Q (D + (L - 1)) = false) (hQ : Q < 12) (hP : P < 12) : (iv_bk N hu D P Q L L ≠ 0 ↔ (iv_fw N hu D P L).testBit Q = true) ∧ ((iv_fw N hu D P L).testBit Q = true → (iv_bk N hu D P Q L L).testBit P = true) := by
  have h := iv_meet (N := N) (P := P) hQh hQ L (Nat.le_refl _)
  rw [Nat.sub_self] at h
  have e0 : ∀ x, (iv_fw N hu D P 0).testBit x = true ↔ x = P := fun x => by
    show (2 ^ P).testBit x = true ↔ _
    rw [Nat.testBit_two_pow, decide_eq_true_iff]
    exact eq_comm
  obtain ⟨j, rfl⟩ : ∃ j, L = j + 1 := ⟨L - 1, by omega⟩
  refine ⟨?_, fun hf => ?_⟩
  · rw [← h, po_ne0 (iv_bk_lt hQ)]
    constructor
    · rintro ⟨x, hx, h1⟩
      refine ⟨x, hx, ?_, h1⟩
      have h2 := ((iv_bk_bit hQ hx).mp h1).1
      rw [Nat.sub_self] at h2
      exact (e0 x).mpr (of_decide_eq_true h2)
    · rintro ⟨x, hx, _, h1⟩
      exact ⟨x, hx, h1⟩
  · obtain ⟨x, hx, h1, h2⟩ := h.mpr hf
    have := (e0 x).mp h1
    subst this
    exact h2
/-- what the class keeps when it draws back -/
def iv_gd (N : Nat → Nat) (hu : Nat → Nat → Bool) (D P Q L : Nat) : Nat → Nat
  | 0 => 2 ^ Q
  | j + 1 => iv_sp N (iv_fw N hu D P (L - j) &&& iv_gd N hu D P Q L j)
theorem iv_gd_lt {N : Nat → Nat} {hu : Nat → Nat → Bool} {D P Q L j : Nat} (hP : P < 12) (hQ : Q < 12) (hN : ∀ r, r < 12 → N r < 4096) : iv_gd N hu D P Q L j < 4096 := by
  cases j with
  | zero => exact Nat.pow_lt_pow_right (a := 2) (n := 12) (by decide) hQ
  | succ j => exact iv_spn_lt (Nat.lt_of_le_of_lt Nat.and_le_left (iv_fw_lt hP hN)) hN 12 (Nat.le_refl _)
theorem iv_rd {N : Nat → Nat} {hu : Nat → Nat → Bool} {D P Q L : Nat} (hS : ∀ p q, p < 12 → q < 12 → (N p).testBit q = true → (N q).testBit p = true) (hQh : hu Q (D + (L - 1)) = false) (hQ : Q < 12) : ∀ j x, j < L → x < 12 → ((iv_fw N hu D P (L - j) &&& iv_gd N hu D P Q L j).testBit x = true ↔ (iv_fw N hu D P (L - j)).testBit x = true ∧ (iv_bk N hu D P Q L j).testBit x = true) := by
  have sym : ∀ a b, a < 12 → b < 12 → iv_aq N a b → iv_aq N b a := fun a b ha hb h => h.elim (fun e => Or.inl e.symm) (fun e => Or.inr (hS a b ha hb e))
  intro j
  induction j with
  | zero => intro x _ _; rw [Nat.testBit_and, Bool.and_eq_true]; exact Iff.rfl
  | succ j ih =>
    intro x hj hx
    rw [Nat.testBit_and, Bool.and_eq_true]
    refine and_congr_right (fun hf => ?_)
    show (iv_sp N (iv_fw N hu D P (L - j) &&& iv_gd N hu D P Q L j)).testBit x = true ↔ _
    rw [iv_sp_bit hx, iv_bk_bit hQ hx]
    constructor
    · rintro ⟨r, hr, h1, h2⟩
      exact ⟨iv_hold hx hf, r, hr, sym r x hr hx h2, ((ih r (by omega) hr).mp h1).2⟩
    · rintro ⟨_, r, hr, h1, h2⟩
      exact ⟨r, hr, (ih r (by omega) hr).mpr ⟨iv_way (by omega) hQh hQ hr hx hf h1 h2, h2⟩, sym x r hx hr h1⟩
/-- where he is after i days -/
def iv_hr (N : Nat → Nat) (hu : Nat → Nat → Bool) (D P Q L : Nat) : Nat → Nat
  | 0 => P
  | i + 1 => iv_lo (fun b => ((N (iv_hr N hu D P Q L i) ||| 2 ^ iv_hr N hu D P Q L i) &&& iv_bk N hu D P Q L (L - (i + 1))).testBit b) 12 0
theorem iv_hr_ok {N : Nat → Nat} {hu : Nat → Nat → Bool} {D P Q L : Nat} (hL : 1 ≤ L) (hQh : hu Q (D + (L - 1)) = false) (hQ : Q < 12) (hP : P < 12) (hf : (iv_fw N hu D P L).testBit Q = true) : ∀ i, i ≤ L → iv_hr N hu D P Q L i < 12 ∧ (iv_fw N hu D P i).testBit (iv_hr N hu D P Q L i) = true ∧ (iv_bk N hu D P Q L (L - i)).testBit (iv_hr N hu D P Q L i) = true := by
  intro i
  induction i with
  | zero =>
    intro _
    refine ⟨hP, by show (2 ^ P).testBit P = true; rw [Nat.testBit_two_pow]; simp, ?_⟩
    exact (iv_meet0 hL hQh hQ hP).2 hf
  | succ i ih =>
    intro hi
    obtain ⟨h1, h2, h3⟩ := ih (by omega)
    have e : L - i = (L - (i + 1)) + 1 := by omega
    rw [e] at h3
    obtain ⟨_, x, hx, h4, h5⟩ := (iv_bk_bit hQ h1).mp h3
    have hex : ∃ j, 0 ≤ j ∧ j < 0 + 12 ∧ (fun b => ((N (iv_hr N hu D P Q L i) ||| 2 ^ iv_hr N hu D P Q L i) &&& iv_bk N hu D P Q L (L - (i + 1))).testBit b) j = true := by
      refine ⟨x, Nat.zero_le _, by omega, ?_⟩
      show ((N (iv_hr N hu D P Q L i) ||| 2 ^ iv_hr N hu D P Q L i) &&& iv_bk N hu D P Q L (L - (i + 1))).testBit x = true
      rw [Nat.testBit_and, Bool.and_eq_true, po_aqB]
      exact ⟨h4, h5⟩
    obtain ⟨k1, k2, k3⟩ := iv_lo_ok 12 0 hex
    have eh : iv_hr N hu D P Q L (i + 1) = iv_lo (fun b => ((N (iv_hr N hu D P Q L i) ||| 2 ^ iv_hr N hu D P Q L i) &&& iv_bk N hu D P Q L (L - (i + 1))).testBit b) 12 0 := rfl
    rw [← eh] at k1 k2 k3
    have k1' : ((N (iv_hr N hu D P Q L i) ||| 2 ^ iv_hr N hu D P Q L i) &&& iv_bk N hu D P Q L (L - (i + 1))).testBit (iv_hr N hu D P Q L (i + 1)) = true := k1
    rw [Nat.testBit_and, Bool.and_eq_true, po_aqB] at k1'
    refine ⟨by omega, ?_, k1'.2⟩
    have := iv_way (j := L - (i + 1)) (h := iv_hr N hu D P Q L i) (x := iv_hr N hu D P Q L (i + 1)) (N := N) (hu := hu) (D := D) (P := P) (Q := Q) (L := L) (by omega) hQh hQ (by omega) h1 (by rw [show L - (L - (i + 1) + 1) = i by omega]; exact h2) k1'.1 k1'.2
    rw [show L - (L - (i + 1)) = i + 1 by omega] at this
    exact this
/-- both look among the same places -/
theorem iv_same {N : Nat → Nat} {hu : Nat → Nat → Bool} {D P Q L i : Nat} (hN : ∀ r, r < 12 → N r < 4096) (hS : ∀ p q, p < 12 → q < 12 → (N p).testBit q = true → (N q).testBit p = true) (hL : 1 ≤ L) (hQh : hu Q (D + (L - 1)) = false) (hQ : Q < 12) (hP : P < 12) (hf : (iv_fw N hu D P L).testBit Q = true) (hi : i < L) :
    iv_sp N (2 ^ iv_hr N hu D P Q L i) &&& (iv_fw N hu D P (i + 1) &&& iv_gd N hu D P Q L (L - (i + 1))) = (N (iv_hr N hu D P Q L i) ||| 2 ^ iv_hr N hu D P Q L i) &&& iv_bk N hu D P Q L (L - (i + 1)) ∧ ((N (iv_hr N hu D P Q L i) ||| 2 ^ iv_hr N hu D P Q L i) &&& iv_bk N hu D P Q L (L - (i + 1)) ≠ 0) ∧ ((N (iv_hr N hu D P Q L i) ||| 2 ^ iv_hr N hu D P Q L i) &&& iv_bk N hu D P Q L (L - (i + 1)) < 4096) := by
  obtain ⟨h1, h2, h3⟩ := iv_hr_ok hL hQh hQ hP hf i (by omega)
  have hlt : (N (iv_hr N hu D P Q L i) ||| 2 ^ iv_hr N hu D P Q L i) &&& iv_bk N hu D P Q L (L - (i + 1)) < 4096 := Nat.lt_of_le_of_lt Nat.and_le_right (iv_bk_lt hQ)
  refine ⟨?_, ?_, hlt⟩
  · obtain ⟨R, hR⟩ : ∃ R, R = iv_fw N hu D P (i + 1) &&& iv_gd N hu D P Q L (L - (i + 1)) := ⟨_, rfl⟩
    have hRlt : R < 4096 := by rw [hR]; exact Nat.lt_of_le_of_lt Nat.and_le_left (iv_fw_lt hP hN)
    rw [← hR]
    refine Nat.eq_of_testBit_eq (fun x => ?_)
    rw [Nat.testBit_and, Nat.testBit_and, po_src h1]
    by_cases hx : x < 12
    · have hrd := iv_rd (P := P) hS hQh hQ (L - (i + 1)) x (by omega) hx
      rw [show L - (L - (i + 1)) = i + 1 by omega, ← hR] at hrd
      cases ha : (N (iv_hr N hu D P Q L i) ||| 2 ^ iv_hr N hu D P Q L i).testBit x with
      | false => rfl
      | true =>
        rw [Bool.true_and, Bool.true_and]
        have ha' := po_aqB.mp ha
        cases hb : (iv_bk N hu D P Q L (L - (i + 1))).testBit x with
        | true =>
          refine hrd.mpr ⟨?_, hb⟩
          have := iv_way (j := L - (i + 1)) (h := iv_hr N hu D P Q L i) (x := x) (N := N) (hu := hu) (D := D) (P := P) (Q := Q) (L := L) (by omega) hQh hQ hx h1 (by rw [show L - (L - (i + 1) + 1) = i by omega]; exact h2) ha' hb
          rw [show L - (L - (i + 1)) = i + 1 by omega] at this
          exact this
        | false =>
          cases hc : R.testBit x with
          | false => rfl
          | true => have := (hrd.mp hc).2; rw [hb] at this; cases this
    · have e1 : R.testBit x = false := Nat.testBit_lt_two_pow (Nat.lt_of_lt_of_le hRlt (Nat.pow_le_pow_right (n := 2) (by decide) (by omega : 12 ≤ x)))
      have e2 : (iv_bk N hu D P Q L (L - (i + 1))).testBit x = false := Nat.testBit_lt_two_pow (Nat.lt_of_lt_of_le (iv_bk_lt hQ) (Nat.pow_le_pow_right (n := 2) (by decide) (by omega : 12 ≤ x)))
      rw [e1, e2, Bool.and_false]
  · have e : L - i = (L - (i + 1)) + 1 := by omega
    rw [e] at h3
    obtain ⟨_, x, hx, h4, h5⟩ := (iv_bk_bit hQ h1).mp h3
    refine (po_ne0 hlt).mpr ⟨x, hx, ?_⟩
    rw [Nat.testBit_and, Bool.and_eq_true, po_aqB]
    exact ⟨h4, h5⟩
