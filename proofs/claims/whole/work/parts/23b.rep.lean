/-! PURE: hunts: what is said is said again -/
def iv_per (a v j : Nat) : Nat := if j < a then j else a + (j - a) % v
theorem iv_per_lt {a v j : Nat} (h : j < a + v) : iv_per a v j = j := by
  unfold iv_per
  by_cases hj : j < a
  · rw [if_pos hj]
  · rw [if_neg hj, Nat.mod_eq_of_lt (by omega)]; omega
theorem iv_per_b {a v j : Nat} (hv : 0 < v) : iv_per a v j < a + v := by
  unfold iv_per
  by_cases hj : j < a
  · rw [if_pos hj]; omega
  · rw [if_neg hj]
    have := Nat.mod_lt (j - a) hv
    omega
theorem iv_per_s {a v j : Nat} (h : a ≤ j) : iv_per a v (j + v) = iv_per a v j := by
  unfold iv_per
  rw [if_neg (by omega), if_neg (by omega), show j + v - a = (j - a) + v by omega, Nat.add_mod_right]
theorem iv_per_m {a v j r : Nat} (h : a + r * v ≤ j) : iv_per a v j = iv_per a v (j - r * v) := by
  unfold iv_per
  have hr : j - a = (j - r * v - a) + r * v := by omega
  rw [if_neg (by omega), if_neg (by omega), hr, Nat.add_mul_mod_self_right]
theorem po_mulN (a b : Nat) : nI a * nI b = nI (a * b) := (Int32.ofNat_mul a b).symm
/-- the class says it again -/
theorem po_repC {c : wk_St} {a k z : Nat} (i : Int32) (hak : a < k) (hz : 1 ≤ z) (h48 : a + (k - a) * z ≤ 48) (h5 : c.1 30 5 = nI k) (h0 : ∀ j, k ≤ j → j < 64 → iv_bit (c.2 30 4) j = false) :
    ∃ x, f_X3_repeat (nI a) (nI z) i c = some (true, wk_si (wk_sl c 30 4 x) 30 5 (nI (a + (k - a) * z))) ∧ (∀ j, j < a + (k - a) * z → iv_bit x j = iv_bit (c.2 30 4) (iv_per a (k - a) j)) ∧ ∀ j, a + (k - a) * z ≤ j → j < 64 → iv_bit x j = false := by
  obtain ⟨v, rfl⟩ : ∃ v, k = a + v := ⟨k - a, by omega⟩
  rw [show a + v - a = v by omega] at *
  have hv : 0 < v := by omega
  have hvz : v * 1 ≤ v * z := Nat.mul_le_mul_left v hz
  have hzz : 1 * z ≤ v * z := Nat.mul_le_mul_right z hv
  have e1 : nI (a + v) - nI a = nI v := by
    rw [Int32.sub_eq_iff_eq_add, nI_add, Nat.add_comm]
  have e2 : nI v * nI z = nI (v * z) := po_mulN v z
  obtain ⟨y, ey, x, rfl, hx1, hx2⟩ := po_inv (f := S_X3_repeat_24 (nI z) (nI v) (wk_lushr (c.2 30 4) (nI a)))
    (fun r q => ∃ x, q = (nI (r + 1), wk_si (wk_sl c 30 4 x) 30 5 (nI (a + v * (r + 1)))) ∧ (∀ j, j < a + v * (r + 1) → iv_bit x j = iv_bit (c.2 30 4) (iv_per a v j)) ∧ ∀ j, a + v * (r + 1) ≤ j → j < 64 → iv_bit x j = false)
    (fun y => ∃ x, y = wk_si (wk_sl c 30 4 x) 30 5 (nI (a + v * z)) ∧ (∀ j, j < a + v * z → iv_bit x j = iv_bit (c.2 30 4) (iv_per a v j)) ∧ ∀ j, a + v * z ≤ j → j < 64 → iv_bit x j = false) (z - 1) (by
      rintro r q hr ⟨x, rfl, hx1, hx2⟩
      have hM : v * (r + 1 + 1) ≤ v * z := Nat.mul_le_mul_left v (by omega)
      have hM2 : v * (r + 1 + 1) = v * (r + 1) + v := Nat.mul_succ v (r + 1)
      have hM3 : (r + 1) * v = v * (r + 1) := Nat.mul_comm _ _
      have g5 : (wk_si (wk_sl c 30 4 x) 30 5 (nI (a + v * (r + 1)))).1 30 5 = nI (a + v * (r + 1)) := po_si_at
      have g4 : (wk_si (wk_sl c 30 4 x) 30 5 (nI (a + v * (r + 1)))).2 30 4 = x := by
        show (if (30 : Nat) = 30 ∧ (4 : Nat) = 4 then x else c.2 30 4) = x
        exact if_pos ⟨rfl, rfl⟩
      unfold S_X3_repeat_24
      dsimp only
      rw [if_neg (nI_ge (by omega) (by omega)), g4, g5, nI_1]
      obtain ⟨X, hX⟩ : ∃ X, X = x ||| wk_lushr (c.2 30 4) (nI a) <<< ((nI (a + v * (r + 1))).toInt64 &&& 63) := ⟨_, rfl⟩
      rw [← hX]
      have hb : ∀ j, j < 64 → iv_bit X j = (iv_bit x j || (!decide (j < a + v * (r + 1)) && iv_bit (c.2 30 4) (a + (j - (a + v * (r + 1)))))) := fun j hj => by
        rw [hX, po_bitO, po_bitS (by omega) hj, po_bitU (by omega)]
      refine ⟨_, rfl, X, ?_, fun j hj => ?_, fun j hj hj2 => ?_⟩
      · refine congrArg (fun s => (nI (r + 1 + 1), s)) ?_
        refine Prod.ext (funext fun p => funext fun q => ?_) (funext fun p => funext fun q => ?_)
        · show (if p = 30 ∧ q = 5 then ((if (30 : Nat) = 30 ∧ (5 : Nat) = 5 then nI (a + v * (r + 1)) else c.1 30 5) + nI v) else (if p = 30 ∧ q = 5 then nI (a + v * (r + 1)) else c.1 p q)) = if p = 30 ∧ q = 5 then nI (a + v * (r + 1 + 1)) else c.1 p q
          by_cases h : p = 30 ∧ q = 5
          · rw [if_pos h, if_pos h, if_pos ⟨rfl, rfl⟩, nI_add, hM2, Nat.add_assoc]
          · rw [if_neg h, if_neg h, if_neg h]
        · show (if p = 30 ∧ q = 4 then X else (if p = 30 ∧ q = 4 then x else c.2 p q)) = if p = 30 ∧ q = 4 then X else c.2 p q
          by_cases h : p = 30 ∧ q = 4
          · rw [if_pos h, if_pos h]
          · rw [if_neg h, if_neg h, if_neg h]
      · rw [hb j (by omega)]
        by_cases hjM : j < a + v * (r + 1)
        · rw [decide_eq_true hjM, Bool.not_true, Bool.false_and, Bool.or_false]
          exact hx1 j hjM
        · rw [decide_eq_false hjM, hx2 j (by omega) (by omega), Bool.not_false, Bool.true_and, Bool.false_or, iv_per_m (r := r + 1) (by omega), iv_per_lt (by omega)]
          exact congrArg (iv_bit (c.2 30 4)) (by omega)
      · rw [hb j hj2, decide_eq_false (by omega), hx2 j (by omega) hj2, h0 _ (by omega) (by omega)]
        rfl) (by
      rintro q ⟨x, rfl, hx1, hx2⟩
      rw [show z - 1 + 1 = z by omega] at *
      unfold S_X3_repeat_24
      dsimp only
      rw [if_pos (nI_le (Nat.le_refl z) (by omega))]
      exact ⟨_, rfl, x, rfl, hx1, hx2⟩) (by omega) (p := ((1 : Int32), c)) ⟨c.2 30 4, by
        refine congrArg (fun s => (nI (0 + 1), s)) ?_
        rw [show a + v * (0 + 1) = a + v by omega, ← h5]
        refine Prod.ext (funext fun p => funext fun q => ?_) (funext fun p => funext fun q => ?_)
        · show c.1 p q = if p = 30 ∧ q = 5 then c.1 30 5 else c.1 p q
          by_cases h : p = 30 ∧ q = 5
          · rw [if_pos h, h.1, h.2]
          · rw [if_neg h]
        · show c.2 p q = if p = 30 ∧ q = 4 then c.2 30 4 else c.2 p q
          by_cases h : p = 30 ∧ q = 4
          · rw [if_pos h, h.1, h.2]
          · rw [if_neg h], fun j hj => by rw [iv_per_lt (by omega)], fun j h1 h2 => h0 j (by omega) h2⟩
  refine ⟨x, ?_, hx1, hx2⟩
  unfold f_X3_repeat wk_let
  dsimp only
  rw [h5, e1, e2, nI_add, if_pos (show nI (a + v * z) ≤ (48 : Int32) from (nI_leI (b := 48) (by omega) (by decide)).mpr h48)]
  rw [ey]
  rfl
/-- the model says it again -/
theorem po_repM {m : wk_St} {a k z : Nat} (i : Int32) (hak : a < k) (hz : 1 ≤ z) (h48 : a + (k - a) * z ≤ 48) (h38 : m.1 0 38 = nI k) :
    ∃ g, f_X12_repeats (nI a) (nI z) i m = some (true, wk_si (iv_set m 23 g) 0 38 (nI (a + (k - a) * z))) ∧ (∀ j, j < a + (k - a) * z → g j = m.1 23 (iv_per a (k - a) j)) := by
  obtain ⟨v, rfl⟩ : ∃ v, k = a + v := ⟨k - a, by omega⟩
  rw [show a + v - a = v by omega] at *
  have hv : 0 < v := by omega
  have hvz : v * 1 ≤ v * z := Nat.mul_le_mul_left v hz
  have hzz : 1 * z ≤ v * z := Nat.mul_le_mul_right z hv
  have e1 : nI (a + v) - nI a = nI v := by
    rw [Int32.sub_eq_iff_eq_add, nI_add, Nat.add_comm]
  have e2 : nI v * nI z = nI (v * z) := po_mulN v z
  obtain ⟨y, ey, g, rfl, hg⟩ := po_inv (f := S_X12_repeats_19 (nI a) (nI z) (nI v))
    (fun r q => ∃ g, q = (nI (v + r), iv_set m 23 g) ∧ ∀ j, j < a + (v + r) → g j = m.1 23 (iv_per a v j))
    (fun y => ∃ g, y = iv_set m 23 g ∧ ∀ j, j < a + v * z → g j = m.1 23 (iv_per a v j)) (v * z - v) (by
      rintro r q hr ⟨g, rfl, hg⟩
      have e3 : nI a + nI (v + r) - nI v = nI (a + r) := by
        rw [Int32.sub_eq_iff_eq_add, nI_add, nI_add]
        congr 1; omega
      unfold S_X12_repeats_19
      dsimp only
      rw [e2, if_neg (nI_ge (by omega) (by omega)), e3, nI_add, if_pos (po_wkin (by omega) (by decide)), if_pos (po_wkin (by omega) (by decide)), nI_clamp (by omega), nI_clamp (by omega), iv_set_si, iv_set_at, nI_1]
      refine ⟨_, rfl, _, rfl, fun j hj => ?_⟩
      by_cases hjj : j = a + (v + r)
      · rw [if_pos hjj, hg (a + r) (by omega), hjj, show a + (v + r) = a + r + v by omega, iv_per_s (by omega)]
      · rw [if_neg hjj, hg j (by omega)]) (by
      rintro q ⟨g, rfl, hg⟩
      rw [show v + (v * z - v) = v * z by omega] at *
      unfold S_X12_repeats_19
      dsimp only
      rw [e2, if_pos (nI_le (Nat.le_refl (v * z)) (by omega))]
      exact ⟨_, rfl, g, rfl, hg⟩) (by omega) (p := (nI v, m)) ⟨m.1 23, by rw [iv_set_id]; rfl, fun j hj => by rw [iv_per_lt (by omega)]⟩
  refine ⟨g, ?_, hg⟩
  unfold f_X12_repeats wk_let
  dsimp only
  rw [h38, e1, e2, nI_add, if_pos (show nI (a + v * z) ≤ (48 : Int32) from (nI_leI (b := 48) (by omega) (by decide)).mpr h48)]
  rw [ey]
  rfl
