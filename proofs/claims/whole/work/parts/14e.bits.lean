/-! PURE: bits -/
theorem po_shT : (List.range 32).all (fun k => decide (((nI k &&& 31).toBitVec.smod 32).toNat = k) && decide ((((nI k).toUInt32 &&& Int32.toUInt32 31).toBitVec % 32).toNat = k)) = true := by decide +kernel
theorem po_sh {k : Nat} (hk : k < 32) : ((nI k &&& 31).toBitVec.smod 32).toNat = k := by
  have h := List.all_eq_true.mp po_shT k (List.mem_range.mpr hk)
  rw [Bool.and_eq_true, decide_eq_true_iff] at h
  exact h.1
theorem po_ush {k : Nat} (hk : k < 32) : (((nI k).toUInt32 &&& Int32.toUInt32 31).toBitVec % 32).toNat = k := by
  have h := List.all_eq_true.mp po_shT k (List.mem_range.mpr hk)
  rw [Bool.and_eq_true, decide_eq_true_iff, decide_eq_true_iff] at h
  exact h.2
theorem po_hasM {m k : Nat} (hm : m < 2 ^ 31) (hk : k < 32) : f_X12_has (nI m) (nI k) = m.testBit k := by
  have hd : m / 2 ^ k < 2 ^ 31 := Nat.lt_of_le_of_lt (Nat.div_le_self _ _) hm
  unfold f_X12_has
  rw [pk_shrN hm _ k (po_sh hk), pk_andN (n := m / 2 ^ k) (by omega) (m := 1) 1 (by decide), Nat.testBit_eq_decide_div_mod_eq]
  have h2 : m / 2 ^ k % 2 ^ 1 = m / 2 ^ k % 2 := rfl
  rw [h2]
  rcases Nat.mod_two_eq_zero_or_one (m / 2 ^ k) with h | h
  · rw [h]; rfl
  · rw [h]; rfl
theorem po_hasC {m k : Nat} (hm : m < 2 ^ 31) (hk : k < 32) : f_X11_hasBit (nI m) (nI k) = m.testBit k := by
  have hd : m / 2 ^ k < 2 ^ 31 := Nat.lt_of_le_of_lt (Nat.div_le_self _ _) hm
  have e : wk_ushr (nI m) (nI k) = nI (m / 2 ^ k) := pk_ushrN (by omega) (nI k) k (po_ush hk)
  have h0 : ¬ nI k < 0 := nI_pos (by omega)
  have h32 : ¬ nI k ≥ 32 := nI_ge (a := k) (b := 32) hk (by decide)
  unfold f_X11_hasBit
  rw [if_neg h0, if_neg h32, e, pk_andN (n := m / 2 ^ k) (by omega) (m := 1) 1 (by decide), Nat.testBit_eq_decide_div_mod_eq]
  have h2 : m / 2 ^ k % 2 ^ 1 = m / 2 ^ k % 2 := rfl
  rw [h2]
  rcases Nat.mod_two_eq_zero_or_one (m / 2 ^ k) with h | h
  · rw [h]; rfl
  · rw [h]; rfl
theorem po_bit {k : Nat} (hk : k < 31) : (1 : Int32) <<< (nI k &&& 31) = nI (2 ^ k) := by
  have h := pk_shlN (n := 1) (nI k &&& 31) k (po_sh (by omega)) (by
    have : 2 ^ k ≤ 2 ^ 31 := Nat.pow_le_pow_right (by decide) (by omega)
    omega)
  rw [Nat.one_mul] at h
  exact h
