/-! PURE: masks -/
theorem po_or {a b : Nat} (ha : a < 2 ^ 31) (hb : b < 2 ^ 31) : nI a ||| nI b = nI (a ||| b) := by
  refine Int32.toBitVec_inj.mp (BitVec.eq_of_toNat_eq ?_)
  have h : a ||| b < 2 ^ 31 := Nat.or_lt_two_pow ha hb
  rw [pk_tn (by omega), Int32.toBitVec_or, BitVec.toNat_or, pk_tn (by omega), pk_tn (by omega)]
theorem po_and {a b : Nat} (ha : a < 2 ^ 31) (hb : b < 2 ^ 31) : nI a &&& nI b = nI (a &&& b) := by
  refine Int32.toBitVec_inj.mp (BitVec.eq_of_toNat_eq ?_)
  have h : a &&& b ≤ a := Nat.and_le_left
  rw [pk_tn (by omega), Int32.toBitVec_and, BitVec.toNat_and, pk_tn (by omega), pk_tn (by omega)]
theorem po_notT : (List.range 12).all (fun k => decide ((nI (2 ^ k) ^^^ (-1 : Int32)).toBitVec.toNat = (4095 - 2 ^ k) + 4096 * 1048575)) = true := by decide +kernel
theorem po_not {k : Nat} (hk : k < 12) : (nI (2 ^ k) ^^^ (-1 : Int32)).toBitVec.toNat = (4095 - 2 ^ k) + 4096 * 1048575 := of_decide_eq_true (List.all_eq_true.mp po_notT k (List.mem_range.mpr hk))
theorem po_clr {m k : Nat} (hm : m < 4096) (hk : k < 12) : nI m &&& (nI (2 ^ k) ^^^ (-1 : Int32)) = nI (m &&& (4095 - 2 ^ k)) := by
  refine Int32.toBitVec_inj.mp (BitVec.eq_of_toNat_eq ?_)
  have h : m &&& (4095 - 2 ^ k) ≤ m := Nat.and_le_left
  rw [pk_tn (by omega), Int32.toBitVec_and, BitVec.toNat_and, pk_tn (by omega), po_not hk]
  have h1 : m &&& (4095 - 2 ^ k + 4096 * 1048575) ≤ m := Nat.and_le_left
  have h2 := Nat.and_mod_two_pow (a := m) (b := 4095 - 2 ^ k + 4096 * 1048575) (n := 12)
  have e1 : (m &&& (4095 - 2 ^ k + 4096 * 1048575)) % 2 ^ 12 = m &&& (4095 - 2 ^ k + 4096 * 1048575) := Nat.mod_eq_of_lt (by omega)
  have e2 : m % 2 ^ 12 = m := Nat.mod_eq_of_lt (by omega)
  have e3 : ∀ z : Nat, (4095 - z + 4096 * 1048575) % 2 ^ 12 = 4095 - z := fun z => by omega
  rw [e1, e2, e3 (2 ^ k)] at h2
  exact h2
theorem po_clrBT : (List.range 12).all (fun k => (List.range 12).all (fun j => decide ((4095 - 2 ^ k).testBit j = !decide (j = k)))) = true := by decide +kernel
theorem po_clrB {m k j : Nat} (hk : k < 12) (hj : j < 12) : (m &&& (4095 - 2 ^ k)).testBit j = (m.testBit j && !decide (j = k)) := by
  rw [Nat.testBit_and]
  exact congrArg _ (of_decide_eq_true (List.all_eq_true.mp (List.all_eq_true.mp po_clrBT k (List.mem_range.mpr hk)) j (List.mem_range.mpr hj)))
theorem po_setB {m k j : Nat} : (m ||| 2 ^ k).testBit j = (m.testBit j || decide (k = j)) := by
  rw [Nat.testBit_or, Nat.testBit_two_pow]
