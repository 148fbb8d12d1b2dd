/-! PURE: masks -/
theorem po_or {a b : Nat} (ha : a < 2 ^ 31) (hb : b < 2 ^ 31) : nI a ||| nI b = nI (a ||| b) := by
  refine Int32.toBitVec_inj.mp (BitVec.eq_of_toNat_eq ?_)
  have h : a ||| b < 2 ^ 31 := Nat.or_lt_two_pow ha hb
  rw [pk_tn (by omega), Int32.toBitVec_or, BitVec.toNat_or, pk_tn (by omega), pk_tn (by omega)]
theorem po_and {a b : Nat} (ha : a < 2 ^ 31) (hb : b < 2 ^ 31) : nI a &&& nI b = nI (a &&& b) := by
  refine Int32.toBitVec_inj.mp (BitVec.eq_of_toNat_eq ?_)
  have h : a &&& b ≤ a := Nat.and_le_left
  rw [pk_tn (by omega), Int32.toBitVec_and, BitVec.toNat_and, pk_tn (by omega), pk_tn (by omega)]
theorem po_notT : (List.range 12).all (fun k => decide ((nI (2 ^ k) ^^^ (-1 : Int32)).toBitVec.toNat = (4095 - 2 ^ k) + 4096 * 1048575)) = true := by decide +kernel
