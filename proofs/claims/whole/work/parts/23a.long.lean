/-! PURE: hunts: the bits of a long -/
def iv_bit (x : Int64) (j : Nat) : Bool := x.toBitVec.getLsbD j
theorem po_sh1 {i : Nat} (hi : i < 64) : (((nI i).toInt64.toUInt64 &&& Int64.toUInt64 63) : UInt64).toBitVec % 64#64 = BitVec.ofNat 64 i ∧ ((nI i).toInt64 &&& 63 : Int64).toBitVec.smod 64#64 = BitVec.ofNat 64 i := by
  have h : (List.range 64).all (fun i => decide ((((nI i).toInt64.toUInt64 &&& Int64.toUInt64 63) : UInt64).toBitVec % 64#64 = BitVec.ofNat 64 i ∧ ((nI i).toInt64 &&& 63 : Int64).toBitVec.smod 64#64 = BitVec.ofNat 64 i)) = true := by decide +kernel
  have := List.all_eq_true.mp h i (List.mem_range.mpr hi)
  exact of_decide_eq_true this
theorem po_bvn {i : Nat} (hi : i < 64) : (BitVec.ofNat 64 i).toNat = i := by
  rw [BitVec.toNat_ofNat]; exact Nat.mod_eq_of_lt (by omega)
theorem po_bitU {x : Int64} {i j : Nat} (hi : i < 64) : iv_bit (wk_lushr x (nI i)) j = iv_bit x (i + j) := by
  unfold iv_bit wk_lushr
  show (x.toUInt64 >>> ((nI i).toInt64.toUInt64 &&& Int64.toUInt64 63)).toBitVec.getLsbD j = _
  rw [UInt64.toBitVec_shiftRight]
  have := (po_sh1 hi).1
  rw [show (((nI i).toInt64.toUInt64 &&& Int64.toUInt64 63) : UInt64).toBitVec % 64 = BitVec.ofNat 64 i from this, BitVec.ushiftRight_eq', BitVec.getLsbD_ushiftRight, po_bvn hi]
  rfl
theorem po_bitS {x : Int64} {i j : Nat} (hi : i < 64) (hj : j < 64) : iv_bit (x <<< ((nI i).toInt64 &&& 63)) j = (!decide (j < i) && iv_bit x (j - i)) := by
  unfold iv_bit
  have := (po_sh1 hi).2
  rw [Int64.toBitVec_shiftLeft, show ((nI i).toInt64 &&& 63 : Int64).toBitVec.smod 64 = BitVec.ofNat 64 i from this, BitVec.shiftLeft_eq', BitVec.getLsbD_shiftLeft, po_bvn hi, decide_eq_true hj, Bool.true_and]
theorem po_bitO {x y : Int64} {j : Nat} : iv_bit (x ||| y) j = (iv_bit x j || iv_bit y j) := by
  unfold iv_bit
  rw [Int64.toBitVec_or, BitVec.getLsbD_or]
theorem po_bit1 {j : Nat} : iv_bit 1 j = decide (j = 0) := by
  show (1#64).getLsbD j = _
  rw [BitVec.getLsbD_one]
  simp
theorem po_bit0 {j : Nat} : iv_bit 0 j = false := by
  show (0#64).getLsbD j = _
  exact BitVec.getLsbD_zero
theorem po_bitL {x : Int64} {j : Nat} (hj : j < 64) : iv_lb x j = iv_bit x j := by
  unfold iv_lb
  have h0 : ∀ y : Int64, wk_lcmp y 0 = 0 ↔ y = 0 := by
    intro y
    unfold wk_lcmp
    constructor
    · intro h
      split at h
      · cases h
      · split at h
        · assumption
        · cases h
    · intro h
      rw [h, if_neg (by decide), if_pos rfl]
  have h1 : ∀ i, iv_bit (wk_lushr x (nI j) &&& 1) i = (iv_bit x (j + i) && decide (i = 0)) := fun i => by
    rw [← po_bitU hj, ← po_bit1]
    unfold iv_bit
    rw [Int64.toBitVec_and, BitVec.getLsbD_and]
  cases hb : iv_bit x j with
  | true =>
    refine decide_eq_true (fun h => ?_)
    have h2 := (h0 _).mp h
    have h3 := h1 0
    rw [h2, po_bit0, Nat.add_zero, hb] at h3
    cases h3
  | false =>
    refine decide_eq_false (fun h => h ((h0 _).mpr ?_))
    refine Int64.toBitVec_inj.mp (BitVec.eq_of_getLsbD_eq fun i hi => ?_)
    have h3 := h1 i
    unfold iv_bit at h3
    rw [h3]
    by_cases hi0 : i = 0
    · subst hi0
      have hb' : x.toBitVec.getLsbD j = false := hb
      rw [Nat.add_zero, hb']
      rfl
    · rw [decide_eq_false hi0, Bool.and_false]
      exact BitVec.getLsbD_zero.symm
