/-! PURE: suits -/
def iv_pc (x : Nat) : Nat := iv_cnt (fun k => x.testBit k) 12
set_option maxRecDepth 100000 in
theorem po_pcT : (List.range 512).all (fun x => decide (f_J6_bitCount_0f7a4 (nI x) = nI (iv_pc x)) && decide (f_X12_bits (nI x) = some (nI (iv_pc x))) && decide (x = 0 ∨ 1 ≤ iv_pc x)) = true := by decide +kernel
theorem po_pc {x : Nat} (hx : x < 512) : f_J6_bitCount_0f7a4 (nI x) = nI (iv_pc x) ∧ f_X12_bits (nI x) = some (nI (iv_pc x)) ∧ (x = 0 ∨ 1 ≤ iv_pc x) := by
  have h := List.all_eq_true.mp po_pcT x (List.mem_range.mpr hx)
  rw [Bool.and_eq_true, Bool.and_eq_true, decide_eq_true_iff, decide_eq_true_iff, decide_eq_true_iff] at h
  exact ⟨h.1.1, h.1.2, h.2⟩
def iv_sum (b : Nat → Bool) (f : Nat → Int32) : Nat → Int32
  | 0 => 0
  | n + 1 => if b n = true then iv_sum b f n + f n else iv_sum b f n
theorem iv_sum_congr {b b2 : Nat → Bool} {f f2 : Nat → Int32} : ∀ n, (∀ k, k < n → b k = b2 k ∧ (b k = true → f k = f2 k)) → iv_sum b f n = iv_sum b2 f2 n := by
  intro n
  induction n with
  | zero => intro _; rfl
  | succ n ih =>
    intro h
    have h1 := h n (by omega)
    unfold iv_sum
    rw [ih (fun k hk => h k (by omega)), ← h1.1]
    cases hb : b n with
    | false => rfl
    | true => rw [if_pos rfl, if_pos rfl, h1.2 hb]
theorem iv_sum_0 {b : Nat → Bool} {f : Nat → Int32} : ∀ n, (∀ k, k < n → b k = true → f k = 0) → iv_sum b f n = 0 := by
  intro n
  induction n with
  | zero => intro _; rfl
  | succ n ih =>
    intro h
    unfold iv_sum
    rw [ih (fun k hk => h k (by omega))]
    cases hb : b n with
    | false => rfl
    | true => rw [if_pos rfl, h n (by omega) hb]; rfl
theorem po_wo {z s : Nat} (hs : s < 12) (h : z.testBit s = true) : z &&& (4095 - 2 ^ s) < z := by
  refine Nat.lt_of_le_of_ne Nat.and_le_left (fun e => ?_)
  have := po_clrB (m := z) hs hs
  rw [e, h, decide_eq_true rfl] at this
  cases this
theorem po_endW {c : wk_St} {g : Nat → Int32} {z P : Nat} (hz : z < 512) (hP : P < 65536) : f_X11_waysToEndWith (nI z) (nI P) (iv_set c 36 g) = some (iv_sum (fun s => (z &&& P).testBit s) (fun s => g (z &&& (4095 - 2 ^ s))) 9) := by
  have e : wk_loop (S_X11_waysToEndWith_4 (nI z) (nI P) (iv_set c 36 g)) wk_F ((0 : Int32), (0 : Int32)) = some (iv_sum (fun s => (z &&& P).testBit s) (fun s => g (z &&& (4095 - 2 ^ s))) 9) := by
    refine po_for (fun i => (iv_sum (fun s => (z &&& P).testBit s) (fun s => g (z &&& (4095 - 2 ^ s))) i, nI i)) 9 rfl ?_ ?_ (by decide)
    · intro j hj
      show _ = some (Sum.inr ((if (z &&& P).testBit j = true then iv_sum (fun s => (z &&& P).testBit s) (fun s => g (z &&& (4095 - 2 ^ s))) j + g (z &&& (4095 - 2 ^ j)) else iv_sum (fun s => (z &&& P).testBit s) (fun s => g (z &&& (4095 - 2 ^ s))) j), nI (j + 1)))
      have hand : z &&& P < 512 := Nat.lt_of_le_of_lt Nat.and_le_left hz
      have hand2 : z &&& (4095 - 2 ^ j) < 512 := Nat.lt_of_le_of_lt Nat.and_le_left hz
      unfold S_X11_waysToEndWith_4 wk_let
      dsimp only
      rw [if_neg (po_n9 hj), po_bit (by omega), po_clr (by omega) (by omega), po_and (by omega) (by omega), po_hasC (by omega) (by omega), nI_1]
      cases hb : (z &&& P).testBit j with
      | false => rw [if_pos rfl, if_neg (by decide)]
      | true => rw [if_neg (by decide), if_neg (nI_pos (by omega)), if_neg (show ¬ nI (z &&& (4095 - 2 ^ j)) ≥ 512 from nI_ge (b := 512) hand2 (by decide)), if_pos (po_wkin hand2 (by decide)), nI_clamp (by omega), iv_set_at, if_pos rfl]
    · unfold S_X11_waysToEndWith_4
      dsimp only
      rw [if_pos (by decide)]
  unfold f_X11_waysToEndWith
  rw [e]
  rfl
theorem po_suit58 {m : wk_St} {h : Nat → Int32} {z d : Nat} {x1 x2 x3 : Int32} (hz : z < 512) (hd : d < 9) (h0 : h z = 0) : wk_loop (S_X12_suits_58 x1 x2 x3 (nI z) (nI d)) wk_F ((0 : Int32), iv_set m 31 h) = some (iv_set m 31 (fun b => if b = z then iv_sum (fun s => z.testBit s && (iv_pr (m.1 7) d).testBit s) (fun s => h (z &&& (4095 - 2 ^ s))) 9 else h b)) := by
  have hlt := iv_pr_lt (h := m.1 7) (i := d)
  refine po_for (fun i => (nI i, iv_set m 31 (fun b => if b = z then iv_sum (fun s => z.testBit s && (iv_pr (m.1 7) d).testBit s) (fun s => h (z &&& (4095 - 2 ^ s))) i else h b))) 9 ?_ ?_ ?_ (by decide)
  · refine Prod.ext rfl ?_
    show iv_set m 31 h = iv_set m 31 _
    congr 1
    funext b
    by_cases hb : b = z
    · rw [if_pos hb, hb, h0]; rfl
    · rw [if_neg hb]
  · intro j hj
    have e2 : (2 : Int32) * nI d = nI (2 * d) := pk_mul 2 d
    have hand2 : z &&& (4095 - 2 ^ j) < 512 := Nat.lt_of_le_of_lt Nat.and_le_left hz
    have go : ∀ (g : Nat → Int32), S_X12_suits_58 x1 x2 x3 (nI z) (nI d) (nI j, iv_set m 31 g) = if (z.testBit j && (iv_pr (m.1 7) d).testBit j) = true then some (Sum.inr (nI (j + 1), iv_set m 31 (fun b => if b = z then g z + g (z &&& (4095 - 2 ^ j)) else g b))) else some (Sum.inr (nI (j + 1), iv_set m 31 g)) := by
      intro g
      have hp : f_X12_twoOctets (nI (2 * d)) (iv_set m 31 g) = some (nI (iv_pr (m.1 7) d)) := po_pairM (m := iv_set m 31 g) (by omega)
      unfold S_X12_suits_58
      dsimp only
      rw [if_neg (po_n9 hj), e2, hp, po_hasM (by omega) (by omega), po_bit (by omega), po_clr (by omega) (by omega), nI_1]
      dsimp only [Option.bind]
      rw [po_hasM (by omega) (by omega)]
      cases z.testBit j with
      | false => rw [if_pos rfl]; rfl
      | true =>
        cases (iv_pr (m.1 7) d).testBit j with
        | false => rw [if_neg (by decide), if_pos rfl]; rfl
        | true =>
          rw [if_neg (by decide), if_neg (by decide), if_pos (po_wkin hz (by decide)), if_pos (po_wkin hand2 (by decide)), if_pos (po_wkin hz (by decide)), nI_clamp (by omega), nI_clamp (by omega), iv_set_si, iv_set_at, iv_set_at]
          rfl
    rw [go]
    have eS : iv_sum (fun s => z.testBit s && (iv_pr (m.1 7) d).testBit s) (fun s => h (z &&& (4095 - 2 ^ s))) (j + 1) = if (z.testBit j && (iv_pr (m.1 7) d).testBit j) = true then iv_sum (fun s => z.testBit s && (iv_pr (m.1 7) d).testBit s) (fun s => h (z &&& (4095 - 2 ^ s))) j + h (z &&& (4095 - 2 ^ j)) else iv_sum (fun s => z.testBit s && (iv_pr (m.1 7) d).testBit s) (fun s => h (z &&& (4095 - 2 ^ s))) j := rfl
    rw [eS]
    by_cases hc : (z.testBit j && (iv_pr (m.1 7) d).testBit j) = true
    · rw [if_pos hc, if_pos hc]
      have hc1 : z.testBit j = true := by rw [Bool.and_eq_true] at hc; exact hc.1
      have hlt2 := po_wo (by omega) hc1
      refine congrArg (fun x => some (Sum.inr (nI (j + 1), iv_set m 31 x))) ?_
      funext b
      by_cases hb : b = z
      · rw [if_pos hb, if_pos hb, if_pos rfl, if_neg (by omega)]
      · rw [if_neg hb, if_neg hb, if_neg hb]
    · rw [if_neg hc, if_neg hc]
  · unfold S_X12_suits_58
    dsimp only
    rw [if_pos (by decide)]
