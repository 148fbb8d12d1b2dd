/-! PURE: the class's steps -/
theorem po_andN {a b : Nat} (ha : a < 4096) (hb : b < 4096) : nI a &&& (nI b ^^^ (-1 : Int32)) = nI (a &&& (b ^^^ 4095)) := by
  refine Int32.toBitVec_inj.mp (BitVec.eq_of_toNat_eq ?_)
  have h : a &&& (b ^^^ 4095) ≤ a := Nat.and_le_left
  have e1 : (-1 : Int32).toBitVec.toNat = 2 ^ 32 - 1 := rfl
  rw [pk_tn (by omega), Int32.toBitVec_and, BitVec.toNat_and, pk_tn (by omega), Int32.toBitVec_xor, BitVec.toNat_xor, pk_tn (by omega), e1]
  refine Nat.eq_of_testBit_eq (fun q => ?_)
  rw [Nat.testBit_and, Nat.testBit_and, Nat.testBit_xor, Nat.testBit_xor]
  by_cases hq : q < 12
  · have e2 : (2 ^ 32 - 1).testBit q = true := by
      rw [Nat.testBit_two_pow_sub_one]; exact decide_eq_true (by omega)
    have e3 : (4095 : Nat).testBit q = true := by
      have : (2 ^ 12 - 1).testBit q = true := by rw [Nat.testBit_two_pow_sub_one]; exact decide_eq_true hq
      exact this
    rw [e2, e3]
  · have e4 : a.testBit q = false := Nat.testBit_lt_two_pow (Nat.lt_of_lt_of_le ha (Nat.pow_le_pow_right (n := 2) (by decide) (by omega : 12 ≤ q)))
    rw [e4]; rfl
theorem po_difB {a b q : Nat} (hq : q < 12) : (a &&& (b ^^^ 4095)).testBit q = (a.testBit q && !b.testBit q) := by
  have e3 : (4095 : Nat).testBit q = true := by
    have : (2 ^ 12 - 1).testBit q = true := by rw [Nat.testBit_two_pow_sub_one]; exact decide_eq_true hq
    exact this
  rw [Nat.testBit_and, Nat.testBit_xor, e3]
  cases b.testBit q <;> rfl
/-- what is reached from K in k steps -/
def iv_bl (N : Nat → Nat) (K : Nat) : Nat → Nat
  | 0 => K
  | k + 1 => iv_sp N (iv_bl N K k)
/-- in how many steps, as far as k rounds tell -/
def iv_dk (N : Nat → Nat) (K : Nat) : Nat → Nat → Nat
  | 0, q => if K.testBit q = true then 0 else 99
  | k + 1, q => if ((iv_bl N K (k + 1)).testBit q && !(iv_bl N K k).testBit q) = true then k + 1 else iv_dk N K k q
theorem iv_bl_lt {N : Nat → Nat} {K : Nat} (hK : K < 4096) (hN : ∀ r, r < 12 → N r < 4096) : ∀ k, iv_bl N K k < 4096 := by
  intro k
  induction k with
  | zero => exact hK
  | succ k ih => exact iv_spn_lt ih hN 12 (Nat.le_refl _)
theorem po_at12 {p q : Nat} (hp : p < 12) (hq : q < 12) : (nI p * 12 + nI q) = nI (12 * p + q) := by
  have e : nI p * 12 = nI (p * 12) := pk_mul p 12
  rw [e, nI_add, Nat.mul_comm]
theorem po_note {s : wk_St} {p W : Nat} {v : Int32} (hp : p < 12) (hW : W < 4096) : f_X2_noteSteps (nI p) (nI W) v s = some (iv_set s 5 (fun b => if 12 * p ≤ b ∧ b < 12 * p + 12 ∧ W.testBit (b - 12 * p) = true then v else s.1 5 b)) := by
  have e : wk_loop (S_X2_noteSteps_2 (nI p) (nI W) v) wk_F ((0 : Int32), s) = some (iv_set s 5 (fun b => if 12 * p ≤ b ∧ b < 12 * p + 12 ∧ W.testBit (b - 12 * p) = true then v else s.1 5 b)) := by
    refine po_for (fun i => (nI i, iv_set s 5 (fun b => if 12 * p ≤ b ∧ b < 12 * p + i ∧ W.testBit (b - 12 * p) = true then v else s.1 5 b))) 12 ?_ ?_ ?_ (by decide)
    · refine Prod.ext rfl ?_
      show s = iv_set s 5 _
      have e : (fun b => if 12 * p ≤ b ∧ b < 12 * p + 0 ∧ W.testBit (b - 12 * p) = true then v else s.1 5 b) = s.1 5 := by
        funext b
        rw [if_neg (by omega)]
      rw [e, iv_set_id]
    · intro j hj
      have h12 : ¬ nI j ≥ 12 := nI_ge (a := j) (b := 12) hj (by decide)
      unfold S_X2_noteSteps_2 wk_let
      dsimp only
      rw [if_neg h12, po_hasC (by omega) (by omega), nI_1, po_at12 hp hj]
      cases hb : W.testBit j with
      | false =>
        rw [if_pos rfl]
        refine congrArg (fun x => some (Sum.inr (nI (j + 1), iv_set s 5 x))) ?_
        funext b
        by_cases hbj : b = 12 * p + j
        · subst hbj
          rw [if_neg (by omega), if_neg (by rw [show 12 * p + j - 12 * p = j by omega, hb]; simp)]
        · have : (12 * p ≤ b ∧ b < 12 * p + j ∧ W.testBit (b - 12 * p) = true) ↔ (12 * p ≤ b ∧ b < 12 * p + (j + 1) ∧ W.testBit (b - 12 * p) = true) := by
            constructor
            · rintro ⟨h1, h2, h3⟩; exact ⟨h1, by omega, h3⟩
            · rintro ⟨h1, h2, h3⟩; exact ⟨h1, by omega, h3⟩
          simp only [this]
      | true =>
        rw [if_neg (by simp), if_neg (nI_pos (by omega)), if_neg (show ¬ nI (12 * p + j) ≥ 144 from nI_ge (a := 12 * p + j) (b := 144) (by omega) (by decide)), if_pos (po_wkin (by omega) (by decide)), nI_clamp (by omega), iv_set_si]
        refine congrArg (fun x => some (Sum.inr (nI (j + 1), iv_set s 5 x))) ?_
        funext b
        by_cases hbj : b = 12 * p + j
        · subst hbj
          rw [if_pos rfl, if_pos ⟨by omega, by omega, by rw [show 12 * p + j - 12 * p = j by omega, hb]⟩]
        · rw [if_neg hbj]
          have : (12 * p ≤ b ∧ b < 12 * p + j ∧ W.testBit (b - 12 * p) = true) ↔ (12 * p ≤ b ∧ b < 12 * p + (j + 1) ∧ W.testBit (b - 12 * p) = true) := by
            constructor
            · rintro ⟨h1, h2, h3⟩; exact ⟨h1, by omega, h3⟩
            · rintro ⟨h1, h2, h3⟩; exact ⟨h1, by omega, h3⟩
          simp only [this]
    · unfold S_X2_noteSteps_2
      dsimp only
      rw [if_pos (by decide)]
  unfold f_X2_noteSteps
  rw [e]
  rfl
theorem po_reck14 {s : wk_St} {p K : Nat} (hp : p < 12) (hK : K < 4096) : wk_loop (S_X2_reckonSteps_14 (nI p) (nI K)) wk_F ((0 : Int32), s) = some (iv_set s 5 (fun b => if 12 * p ≤ b ∧ b < 12 * p + 12 then nI (if K.testBit (b - 12 * p) = true then 0 else 99) else s.1 5 b)) := by
  refine po_for (fun i => (nI i, iv_set s 5 (fun b => if 12 * p ≤ b ∧ b < 12 * p + i then nI (if K.testBit (b - 12 * p) = true then 0 else 99) else s.1 5 b))) 12 ?_ ?_ ?_ (by decide)
  · refine Prod.ext rfl ?_
    show s = iv_set s 5 _
    have e : (fun b => if 12 * p ≤ b ∧ b < 12 * p + 0 then nI (if K.testBit (b - 12 * p) = true then 0 else 99) else s.1 5 b) = s.1 5 := by
      funext b
      rw [if_neg (by omega)]
    rw [e, iv_set_id]
  · intro j hj
    have h12 : ¬ nI j ≥ 12 := nI_ge (a := j) (b := 12) hj (by decide)
    unfold S_X2_reckonSteps_14
    dsimp only
    rw [if_neg h12, po_hasC (by omega) (by omega), nI_1, po_at12 hp hj, if_pos (po_wkin (by omega) (by decide)), nI_clamp (by omega), if_pos (po_wkin (by omega) (by decide)), iv_set_si, iv_set_si]
    have fin : ∀ v : Int32, v = nI (if K.testBit j = true then 0 else 99) → (fun b => if b = 12 * p + j then v else if 12 * p ≤ b ∧ b < 12 * p + j then nI (if K.testBit (b - 12 * p) = true then 0 else 99) else s.1 5 b) = (fun b => if 12 * p ≤ b ∧ b < 12 * p + (j + 1) then nI (if K.testBit (b - 12 * p) = true then 0 else 99) else s.1 5 b) := by
      intro v hv
      funext b
      by_cases hbj : b = 12 * p + j
      · subst hbj
        rw [if_pos rfl, if_pos ⟨by omega, by omega⟩, show 12 * p + j - 12 * p = j by omega, hv]
      · rw [if_neg hbj]
        have : (12 * p ≤ b ∧ b < 12 * p + j) ↔ (12 * p ≤ b ∧ b < 12 * p + (j + 1)) := by omega
        simp only [this]
    cases hb : K.testBit j with
    | false => rw [if_pos rfl, fin 99 (by rw [hb]; rfl)]
    | true => rw [if_neg (by simp), fin 0 (by rw [hb]; rfl)]
  · unfold S_X2_reckonSteps_14
    dsimp only
    rw [if_pos (by decide)]
/-- a round that finds nothing new: no later one does -/
theorem po_bl_fix {N : Nat → Nat} {K m : Nat} (h : iv_bl N K (m + 1) = iv_bl N K m) : ∀ d, iv_bl N K (m + d) = iv_bl N K m := by
  intro d
  induction d with
  | zero => rfl
  | succ d ih =>
    show iv_sp N (iv_bl N K (m + d)) = _
    rw [ih]
    exact h
theorem po_dk_fix {N : Nat → Nat} {K m : Nat} (h : iv_bl N K (m + 1) = iv_bl N K m) (q : Nat) : ∀ d, iv_dk N K (m + d) q = iv_dk N K m q := by
  intro d
  induction d with
  | zero => rfl
  | succ d ih =>
    show (if ((iv_bl N K (m + d + 1)).testBit q && !(iv_bl N K (m + d)).testBit q) = true then m + d + 1 else iv_dk N K (m + d) q) = _
    rw [show iv_bl N K (m + d + 1) = iv_bl N K m from po_bl_fix h (d + 1), po_bl_fix h d, ih]
    cases (iv_bl N K m).testBit q <;> rfl
/-- the first place at which something holds, M at the latest -/
theorem po_firstOf (w : Nat → Bool) : ∀ M, ∃ n, n ≤ M ∧ (∀ j, j < n → w j = false) ∧ (n = M ∨ w n = true) := by
  intro M
  induction M with
  | zero => exact ⟨0, Nat.le_refl _, fun j hj => absurd hj (Nat.not_lt_zero j), Or.inl rfl⟩
  | succ M ih =>
    obtain ⟨n, hn, h1, h2⟩ := ih
    cases hw : w n with
    | true => exact ⟨n, by omega, h1, Or.inr hw⟩
    | false =>
      have e : n = M := by
        rcases h2 with e | e
        · exact e
        · rw [hw] at e; cases e
      subst e
      refine ⟨n + 1, Nat.le_refl _, fun j hj => ?_, Or.inl rfl⟩
      by_cases hj2 : j < n
      · exact h1 j hj2
      · rw [show j = n by omega]; exact hw
/-- whether round k found nothing new -/
def iv_wd (N : Nat → Nat) (K : Nat) : Nat → Bool
  | 0 => false
  | m + 1 => decide (iv_bl N K (m + 1) = iv_bl N K m)
theorem po_reck38 {s : wk_St} {N : Nat → Nat} {p K : Nat} (hp : p < 12) (hK : K < 4096) (hN : ∀ r, r < 12 → N r < 4096 ∧ s.1 4 r = nI (N r)) (h0 : ∀ q, q < 12 → s.1 5 (12 * p + q) = nI (iv_dk N K 0 q)) : wk_loop (S_X2_reckonSteps_38 (nI p)) wk_F (nI K, (0 : Int32), (1 : Int32), s) = some (iv_set s 5 (fun b => if 12 * p ≤ b ∧ b < 12 * p + 12 then nI (iv_dk N K 11 (b - 12 * p)) else s.1 5 b)) := by
  obtain ⟨n, hn, hn1, hn2⟩ := po_firstOf (iv_wd N K) 11
  refine po_for (fun i => (nI (iv_bl N K i), (if iv_wd N K i = true then (1 : Int32) else 0), nI (i + 1), iv_set s 5 (fun b => if 12 * p ≤ b ∧ b < 12 * p + 12 then nI (iv_dk N K i (b - 12 * p)) else s.1 5 b))) n ?_ ?_ ?_ (by omega)
  · refine Prod.ext rfl (Prod.ext rfl (Prod.ext rfl ?_))
    show s = iv_set s 5 _
    have e : (fun b => if 12 * p ≤ b ∧ b < 12 * p + 12 then nI (iv_dk N K 0 (b - 12 * p)) else s.1 5 b) = s.1 5 := by
      funext b
      by_cases h : 12 * p ≤ b ∧ b < 12 * p + 12
      · rw [if_pos h, ← h0 _ (by omega), show 12 * p + (b - 12 * p) = b by omega]
      · rw [if_neg h]
    rw [e, iv_set_id]
  · intro j hjn
    have hj : j < 11 := by omega
    have h12 : ¬ nI (j + 1) ≥ 12 := nI_ge (a := j + 1) (b := 12) (by omega) (by decide)
    have hlt := iv_bl_lt hK (fun r hr => (hN r hr).1) j
    have hlt2 := iv_bl_lt hK (fun r hr => (hN r hr).1) (j + 1)
    have hw : (if iv_wd N K j = true then (1 : Int32) else 0) = 0 := if_neg (by rw [hn1 j hjn]; exact Bool.false_ne_true)
    have key : ∀ v : Int32, v = (if iv_wd N K (j + 1) = true then (1 : Int32) else 0) → j_X2_reckonSteps_53_l38 (nI p) (nI (iv_bl N K j)) (nI (j + 1)) (nI (iv_bl N K (j + 1))) v (iv_set s 5 (fun b => if 12 * p ≤ b ∧ b < 12 * p + 12 then nI (iv_dk N K j (b - 12 * p)) else s.1 5 b)) = some (Sum.inr (nI (iv_bl N K (j + 1)), (if iv_wd N K (j + 1) = true then (1 : Int32) else 0), nI (j + 1 + 1), iv_set s 5 (fun b => if 12 * p ≤ b ∧ b < 12 * p + 12 then nI (iv_dk N K (j + 1) (b - 12 * p)) else s.1 5 b))) := by
      intro v hv
      rw [← hv]
      unfold j_X2_reckonSteps_53_l38
      rw [po_andN hlt2 hlt, po_note hp (Nat.lt_of_le_of_lt Nat.and_le_left hlt2), nI_1, iv_set_set]
      dsimp only [Option.bind]
      refine congrArg (fun x => some (Sum.inr (nI (iv_bl N K (j + 1)), v, nI (j + 1 + 1), iv_set s 5 x))) ?_
      funext b
      by_cases h : 12 * p ≤ b ∧ b < 12 * p + 12
      · rw [iv_set_at, if_pos h]
        have hd : (iv_bl N K (j + 1) &&& (iv_bl N K j ^^^ 4095)).testBit (b - 12 * p) = ((iv_bl N K (j + 1)).testBit (b - 12 * p) && !(iv_bl N K j).testBit (b - 12 * p)) := po_difB (by omega)
        rw [hd, if_pos h]
        show _ = nI (if ((iv_bl N K (j + 1)).testBit (b - 12 * p) && !(iv_bl N K j).testBit (b - 12 * p)) = true then j + 1 else iv_dk N K j (b - 12 * p))
        by_cases hc : ((iv_bl N K (j + 1)).testBit (b - 12 * p) && !(iv_bl N K j).testBit (b - 12 * p)) = true
        · rw [if_pos hc, if_pos ⟨h.1, h.2, hc⟩]
        · rw [if_neg hc, if_neg (fun k => hc k.2.2)]
      · rw [iv_set_at, if_neg h, if_neg h, if_neg (fun k => h ⟨k.1, k.2.1⟩)]
    unfold S_X2_reckonSteps_38
    dsimp only
    rw [if_neg h12, hw, if_neg (show ¬ ¬ (0 : Int32) = 0 from fun k => k rfl), po_spread hlt (N := N) (fun r hr => ⟨(hN r hr).1, (iv_set_off (by decide)).trans (hN r hr).2⟩)]
    dsimp only [Option.bind]
    rw [show iv_sp N (iv_bl N K j) = iv_bl N K (j + 1) from rfl]
    by_cases e : iv_bl N K (j + 1) = iv_bl N K j
    · rw [if_neg (show ¬ ¬ nI (iv_bl N K (j + 1)) = nI (iv_bl N K j) from fun k => k (congrArg nI e))]
      exact key 1 (if_pos (decide_eq_true e)).symm
    · rw [if_pos (show ¬ nI (iv_bl N K (j + 1)) = nI (iv_bl N K j) from fun k => e ((nI_eq (by omega) (by omega)).mp k))]
      exact key 0 (if_neg (fun k => e (of_decide_eq_true k))).symm
  · unfold S_X2_reckonSteps_38
    dsimp only
    by_cases h11 : n = 11
    · subst h11
      rw [if_pos (by decide)]
    · have hw : iv_wd N K n = true := by
        rcases hn2 with e | e
        · exact absurd e h11
        · exact e
      have hd : ∀ q, iv_dk N K n q = iv_dk N K 11 q := by
        intro q
        cases n with
        | zero => cases hw
        | succ m =>
          have e : iv_bl N K (m + 1) = iv_bl N K m := of_decide_eq_true hw
          rw [po_dk_fix e q 1, ← po_dk_fix e q (11 - m), show m + (11 - m) = 11 by omega]
      have h12 : ¬ nI (n + 1) ≥ 12 := nI_ge (a := n + 1) (b := 12) (by omega) (by decide)
      rw [if_neg h12, show (if iv_wd N K n = true then (1 : Int32) else 0) = 1 from if_pos hw, if_pos (show ¬ (1 : Int32) = 0 by decide)]
      simp only [hd]
theorem po_reckon {s : wk_St} {N : Nat → Nat} {T : Nat} (hT : T < 4096) (hTs : s.1 3 4 = nI T) (hN : ∀ r, r < 12 → N r < 4096 ∧ s.1 4 r = nI (N r)) : f_X2_reckonSteps s = some (iv_set s 5 (fun b => if b < 144 then nI (iv_dk N (T &&& 2 ^ (b / 12)) 11 (b % 12)) else s.1 5 b)) := by
  have e : wk_loop S_X2_reckonSteps_2 wk_F ((0 : Int32), s) = some (iv_set s 5 (fun b => if b < 144 then nI (iv_dk N (T &&& 2 ^ (b / 12)) 11 (b % 12)) else s.1 5 b)) := by
    refine po_for (fun i => (nI i, iv_set s 5 (fun b => if b < 12 * i then nI (iv_dk N (T &&& 2 ^ (b / 12)) 11 (b % 12)) else s.1 5 b))) 12 ?_ ?_ ?_ (by decide)
    · refine Prod.ext rfl ?_
      show s = iv_set s 5 _
      have e : (fun b => if b < 12 * 0 then nI (iv_dk N (T &&& 2 ^ (b / 12)) 11 (b % 12)) else s.1 5 b) = s.1 5 := by
        funext b
        rw [if_neg (by omega)]
      rw [e, iv_set_id]
    · intro j hj
      have h12 : ¬ nI j ≥ 12 := nI_ge (a := j) (b := 12) hj (by decide)
      have h2 : 2 ^ j < 2 ^ 12 := Nat.pow_lt_pow_right (by decide) hj
      have hK : T &&& 2 ^ j < 4096 := Nat.lt_of_le_of_lt Nat.and_le_left hT
      unfold S_X2_reckonSteps_2 wk_let
      dsimp only
      rw [if_neg h12, iv_set_off (by decide), hTs, po_bit (by omega), po_and (by omega) (by omega), po_reck14 hj hK]
      dsimp only [Option.bind]
      rw [iv_set_set, po_reck38 (N := N) hj hK (fun r hr => ⟨(hN r hr).1, (iv_set_off (by decide)).trans (hN r hr).2⟩) (by
        intro q hq
        rw [iv_set_at, if_pos ⟨by omega, by omega⟩, show 12 * j + q - 12 * j = q by omega]
        rfl), nI_1, iv_set_set]
      refine congrArg (fun x => some (Sum.inr (nI (j + 1), iv_set s 5 x))) ?_
      funext b
      rw [iv_set_at]
      by_cases h : 12 * j ≤ b ∧ b < 12 * j + 12
      · rw [if_pos h, if_pos (by omega), show b / 12 = j by omega, show b % 12 = b - 12 * j by omega]
      · rw [if_neg h, if_neg h, iv_set_at]
        by_cases h1 : b < 12 * j
        · rw [if_pos h1, if_pos (by omega)]
        · rw [if_neg h1, if_neg (by omega)]
    · unfold S_X2_reckonSteps_2
      dsimp only
      rw [if_pos (by decide)]
  unfold f_X2_reckonSteps
  rw [e]
  rfl
