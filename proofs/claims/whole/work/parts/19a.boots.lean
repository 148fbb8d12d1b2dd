/-! PURE: boots: the class's steps -/
def iv_setL (s : wk_St) (c : Nat) (g : Nat → Int64) : wk_St := (s.1, fun a b => if a = c then g b else s.2 a b)
def iv_L2 (s : wk_St) (g28 g29 : Nat → Int64) : wk_St := iv_setL (iv_setL s 28 g28) 29 g29
theorem iv_L2_28 {s : wk_St} {g28 g29 : Nat → Int64} {j : Nat} {x : Int64} : wk_sl (iv_L2 s g28 g29) 28 j x = iv_L2 s (fun b => if b = j then x else g28 b) g29 := by
  unfold wk_sl iv_L2 iv_setL
  refine Prod.ext rfl ?_
  funext a b
  by_cases ha : a = 28
  · subst ha
    by_cases hb : b = j <;> simp [hb]
  · simp [ha]
theorem iv_L2_29 {s : wk_St} {g28 g29 : Nat → Int64} {j : Nat} {x : Int64} : wk_sl (iv_L2 s g28 g29) 29 j x = iv_L2 s g28 (fun b => if b = j then x else g29 b) := by
  unfold wk_sl iv_L2 iv_setL
  refine Prod.ext rfl ?_
  funext a b
  by_cases ha : a = 29
  · subst ha
    by_cases hb : b = j <;> simp [hb]
  · simp [ha]
theorem iv_L2_id {s : wk_St} : iv_L2 s (s.2 28) (s.2 29) = s := by
  unfold iv_L2 iv_setL
  refine Prod.ext rfl ?_
  funext a b
  by_cases h9 : a = 29
  · subst h9; simp
  · by_cases h8 : a = 28
    · subst h8; simp
    · simp [h9, h8]
theorem iv_L2_a8 {s : wk_St} {g28 g29 : Nat → Int64} {b : Nat} : (iv_L2 s g28 g29).2 28 b = g28 b := rfl
theorem iv_L2_a9 {s : wk_St} {g28 g29 : Nat → Int64} {b : Nat} : (iv_L2 s g28 g29).2 29 b = g29 b := rfl
def iv_sN (f : Nat → Bool) (W : Nat → Nat) : Nat → Nat
  | 0 => 0
  | n + 1 => if f n = true then iv_sN f W n + W n else iv_sN f W n
theorem iv_sN_le {f : Nat → Bool} {W : Nat → Nat} {B : Nat} : ∀ n, (∀ q, q < n → W q ≤ B) → iv_sN f W n ≤ n * B := by
  intro n
  induction n with
  | zero => intro _; exact Nat.zero_le _
  | succ n ih =>
    intro h
    have h1 := ih (fun q hq => h q (by omega))
    have h2 := h n (by omega)
    unfold iv_sN
    rw [Nat.succ_mul]
    split <;> omega
def iv_go (N W : Nat → Nat) (p : Nat) : Nat := min (iv_sN (fun q => (N p ||| 2 ^ p).testBit q) W 12) 1000000000
def iv_fit (v p : Nat) : Bool := decide (v = 63) || (if 97 ≤ v ∧ v ≤ 108 then decide (v - 97 = p) else !decide (v - 65 = p))
def iv_stp (N : Nat → Nat) (v : Nat) (W : Nat → Nat) (p : Nat) : Nat := if iv_fit v p = true then iv_go N W p else 0
def iv_W (N : Nat → Nat) (h : Nat → Int32) (p0 : Nat) : Nat → Nat → Nat
  | 0, p => if p = p0 then 1 else 0
  | i + 1, p => iv_stp N (iv_o h i) (iv_W N h p0 i) p
theorem iv_W_le {N : Nat → Nat} {h : Nat → Int32} {p0 p : Nat} : ∀ i, iv_W N h p0 i p ≤ 1000000000 := by
  intro i
  cases i with
  | zero => unfold iv_W; split <;> omega
  | succ i =>
    unfold iv_W iv_stp iv_go
    split
    · exact Nat.min_le_right _ _
    · omega
theorem po_minL {a b : Nat} (ha : a < 2 ^ 63) (hb : b < 2 ^ 63) : f_J9_min_f86c9 (lN a) (lN b) = lN (min a b) := by
  unfold f_J9_min_f86c9 wk_lcmp
  by_cases h : b < a
  · have h1 : lN a > lN b := (pk_lLT hb ha).mpr h
    rw [if_pos h1, if_pos (by decide), Nat.min_eq_right (by omega)]
  · have h1 : ¬ lN a > lN b := fun k => h ((pk_lLT hb ha).mp k)
    rw [if_neg h1, Nat.min_eq_left (by omega)]
    by_cases he : lN a = lN b
    · rw [if_pos he, if_neg (by decide)]
    · rw [if_neg he, if_neg (by decide)]
theorem po_lpos {a : Nat} (ha : a < 2 ^ 63) : wk_lcmp (lN a) 0 ≤ 0 ↔ a = 0 := by
  unfold wk_lcmp
  by_cases h : a = 0
  · subst h
    exact ⟨fun _ => rfl, fun _ => by decide⟩
  · have h1 : lN a > 0 := (pk_lLT (a := 0) (by decide) ha).mpr (by omega)
    rw [if_pos h1]
    exact ⟨fun k => absurd k (by decide), fun k => absurd k h⟩
theorem po_src {N : Nat → Nat} {p q : Nat} (hp : p < 12) : (iv_sp N (2 ^ p)).testBit q = (N p ||| 2 ^ p).testBit q := by
  have h := iv_spn_bit (N := N) (m := 2 ^ p) (q := q) 12
  rw [po_setB]
  have e : (iv_sp N (2 ^ p)).testBit q = true ↔ ((N p).testBit q || decide (p = q)) = true := by
    refine h.trans ?_
    rw [Nat.testBit_two_pow, decide_eq_true_iff, Bool.or_eq_true, decide_eq_true_iff]
    constructor
    · rintro (h | ⟨r, hr, h1, h2⟩)
      · exact Or.inr h
      · rw [Nat.testBit_two_pow, decide_eq_true_iff] at h1
        subst h1; exact Or.inl h2
    · rintro (h | h)
      · exact Or.inr ⟨p, hp, by rw [Nat.testBit_two_pow, decide_eq_true_iff], h⟩
      · exact Or.inl h
  cases h1 : ((N p).testBit q || decide (p = q)) with
  | true => exact e.mpr h1
  | false =>
    cases h2 : (iv_sp N (2 ^ p)).testBit q with
    | false => rfl
    | true => have := e.mp h2; rw [h1] at this; cases this
theorem po_goOn {c : wk_St} {N W : Nat → Nat} {g28 g29 : Nat → Int64} (hN : ∀ r, r < 12 → N r < 4096 ∧ c.1 4 r = nI (N r)) (hW : ∀ p, W p ≤ 1000000000) (hg : ∀ p, p < 12 → g29 p = lN (W p)) :
    ∃ h28 h29, f_X9_goOn (iv_L2 c g28 g29) = some (iv_L2 c h28 h29) ∧ ∀ p, p < 12 → h29 p = lN (iv_go N W p) := by
  have e1 : wk_loop S_X9_goOn_2 wk_F ((0 : Int32), iv_L2 c g28 g29) = some (iv_L2 c (fun b => if b < 12 then g29 b else g28 b) g29) := by
    refine po_for (fun i => (nI i, iv_L2 c (fun b => if b < i then g29 b else g28 b) g29)) 12 ?_ ?_ ?_ (by decide)
    · refine Prod.ext rfl ?_
      show iv_L2 c g28 g29 = iv_L2 c _ g29
      refine congrArg (fun x => iv_L2 c x g29) ?_
      funext b
      rw [if_neg (by omega)]
    · intro j hj
      unfold S_X9_goOn_2
      dsimp only
      rw [if_neg (po_n12 hj), if_pos (po_wkin hj (by decide)), if_pos (po_wkin hj (by decide)), nI_clamp (by omega), iv_L2_28, iv_L2_a9, nI_1]
      refine congrArg (fun x => some (Sum.inr (nI (j + 1), iv_L2 c x g29))) ?_
      funext b
      by_cases hbj : b = j
      · rw [if_pos hbj, if_pos (by omega), hbj]
      · rw [if_neg hbj]
        have : b < j ↔ b < j + 1 := by omega
        simp only [this]
    · unfold S_X9_goOn_2
      dsimp only
      rw [if_pos (by decide)]
  have hsum : ∀ (f : Nat → Bool) n, n ≤ 12 → iv_sN f W n < 2 ^ 62 := fun f n hn => by
    have := iv_sN_le (f := f) (W := W) (B := 1000000000) n (fun q _ => hW q)
    have h2 : n * 1000000000 ≤ 12 * 1000000000 := Nat.mul_le_mul_right _ hn
    omega
  have e30 : ∀ p g29' x2, p < 12 → wk_loop (S_X9_goOn_30 x2 (nI (iv_sp N (2 ^ p)))) wk_F ((0 : Int64), (0 : Int32), iv_L2 c (fun b => if b < 12 then g29 b else g28 b) g29') = some (lN (iv_sN (fun q => (N p ||| 2 ^ p).testBit q) W 12), iv_L2 c (fun b => if b < 12 then g29 b else g28 b) g29') := by
    intro p g29' x2 hp
    have hsp : iv_sp N (2 ^ p) < 4096 := iv_spn_lt (Nat.pow_lt_pow_right (by decide) hp : 2 ^ p < 2 ^ 12) (fun r hr => (hN r hr).1) 12 (Nat.le_refl _)
    refine po_for (fun i => (lN (iv_sN (fun q => (N p ||| 2 ^ p).testBit q) W i), nI i, iv_L2 c (fun b => if b < 12 then g29 b else g28 b) g29')) 12 rfl ?_ ?_ (by decide)
    · intro j hj
      show _ = some (Sum.inr (lN (if (N p ||| 2 ^ p).testBit j = true then iv_sN (fun q => (N p ||| 2 ^ p).testBit q) W j + W j else iv_sN (fun q => (N p ||| 2 ^ p).testBit q) W j), nI (j + 1), iv_L2 c (fun b => if b < 12 then g29 b else g28 b) g29'))
      unfold S_X9_goOn_30 wk_let
      dsimp only
      rw [if_neg (po_n12 hj), po_hasC (by omega) (by omega), po_src hp, nI_1]
      cases (N p ||| 2 ^ p).testBit j with
      | false =>
        rw [if_pos rfl, if_neg (by decide)]
        have e0 : ∀ a : Nat, lN a + 0 = lN a := fun a => lN_add a 0
        rw [e0]
      | true =>
        rw [if_neg (by decide), if_pos (po_wkin hj (by decide)), nI_clamp (by omega), iv_L2_a8, if_pos hj, hg j hj, lN_add, if_pos rfl]
    · unfold S_X9_goOn_30
      dsimp only
      rw [if_pos (by decide)]
  obtain ⟨a, ea, h29, rfl, hh⟩ := po_inv (f := S_X9_goOn_17) (fun i p => p.1 = nI i ∧ ∃ h29, p.2 = iv_L2 c (fun b => if b < 12 then g29 b else g28 b) h29 ∧ ∀ p, p < i → h29 p = lN (iv_go N W p))
    (fun a => ∃ h29, a = iv_L2 c (fun b => if b < 12 then g29 b else g28 b) h29 ∧ ∀ p, p < 12 → h29 p = lN (iv_go N W p)) 12 (by
      rintro i ⟨x, s⟩ hi ⟨hx, h29, hs, hh⟩
      dsimp only at hx hs
      subst hx hs
      have h2 : 2 ^ i < 2 ^ 12 := Nat.pow_lt_pow_right (by decide) hi
      unfold S_X9_goOn_17
      dsimp only
      rw [if_neg (po_n12 hi), po_bit (by omega), po_spread (s := iv_L2 c (fun b => if b < 12 then g29 b else g28 b) h29) (N := N) h2 (fun r hr => hN r hr)]
      dsimp only [Option.bind]
      rw [e30 i h29 _ hi]
      dsimp only
      have emin : f_J9_min_f86c9 (lN (iv_sN (fun q => (N i ||| 2 ^ i).testBit q) W 12)) 1000000000 = lN (iv_go N W i) := po_minL (b := 1000000000) (by have := hsum (fun q => (N i ||| 2 ^ i).testBit q) 12 (by omega); omega) (by decide)
      rw [if_pos (po_wkin hi (by decide)), nI_clamp (by omega), iv_L2_29, emin]
      refine ⟨_, rfl, nI_1 i, _, rfl, ?_⟩
      intro p hp
      by_cases hpi : p = i
      · rw [if_pos hpi, hpi]
      · rw [if_neg hpi]; exact hh p (by omega)) (by
      rintro ⟨x, s⟩ ⟨hx, h29, hs, hh⟩
      dsimp only at hx hs
      subst hx hs
      unfold S_X9_goOn_17
      dsimp only
      rw [if_pos (by decide)]
      exact ⟨_, rfl, h29, rfl, hh⟩) (by decide) (p := ((0 : Int32), iv_L2 c (fun b => if b < 12 then g29 b else g28 b) g29)) ⟨rfl, g29, rfl, fun p hp => by omega⟩
  refine ⟨fun b => if b < 12 then g29 b else g28 b, h29, ?_, hh⟩
  unfold f_X9_goOn
  rw [e1]
  dsimp only [Option.bind]
  rw [ea]
theorem po_strike {c : wk_St} {W : Nat → Nat} {g28 g29 : Nat → Int64} {z : Nat} {seen : Bool} {x2 : Int32} (hz : z < 12) (hx : x2 = b2i seen) (hg : ∀ p, p < 12 → g29 p = lN (W p)) :
    ∃ h29, f_X9_strike (nI z) x2 (iv_L2 c g28 g29) = some (iv_L2 c g28 h29) ∧ ∀ p, p < 12 → h29 p = lN (if decide (p = z) = seen then W p else 0) := by
  obtain ⟨a, ea, h29, rfl, hh⟩ := po_inv (f := S_X9_strike_2 (nI z) x2) (fun i p => p.1 = nI i ∧ ∃ h29, p.2 = iv_L2 c g28 h29 ∧ ∀ p, p < 12 → h29 p = if p < i then lN (if decide (p = z) = seen then W p else 0) else lN (W p))
    (fun a => ∃ h29, a = iv_L2 c g28 h29 ∧ ∀ p, p < 12 → h29 p = lN (if decide (p = z) = seen then W p else 0)) 12 (by
      rintro i ⟨x, s⟩ hi ⟨hx1, h29, hs, hh⟩
      dsimp only at hx1 hs
      subst hx1 hs
      have step : S_X9_strike_2 (nI z) x2 (nI i, iv_L2 c g28 h29) = if decide (i = z) = seen then some (Sum.inr (nI (i + 1), iv_L2 c g28 h29)) else some (Sum.inr (nI (i + 1), iv_L2 c g28 (fun b => if b = i then 0 else h29 b))) := by
        unfold S_X9_strike_2 j_X9_strike_11_l2
        dsimp only
        rw [if_neg (po_n12 hi), hx, nI_1]
        by_cases hiz : i = z
        · rw [if_neg (not_not_intro (congrArg nI hiz)), decide_eq_true hiz]
          cases seen with
          | true => rw [if_pos (by decide), if_pos rfl]
          | false => rw [if_neg (by decide), if_pos (po_wkin hi (by decide)), nI_clamp (by omega), iv_L2_29, if_neg (by decide)]
        · rw [if_pos (po_nIne (by omega) (by omega) hiz), decide_eq_false hiz]
          cases seen with
          | true => rw [if_neg (by decide), if_pos (po_wkin hi (by decide)), nI_clamp (by omega), iv_L2_29, if_neg (by decide)]
          | false => rw [if_pos (by decide), if_pos rfl]
      rw [step]
      by_cases hc : decide (i = z) = seen
      · rw [if_pos hc]
        refine ⟨_, rfl, rfl, h29, rfl, fun p hp => ?_⟩
        rw [hh p hp]
        by_cases hpi : p = i
        · subst hpi
          rw [if_neg (by omega), if_pos (by omega), if_pos hc]
        · have : p < i ↔ p < i + 1 := by omega
          simp only [this]
      · rw [if_neg hc]
        refine ⟨_, rfl, rfl, _, rfl, fun p hp => ?_⟩
        by_cases hpi : p = i
        · subst hpi
          rw [if_pos rfl, if_pos (by omega), if_neg hc]; rfl
        · have : p < i ↔ p < i + 1 := by omega
          rw [if_neg hpi, hh p hp]
          simp only [this]) (by
      rintro ⟨x, s⟩ ⟨hx1, h29, hs, hh⟩
      dsimp only at hx1 hs
      subst hx1 hs
      unfold S_X9_strike_2
      dsimp only
      rw [if_pos (by decide)]
      exact ⟨_, rfl, h29, rfl, fun p hp => by rw [hh p hp, if_pos hp]⟩) (by decide) (p := ((0 : Int32), iv_L2 c g28 g29)) ⟨rfl, g29, rfl, fun p hp => by rw [if_neg (by omega)]; exact hg p hp⟩
  refine ⟨h29, ?_, hh⟩
  unfold f_X9_strike
  rw [ea]
  rfl
