/-! PURE: the model's steps -/
theorem po_inv {A P : Type} {f : P → Option (A ⊕ P)} (I : Nat → P → Prop) (B : A → Prop) (n : Nat) (hs : ∀ j p, j < n → I j p → ∃ q, f p = some (Sum.inr q) ∧ I (j + 1) q) (he : ∀ p, I n p → ∃ a, f p = some (Sum.inl a) ∧ B a) (hn : n < 4096) {p : P} (h0 : I 0 p) : ∃ a, wk_loop f wk_F p = some a ∧ B a := by
  have key : ∀ d i F p, I i p → i + d = n → d < F → ∃ a, wk_loop f F p = some a ∧ B a := by
    intro d
    induction d with
    | zero =>
      intro i F p hp hi hF
      cases F with
      | zero => omega
      | succ F =>
        unfold wk_loop
        have e : i = n := by omega
        subst e
        obtain ⟨a, h1, h2⟩ := he p hp
        rw [h1]
        exact ⟨a, rfl, h2⟩
    | succ d ih =>
      intro i F p hp hi hF
      cases F with
      | zero => omega
      | succ F =>
        unfold wk_loop
        obtain ⟨q, h1, h2⟩ := hs i p (by omega) hp
        rw [h1]
        exact ih (i + 1) F q h2 (by omega) (by omega)
  exact key n 0 wk_F p h0 (by omega) hn
def iv_2 (s : wk_St) (g5 g6 : Nat → Int32) : wk_St := iv_set (iv_set s 5 g5) 6 g6
theorem iv_2_si5 {s : wk_St} {g5 g6 : Nat → Int32} {j : Nat} {x : Int32} : wk_si (iv_2 s g5 g6) 5 j x = iv_2 s (fun b => if b = j then x else g5 b) g6 := by
  unfold wk_si iv_2 iv_set
  refine Prod.ext ?_ rfl
  funext a b
  by_cases ha : a = 5
  · subst ha
    by_cases hb : b = j <;> simp [hb]
  · simp [ha]
theorem iv_2_si6 {s : wk_St} {g5 g6 : Nat → Int32} {j : Nat} {x : Int32} : wk_si (iv_2 s g5 g6) 6 j x = iv_2 s g5 (fun b => if b = j then x else g6 b) := iv_set_si
theorem iv_2_at5 {s : wk_St} {g5 g6 : Nat → Int32} {b : Nat} : (iv_2 s g5 g6).1 5 b = g5 b := rfl
theorem iv_2_at6 {s : wk_St} {g5 g6 : Nat → Int32} {b : Nat} : (iv_2 s g5 g6).1 6 b = g6 b := rfl
theorem iv_2_off {s : wk_St} {g5 g6 : Nat → Int32} {a b : Nat} (h5 : a ≠ 5) (h6 : a ≠ 6) : (iv_2 s g5 g6).1 a b = s.1 a b := by
  unfold iv_2
  rw [iv_set_off h6, iv_set_off h5]
def iv_B (N : Nat → Nat) (p m k j : Nat) (Q : Nat → Nat) (V : Nat → Bool) : Prop :=
  m = iv_cnt V 12 ∧ (∀ i, i < m → Q i < 12 ∧ V (Q i) = true ∧ iv_d N p (Q i) ≠ 99) ∧ (∀ q, q < 12 → V q = true → ∃ i, i < m ∧ Q i = q) ∧
  (∀ i j, i ≤ j → j < m → iv_d N p (Q i) ≤ iv_d N p (Q j)) ∧ (k < m → ∀ j, j < m → iv_d N p (Q j) ≤ iv_d N p (Q k) + 1) ∧
  (∀ i, i < k → ∀ q, q < 12 → (N (Q i)).testBit q = true → V q = true) ∧ (k < m → ∀ q, q < j → q < 12 → (N (Q k)).testBit q = true → V q = true) ∧ V p = true ∧ k ≤ m
theorem iv_B_far {N : Nat → Nat} {p m k j : Nat} {Q : Nat → Nat} {V : Nat → Bool} (h : iv_B N p m k j Q V) (hk : k < m) : ∀ d q, iv_d N p q = d → q < 12 → V q = false → d ≠ 99 → iv_d N p (Q k) < d := by
  obtain ⟨h1, h2, h3, h4, h5, h6, h7, h8, h9⟩ := h
  intro d
  induction d with
  | zero =>
    intro q hd hq hV _
    have := iv_d_0.mp hd
    subst this
    rw [hV] at h8; cases h8
  | succ d ih =>
    intro q hd hq hV h99
    have hpq : p ≠ q := fun e => by
      have := (iv_d_0 (N := N)).mpr e
      omega
    obtain ⟨r, hr, hr1, hr2⟩ := iv_d_prev hpq (by omega : iv_d N p q ≠ 99)
    cases hVr : V r with
    | false =>
      have := ih r (by omega) hr hVr (by
        rcases iv_d_99 (N := N) (p := p) (q := q) with h | h <;> omega)
      omega
    | true =>
      obtain ⟨i, hi, hir⟩ := h3 r hr hVr
      by_cases hik : i < k
      · have := h6 i hik q hq (by rw [hir]; exact hr2)
        rw [hV] at this; cases this
      · have := h4 k i (by omega) hi
        rw [hir] at this
        omega
theorem iv_B_add {N : Nat → Nat} {p m k j : Nat} {Q : Nat → Nat} {V : Nat → Bool} (hp : p < 12) (h : iv_B N p m k j Q V) (hk : k < m) (hj : j < 12) (hV : V j = false) (hn : (N (Q k)).testBit j = true) : m < 12 ∧ iv_d N p j = iv_d N p (Q k) + 1 ∧ iv_B N p (m + 1) k (j + 1) (fun i => if i = m then j else Q i) (fun q => if q = j then true else V q) := by
  have hfar := iv_B_far h hk (iv_d N p j) j rfl hj hV
  obtain ⟨h1, h2, h3, h4, h5, h6, h7, h8, h9⟩ := h
  have hd1 := iv_d_next hp hj (h2 k hk).1 (h2 k hk).2.2 hn
  have h99 : iv_d N p j ≠ 99 := by
    rcases iv_d_99 (N := N) (p := p) (q := Q k) with h | h
    · omega
    · exact absurd h (h2 k hk).2.2
  have hd : iv_d N p j = iv_d N p (Q k) + 1 := by
    have := hfar h99
    omega
  have hc : iv_cnt (fun q => if q = j then true else V q) 12 = iv_cnt V 12 + 1 := iv_cnt_set 12 hj hV (if_pos rfl) (fun q _ hne => (if_neg hne).symm)
  have hm := iv_cnt_n (f := fun q => if q = j then true else V q) 12
  refine ⟨by omega, hd, by omega, ?_, ?_, ?_, ?_, ?_, ?_, ?_, by omega⟩
  · intro i hi
    dsimp only
    by_cases him : i = m
    · rw [if_pos him]
      exact ⟨hj, if_pos rfl, h99⟩
    · rw [if_neg him]
      have := h2 i (by omega)
      refine ⟨this.1, ?_, this.2.2⟩
      by_cases hq : Q i = j
      · rw [if_pos hq]
      · rw [if_neg hq]; exact this.2.1
  · intro q hq hVq
    dsimp only at hVq ⊢
    by_cases hqj : q = j
    · exact ⟨m, by omega, by rw [if_pos rfl, hqj]⟩
    · rw [if_neg hqj] at hVq
      obtain ⟨i, hi, hiq⟩ := h3 q hq hVq
      exact ⟨i, by omega, by rw [if_neg (by omega), hiq]⟩
  · intro i i2 hii hi2
    dsimp only
    by_cases him : i2 = m
    · rw [if_pos him]
      by_cases him1 : i = m
      · rw [if_pos him1]; exact Nat.le_refl _
      · rw [if_neg him1, hd]
        exact h5 hk i (by omega)
    · rw [if_neg him, if_neg (by omega)]
      exact h4 i i2 hii (by omega)
  · intro _ i hi
    dsimp only
    rw [if_neg (show ¬ k = m by omega)]
    by_cases him : i = m
    · rw [if_pos him, hd]; exact Nat.le_refl _
    · rw [if_neg him]
      exact h5 hk i (by omega)
  · intro i hi q hq hnq
    dsimp only at hnq ⊢
    rw [if_neg (show ¬ i = m by omega)] at hnq
    by_cases hqj : q = j
    · rw [if_pos hqj]
    · rw [if_neg hqj]; exact h6 i hi q hq hnq
  · intro _ q hqj hq hnq
    dsimp only at hnq ⊢
    rw [if_neg (show ¬ k = m by omega)] at hnq
    by_cases hqj2 : q = j
    · rw [if_pos hqj2]
    · rw [if_neg hqj2]; exact h7 hk q (by omega) hq hnq
  · dsimp only
    by_cases hpj : p = j
    · rw [if_pos hpj]
    · rw [if_neg hpj]; exact h8
theorem iv_B_skip {N : Nat → Nat} {p m k j : Nat} {Q : Nat → Nat} {V : Nat → Bool} (h : iv_B N p m k j Q V) (hn : (N (Q k)).testBit j = true → V j = true) : iv_B N p m k (j + 1) Q V := by
  obtain ⟨h1, h2, h3, h4, h5, h6, h7, h8, h9⟩ := h
  refine ⟨h1, h2, h3, h4, h5, h6, ?_, h8, h9⟩
  intro hk q hqj hq hnq
  by_cases hqj2 : q = j
  · subst hqj2; exact hn hnq
  · exact h7 hk q (by omega) hq hnq
theorem iv_B_up {N : Nat → Nat} {p m k : Nat} {Q : Nat → Nat} {V : Nat → Bool} (h : iv_B N p m k 12 Q V) (hk : k < m) : iv_B N p m (k + 1) 0 Q V := by
  obtain ⟨h1, h2, h3, h4, h5, h6, h7, h8, h9⟩ := h
  refine ⟨h1, h2, h3, h4, ?_, ?_, ?_, h8, by omega⟩
  · intro hk1 j hj
    have := h5 hk j hj
    have := h4 k (k + 1) (by omega) hk1
    omega
  · intro i hi q hq hnq
    by_cases hik : i = k
    · subst hik; exact h7 hk q hq hq hnq
    · exact h6 i (by omega) q hq hnq
  · intro _ q hq; omega
theorem iv_B_end {N : Nat → Nat} {p m j : Nat} {Q : Nat → Nat} {V : Nat → Bool} (h : iv_B N p m m j Q V) : ∀ q, q < 12 → (V q = true ↔ iv_d N p q ≠ 99) := by
  obtain ⟨h1, h2, h3, h4, h5, h6, h7, h8, h9⟩ := h
  intro q hq
  constructor
  · intro hV
    obtain ⟨i, hi, hiq⟩ := h3 q hq hV
    rw [← hiq]; exact (h2 i hi).2.2
  · have key : ∀ d q, iv_d N p q = d → q < 12 → d ≠ 99 → V q = true := by
      intro d
      induction d with
      | zero =>
        intro q hd _ _
        have := iv_d_0.mp hd
        subst this
        exact h8
      | succ d ih =>
        intro q hd hq h99
        have hpq : p ≠ q := fun e => by
          have := (iv_d_0 (N := N)).mpr e
          omega
        obtain ⟨r, hr, hr1, hr2⟩ := iv_d_prev hpq (by omega : iv_d N p q ≠ 99)
        have hVr := ih r (by omega) hr (by
          rcases iv_d_99 (N := N) (p := p) (q := q) with h | h <;> omega)
        obtain ⟨i, hi, hir⟩ := h3 r hr hVr
        exact h6 i hi q hq (by rw [hir]; exact hr2)
    exact key _ q rfl hq
def iv_Bs (N : Nat → Nat) (p m : Nat) (Q : Nat → Nat) (V : Nat → Bool) (g5 g6 : Nat → Int32) : Prop :=
  (∀ q, q < 12 → g5 q = if V q = true then nI (iv_d N p q) else -1) ∧ ∀ i, i < m → g6 i = nI (Q i)
theorem po_m1 {n : Nat} (h : n < 2 ^ 31) : ¬ nI n = (-1 : Int32) := fun e => nI_pos h (by rw [e]; decide)
theorem po_lay31 {s : wk_St} {N : Nat → Nat} {p m k : Nat} {Q : Nat → Nat} {V : Nat → Bool} {g5 g6 : Nat → Int32} (hp : p < 12) (hN : ∀ r, r < 12 → N r < 4096 ∧ s.1 4 r = nI (N r)) (hk : k < m) (hB : iv_B N p m k 0 Q V) (hS : iv_Bs N p m Q V g5 g6) :
    ∃ a, wk_loop (S_X12_laysSteps_31 (nI k)) wk_F (nI m, (0 : Int32), iv_2 s g5 g6) = some a ∧ ∃ m2 Q2 V2 h5 h6, a = (nI m2, iv_2 s h5 h6) ∧ k < m2 ∧ iv_B N p m2 (k + 1) 0 Q2 V2 ∧ iv_Bs N p m2 Q2 V2 h5 h6 := by
  refine po_inv (fun j q => ∃ m2 Q2 V2 h5 h6, q = (nI m2, nI j, iv_2 s h5 h6) ∧ k < m2 ∧ iv_B N p m2 k j Q2 V2 ∧ iv_Bs N p m2 Q2 V2 h5 h6) _ 12 ?_ ?_ (by decide) ⟨m, Q, V, g5, g6, rfl, hk, hB, hS⟩
  · rintro j q hj ⟨m2, Q2, V2, h5, h6, rfl, hk2, hB2, hS2⟩
    have h12 : ¬ nI j ≥ 12 := nI_ge (a := j) (b := 12) hj (by decide)
    have hm2 : m2 ≤ 12 := by
      have := iv_cnt_n (f := V2) 12
      have := hB2.1
      omega
    have hQk := (hB2.2.1 k hk2)
    unfold S_X12_laysSteps_31
    dsimp only
    rw [if_neg h12, if_pos (po_wkin (by omega) (by decide)), nI_clamp (by omega), iv_2_at6, hS2.2 k hk2, if_pos (po_wkin hQk.1 (by decide)), nI_clamp (by omega), iv_2_off (by decide) (by decide), (hN _ hQk.1).2, po_hasM (by have := (hN _ hQk.1).1; omega) (by omega), nI_1]
    cases hb : (N (Q2 k)).testBit j with
    | false =>
      rw [if_pos rfl]
      exact ⟨_, rfl, m2, Q2, V2, h5, h6, rfl, hk2, iv_B_skip hB2 (fun h => by rw [hb] at h; cases h), hS2⟩
    | true =>
      rw [if_neg (by simp), if_pos (po_wkin hj (by decide)), nI_clamp (by omega), iv_2_at5, hS2.1 j hj]
      cases hV : V2 j with
      | true =>
        rw [if_pos rfl, if_neg (po_m1 (by rcases iv_d_99 (N := N) (p := p) (q := j) with h | h <;> omega))]
        exact ⟨_, rfl, m2, Q2, V2, h5, h6, rfl, hk2, iv_B_skip hB2 (fun _ => hV), hS2⟩
      | false =>
        obtain ⟨hm, hd, hB3⟩ := iv_B_add hp hB2 hk2 hj hV hb
        rw [if_neg Bool.false_ne_true, if_pos rfl, if_pos (po_wkin (by omega) (by decide)), if_pos (po_wkin hQk.1 (by decide)), if_pos (po_wkin hj (by decide)), if_pos (po_wkin hm (by decide)), nI_clamp (by omega), iv_2_at5, hS2.1 _ hQk.1, if_pos hQk.2.1]
        unfold wk_let
        rw [nI_1, nI_1, iv_2_si5, iv_2_si6]
        refine ⟨_, rfl, m2 + 1, _, _, _, _, rfl, by omega, hB3, ?_, ?_⟩
        · intro q hq
          show (if q = j then nI (iv_d N p (Q2 k) + 1) else h5 q) = if (if q = j then true else V2 q) = true then nI (iv_d N p q) else -1
          by_cases hqj : q = j
          · rw [if_pos hqj, if_pos hqj, if_pos rfl, hqj, hd]
          · rw [if_neg hqj, if_neg hqj]; exact hS2.1 q hq
        · intro i hi
          show (if i = m2 then nI j else h6 i) = nI (if i = m2 then j else Q2 i)
          by_cases him : i = m2
          · rw [if_pos him, if_pos him]
          · rw [if_neg him, if_neg him]; exact hS2.2 i (by omega)
  · rintro q ⟨m2, Q2, V2, h5, h6, rfl, hk2, hB2, hS2⟩
    unfold S_X12_laysSteps_31
    dsimp only
    rw [if_pos (by decide)]
    exact ⟨_, rfl, m2, Q2, V2, h5, h6, rfl, hk2, iv_B_up hB2 hk2, hS2⟩
def iv_lays (N : Nat → Nat) (p : Nat) (g5 : Nat → Int32) : Prop := ∀ q, q < 12 → g5 q = if iv_d N p q = 99 then -1 else nI (iv_d N p q)
theorem po_lays {s : wk_St} {N : Nat → Nat} {p : Nat} (hp : p < 12) (hN : ∀ r, r < 12 → N r < 4096 ∧ s.1 4 r = nI (N r)) : ∃ g5 g6, f_X12_laysSteps (nI p) s = some (nI (iv_cnt (fun q => decide (iv_d N p q ≠ 99)) 12), iv_2 s g5 g6) ∧ iv_lays N p g5 := by
  have e1 : wk_loop (S_X12_laysSteps_2 (nI p)) wk_F ((0 : Int32), s) = some (iv_set s 5 (fun b => if b < 12 then -1 else s.1 5 b)) := by
    refine po_for (fun i => (nI i, iv_set s 5 (fun b => if b < i then -1 else s.1 5 b))) 12 ?_ ?_ ?_ (by decide)
    · refine Prod.ext rfl ?_
      show s = iv_set s 5 _
      have e : (fun b => if b < 0 then -1 else s.1 5 b) = s.1 5 := by
        funext b
        rw [if_neg (by omega)]
      rw [e, iv_set_id]
    · intro j hj
      have h12 : ¬ nI j ≥ 12 := nI_ge (a := j) (b := 12) hj (by decide)
      unfold S_X12_laysSteps_2
      dsimp only
      rw [if_neg h12, if_pos (po_wkin hj (by decide)), nI_clamp (by omega), iv_set_si, nI_1]
      refine congrArg (fun x => some (Sum.inr (nI (j + 1), iv_set s 5 x))) ?_
      funext b
      by_cases hbj : b = j
      · rw [if_pos hbj, if_pos (by omega)]
      · rw [if_neg hbj]
        have : b < j ↔ b < j + 1 := by omega
        simp only [this]
    · unfold S_X12_laysSteps_2
      dsimp only
      rw [if_pos (by decide)]
  have e2 : wk_si (wk_si (iv_set s 5 (fun b => if b < 12 then -1 else s.1 5 b)) 5 p 0) 6 0 (nI p) = iv_2 s (fun b => if b = p then 0 else if b < 12 then -1 else s.1 5 b) (fun b => if b = 0 then nI p else s.1 6 b) := by
    rw [iv_set_si]
    have : iv_set s 5 (fun b => if b = p then 0 else if b < 12 then -1 else s.1 5 b) = iv_2 s (fun b => if b = p then 0 else if b < 12 then -1 else s.1 5 b) (s.1 6) := by
      unfold iv_2
      exact (iv_set_id (s := iv_set s 5 (fun b => if b = p then 0 else if b < 12 then -1 else s.1 5 b)) (c := 6)).symm
    rw [this, iv_2_si6]
  have hB0 : iv_B N p 1 0 0 (fun _ => p) (fun q => decide (q = p)) := by
    refine ⟨?_, ?_, ?_, ?_, ?_, ?_, ?_, by simp, by omega⟩
    · have h0 : iv_cnt (fun _ => false) 12 = 0 := rfl
      have := iv_cnt_set (f := fun _ => false) (g := fun q => decide (q = p)) (k := p) 12 hp rfl (by simp) (by
        intro q _ hne
        exact (decide_eq_false hne).symm)
      omega
    · intro i _
      have : iv_d N p p = 0 := iv_d_0.mpr rfl
      show p < 12 ∧ decide (p = p) = true ∧ iv_d N p p ≠ 99
      exact ⟨hp, by simp, by omega⟩
    · intro q _ h
      exact ⟨0, by omega, (of_decide_eq_true h).symm⟩
    · intro i j _ _; exact Nat.le_refl _
    · intro _ j _; exact Nat.le_add_right _ _
    · intro i hi; omega
    · intro _ q hq; omega
  have hS0 : iv_Bs N p 1 (fun _ => p) (fun q => decide (q = p)) (fun b => if b = p then 0 else if b < 12 then -1 else s.1 5 b) (fun b => if b = 0 then nI p else s.1 6 b) := by
    refine ⟨?_, ?_⟩
    · intro q hq
      dsimp only
      by_cases hqp : q = p
      · subst hqp
        rw [if_pos rfl, if_pos (by simp), iv_d_0.mpr rfl]; rfl
      · rw [if_neg hqp, if_pos hq, if_neg (by simp [hqp])]
    · intro i hi
      show (if i = 0 then nI p else s.1 6 i) = nI p
      rw [if_pos (by omega)]
  obtain ⟨a, ha, hb⟩ := po_loopTot (f := S_X12_laysSteps_26) (fun q => ∃ m k Q V h5 h6, q = (nI m, nI k, iv_2 s h5 h6) ∧ iv_B N p m k 0 Q V ∧ iv_Bs N p m Q V h5 h6)
    (fun a => ∃ g5 g6, a = (nI (iv_cnt (fun q => decide (iv_d N p q ≠ 99)) 12), iv_2 s g5 g6) ∧ iv_lays N p g5) (fun q => 12 - q.2.1.toNatClampNeg) (by
    rintro q ⟨m, k, Q, V, h5, h6, rfl, hB, hS⟩
    have hm : m ≤ 12 := by
      have := iv_cnt_n (f := V) 12
      have := hB.1
      omega
    have hkm : k ≤ m := hB.2.2.2.2.2.2.2.2
    unfold S_X12_laysSteps_26
    dsimp only
    by_cases hk : k < m
    · right
      rw [if_neg (nI_ge hk (by omega))]
      obtain ⟨a, ha, m2, Q2, V2, i5, i6, rfl, hk2, hB2, hS2⟩ := po_lay31 hp hN hk hB hS
      rw [ha]
      dsimp only [Option.bind]
      refine ⟨_, rfl, ⟨m2, k + 1, Q2, V2, i5, i6, by rw [nI_1], hB2, hS2⟩, ?_⟩
      dsimp only
      rw [nI_1, nI_clamp (by omega), nI_clamp (by omega)]
      omega
    · left
      have e : k = m := by omega
      subst e
      rw [if_pos (nI_le (Nat.le_refl _) (by omega))]
      have hV := iv_B_end hB
      refine ⟨_, rfl, h5, h6, ?_, ?_⟩
      · have : iv_cnt V 12 = iv_cnt (fun q => decide (iv_d N p q ≠ 99)) 12 := by
          refine iv_cnt_congr 12 (fun q hq => ?_)
          have := hV q hq
          cases hVq : V q with
          | true => exact (decide_eq_true (this.mp hVq)).symm
          | false => exact (decide_eq_false (fun h => by rw [this.mpr h] at hVq; cases hVq)).symm
        rw [← this, ← hB.1]
      · intro q hq
        rw [hS.1 q hq]
        by_cases h99 : iv_d N p q = 99
        · have : ¬ V q = true := fun h => (hV q hq).mp h h99
          rw [if_neg this, if_pos h99]
        · rw [if_pos ((hV q hq).mpr h99), if_neg h99]) wk_F (nI 1, nI 0, iv_2 s (fun b => if b = p then 0 else if b < 12 then -1 else s.1 5 b) (fun b => if b = 0 then nI p else s.1 6 b)) ⟨1, 0, _, _, _, _, rfl, hB0, hS0⟩ (by show 12 - _ < 4096; omega)
  obtain ⟨g5, g6, rfl, hg⟩ := hb
  refine ⟨g5, g6, ?_, hg⟩
  unfold f_X12_laysSteps
  rw [e1]
  dsimp only [Option.bind]
  rw [if_pos (po_wkin hp (by decide)), nI_clamp (by omega), e2]
  have ha' : wk_loop S_X12_laysSteps_26 wk_F ((1 : Int32), (0 : Int32), iv_2 s (fun b => if b = p then 0 else if b < 12 then -1 else s.1 5 b) (fun b => if b = 0 then nI p else s.1 6 b)) = _ := ha
  rw [ha']
