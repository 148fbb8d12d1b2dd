/-! PURE: counting loops; the class's spread -/
theorem po_forG {A P : Type} {f : P → Option (A ⊕ P)} (st : Nat → P) {a : A} : ∀ (d i F : Nat), (∀ j, i ≤ j → j < i + d → f (st j) = some (Sum.inr (st (j + 1)))) → f (st (i + d)) = some (Sum.inl a) → d < F → wk_loop f F (st i) = some a := by
  intro d
  induction d with
  | zero =>
    intro i F _ he hF
    cases F with
    | zero => omega
    | succ F =>
      unfold wk_loop
      have he : f (st i) = some (Sum.inl a) := he
      rw [he]; rfl
  | succ d ih =>
    intro i F hs he hF
    cases F with
    | zero => omega
    | succ F =>
      unfold wk_loop
      rw [hs i (Nat.le_refl i) (by omega)]
      exact ih (i + 1) F (fun j h1 h2 => hs j (by omega) (by omega)) (by rw [show i + 1 + d = i + (d + 1) by omega]; exact he) (by omega)
theorem po_for {A P : Type} {f : P → Option (A ⊕ P)} (st : Nat → P) (n : Nat) {a : A} {p : P} (h0 : p = st 0) (hs : ∀ j, j < n → f (st j) = some (Sum.inr (st (j + 1)))) (he : f (st n) = some (Sum.inl a)) (hn : n < 4096) : wk_loop f wk_F p = some a := by
  rw [h0]
  exact po_forG st n 0 wk_F (fun j _ h => hs j (by omega)) (by rw [Nat.zero_add]; exact he) hn
/-- what is reached in one more step, up to place n -/
def iv_spn (N : Nat → Nat) (m : Nat) : Nat → Nat
  | 0 => m
  | n + 1 => if m.testBit n then iv_spn N m n ||| N n else iv_spn N m n
def iv_sp (N : Nat → Nat) (m : Nat) : Nat := iv_spn N m 12
theorem iv_spn_lt {N : Nat → Nat} {m : Nat} (hm : m < 4096) (hN : ∀ r, r < 12 → N r < 4096) : ∀ n, n ≤ 12 → iv_spn N m n < 4096 := by
  intro n
  induction n with
  | zero => intro _; exact hm
  | succ n ih =>
    intro hn
    unfold iv_spn
    split
    · exact Nat.or_lt_two_pow (n := 12) (ih (by omega)) (hN n (by omega))
    · exact ih (by omega)
theorem iv_spn_bit {N : Nat → Nat} {m q : Nat} : ∀ n, (iv_spn N m n).testBit q = true ↔ m.testBit q = true ∨ ∃ r, r < n ∧ m.testBit r = true ∧ (N r).testBit q = true := by
  intro n
  induction n with
  | zero => exact ⟨fun h => Or.inl h, fun h => h.elim id (fun ⟨r, h, _⟩ => by omega)⟩
  | succ n ih =>
    unfold iv_spn
    constructor
    · intro h
      split at h
      · rename_i hb
        rw [Nat.testBit_or, Bool.or_eq_true] at h
        rcases h with h | h
        · rcases ih.mp h with h | ⟨r, h1, h2⟩
          · exact Or.inl h
          · exact Or.inr ⟨r, by omega, h2⟩
        · exact Or.inr ⟨n, by omega, hb, h⟩
      · rcases ih.mp h with h | ⟨r, h1, h2⟩
        · exact Or.inl h
        · exact Or.inr ⟨r, by omega, h2⟩
    · intro h
      have key : (iv_spn N m n).testBit q = true ∨ (m.testBit n = true ∧ (N n).testBit q = true) := by
        rcases h with h | ⟨r, h1, h2⟩
        · exact Or.inl (ih.mpr (Or.inl h))
        · by_cases hr : r = n
          · subst hr; exact Or.inr h2
          · exact Or.inl (ih.mpr (Or.inr ⟨r, by omega, h2⟩))
      split
      · rw [Nat.testBit_or, Bool.or_eq_true]
        exact key.elim Or.inl (fun k => Or.inr k.2)
      · rename_i hb
        exact key.elim id (fun k => absurd k.1 hb)
theorem po_spread {s : wk_St} {N : Nat → Nat} {m : Nat} (hm : m < 4096) (hN : ∀ r, r < 12 → N r < 4096 ∧ s.1 4 r = nI (N r)) : f_X2_spread (nI m) s = some (nI (iv_sp N m)) := by
  have e : wk_loop (S_X2_spread_4 (nI m) s) wk_F (nI m, 0) = some (nI (iv_sp N m)) := by
   refine po_for (fun i => (nI (iv_spn N m i), nI i)) 12 rfl ?_ ?_ (by decide)
   · intro j hj
     have h12 : ¬ nI j ≥ 12 := nI_ge (a := j) (b := 12) hj (by decide)
     have hin : wk_in (nI j) 12 = true := by
       unfold wk_in
       rw [nI_toInt (by omega)]
       simp
       omega
     unfold S_X2_spread_4
     dsimp only
     rw [if_neg h12, po_hasC (by omega) (by omega), if_pos hin, nI_clamp (by omega), (hN j hj).2, nI_1]
     have hlt := iv_spn_lt hm (fun r hr => (hN r hr).1) j (by omega)
     have hlt2 := (hN j hj).1
     unfold wk_let
     rw [po_or (by omega) (by omega)]
     cases hb : m.testBit j with
     | false =>
       show some (Sum.inr (nI (iv_spn N m j), nI (j + 1))) = some (Sum.inr (nI (if m.testBit j then iv_spn N m j ||| N j else iv_spn N m j), nI (j + 1)))
       rw [hb]; rfl
     | true =>
       show some (Sum.inr (nI (iv_spn N m j ||| N j), nI (j + 1))) = some (Sum.inr (nI (if m.testBit j then iv_spn N m j ||| N j else iv_spn N m j), nI (j + 1)))
       rw [hb]; rfl
   · unfold S_X2_spread_4
     dsimp only
     rw [if_pos (by decide)]
     rfl
  unfold f_X2_spread
  rw [e]
  rfl
