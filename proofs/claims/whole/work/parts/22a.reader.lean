/-! PURE: what the readers of texts share -/
def iv_sgn (t : Nat → Nat) (n p : Nat) : Int32 := if p < n then nI (t p) else -1
def iv_RD (k0 : Nat) (t : Nat → Nat) (n p : Nat) (c m : wk_St) : Prop := n ≤ 240 ∧ p ≤ n ∧ c.1 k0 1 = nI n ∧ c.1 k0 3 = nI p ∧ m.1 0 10 = nI p ∧ m.1 0 11 = nI n ∧ ∀ i, i < n → t i < 256 ∧ c.1 (k0 + 1) i = nI (t i) ∧ m.1 7 i &&& 255 = nI (t i)
theorem po_sign {k0 n p : Nat} {t : Nat → Nat} {c m : wk_St} (h : iv_RD k0 t n p c m) : f_X6_sign k0 c = some (iv_sgn t n p) ∧ f_X12_here m = some (iv_sgn t n p) := by
  obtain ⟨h1, h2, h3, h4, h5, h6, h7⟩ := h
  unfold f_X6_sign f_X12_here iv_sgn
  rw [h3, h4, h5, h6, if_neg (nI_pos (by omega))]
  by_cases hp : p < n
  · obtain ⟨a1, a2, a3⟩ := h7 p hp
    rw [if_neg (nI_ge hp (by omega)), if_neg (show ¬ nI p ≥ 240 from nI_ge (b := 240) (by omega) (by decide)), if_pos (po_wkin (by omega) (by decide)), if_neg (nI_ge hp (by omega)), if_pos (po_wkin (by omega) (by decide)), nI_clamp (by omega), a2, a3, if_pos hp]
    exact ⟨rfl, rfl⟩
  · rw [if_pos (show nI p ≥ nI n from nI_le (by omega) (by omega)), if_pos (show nI p ≥ nI n from nI_le (by omega) (by omega)), if_neg hp]
    exact ⟨rfl, rfl⟩
theorem po_sgnp {k0 n p : Nat} {t : Nat → Nat} {c m : wk_St} {z : Nat} (h : iv_RD k0 t n p c m) (hz : z < 256) (hs : iv_sgn t n p = nI z) : p < n ∧ t p = z := by
  unfold iv_sgn at hs
  by_cases hp : p < n
  · rw [if_pos hp] at hs
    exact ⟨hp, (nI_eq (by have := (h.2.2.2.2.2.2 p hp).1; omega) (by omega)).mp hs⟩
  · rw [if_neg hp] at hs
    exact absurd hs.symm (po_m1 (by omega))
theorem po_adv {k0 n p : Nat} {t : Nat → Nat} {c m c2 m2 : wk_St} (h : iv_RD k0 t n p c m) (hp : p < n) (h1 : c2.1 k0 1 = c.1 k0 1) (h3 : c2.1 k0 3 = nI (p + 1)) (hc : c2.1 (k0 + 1) = c.1 (k0 + 1)) (h10 : m2.1 0 10 = nI (p + 1)) (h11 : m2.1 0 11 = m.1 0 11) (h7 : m2.1 7 = m.1 7) : iv_RD k0 t n (p + 1) c2 m2 := by
  obtain ⟨a1, a2, a3, a4, a5, a6, a7⟩ := h
  refine ⟨a1, by omega, h1.trans a3, h3, h10, h11.trans a6, fun i hi => ?_⟩
  rw [hc, h7]
  exact a7 i hi
theorem po_same {k0 n p : Nat} {t : Nat → Nat} {c m c2 m2 : wk_St} (h : iv_RD k0 t n p c m) (h1 : c2.1 k0 1 = c.1 k0 1) (h3 : c2.1 k0 3 = c.1 k0 3) (hc : c2.1 (k0 + 1) = c.1 (k0 + 1)) (h10 : m2.1 0 10 = m.1 0 10) (h11 : m2.1 0 11 = m.1 0 11) (h7 : m2.1 7 = m.1 7) : iv_RD k0 t n p c2 m2 := by
  obtain ⟨a1, a2, a3, a4, a5, a6, a7⟩ := h
  refine ⟨a1, a2, h1.trans a3, h3.trans a4, h10.trans a5, h11.trans a6, fun i hi => ?_⟩
  rw [hc, h7]
  exact a7 i hi
/-- a digit stands there -/
def iv_dg (t : Nat → Nat) (n p : Nat) : Bool := decide (p < n) && decide (48 ≤ t p) && decide (t p ≤ 57)
theorem po_dg {k0 n p : Nat} {t : Nat → Nat} {c m : wk_St} (h : iv_RD k0 t n p c m) : f_X6_isDigit (iv_sgn t n p) = iv_dg t n p ∧ f_X12_isDigit m = some (iv_dg t n p) := by
  have hs := (po_sign h).2
  unfold f_X6_isDigit f_X12_isDigit iv_dg
  rw [hs]
  dsimp only [Option.bind]
  unfold iv_sgn
  by_cases hp : p < n
  · have ht := (h.2.2.2.2.2.2 p hp).1
    rw [if_pos hp, decide_eq_true hp, Bool.true_and]
    by_cases h1 : 48 ≤ t p
    · rw [if_neg (show ¬ nI (t p) < 48 from nI_nlt (b := 48) h1 (by omega)), if_neg (show ¬ nI (t p) < 48 from nI_nlt (b := 48) h1 (by omega)), decide_eq_true h1, Bool.true_and]
      by_cases h2 : t p ≤ 57
      · rw [if_neg (show ¬ nI (t p) > 57 from nI_nlt (a := 57) h2 (by decide)), if_neg (show ¬ nI (t p) > 57 from nI_nlt (a := 57) h2 (by decide)), decide_eq_true h2]
        exact ⟨rfl, rfl⟩
      · rw [if_pos (show nI (t p) > 57 from nI_lt (a := 57) (by omega) (by omega)), if_pos (show nI (t p) > 57 from nI_lt (a := 57) (by omega) (by omega)), decide_eq_false h2]
        exact ⟨rfl, rfl⟩
    · rw [if_pos (show nI (t p) < 48 from nI_lt (b := 48) (by omega) (by decide)), if_pos (show nI (t p) < 48 from nI_lt (b := 48) (by omega) (by decide)), decide_eq_false h1]
      exact ⟨rfl, rfl⟩
  · rw [if_neg hp, decide_eq_false hp, if_pos (by decide), if_pos (by decide)]
    exact ⟨rfl, rfl⟩
theorem iv_dg_p {t : Nat → Nat} {n p : Nat} (h : iv_dg t n p = true) : p < n ∧ 48 ≤ t p ∧ t p ≤ 57 := by
  unfold iv_dg at h
  rw [Bool.and_eq_true, Bool.and_eq_true, decide_eq_true_iff, decide_eq_true_iff, decide_eq_true_iff] at h
  exact ⟨h.1.1, h.1.2, h.2⟩
/-- the number of the digits from p -/
def iv_nv (t : Nat → Nat) (p : Nat) : Nat → Nat
  | 0 => 0
  | i + 1 => 10 * iv_nv t p i + (t (p + i) - 48)
theorem iv_nv_lt {t : Nat → Nat} {p : Nat} : ∀ q, (∀ i, i < q → t (p + i) ≤ 57) → iv_nv t p q < 10 ^ q := by
  intro q
  induction q with
  | zero => intro _; exact (by decide : 0 < 1)
  | succ q ih =>
    intro h
    have h1 := ih (fun i hi => h i (by omega))
    have h2 := h q (by omega)
    unfold iv_nv
    rw [Nat.pow_succ]
    omega
/-- how many digits stand from p on, D at most -/
theorem po_digits (t : Nat → Nat) (n p : Nat) : ∀ D, ∃ q, q ≤ D ∧ (∀ i, i < q → iv_dg t n (p + i) = true) ∧ (q < D → iv_dg t n (p + q) = false) := by
  intro D
  induction D with
  | zero => exact ⟨0, Nat.le_refl _, fun i hi => by omega, fun h => by omega⟩
  | succ D ih =>
    obtain ⟨q, h1, h2, h3⟩ := ih
    by_cases hq : q < D
    · exact ⟨q, by omega, h2, fun _ => h3 hq⟩
    · have e : q = D := by omega
      subst e
      cases hd : iv_dg t n (p + q) with
      | false => exact ⟨q, by omega, h2, fun _ => hd⟩
      | true =>
        refine ⟨q + 1, Nat.le_refl _, fun i hi => ?_, fun h => by omega⟩
        by_cases hiq : i = q
        · rw [hiq]; exact hd
        · exact h2 i (by omega)
theorem po_at {k0 n p : Nat} {t : Nat → Nat} {c m : wk_St} {i : Nat} (h : iv_RD k0 t n p c m) (hi : p + i ≤ n) (h5 : k0 ≠ 7) : iv_RD k0 t n (p + i) (wk_si c k0 3 (nI (p + i))) (wk_si (wk_si m 0 13 0) 0 10 (nI (p + i))) := by
  obtain ⟨a1, a2, a3, a4, a5, a6, a7⟩ := h
  refine ⟨a1, hi, (po_si_ne (by decide)).trans a3, po_si_at, po_si_at, ?_, fun j hj => ?_⟩
  · rw [po_si_ne (by decide), po_si_ne (by decide)]; exact a6
  · rw [po_si_c (by omega), po_si_c (by decide), po_si_c (by decide)]
    exact a7 j hj
/-- the class reads a number -/
theorem po_numC {k0 n p D q : Nat} {t : Nat → Nat} {c m : wk_St} (h : iv_RD k0 t n p c m) (hD : D ≤ 5) (h1 : q ≤ D) (h2 : ∀ i, i < q → iv_dg t n (p + i) = true) (h3 : q < D → iv_dg t n (p + q) = false) :
    f_X6_readNumber k0 (nI D) c = if iv_dg t n (p + q) = true then some (-1, wk_si (wk_si c k0 3 (nI (p + q))) k0 2 (f_X11_faultOf 2 (nI (p + q)))) else if q = 0 then some (-1, wk_si (wk_si c k0 3 (nI p)) k0 2 (f_X11_faultOf 1 (nI p))) else some (nI (iv_nv t p q), wk_si c k0 3 (nI (p + q))) := by
  have hpq : p + q ≤ n := by
    by_cases hq : q = 0
    · have := h.2.1; omega
    · have := (iv_dg_p (h2 (q - 1) (by omega))).1
      omega
  have rdI : ∀ i, p + i ≤ n → iv_RD k0 t n (p + i) (wk_si c k0 3 (nI (p + i))) (wk_si m 0 10 (nI (p + i))) := fun i hi => by
    obtain ⟨a1, a2, a3, a4, a5, a6, a7⟩ := h
    refine ⟨a1, hi, (po_si_ne (by decide)).trans a3, po_si_at, po_si_at, (po_si_ne (by decide)).trans a6, fun j hj => ?_⟩
    rw [po_si_c (by omega), po_si_c (by decide)]
    exact a7 j hj
  have e1 : wk_loop (S_X6_readNumber_4 k0 (nI D)) wk_F ((0 : Int32), (0 : Int32), c) = some (nI (iv_nv t p q), nI q, wk_si c k0 3 (nI (p + q))) := by
    refine po_for (fun i => (nI (iv_nv t p i), nI i, wk_si c k0 3 (nI (p + i)))) q ?_ ?_ ?_ (by omega)
    · refine Prod.ext rfl (Prod.ext rfl ?_)
      show c = wk_si c k0 3 (nI (p + 0))
      rw [Nat.add_zero, ← h.2.2.2.1, iv_set_0]
      have : (fun b => if b = 3 then c.1 k0 3 else c.1 k0 b) = c.1 k0 := by
        funext b
        by_cases hb : b = 3
        · rw [if_pos hb, hb]
        · rw [if_neg hb]
      rw [this, iv_set_id]
    · intro i hi
      have hd := h2 i hi
      obtain ⟨d1, d2, d3⟩ := iv_dg_p hd
      have rd := rdI i (by omega)
      have hs := (po_sign rd).1
      have hdg := (po_dg rd).1
      have hnv := iv_nv_lt (t := t) (p := p) i (fun j hj => (iv_dg_p (h2 j (by omega))).2.2)
      have h10 : 10 ^ i ≤ 10 ^ 5 := Nat.pow_le_pow_right (by decide) (by omega)
      have esg : iv_sgn t n (p + i) = nI (t (p + i)) := if_pos d1
      unfold S_X6_readNumber_4 wk_let
      dsimp only
      rw [if_neg (nI_ge (by omega) (by omega)), hs]
      dsimp only [Option.bind]
      rw [hdg, hd, if_neg (by decide), esg, po_si_at, nI_1, nI_1]
      have ev : (10 : Int32) * nI (iv_nv t p i) + nI (t (p + i)) - 48 = nI (iv_nv t p (i + 1)) := by
        have u1 : (10 : Int32) * nI (iv_nv t p i) = nI (10 * iv_nv t p i) := pk_mul 10 _
        have u2 := pk_sub (a := 10 * iv_nv t p i + t (p + i)) (b := 48) (by omega)
        have u3 : iv_nv t p (i + 1) = 10 * iv_nv t p i + t (p + i) - 48 := by
          show 10 * iv_nv t p i + (t (p + i) - 48) = _
          omega
        rw [u1, nI_add, u3]
        exact u2
      rw [ev, show p + i + 1 = p + (i + 1) by omega, iv_set_0, iv_set_0, iv_set_0]
      refine congrArg (fun x => some (Sum.inr (nI (iv_nv t p (i + 1)), nI (i + 1), x))) ?_
      rw [iv_set_set]
      refine congrArg (iv_set c k0) ?_
      funext b
      by_cases hb : b = 3
      · rw [if_pos hb, if_pos hb]
      · rw [if_neg hb, if_neg hb, iv_set_at, if_neg hb]
    · have rd := rdI q hpq
      have hs := (po_sign rd).1
      have hdg := (po_dg rd).1
      unfold S_X6_readNumber_4
      dsimp only
      by_cases hqD : q < D
      · rw [if_neg (nI_ge hqD (by omega)), hs]
        dsimp only [Option.bind]
        rw [hdg, h3 hqD, if_pos rfl]
      · rw [if_pos (show nI q ≥ nI D from nI_le (by omega) (by omega))]
  have rd := rdI q hpq
  have hs := (po_sign rd).1
  have hdg := (po_dg rd).1
  unfold f_X6_readNumber
  rw [e1]
  dsimp only [Option.bind]
  rw [hs]
  dsimp only
  rw [hdg]
  have j36 : ∀ z : Bool, j_X6_readNumber_36 k0 (b2i z) (wk_si c k0 3 (nI (p + q))) = if z = true then some (-1, wk_si (wk_si c k0 3 (nI (p + q))) k0 2 (f_X11_faultOf 2 (nI (p + q)))) else some (-1, wk_si (wk_si c k0 3 (nI (p + q))) k0 2 (f_X11_faultOf 1 (nI (p + q)))) := by
    intro z
    unfold j_X6_readNumber_36 f_X6_blame wk_let
    rw [po_si_at]
    cases z with
    | false => rw [if_pos (by decide), if_neg (by decide)]; rfl
    | true => rw [if_neg (by decide), if_pos rfl]; rfl
  rw [j36]
  cases iv_dg t n (p + q) with
  | true => rw [if_pos rfl, if_pos rfl, if_pos rfl]
  | false =>
    rw [if_neg Bool.false_ne_true, if_neg Bool.false_ne_true, if_neg Bool.false_ne_true]
    by_cases hq : q = 0
    · subst hq
      rw [if_neg (show ¬ ¬ nI 0 = 0 by decide), if_pos rfl]
      rfl
    · rw [if_pos (show ¬ nI q = 0 from po_nIne (b := 0) (by omega) (by decide) hq), if_neg hq]
theorem po_m2i {m : wk_St} {a b : Int32} : wk_si (wk_si m 0 13 a) 0 10 b = iv_set m 0 (fun z => if z = 10 then b else if z = 13 then a else m.1 0 z) := by
  rw [@iv_set_0 m 0 13 a, iv_set_si]
/-- the model reads a number, of D digits at most -/
theorem po_numM {k0 n p D q : Nat} {t : Nat → Nat} {c m : wk_St} {f : wk_St → Option (((Bool × wk_St) ⊕ (wk_St)) ⊕ (wk_St))} (h : iv_RD k0 t n p c m) (hk7 : k0 ≠ 7) (hD : D ≤ 5)
    (hf : ∀ s, f s = Option.bind (f_X12_isDigit s) fun v2 => if v2 = false then some (Sum.inl (Sum.inr s)) else if ¬ (s.1 0 10) = nI (p + D) then Option.bind (f_X12_here s) fun v3 => some (Sum.inr (wk_si (wk_si s 0 13 ((((10 : Int32) * (s.1 0 13)) + v3) - (48 : Int32))) 0 10 (((wk_si s 0 13 ((((10 : Int32) * (s.1 0 13)) + v3) - (48 : Int32))).1 0 10) + (1 : Int32)))) else wk_let (f_X12_wrongAt (2 : Int32) (s.1 0 10) s) fun v4 => some (Sum.inl (Sum.inl (v4.1, v4.2))))
    (h1 : q ≤ D) (h2 : ∀ i, i < q → iv_dg t n (p + i) = true) (h3 : q < D → iv_dg t n (p + q) = false) :
    wk_loop f wk_F (wk_si m 0 13 0) = some (if iv_dg t n (p + q) = true then Sum.inl (false, iv_set m 0 (fun z => if z = 12 then f_X11_faultOf 2 (nI (p + q)) else if z = 10 then nI (p + q) else if z = 13 then nI (iv_nv t p q) else m.1 0 z)) else Sum.inr (iv_set m 0 (fun z => if z = 10 then nI (p + q) else if z = 13 then nI (iv_nv t p q) else m.1 0 z))) := by
  have hpq : p + q ≤ n := by
    by_cases hq : q = 0
    · have := h.2.1; omega
    · have := (iv_dg_p (h2 (q - 1) (by omega))).1
      omega
  have rdI : ∀ i v, p + i ≤ n → iv_RD k0 t n (p + i) (wk_si c k0 3 (nI (p + i))) (iv_set m 0 (fun z => if z = 10 then nI (p + i) else if z = 13 then v else m.1 0 z)) := fun i v hi => by
    obtain ⟨a1, a2, a3, a4, a5, a6, a7⟩ := h
    refine ⟨a1, hi, (po_si_ne (by decide)).trans a3, po_si_at, rfl, a6, fun j hj => ?_⟩
    rw [po_si_c (by omega)]
    exact a7 j hj
  refine po_for (fun i => iv_set m 0 (fun z => if z = 10 then nI (p + i) else if z = 13 then nI (iv_nv t p i) else m.1 0 z)) q ?_ ?_ ?_ (by omega)
  · show wk_si m 0 13 0 = _
    rw [iv_set_0]
    refine congrArg (iv_set m 0) ?_
    funext z
    by_cases hz : z = 10
    · subst hz
      rw [if_neg (by decide), if_pos rfl, Nat.add_zero]; exact h.2.2.2.2.1
    · rw [if_neg hz]; rfl
  · intro i hi
    have hd := h2 i hi
    obtain ⟨d1, d2, d3⟩ := iv_dg_p hd
    have rd := rdI i (nI (iv_nv t p i)) (by omega)
    have hs := (po_sign rd).2
    have hdg := (po_dg rd).2
    have hnv := iv_nv_lt (t := t) (p := p) i (fun j hj => (iv_dg_p (h2 j (by omega))).2.2)
    have h10 : 10 ^ i ≤ 10 ^ 5 := Nat.pow_le_pow_right (by decide) (by omega)
    have esg : iv_sgn t n (p + i) = nI (t (p + i)) := if_pos d1
    have hn240 := h.1
    rw [hf, hdg]
    dsimp only [Option.bind]
    rw [hd, if_neg (by decide), iv_set_at, if_pos rfl, if_pos (po_nIne (by omega) (by omega) (by omega)), hs, esg]
    dsimp only
    have ev : (10 : Int32) * nI (iv_nv t p i) + nI (t (p + i)) - 48 = nI (iv_nv t p (i + 1)) := by
      have u1 : (10 : Int32) * nI (iv_nv t p i) = nI (10 * iv_nv t p i) := pk_mul 10 _
      have u2 := pk_sub (a := 10 * iv_nv t p i + t (p + i)) (b := 48) (by omega)
      have u3 : iv_nv t p (i + 1) = 10 * iv_nv t p i + t (p + i) - 48 := by
        show 10 * iv_nv t p i + (t (p + i) - 48) = _
        omega
      rw [u1, nI_add, u3]
      exact u2
    rw [iv_set_at, if_neg (by decide), if_pos rfl, ev, iv_set_si, iv_set_at, if_neg (by decide), if_pos rfl, nI_1, iv_set_si]
    refine congrArg (fun x => some (Sum.inr (iv_set m 0 x))) ?_
    funext z
    by_cases hz : z = 10
    · rw [if_pos hz, if_pos hz]; rfl
    · rw [if_neg hz, if_neg hz]
      by_cases hz2 : z = 13
      · rw [if_pos hz2, if_pos hz2, if_neg hz]
      · rw [if_neg hz2, if_neg hz2, if_neg hz, if_neg hz2]
  · have rd := rdI q (nI (iv_nv t p q)) hpq
    have hdg := (po_dg rd).2
    have hn240 := h.1
    rw [hf, hdg]
    dsimp only [Option.bind]
    cases hd : iv_dg t n (p + q) with
    | false => rw [if_pos rfl, if_neg (by decide)]
    | true =>
      have hqD : q = D := by
        by_cases hlt : q < D
        · have := h3 hlt; rw [hd] at this; cases this
        · omega
      unfold f_X12_wrongAt wk_let
      rw [if_neg (by decide), iv_set_at, if_pos rfl, hqD, if_neg (not_not_intro rfl), if_pos rfl, iv_set_si]
      rfl
