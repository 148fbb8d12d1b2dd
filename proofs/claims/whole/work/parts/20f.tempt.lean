/-! PURE: a wolf's clothes and the draw -/
def iv_lo (f : Nat → Bool) : Nat → Nat → Nat
  | 0, i => i
  | d + 1, i => if f i = true then i else iv_lo f d (i + 1)
theorem iv_lo_ok {f : Nat → Bool} : ∀ d i, (∃ j, i ≤ j ∧ j < i + d ∧ f j = true) → f (iv_lo f d i) = true ∧ i ≤ iv_lo f d i ∧ iv_lo f d i < i + d := by
  intro d
  induction d with
  | zero => rintro i ⟨j, h1, h2, _⟩; omega
  | succ d ih =>
    rintro i ⟨j, h1, h2, h3⟩
    unfold iv_lo
    by_cases h : f i = true
    · rw [if_pos h]; exact ⟨h, Nat.le_refl _, by omega⟩
    · rw [if_neg h]
      have hij : j ≠ i := fun e => h (by rw [← e]; exact h3)
      have := ih (i + 1) ⟨j, by omega, by omega, h3⟩
      exact ⟨this.1, by omega, by omega⟩
set_option maxRecDepth 100000 in
theorem po_ntzT : (List.range 4096).all (fun x => decide (x = 0 ∨ f_J6_numberOfTrailingZeros_0f7a4 (nI x) = nI (iv_lo (fun k => x.testBit k) 12 0))) = true := by decide +kernel
theorem po_ntz {x : Nat} (hx : x < 4096) (h0 : x ≠ 0) : f_J6_numberOfTrailingZeros_0f7a4 (nI x) = nI (iv_lo (fun k => x.testBit k) 12 0) := (of_decide_eq_true (List.all_eq_true.mp po_ntzT x (List.mem_range.mpr hx))).resolve_left h0
theorem po_exB {x : Nat} (hx : x < 4096) (h0 : x ≠ 0) : ∃ j, 0 ≤ j ∧ j < 0 + 12 ∧ x.testBit j = true := by
  obtain ⟨j, hj⟩ := Nat.exists_testBit_of_ne_zero h0
  refine ⟨j, Nat.zero_le _, ?_, hj⟩
  by_cases h : j < 12
  · omega
  · have := Nat.testBit_lt_two_pow (Nat.lt_of_lt_of_le hx (Nat.pow_le_pow_right (n := 2) (by decide) (by omega : 12 ≤ j)))
    rw [this] at hj; cases hj
def iv_dC (k0 : Nat) (c c2 : wk_St) : Prop := c2.2 = c.2 ∧ (∀ a, (a < k0 ∨ k0 + 4 < a) → a ≠ 23 → a ≠ 24 → a ≠ 44 → a ≠ 37 → c2.1 a = c.1 a) ∧ ∀ b, b ≠ 9 → b ≠ 10 → c2.1 37 b = c.1 37 b
def iv_dM (m m2 : wk_St) : Prop := m2.2 = m.2 ∧ (∀ a, a ≠ 0 → a ≠ 1 → a ≠ 5 → a ≠ 6 → a ≠ 19 → a ≠ 20 → m2.1 a = m.1 a) ∧ ∀ b, (b < 43 ∨ 49 < b) → m2.1 0 b = m.1 0 b
def iv_fd (m m2 : wk_St) : Prop := m2.1 0 47 = m.1 0 47 ∧ ((m2.1 0 48 = m.1 0 48 ∧ m2.1 0 49 = m.1 0 49) ∨ (m.1 0 48 = -1 ∧ m2.1 0 49 = m.1 0 47))
def iv_Z (k0 : Nat) (c m c2 m2 : wk_St) : Prop := (∀ b, b ≠ 6 → c2.1 k0 b = c.1 k0 b) ∧ iv_dC k0 c c2 ∧ iv_dM m m2 ∧ iv_fd m m2
theorem iv_Z_t {k0 : Nat} {c m c2 m2 c3 m3 : wk_St} (h : iv_Z k0 c m c2 m2) (k : iv_Z k0 c2 m2 c3 m3) : iv_Z k0 c m c3 m3 := by
  obtain ⟨a0, ⟨a1, a2, a3⟩, ⟨b1, b2, b3⟩, ⟨d1, d2⟩⟩ := h
  obtain ⟨e0, ⟨e1, e2, e3⟩, ⟨f1, f2, f3⟩, ⟨g1, g2⟩⟩ := k
  refine ⟨fun b hb => (e0 b hb).trans (a0 b hb), ⟨e1.trans a1, fun a h1 h2 h3 h4 h5 => (e2 a h1 h2 h3 h4 h5).trans (a2 a h1 h2 h3 h4 h5), fun b h1 h2 => (e3 b h1 h2).trans (a3 b h1 h2)⟩, ⟨f1.trans b1, fun a h1 h2 h3 h4 h5 h6 => (f2 a h1 h2 h3 h4 h5 h6).trans (b2 a h1 h2 h3 h4 h5 h6), fun b h => (f3 b h).trans (b3 b h)⟩, g1.trans d1, ?_⟩
  rcases d2 with ⟨d2, d3⟩ | ⟨d2, d3⟩
  · rcases g2 with ⟨g2, g3⟩ | ⟨g2, g3⟩
    · exact Or.inl ⟨g2.trans d2, g3.trans d3⟩
    · exact Or.inr ⟨d2.symm.trans g2, g3.trans d1⟩
  · rcases g2 with ⟨g2, g3⟩ | ⟨g2, g3⟩
    · exact Or.inr ⟨d2, g3.trans d3⟩
    · exact Or.inr ⟨d2, g3.trans d1⟩
theorem iv_Z_cm {k0 : Nat} {c m c2 m2 : wk_St} (hk0 : k0 + 4 < 23) (hc : iv_c c c2) (hm : iv_m m m2) : iv_Z k0 c m c2 m2 := by
  have h0 : m2.1 0 = m.1 0 := hm.2 0 (by decide) (by decide) (by decide) (by decide)
  refine ⟨fun b _ => by rw [hc.2.1 k0 (by omega) (by omega) (by omega)], ⟨hc.1, fun a _ _ h1 h2 h3 => hc.2.1 a h1 h2 h3, hc.2.2⟩, ⟨hm.1, fun a _ _ h3 h4 h5 h6 => hm.2 a h3 h4 h5 h6, fun b _ => by rw [h0]⟩, by rw [h0], Or.inl ⟨by rw [h0], by rw [h0]⟩⟩
def iv_Wk (q : Bool) (B : Nat) (c m : wk_St) : Prop := q = true → c.1 23 1 = m.1 0 43 ∧ c.1 23 2 = m.1 0 44 ∧ c.1 23 3 = m.1 0 45 ∧ c.1 23 4 = m.1 0 46 ∧ c.1 23 5 = m.1 0 48 ∧ ∃ d : Nat, d ≤ B ∧ c.1 23 1 = nI d ∧ ((d = 0 ∧ c.1 23 5 = -1) ∨ (0 < d ∧ ∃ k : Nat, k < 9 ∧ c.1 23 5 = nI k))
theorem iv_Wk_cm {q : Bool} {B : Nat} {c m c2 m2 : wk_St} (h : iv_Wk q B c m) (hc : iv_c c c2) (hm : iv_m m m2) : iv_Wk q B c2 m2 := by
  unfold iv_Wk at h ⊢
  rw [hc.2.1 23 (by decide) (by decide) (by decide), hm.2 0 (by decide) (by decide) (by decide) (by decide)]
  exact h
theorem iv_Wk_mono {q : Bool} {B B2 : Nat} {c m : wk_St} (h : iv_Wk q B c m) (hB : B ≤ B2) : iv_Wk q B2 c m := fun hq => by
  obtain ⟨a1, a2, a3, a4, a5, d, a6, a7⟩ := h hq
  exact ⟨a1, a2, a3, a4, a5, d, by omega, a7⟩
theorem iv_E_d {T w : Nat} {N : Nat → Nat} {k0 : Nat} {c m c2 m2 : wk_St} (hk0 : k0 + 4 < 23) (hk7 : 7 < k0) (h : iv_E T w N k0 c m) (hz : iv_Z k0 c m c2 m2) (hR : iv_R T (c2.1 k0) (c2.1 (k0 + 1)) (c2.1 (k0 + 2)) (c2.1 (k0 + 3)) (c2.1 (k0 + 4)) (m2.1 1)) : iv_E T w N k0 c2 m2 := by
  obtain ⟨_, ⟨a1, a2, a3⟩, ⟨b1, b2, b3⟩, _⟩ := hz
  obtain ⟨hF, hH, hL, _⟩ := h
  refine ⟨?_, ?_, ?_, hR⟩
  · rw [a2 3 (Or.inl (by omega)) (by decide) (by decide) (by decide) (by decide), a2 4 (Or.inl (by omega)) (by decide) (by decide) (by decide) (by decide), a2 5 (Or.inl (by omega)) (by decide) (by decide) (by decide) (by decide), b3 4 (by decide), b3 5 (by decide), b2 4 (by decide) (by decide) (by decide) (by decide) (by decide) (by decide)]
    exact hF
  · rw [a2 6 (Or.inl (by omega)) (by decide) (by decide) (by decide) (by decide), a1, b2 21 (by decide) (by decide) (by decide) (by decide) (by decide) (by decide), b2 22 (by decide) (by decide) (by decide) (by decide) (by decide) (by decide)]
    exact hH
  · have u : ∀ a, 37 < a → a < 44 → c2.1 a = c.1 a := fun a h1 h2 => a2 a (Or.inr (by omega)) (by omega) (by omega) (by omega) (by omega)
    have v : ∀ a, 13 < a → a < 19 → m2.1 a = m.1 a := fun a h1 h2 => b2 a (by omega) (by omega) (by omega) (by omega) (by omega) (by omega)
    rw [a3 7 (by decide) (by decide), u 38 (by decide) (by decide), u 39 (by decide) (by decide), u 40 (by decide) (by decide), u 41 (by decide) (by decide), u 42 (by decide) (by decide), u 43 (by decide) (by decide), b3 18 (by decide), v 14 (by decide) (by decide), v 15 (by decide) (by decide), v 16 (by decide) (by decide), v 17 (by decide) (by decide), v 18 (by decide) (by decide)]
    exact hL
/-- one knight's record anew -/
theorem iv_R_upd {T k : Nat} {c p d w l a c2 p2 d2 w2 l2 b : Nat → Int32} (h : iv_R T c p d w l a) (hk9 : k < 9) (hb : ∀ K, c 4 = nI K → K < 512 → K.testBit k = true) (h4 : c2 4 = c 4) (h5 : c2 5 = c 5) (hx : ∀ X : Nat, X < 65536 → c 6 = nI X → a 46 = nI X → ∃ X2 : Nat, X2 < 65536 ∧ c2 6 = nI X2 ∧ b 46 = nI X2)
    (hj : ∀ j, j < 9 → j ≠ k → p2 j = p j ∧ d2 j = d j ∧ w2 j = w j ∧ l2 j = l j) (ha : ∀ z, z < 46 → z ≠ k → z ≠ 9 + k → z ≠ 18 + k → z ≠ 27 + k → z ≠ 36 + k → b z = a z) (hk : iv_k T true (p2 k) (d2 k) (w2 k) (l2 k) (b k) (b (9 + k)) (b (18 + k)) (b (27 + k)) (b (36 + k))) : iv_R T c2 p2 d2 w2 l2 b := by
  obtain ⟨K, D, X, a1, a2, a3, a4, a5, a6, a7, a8, a9⟩ := h
  obtain ⟨X2, x1, x2, x3⟩ := hx X a3 a7 a8
  refine ⟨K, D, X2, a1, a2, x1, h4.trans a4, h5.trans a5, (ha 45 (by decide) (by omega) (by omega) (by omega) (by omega) (by omega)).trans a6, x2, x3, fun j hj9 => ?_⟩
  by_cases hjk : j = k
  · subst hjk
    rw [hb K a4 a1]
    exact hk
  · obtain ⟨e1, e2, e3, e4⟩ := hj j hj9 hjk
    rw [e1, e2, e3, e4, ha j (by omega) (by omega) (by omega) (by omega) (by omega) (by omega), ha (9 + j) (by omega) (by omega) (by omega) (by omega) (by omega) (by omega), ha (18 + j) (by omega) (by omega) (by omega) (by omega) (by omega) (by omega), ha (27 + j) (by omega) (by omega) (by omega) (by omega) (by omega) (by omega), ha (36 + j) (by omega) (by omega) (by omega) (by omega) (by omega) (by omega)]
    exact a9 j hj9
theorem po_lose {m : wk_St} {x1 : Int32} {Q M : Nat} (hQ : Q < 12) (h4 : m.1 4 Q = nI M) (hM : M < 4096) (h0 : M ≠ 0) : wk_loop (S_X12_mayLoseClothes_46 x1 (nI Q)) wk_F ((0 : Int32), m) = some (nI (iv_lo (fun k => M.testBit k) 12 0), m) := by
  have key : ∀ d i F, i + d = 12 → (∃ j, i ≤ j ∧ j < i + d ∧ M.testBit j = true) → d < F → wk_loop (S_X12_mayLoseClothes_46 x1 (nI Q)) F (nI i, m) = some (nI (iv_lo (fun k => M.testBit k) d i), m) := by
    intro d
    induction d with
    | zero => rintro i F _ ⟨j, h1, h2, _⟩; omega
    | succ d ih =>
      rintro i F hi ⟨j, h1, h2, h3⟩ hF
      obtain ⟨F, rfl⟩ : ∃ z, F = z + 1 := ⟨F - 1, by omega⟩
      have step : S_X12_mayLoseClothes_46 x1 (nI Q) (nI i, m) = if M.testBit i = true then some (Sum.inl (nI i, m)) else some (Sum.inr (nI (i + 1), m)) := by
        unfold S_X12_mayLoseClothes_46 wk_let
        dsimp only
        rw [if_pos (po_wkin hQ (by decide)), nI_clamp (by omega), h4, po_hasM (by omega) (by omega), nI_1]
      unfold iv_lo
      by_cases h : M.testBit i = true
      · rw [if_pos h] at step
        rw [if_pos h]
        exact wk_loopI step
      · rw [if_neg h] at step
        rw [if_neg h]
        have hij : j ≠ i := fun e => h (by rw [← e]; exact h3)
        exact (wk_loopS step).trans (ih (i + 1) F (by omega) ⟨j, by omega, by omega, h3⟩ (by omega))
  exact key 12 0 wk_F rfl (po_exB hM h0) (by decide)
theorem po_tempt {T w k0 k Q B : Nat} {N : Nat → Nat} {q : Bool} {c m : wk_St} (hk0 : k0 + 4 < 23) (hk7 : 7 < k0) (hE : iv_E T w N k0 c m) (hW : iv_Wk q B c m) (hk9 : k < 9) (hb : iv_tk k0 k c) (hQ : Q < 12) (hTQ : T.testBit Q = true) (hcl : c.1 (k0 + 4) k = nI Q) :
    ∃ c2 m2, f_X10_tempt k0 (nI k) c = some c2 ∧ f_X12_mayLoseClothes (nI k) m = some m2 ∧ iv_E T w N k0 c2 m2 ∧ iv_Wk q B c2 m2 ∧ iv_Z k0 c m c2 m2 := by
  obtain ⟨⟨f1, f2, f3, f4, f5, f6, f7, f8, f9, f10⟩, hH, hL, ⟨K, D, X, h1, h2, h3, h4, h5, h6, h7, h8, h9⟩⟩ := id hE
  have hkk := h9 k hk9
  rw [hb K h4 h1] at hkk
  obtain ⟨t1, t2, t3, t4, t5, t6, t7, t8⟩ := iv_k_t hkk
  have hclM : m.1 1 (36 + k) = nI Q := t5.trans hcl
  obtain ⟨c1, m1, e1, e2, hc1, hm1, hlet⟩ := po_look hk0 hE hk9 hb hQ hTQ
  have hE1 := iv_E_c hk0 hE hc1 hm1
  obtain ⟨V, hh2, rf2, K2, L2, q1, q2, q3⟩ := po_value (c := c1) (m := m1) (kd := 104) (H := 10) hE1.2.2.1 hlet (by decide) (by decide) (c1.1 37 9) (c1.1 37 10) (c1.1 44) (m1.1 19)
  rw [iv_rs_id] at q1
  rw [iv_set_id] at q2
  obtain ⟨c3, hc3e⟩ : ∃ c3, c3 = iv_rs c1 hh2 rf2 K2 := ⟨_, rfl⟩
  obtain ⟨m3, hm3e⟩ : ∃ m3, m3 = iv_set m1 19 L2 := ⟨_, rfl⟩
  have hc3 : iv_c c c3 := by rw [hc3e]; exact iv_c_t hc1 iv_c_rs
  have hm3 : iv_m m m3 := by rw [hm3e]; exact iv_m_t hm1 iv_m_19
  rw [← hc3e] at q1
  rw [← hm3e] at q2
  have hE3 := iv_E_c hk0 hE hc3 hm3
  have hW3 := iv_Wk_cm hW hc3 hm3
  have hZ3 : iv_Z k0 c m c3 m3 := iv_Z_cm hk0 hc3 hm3
  have c36 : c3.1 k0 6 = nI X := by rw [hc3.2.1 k0 (by omega) (by omega) (by omega)]; exact h7
  have m346 : m3.1 1 46 = nI X := by rw [hm3.2 1 (by decide) (by decide) (by decide) (by decide)]; exact h8
  obtain ⟨X2, hX2⟩ : ∃ X2, X2 = (25173 * X + 13849) % 65536 := ⟨_, rfl⟩
  have hX2lt : X2 < 65536 := by omega
  have ex : wk_rem ((25173 : Int32) * nI X + 13849) 65536 = nI X2 := by
    have u1 : (25173 : Int32) * nI X = nI (25173 * X) := pk_mul 25173 X
    have u2 : nI (25173 * X) + 13849 = nI (25173 * X + 13849) := nI_add _ 13849
    have u3 : wk_rem (nI (25173 * X + 13849)) 65536 = nI ((25173 * X + 13849) % 65536) := po_rem (d := 65536) (by omega) (by decide) (by decide)
    rw [u1, u2, u3, hX2]
  have ex10 : wk_rem (nI X2) 10 = nI (X2 % 10) := po_rem (d := 10) (by omega) (by decide) (by decide)
  obtain ⟨c5, hc5⟩ : ∃ c5, c5 = wk_si c3 k0 6 (nI X2) := ⟨_, rfl⟩
  obtain ⟨m5, hm5⟩ : ∃ m5, m5 = wk_si m3 1 46 (nI X2) := ⟨_, rfl⟩
  have hb3 := iv_tk_c hk0 hb hc3
  obtain ⟨_, _, _, R3⟩ := id hE3
  have hkk3 : iv_k T true (c3.1 (k0 + 1) k) (c3.1 (k0 + 2) k) (c3.1 (k0 + 3) k) (c3.1 (k0 + 4) k) (m3.1 1 k) (m3.1 1 (9 + k)) (m3.1 1 (18 + k)) (m3.1 1 (27 + k)) (m3.1 1 (36 + k)) := by
    rw [hc3.2.1 (k0 + 1) (by omega) (by omega) (by omega), hc3.2.1 (k0 + 2) (by omega) (by omega) (by omega), hc3.2.1 (k0 + 3) (by omega) (by omega) (by omega), hc3.2.1 (k0 + 4) (by omega) (by omega) (by omega), hm3.2 1 (by decide) (by decide) (by decide) (by decide)]
    exact hkk
  have hZ5 : iv_Z k0 c3 m3 c5 m5 := by
    rw [hc5, hm5]
    refine ⟨fun b hb => po_si_ne hb, ⟨rfl, fun a h1 _ _ _ _ => funext (fun b => po_si_c (by omega)), fun b _ _ => po_si_c (by omega)⟩, ⟨rfl, fun a _ h1 _ _ _ _ => funext (fun b => po_si_c h1), fun b _ => po_si_c (by decide)⟩, rfl, Or.inl ⟨rfl, rfl⟩⟩
  have c5o : ∀ a b, a ≠ k0 → c5.1 a b = c3.1 a b := fun a b h => by rw [hc5]; exact po_si_c h
  have hE5 : iv_E T w N k0 c5 m5 := by
    refine iv_E_d hk0 hk7 hE3 hZ5 ?_
    refine iv_R_upd R3 hk9 hb3 (by rw [hc5]; exact po_si_ne (by decide)) (by rw [hc5]; exact po_si_ne (by decide)) (fun X' _ _ _ => ⟨X2, hX2lt, by rw [hc5]; exact po_si_at, by rw [hm5]; exact po_si_at⟩) (fun j _ _ => ⟨c5o _ _ (by omega), c5o _ _ (by omega), c5o _ _ (by omega), c5o _ _ (by omega)⟩) (fun z hz _ _ _ _ _ => by rw [hm5]; exact po_si_ne (by omega)) ?_
    rw [c5o _ _ (by omega), c5o _ _ (by omega), c5o _ _ (by omega), c5o _ _ (by omega), hm5, po_si_ne (by omega), po_si_ne (by omega), po_si_ne (by omega), po_si_ne (by omega), po_si_ne (by omega)]
    exact hkk3
  have hW5 : iv_Wk q B c5 m5 := by
    intro hq
    have := hW3 hq
    rw [hc5, hm5]
    have e23 : ∀ b, (wk_si c3 k0 6 (nI X2)).1 23 b = c3.1 23 b := fun b => po_si_c (by omega)
    have e0 : ∀ b, (wk_si m3 1 46 (nI X2)).1 0 b = m3.1 0 b := fun b => po_si_c (by decide)
    rw [e23, e23, e23, e23, e23, e0, e0, e0, e0, e0]
    exact this
  have hNQ := (f7 Q hQ).1
  have n4 : m5.1 4 Q = nI (N Q) := by
    rw [hm5, po_si_c (by decide), hm3.2 4 (by decide) (by decide) (by decide) (by decide)]
    exact (f8 Q hQ).2
  have hf7 : ∀ r, r < 12 → N r < 4096 ∧ c3.1 4 r = nI (N r) := fun r hr => by
    rw [hc3.2.1 4 (by decide) (by decide) (by decide)]
    exact f7 r hr
  -- the class
  have eC : f_X10_tempt k0 (nI k) c = if X2 % 10 ≥ V then some c5 else if N Q = 0 then some c5 else some (wk_si (wk_si c5 (k0 + 4) k (nI (iv_lo (fun b => (N Q).testBit b) 12 0))) 23 4 (c5.1 23 4 + 1)) := by
    have q1' : f_X4_valueOf 104 10 c1 = some (nI V, c3) := q1
    unfold f_X10_tempt wk_let
    rw [po_clothesOf hk9, hcl]
    dsimp only [Option.bind]
    rw [e1]
    dsimp only
    rw [q1']
    dsimp only
    rw [po_nextToC hf7 hQ]
    dsimp only
    have ed : f_X0_draw k0 c3 = (nI (X2 % 10), c5) := by
      unfold f_X0_draw
      rw [c36, ex, po_si_at, ex10, hc5]
    rw [ed]
    dsimp only
    by_cases hge : X2 % 10 ≥ V
    · rw [if_pos (show nI (X2 % 10) ≥ nI V from nI_le hge (by omega)), if_pos hge]
    · rw [if_neg (nI_ge (by omega) (by omega)), if_neg hge]
      by_cases h0 : N Q = 0
      · rw [if_pos (show nI (N Q) = 0 by rw [h0]; rfl), if_pos h0]
      · rw [if_neg (show ¬ nI (N Q) = 0 from po_nIne (b := 0) (by omega) (by decide) h0), if_neg h0, po_ntz hNQ h0]
        unfold f_X0_layClothes
        rw [po_W, po_inT (n := 8) rfl (by omega), if_neg (by decide), if_pos (po_wkin hk9 (by decide)), nI_clamp (by omega)]
        dsimp only
        rw [po_si_c (by omega)]
  have eM : f_X12_mayLoseClothes (nI k) m = if X2 % 10 ≥ V then some m5 else if N Q = 0 then some m5 else some (wk_si (wk_si m5 1 (36 + k) (nI (iv_lo (fun b => (N Q).testBit b) 12 0))) 0 46 (m5.1 0 46 + 1)) := by
    have q2' : f_X12_byLaw 104 10 m1 = some (nI V, m3) := q2
    unfold f_X12_mayLoseClothes wk_let
    rw [po_e36, if_pos (po_wkin (by omega) (by decide)), nI_clamp (by omega), hclM]
    dsimp only
    rw [e2]
    dsimp only [Option.bind]
    rw [q2']
    dsimp only
    rw [m346, ex, po_si_at, ex10, ← hm5]
    by_cases hge : X2 % 10 ≥ V
    · rw [if_pos (show nI (X2 % 10) ≥ nI V from nI_le hge (by omega)), if_pos hge]
    · rw [if_neg (nI_ge (by omega) (by omega)), if_neg hge, if_pos (po_wkin hQ (by decide)), nI_clamp (by omega), n4]
      by_cases h0 : N Q = 0
      · rw [if_neg (show ¬ ¬ nI (N Q) = 0 by rw [h0]; decide), if_pos h0]
      · rw [if_pos (show ¬ nI (N Q) = 0 from po_nIne (b := 0) (by omega) (by decide) h0), if_neg h0, po_lose hQ n4 hNQ h0]
        dsimp only
        rw [if_pos (po_wkin (by omega) (by decide)), po_si_c (by decide)]
  by_cases hge : X2 % 10 ≥ V
  · rw [if_pos hge] at eC eM
    exact ⟨c5, m5, eC, eM, hE5, hW5, iv_Z_t hZ3 hZ5⟩
  · rw [if_neg hge] at eC eM
    by_cases h0 : N Q = 0
    · rw [if_pos h0] at eC eM
      exact ⟨c5, m5, eC, eM, hE5, hW5, iv_Z_t hZ3 hZ5⟩
    · rw [if_neg h0] at eC eM
      obtain ⟨z, hz⟩ : ∃ z, z = iv_lo (fun b => (N Q).testBit b) 12 0 := ⟨_, rfl⟩
      obtain ⟨z1, z2, z3⟩ := iv_lo_ok (f := fun b => (N Q).testBit b) 12 0 (po_exB hNQ h0)
      rw [← hz] at z1 z2 z3 eC eM
      have hTz : T.testBit z = true := (f9 z Q (by omega) hQ (f9 Q z hQ (by omega) z1).1).2.2
      have hb5 : iv_tk k0 k c5 := by
        intro K' hK' hlt
        refine hb3 K' ?_ hlt
        rw [← hK', hc5, po_si_ne (by decide)]
      obtain ⟨_, _, _, R5⟩ := id hE5
      have hkk5 : iv_k T true (c5.1 (k0 + 1) k) (c5.1 (k0 + 2) k) (c5.1 (k0 + 3) k) (c5.1 (k0 + 4) k) (m5.1 1 k) (m5.1 1 (9 + k)) (m5.1 1 (18 + k)) (m5.1 1 (27 + k)) (m5.1 1 (36 + k)) := by
        rw [c5o _ _ (by omega), c5o _ _ (by omega), c5o _ _ (by omega), c5o _ _ (by omega), hm5, po_si_ne (by omega), po_si_ne (by omega), po_si_ne (by omega), po_si_ne (by omega), po_si_ne (by omega)]
        exact hkk3
      have cl5 : c5.1 (k0 + 4) k = nI Q := by
        rw [c5o _ _ (by omega), hc3.2.1 (k0 + 4) (by omega) (by omega) (by omega)]; exact hcl
      have hZ6 : iv_Z k0 c5 m5 (wk_si (wk_si c5 (k0 + 4) k (nI z)) 23 4 (c5.1 23 4 + 1)) (wk_si (wk_si m5 1 (36 + k) (nI z)) 0 46 (m5.1 0 46 + 1)) := by
        refine ⟨fun b _ => by rw [po_si_c (by omega), po_si_c (by omega)], ⟨rfl, fun a h1 h2 _ _ _ => funext (fun b => ?_), fun b _ _ => ?_⟩, ⟨rfl, fun a h0 h1 _ _ _ _ => funext (fun b => ?_), fun b hb => ?_⟩, ?_, Or.inl ⟨?_, ?_⟩⟩
        · rw [po_si_c h2, po_si_c (by omega)]
        · rw [po_si_c (by decide), po_si_c (by omega)]
        · rw [po_si_c h0, po_si_c h1]
        · rw [po_si_ne (by omega), po_si_c (by decide)]
        · rw [po_si_ne (by decide), po_si_c (by decide)]
        · rw [po_si_ne (by decide), po_si_c (by decide)]
        · rw [po_si_ne (by decide), po_si_c (by decide)]
      refine ⟨_, _, eC, eM, ?_, ?_, iv_Z_t (iv_Z_t hZ3 hZ5) hZ6⟩
      · refine iv_E_d hk0 hk7 hE5 hZ6 ?_
        have o1 : ∀ a b, a ≠ 23 → a ≠ k0 + 4 → (wk_si (wk_si c5 (k0 + 4) k (nI z)) 23 4 (c5.1 23 4 + 1)).1 a b = c5.1 a b := fun a b h1 h2 => by rw [po_si_c h1, po_si_c h2]
        have o2 : ∀ b, b ≠ k → (wk_si (wk_si c5 (k0 + 4) k (nI z)) 23 4 (c5.1 23 4 + 1)).1 (k0 + 4) b = c5.1 (k0 + 4) b := fun b h2 => by rw [po_si_c (by omega), po_si_ne h2]
        have o3 : (wk_si (wk_si c5 (k0 + 4) k (nI z)) 23 4 (c5.1 23 4 + 1)).1 (k0 + 4) k = nI z := by rw [po_si_c (by omega), po_si_at]
        have o4 : ∀ b, b ≠ 36 + k → (wk_si (wk_si m5 1 (36 + k) (nI z)) 0 46 (m5.1 0 46 + 1)).1 1 b = m5.1 1 b := fun b h2 => by rw [po_si_c (by decide), po_si_ne h2]
        have o5 : (wk_si (wk_si m5 1 (36 + k) (nI z)) 0 46 (m5.1 0 46 + 1)).1 1 (36 + k) = nI z := by rw [po_si_c (by decide), po_si_at]
        refine iv_R_upd R5 hk9 hb5 (o1 _ _ (by omega) (by omega)) (o1 _ _ (by omega) (by omega)) (fun X' h1 h2 h3 => ⟨X', h1, (o1 _ _ (by omega) (by omega)).trans h2, (o4 _ (by omega)).trans h3⟩) (fun j _ hj => ⟨o1 _ _ (by omega) (by omega), o1 _ _ (by omega) (by omega), o1 _ _ (by omega) (by omega), o2 j hj⟩) (fun z' _ _ _ _ _ h => o4 z' h) ?_
        rw [o1 _ _ (by omega) (by omega), o1 _ _ (by omega) (by omega), o1 _ _ (by omega) (by omega), o3, o4 _ (by omega), o4 _ (by omega), o4 _ (by omega), o4 _ (by omega), o5]
        obtain ⟨s1, s2, s3, s4, s5, s6, s7, s8⟩ := iv_k_t hkk5
        refine ⟨s1, s2, s3, s4, rfl, s6, s7, Or.inr ⟨?_, z, by omega, rfl, hTz⟩⟩
        rcases s8 with ⟨u1, u2⟩ | ⟨u1, _⟩
        · rw [cl5] at u2
          exact absurd u2 (po_m2 (by omega))
        · exact u1
      · intro hq
        obtain ⟨w1, w2, w3, w4, w5, w6⟩ := hW5 hq
        have o1 : ∀ b, b ≠ 4 → (wk_si (wk_si c5 (k0 + 4) k (nI z)) 23 4 (c5.1 23 4 + 1)).1 23 b = c5.1 23 b := fun b h1 => by rw [po_si_ne h1, po_si_c (by omega)]
        have o2 : ∀ b, b ≠ 46 → (wk_si (wk_si m5 1 (36 + k) (nI z)) 0 46 (m5.1 0 46 + 1)).1 0 b = m5.1 0 b := fun b h1 => by rw [po_si_ne h1, po_si_c (by decide)]
        rw [o1 1 (by decide), o1 2 (by decide), o1 3 (by decide), o1 5 (by decide), o2 43 (by decide), o2 44 (by decide), o2 45 (by decide), o2 48 (by decide), po_si_at, po_si_at, w4]
        exact ⟨w1, w2, w3, rfl, w5, w6⟩
