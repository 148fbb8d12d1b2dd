/-! PURE: hunts: the two readers' states -/
def iv_Q (t : Nat → Nat) (n p d k : Nat) (c m : wk_St) : Prop := iv_RD 30 t n p c m ∧ k ≤ 48 ∧ c.1 30 5 = nI k ∧ m.1 0 38 = nI k ∧ m.1 0 39 = nI d ∧ (∀ j, j < k → (m.1 23 j = 0 ∨ m.1 23 j = 1) ∧ iv_bit (c.2 30 4) j = decide (m.1 23 j = 1)) ∧ ∀ j, k ≤ j → j < 64 → iv_bit (c.2 30 4) j = false
def iv_qC (c c2 : wk_St) : Prop := (∀ a, a ≠ 30 → c2.1 a = c.1 a) ∧ ∀ a, a ≠ 30 → c2.2 a = c.2 a
/-- the model: d rounds lie on the stack -/
def iv_qM (d : Nat) (m m2 : wk_St) : Prop := m2.2 = m.2 ∧ (∀ a, a ≠ 0 → a ≠ 23 → a ≠ 24 → a ≠ 25 → a ≠ 26 → m2.1 a = m.1 a) ∧ (∀ b, b ≠ 10 → b ≠ 12 → b ≠ 38 → b ≠ 39 → b ≠ 40 → b ≠ 41 → m2.1 0 b = m.1 0 b) ∧ ∀ i, i < d → m2.1 24 i = m.1 24 i ∧ m2.1 25 i = m.1 25 i ∧ m2.1 26 i = m.1 26 i
theorem iv_qC_r {c : wk_St} : iv_qC c c := ⟨fun _ _ => rfl, fun _ _ => rfl⟩
theorem iv_qC_t {a b c : wk_St} (h : iv_qC a b) (k : iv_qC b c) : iv_qC a c := ⟨fun x h1 => (k.1 x h1).trans (h.1 x h1), fun x h1 => (k.2 x h1).trans (h.2 x h1)⟩
theorem iv_qM_r {d : Nat} {m : wk_St} : iv_qM d m m := ⟨rfl, fun _ _ _ _ _ _ => rfl, fun _ _ _ _ _ _ _ => rfl, fun _ _ => ⟨rfl, rfl, rfl⟩⟩
theorem iv_qM_t {d : Nat} {a b c : wk_St} (h : iv_qM d a b) (k : iv_qM d b c) : iv_qM d a c := ⟨k.1.trans h.1, fun x h1 h2 h3 h4 h5 => (k.2.1 x h1 h2 h3 h4 h5).trans (h.2.1 x h1 h2 h3 h4 h5), fun x h1 h2 h3 h4 h5 h6 => (k.2.2.1 x h1 h2 h3 h4 h5 h6).trans (h.2.2.1 x h1 h2 h3 h4 h5 h6), fun i hi => ⟨(k.2.2.2 i hi).1.trans (h.2.2.2 i hi).1, (k.2.2.2 i hi).2.1.trans (h.2.2.2 i hi).2.1, (k.2.2.2 i hi).2.2.trans (h.2.2.2 i hi).2.2⟩⟩
theorem iv_qM_le {d e : Nat} {a b : wk_St} (h : iv_qM e a b) (hd : d ≤ e) : iv_qM d a b := ⟨h.1, h.2.1, h.2.2.1, fun i hi => h.2.2.2 i (by omega)⟩
theorem iv_qC_si {c : wk_St} {b : Nat} {x : Int32} : iv_qC c (wk_si c 30 b x) := ⟨fun _ h => funext (fun _ => po_si_c h), fun _ _ => rfl⟩
theorem po_sl_at {c : wk_St} {x : Int64} {y : Int32} : (wk_si (wk_sl c 30 4 x) 30 5 y).2 30 4 = x := by
  show (if (30 : Nat) = 30 ∧ (4 : Nat) = 4 then x else c.2 30 4) = x
  exact if_pos ⟨rfl, rfl⟩
/-- a fault is noted -/
def iv_flt (c m : wk_St) : Prop := ∃ f i, f < 10 ∧ f ≠ 0 ∧ i < 260 ∧ c.1 30 2 = f_X11_faultOf (nI f) (nI i) ∧ m.1 0 12 = f_X11_faultOf (nI f) (nI i)
theorem po_blame (f i : Nat) {c m : wk_St} (hf : f < 10) (hf0 : f ≠ 0) (hi : i < 260) : ∃ c2 m2, f_X6_blame 30 (nI f) (nI i) c = (false, c2) ∧ f_X12_wrongAt (nI f) (nI i) m = (false, m2) ∧ iv_flt c2 m2 ∧ iv_qC c c2 ∧ ∀ d, iv_qM d m m2 :=
  ⟨_, _, rfl, rfl, ⟨f, i, hf, hf0, hi, po_si_at, po_si_at⟩, iv_qC_si, fun d => ⟨rfl, fun _ h _ _ _ _ => funext (fun _ => po_si_c h), fun _ _ h _ _ _ _ => po_si_ne h, fun _ _ => ⟨po_si_c (by decide), po_si_c (by decide), po_si_c (by decide)⟩⟩⟩
theorem po_rep {t : Nat → Nat} {n p d k a z : Nat} {c m : wk_St} (i : Nat) (hi : i < 260) (hQ : iv_Q t n p d k c m) (hak : a < k) (hz : 1 ≤ z) (hz9 : z ≤ 9) :
    ∃ b c2 m2, f_X3_repeat (nI a) (nI z) (nI i) c = some (b, c2) ∧ f_X12_repeats (nI a) (nI z) (nI i) m = some (b, m2) ∧ iv_qC c c2 ∧ (∀ e, iv_qM e m m2) ∧ ((b = true ∧ iv_Q t n p d (a + (k - a) * z) c2 m2 ∧ k ≤ a + (k - a) * z) ∨ (b = false ∧ iv_flt c2 m2)) := by
  obtain ⟨hR, hk, h5, h38, h39, hb, h0⟩ := hQ
  have hkz : (k - a) * 1 ≤ (k - a) * z := Nat.mul_le_mul_left _ hz
  by_cases h48 : a + (k - a) * z ≤ 48
  · obtain ⟨x, e1, hx1, hx2⟩ := po_repC (c := c) (nI i) hak hz h48 h5 h0
    obtain ⟨g, e2, hg⟩ := po_repM (m := m) (nI i) hak hz h48 h38
    refine ⟨true, _, _, e1, e2, ⟨fun u h => funext (fun v => po_si_c h), fun u h => funext (fun v => if_neg (fun w => h w.1))⟩, fun e => ⟨rfl, fun u h1 h2 _ _ _ => funext (fun v => (po_si_c h1).trans (iv_set_off h2)), fun u _ _ h _ _ _ => (po_si_ne h).trans (iv_set_off (by decide)), fun u _ => ⟨(po_si_c (by decide)).trans (iv_set_off (by decide)), (po_si_c (by decide)).trans (iv_set_off (by decide)), (po_si_c (by decide)).trans (iv_set_off (by decide))⟩⟩, Or.inl ⟨rfl, ⟨?_, h48, po_si_at, po_si_at, ?_, fun j hj => ?_, fun j h1 h2 => ?_⟩, by omega⟩⟩
    · obtain ⟨a1, a2, a3, a4, a5, a6, a7⟩ := hR
      refine ⟨a1, a2, ?_, ?_, ?_, ?_, fun j hj => ?_⟩
      · rw [po_si_ne (by decide)]; exact a3
      · rw [po_si_ne (by decide)]; exact a4
      · rw [po_si_ne (by decide), iv_set_off (by decide)]; exact a5
      · rw [po_si_ne (by decide), iv_set_off (by decide)]; exact a6
      · rw [po_si_c (by decide), po_si_c (by decide), iv_set_off (by decide)]; exact a7 j hj
    · rw [po_si_ne (by decide), iv_set_off (by decide)]; exact h39
    · have hlt : iv_per a (k - a) j < k := by have := iv_per_b (a := a) (v := k - a) (j := j) (by omega); omega
      rw [po_si_c (by decide), iv_set_at, hg j hj, po_sl_at, hx1 j hj]
      exact hb _ hlt
    · rw [po_sl_at]
      exact hx2 j h1 h2
  · obtain ⟨c2, m2, q1, q2, q3, q4, q5⟩ := po_blame (c := c) (m := m) 6 i (by decide) (by decide) hi
    have e1 : nI k - nI a = nI (k - a) := by
      rw [Int32.sub_eq_iff_eq_add, nI_add]
      congr 1; omega
    have hbig : (k - a) * z ≤ 48 * 9 := Nat.mul_le_mul (by omega) hz9
    have hno : ¬ nI (a + (k - a) * z) ≤ 48 := fun h => h48 ((nI_leI (b := 48) (by omega) (by decide)).mp h)
    refine ⟨false, c2, m2, ?_, ?_, q4, q5, Or.inr ⟨rfl, q3⟩⟩
    · unfold f_X3_repeat wk_let
      dsimp only
      rw [h5, e1, po_mulN, nI_add, if_neg hno]
      have q1' : f_X6_blame 30 6 (nI i) c = _ := q1
      rw [q1']
    · unfold f_X12_repeats wk_let
      dsimp only
      rw [h38, e1, po_mulN, nI_add, if_neg hno]
      have q2' : f_X12_wrongAt 6 (nI i) m = _ := q2
      rw [q2']
