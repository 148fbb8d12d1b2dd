/-! PURE: law: a number, a letter -/
theorem iv_sgm_1 {c m : wk_St} {L e : Nat} {s r : List Bool} (o v : Nat) (ho : o < 11) (hv : v < 1048576) (h1 : c.1 50 e = iv_sg o) (h2 : c.1 51 e = nI v) (h3 : m.1 8 e = nI (1048576 * o + v)) (hL : L ≤ 30) (hs : s.length ≤ L) (hr : r.length ≤ L)
    (k : (o = 0 ∧ r = false :: s) ∨ (o = 1 ∧ v < 8 ∧ r = false :: s) ∨ (2 ≤ o ∧ o ≤ 6 ∧ ∃ a b t, s = a :: b :: t ∧ r = false :: t) ∨ (7 ≤ o ∧ o ≤ 9 ∧ ∃ a b t, s = a :: b :: t ∧ r = true :: t) ∨ (o = 10 ∧ ∃ t, s = true :: t ∧ r = true :: t)) : iv_sgm c m L e (e + 1) s r := by
  have u1 : (fun i => if i ≤ e then s else r) e = s := if_pos (Nat.le_refl e)
  have u2 : (fun i => if i ≤ e then s else r) (e + 1) = r := if_neg (by omega)
  refine ⟨fun i => if i ≤ e then s else r, u1, u2, fun i hi hi2 => ?_, fun i hi hi2 => ?_⟩
  · by_cases h : i ≤ e
    · rw [show (fun i => if i ≤ e then s else r) i = s from if_pos h]; exact hs
    · rw [show (fun i => if i ≤ e then s else r) i = r from if_neg h]; exact hr
  · have : i = e := by omega
    subst this
    refine ⟨o, v, hv, by omega, h1, h2, h3, by rw [u1]; omega, ?_⟩
    rw [u1, u2]
    rcases k with k | k | k | k | k
    · exact Or.inl k
    · exact Or.inr (Or.inl k)
    · exact Or.inr (Or.inr (Or.inl k))
    · exact Or.inr (Or.inr (Or.inr (Or.inl k)))
    · exact Or.inr (Or.inr (Or.inr (Or.inr (Or.inl k))))
def iv_flL (c m : wk_St) : Prop := ∃ f i, f < 10 ∧ f ≠ 0 ∧ i < 260 ∧ c.1 34 2 = f_X11_faultOf (nI f) (nI i) ∧ m.1 0 12 = f_X11_faultOf (nI f) (nI i)
theorem po_blameL (f i : Nat) {c m : wk_St} (hf : f < 10) (hf0 : f ≠ 0) (hi : i < 260) : ∃ c2 m2, f_X6_blame 34 (nI f) (nI i) c = (false, c2) ∧ f_X12_wrongAt (nI f) (nI i) m = (false, m2) ∧ iv_flL c2 m2 ∧ iv_wC c c2 ∧ iv_wM m m2 ∧ ∀ e h, iv_old e h c m c2 m2 :=
  ⟨_, _, rfl, rfl, ⟨f, i, hf, hf0, hi, po_si_at, po_si_at⟩, ⟨rfl, fun a h _ _ _ => funext (fun _ => po_si_c h), po_si_c (by decide)⟩, ⟨rfl, fun a h _ _ => funext (fun _ => po_si_c h), fun b _ h _ _ _ _ => po_si_ne h⟩, fun e h => ⟨fun j _ => ⟨po_si_c (by decide), po_si_c (by decide), po_si_c (by decide)⟩, fun j _ => po_si_c (by decide)⟩⟩
/-- the model's factor, with Ff rounds left -/
def iv_rF (Ff : Nat) (s : wk_St) : Option (Bool × wk_St) :=
  Option.bind (wk_loop S_X12_readsFactor_0 Ff s) fun v3 =>
  match v3 with
  | Sum.inl v3r => some v3r
  | Sum.inr v3 =>
    Option.bind (f_X12_isDigit v3) fun v4 =>
    if v4 = false then
      Option.bind (f_X12_here v3) fun v5 =>
      wk_let ((f_X12_factOf v5) : Int32) fun v7 =>
      if ¬ v7 = (-1 : Int32) then
        Option.bind (f_X12_notes (1 : Int32) v7 v3) fun v8 =>
        some (true, (wk_si v8 0 10 ((v8.1 0 10) + (1 : Int32))))
      else
        wk_let (f_X12_wrongAt (1 : Int32) (v3.1 0 10) v3) fun v9 =>
        some (v9.1, v9.2)
    else
      Option.bind (f_X12_readsNumber v3) fun v10 =>
      if v10.1 = true then
        Option.bind (f_X12_notes (0 : Int32) (v10.2.1 0 13) v10.2) fun v11 =>
        some (true, v11)
      else
        some (false, v10.2)
theorem iv_rF_e (m : wk_St) : f_X12_readsFactor m = iv_rF wk_F m := rfl
theorem po_let (x : Int32) : f_X12_factOf x = f_X4_letterOf x := rfl
theorem po_let8 {x : Int32} (h : ¬ f_X4_letterOf x = -1) : ∃ v, v < 8 ∧ f_X4_letterOf x = nI v := by
  unfold f_X4_letterOf j_X4_letterOf_18 at h ⊢
  by_cases h1 : x = 102
  · rw [if_pos h1]; exact ⟨4, by decide, rfl⟩
  rw [if_neg h1] at h ⊢
  by_cases h2 : x = 106
  · rw [if_pos h2]; exact ⟨3, by decide, rfl⟩
  rw [if_neg h2] at h ⊢
  by_cases h3 : x = 107
  · rw [if_pos h3]; exact ⟨0, by decide, rfl⟩
  rw [if_neg h3] at h ⊢
  by_cases h4 : x = 110
  · rw [if_pos h4]; exact ⟨2, by decide, rfl⟩
  rw [if_neg h4] at h ⊢
  by_cases h5 : x = 111
  · rw [if_pos h5]; exact ⟨5, by decide, rfl⟩
  rw [if_neg h5] at h ⊢
  by_cases h6 : x = 112
  · rw [if_pos h6]; exact ⟨1, by decide, rfl⟩
  rw [if_neg h6] at h ⊢
  by_cases h7 : x = 116
  · rw [if_pos h7]; exact ⟨7, by decide, rfl⟩
  rw [if_neg h7] at h ⊢
  by_cases h8 : x = 119
  · rw [if_pos h8]; exact ⟨6, by decide, rfl⟩
  rw [if_neg h8] at h
  exact absurd rfl h
/-- both readers go on to place p2 -/
theorem iv_Y_p {t : Nat → Nat} {n p p2 e h d : Nat} {c m c2 m2 : wk_St} (hY : iv_Y t n p e h d c m) (hp : p ≤ p2) (hn : p2 ≤ n) (hc : ∀ a, a ≠ 34 → c2.1 a = c.1 a) (hc1 : c2.1 34 1 = c.1 34 1) (hc3 : c2.1 34 3 = nI p2) (hm : ∀ a, a ≠ 0 → m2.1 a = m.1 a) (h10 : m2.1 0 10 = nI p2) (h0 : ∀ b, b ≠ 10 → b ≠ 12 → b ≠ 13 → m2.1 0 b = m.1 0 b) : iv_Y t n p2 e h d c2 m2 := by
  obtain ⟨⟨r1, r2, r3, r4, r5, r6, r7⟩, y1, y2, y3, y4, y5⟩ := hY
  refine ⟨⟨r1, hn, hc1.trans r3, hc3, h10, (h0 11 (by decide) (by decide) (by decide)).trans r6, fun i hi => ⟨(r7 i hi).1, ?_, ?_⟩⟩, by omega, ?_, (h0 15 (by decide) (by decide) (by decide)).trans y3, (h0 16 (by decide) (by decide) (by decide)).trans y4, (h0 14 (by decide) (by decide) (by decide)).trans y5⟩
  · rw [hc (34 + 1) (by decide)]; exact (r7 i hi).2.1
  · rw [hm 7 (by decide)]; exact (r7 i hi).2.2
  · rw [hc 45 (by decide)]; exact y2
