/-! PURE: law: pieces of the code, and what lies on the stack -/
def iv_sgm (c m : wk_St) (L f e : Nat) (s r : List Bool) : Prop := ∃ ty : Nat → List Bool, ty f = s ∧ ty e = r ∧ (∀ i, f ≤ i → i ≤ e → (ty i).length ≤ L) ∧ ∀ i, f ≤ i → i < e → iv_ci (c.1 50 i) (c.1 51 i) (m.1 8 i) ty i e
theorem iv_sgm_old {c m c2 m2 : wk_St} {L f e : Nat} {s r : List Bool} (h : iv_sgm c m L f e s r) (k : ∀ j, f ≤ j → j < e → c2.1 50 j = c.1 50 j ∧ c2.1 51 j = c.1 51 j ∧ m2.1 8 j = m.1 8 j) : iv_sgm c2 m2 L f e s r := by
  obtain ⟨ty, h1, h2, h3, h4⟩ := h
  refine ⟨ty, h1, h2, h3, fun i hi hi2 => ?_⟩
  obtain ⟨k1, k2, k3⟩ := k i hi hi2
  rw [k1, k2, k3]
  exact h4 i hi hi2
theorem iv_sgm_L {c m : wk_St} {L L2 f e : Nat} {s r : List Bool} (h : iv_sgm c m L f e s r) (hL : L ≤ L2) : iv_sgm c m L2 f e s r := by
  obtain ⟨ty, h1, h2, h3, h4⟩ := h
  exact ⟨ty, h1, h2, fun i hi hi2 => Nat.le_trans (h3 i hi hi2) hL, h4⟩
theorem iv_ci_g {sg ar co : Int32} {ty ty2 : Nat → List Bool} {i e e2 : Nat} (h : iv_ci sg ar co ty i e) (hi : i < e) (he : e ≤ e2) (k : ∀ j, i ≤ j → j ≤ e → ty2 j = ty j) : iv_ci sg ar co ty2 i e2 := by
  obtain ⟨o, v, h1, h2, h3, h4, h5, h6, h7⟩ := h
  refine ⟨o, v, h1, h2, h3, h4, h5, ?_, ?_⟩
  · rw [k i (Nat.le_refl i) (by omega)]; exact h6
  · rw [k i (Nat.le_refl i) (by omega), k (i + 1) (by omega) (by omega)]
    rcases h7 with h7 | h7 | h7 | h7 | h7 | ⟨a, b, b1, b2, b3, b4, b5⟩
    · exact Or.inl h7
    · exact Or.inr (Or.inl h7)
    · exact Or.inr (Or.inr (Or.inl h7))
    · exact Or.inr (Or.inr (Or.inr (Or.inl h7)))
    · exact Or.inr (Or.inr (Or.inr (Or.inr (Or.inl h7))))
    · exact Or.inr (Or.inr (Or.inr (Or.inr (Or.inr ⟨a, b, b1, b2, b3, by omega, by rw [k v (by omega) b4]; exact b5⟩))))
theorem iv_sgm_cat {c m : wk_St} {L f g e : Nat} {s r q : List Bool} (h : iv_sgm c m L f g s r) (k : iv_sgm c m L g e r q) (hfg : f ≤ g) (hge : g ≤ e) : iv_sgm c m L f e s q := by
  obtain ⟨t1, h1, h2, h3, h4⟩ := h
  obtain ⟨t2, k1, k2, k3, k4⟩ := k
  have u1 : ∀ j, j ≤ g → (fun i => if i ≤ g then t1 i else t2 i) j = t1 j := fun j hj => if_pos hj
  have u2 : ∀ j, g ≤ j → (fun i => if i ≤ g then t1 i else t2 i) j = t2 j := fun j hj => by
    by_cases h : j = g
    · rw [h, u1 g (Nat.le_refl g), h2, k1]
    · exact if_neg (by omega)
  refine ⟨fun i => if i ≤ g then t1 i else t2 i, (u1 f hfg).trans h1, (u2 e hge).trans k2, fun i hi hi2 => ?_, fun i hi hi2 => ?_⟩
  · by_cases h : i ≤ g
    · rw [u1 i h]; exact h3 i hi h
    · rw [u2 i (by omega)]; exact k3 i (by omega) hi2
  · by_cases h : i < g
    · exact iv_ci_g (h4 i hi h) h hge (fun j _ hj => u1 j hj)
    · exact iv_ci_g (k4 i (by omega) hi2) hi2 (Nat.le_refl e) (fun j hj _ => u2 j (by omega))
theorem iv_sgm_sh {c m : wk_St} {L f e : Nat} {s r : List Bool} (t : List Bool) (h : iv_sgm c m L f e s r) (hL : L + t.length ≤ 30) : iv_sgm c m (L + t.length) f e (s ++ t) (r ++ t) := by
  obtain ⟨ty, h1, h2, h3, h4⟩ := h
  refine ⟨fun i => ty i ++ t, congrArg (fun w => w ++ t) h1, congrArg (fun w => w ++ t) h2, fun i hi hi2 => by rw [List.length_append]; have := h3 i hi hi2; omega, fun i hi hi2 => ?_⟩
  obtain ⟨o, v, a1, a2, a3, a4, a5, a6, a7⟩ := h4 i hi hi2
  refine ⟨o, v, a1, a2, a3, a4, a5, by rw [List.length_append]; have := h3 i hi (by omega); omega, ?_⟩
  rcases a7 with ⟨b1, b2⟩ | ⟨b1, b2, b3⟩ | ⟨b1, b2, a, b, z, b3, b4⟩ | ⟨b1, b2, a, b, z, b3, b4⟩ | ⟨b1, z, b3, b4⟩ | ⟨b1, z, b2, b3, b4, b5, b6⟩
  · exact Or.inl ⟨b1, congrArg (fun w => w ++ t) b2⟩
  · exact Or.inr (Or.inl ⟨b1, b2, congrArg (fun w => w ++ t) b3⟩)
  · exact Or.inr (Or.inr (Or.inl ⟨b1, b2, a, b, z ++ t, congrArg (fun w => w ++ t) b3, congrArg (fun w => w ++ t) b4⟩))
  · exact Or.inr (Or.inr (Or.inr (Or.inl ⟨b1, b2, a, b, z ++ t, congrArg (fun w => w ++ t) b3, congrArg (fun w => w ++ t) b4⟩)))
  · exact Or.inr (Or.inr (Or.inr (Or.inr (Or.inl ⟨b1, z ++ t, congrArg (fun w => w ++ t) b3, congrArg (fun w => w ++ t) b4⟩))))
  · exact Or.inr (Or.inr (Or.inr (Or.inr (Or.inr ⟨b1, z ++ t, congrArg (fun w => w ++ t) b2, congrArg (fun w => w ++ t) b3, b4, b5, congrArg (fun w => w ++ t) b6⟩))))
/-- the states in step: the place, the codes, the stack's height, what is open -/
def iv_Y (t : Nat → Nat) (n p e h d : Nat) (c m : wk_St) : Prop := iv_RD 34 t n p c m ∧ h ≤ p ∧ c.1 45 8 = nI e ∧ m.1 0 15 = nI e ∧ m.1 0 16 = nI h ∧ m.1 0 14 = nI d
def iv_wC (c c2 : wk_St) : Prop := c2.2 = c.2 ∧ (∀ a, a ≠ 34 → a ≠ 45 → a ≠ 50 → a ≠ 51 → c2.1 a = c.1 a) ∧ c2.1 45 7 = c.1 45 7
def iv_wM (m m2 : wk_St) : Prop := m2.2 = m.2 ∧ (∀ a, a ≠ 0 → a ≠ 8 → a ≠ 9 → m2.1 a = m.1 a) ∧ ∀ b, b ≠ 10 → b ≠ 12 → b ≠ 13 → b ≠ 14 → b ≠ 15 → b ≠ 16 → m2.1 0 b = m.1 0 b
theorem iv_wC_r {c : wk_St} : iv_wC c c := ⟨rfl, fun _ _ _ _ _ => rfl, rfl⟩
theorem iv_wM_r {m : wk_St} : iv_wM m m := ⟨rfl, fun _ _ _ _ => rfl, fun _ _ _ _ _ _ _ => rfl⟩
theorem iv_wC_t {a b c : wk_St} (h : iv_wC a b) (k : iv_wC b c) : iv_wC a c := ⟨k.1.trans h.1, fun x h1 h2 h3 h4 => (k.2.1 x h1 h2 h3 h4).trans (h.2.1 x h1 h2 h3 h4), k.2.2.trans h.2.2⟩
theorem iv_wM_t {a b c : wk_St} (h : iv_wM a b) (k : iv_wM b c) : iv_wM a c := ⟨k.1.trans h.1, fun x h1 h2 h3 => (k.2.1 x h1 h2 h3).trans (h.2.1 x h1 h2 h3), fun x h1 h2 h3 h4 h5 h6 => (k.2.2 x h1 h2 h3 h4 h5 h6).trans (h.2.2 x h1 h2 h3 h4 h5 h6)⟩
/-- codes under e stay, and the stack under h -/
def iv_old (e h : Nat) (c m c2 m2 : wk_St) : Prop := (∀ j, j < e → c2.1 50 j = c.1 50 j ∧ c2.1 51 j = c.1 51 j ∧ m2.1 8 j = m.1 8 j) ∧ ∀ j, j < h → m2.1 9 j = m.1 9 j
theorem iv_old_r {e h : Nat} {c m : wk_St} : iv_old e h c m c m := ⟨fun _ _ => ⟨rfl, rfl, rfl⟩, fun _ _ => rfl⟩
theorem iv_old_t {e h e2 h2 : Nat} {c m c2 m2 c3 m3 : wk_St} (a : iv_old e h c m c2 m2) (b : iv_old e2 h2 c2 m2 c3 m3) (he : e ≤ e2) (hh : h ≤ h2) : iv_old e h c m c3 m3 := ⟨fun j hj => ⟨(b.1 j (by omega)).1.trans (a.1 j hj).1, (b.1 j (by omega)).2.1.trans (a.1 j hj).2.1, (b.1 j (by omega)).2.2.trans (a.1 j hj).2.2⟩, fun j hj => (b.2 j (by omega)).trans (a.2 j hj)⟩
theorem po_put {c : wk_St} {e : Nat} (x y : Int32) (h : c.1 45 8 = nI e) (he : e < 240) : f_X4_put x y c = some (nI e, wk_si (wk_si (wk_si c 50 e x) 51 e y) 45 8 (nI (e + 1))) := by
  have u1 : (wk_si c 50 e x).1 45 8 = nI e := (po_si_c (by decide)).trans h
  have u2 : (wk_si (wk_si c 50 e x) 51 e y).1 45 8 = nI e := (po_si_c (by decide)).trans u1
  have u3 : nI (e + 1) - 1 = nI e := by rw [Int32.sub_eq_iff_eq_add, nI_1]
  unfold f_X4_put
  rw [h, if_neg (nI_pos (by omega)), if_pos (show nI e < 240 from nI_lt (b := 240) he (by decide)), if_pos (po_wkin (by omega) (by decide)), nI_clamp (by omega), u1, if_pos (po_wkin (by omega) (by decide)), nI_clamp (by omega), u2, nI_1, po_si_at, u3]
theorem po_notes {m : wk_St} {e : Nat} (x y : Int32) (h : m.1 0 15 = nI e) (he : e < 260) : f_X12_notes x y m = some (wk_si (wk_si m 8 e (1048576 * x + y)) 0 15 (nI (e + 1))) := by
  unfold f_X12_notes
  rw [h, if_pos (po_wkin (by omega) (by decide)), nI_clamp (by omega), po_si_c (by decide), h, nI_1]
theorem po_emit {t : Nat → Nat} {n p e h d : Nat} {c m : wk_St} (o v : Nat) (hY : iv_Y t n p e h d c m) (he : e < 240) (s y : Int32) (hs : s = iv_sg o) (hy : y = nI v) :
    ∃ c2 m2, f_X4_put s y c = some (nI e, c2) ∧ f_X12_notes (nI o) (nI v) m = some m2 ∧ iv_Y t n p (e + 1) h d c2 m2 ∧ iv_wC c c2 ∧ iv_wM m m2 ∧ (∀ H, iv_old e H c m c2 m2) ∧ c2.1 50 e = iv_sg o ∧ c2.1 51 e = nI v ∧ m2.1 8 e = nI (1048576 * o + v) ∧ c2.1 34 = c.1 34 ∧ ∀ b, b ≠ 15 → m2.1 0 b = m.1 0 b := by
  obtain ⟨⟨r1, r2, r3, r4, r5, r6, r7⟩, h1, h2, h3, h4, h5⟩ := hY
  have em : (1048576 : Int32) * nI o + nI v = nI (1048576 * o + v) := by
    rw [show (1048576 : Int32) * nI o = nI (1048576 * o) from po_mulN 1048576 o, nI_add]
  refine ⟨_, _, po_put s y h2 he, po_notes _ _ h3 (by omega), ⟨⟨r1, r2, ?_, ?_, ?_, ?_, fun i hi => ⟨(r7 i hi).1, ?_, ?_⟩⟩, h1, po_si_at, po_si_at, ?_, ?_⟩, ⟨rfl, fun a a1 a2 a3 a4 => funext (fun b => by rw [po_si_c a2, po_si_c a4, po_si_c a3]), ?_⟩, ⟨rfl, fun a a1 a2 a3 => funext (fun b => by rw [po_si_c a1, po_si_c a2]), fun b _ _ _ _ b5 _ => by rw [po_si_ne b5, po_si_c (by decide)]⟩, fun H => ⟨fun j hj => ⟨?_, ?_, ?_⟩, fun j hj => ?_⟩, ?_, ?_, ?_, funext (fun b => ?_), fun b hb => ?_⟩
  · rw [po_si_c (by decide), po_si_c (by decide), po_si_c (by decide)]; exact r3
  · rw [po_si_c (by decide), po_si_c (by decide), po_si_c (by decide)]; exact r4
  · rw [po_si_ne (by decide), po_si_c (by decide)]; exact r5
  · rw [po_si_ne (by decide), po_si_c (by decide)]; exact r6
  · rw [po_si_c (by decide), po_si_c (by decide), po_si_c (by decide)]; exact (r7 i hi).2.1
  · rw [po_si_c (by decide), po_si_c (by decide)]; exact (r7 i hi).2.2
  · rw [po_si_ne (by decide), po_si_c (by decide)]; exact h4
  · rw [po_si_ne (by decide), po_si_c (by decide)]; exact h5
  · rw [po_si_ne (by decide), po_si_c (by decide), po_si_c (by decide)]
  · rw [po_si_c (by decide), po_si_c (by decide), po_si_ne (by omega)]
  · rw [po_si_c (by decide), po_si_ne (by omega), po_si_c (by decide)]
  · rw [po_si_c (by decide), po_si_ne (by omega)]
  · rw [po_si_c (by decide), po_si_c (by decide)]
  · rw [po_si_c (by decide), po_si_c (by decide), po_si_at, hs]
  · rw [po_si_c (by decide), po_si_at, hy]
  · rw [po_si_c (by decide), po_si_at, em]
  · rw [po_si_c (by decide), po_si_c (by decide), po_si_c (by decide)]
  · rw [po_si_ne hb, po_si_c (by decide)]
