/-! PURE: a knight's day -/
theorem po_si_ne' {s : wk_St} {c j a b : Nat} {x : Int32} (h : b ≠ j) : (wk_si s c j x).1 a b = s.1 a b := if_neg (fun k => h k.2)
theorem iv_E_k {T w k0 k : Nat} {N : Nat → Nat} {c m c2 m2 : wk_St} (hk0 : k0 + 4 < 23) (hk7 : 7 < k0) (hE : iv_E T w N k0 c m) (hZ : iv_Z k0 c m c2 m2) (hk9 : k < 9) (hb : iv_tk k0 k c) (hc0 : ∀ b, c2.1 k0 b = c.1 k0 b) (hcj : ∀ a, k0 < a → a ≤ k0 + 4 → ∀ j, j ≠ k → c2.1 a j = c.1 a j)
    (hmz : ∀ z, z ≠ k → z ≠ 9 + k → z ≠ 18 + k → z ≠ 27 + k → z ≠ 36 + k → m2.1 1 z = m.1 1 z) (hk : iv_k T true (c2.1 (k0 + 1) k) (c2.1 (k0 + 2) k) (c2.1 (k0 + 3) k) (c2.1 (k0 + 4) k) (m2.1 1 k) (m2.1 1 (9 + k)) (m2.1 1 (18 + k)) (m2.1 1 (27 + k)) (m2.1 1 (36 + k))) : iv_E T w N k0 c2 m2 := by
  obtain ⟨_, _, _, R⟩ := id hE
  refine iv_E_d hk0 hk7 hE hZ (iv_R_upd R hk9 hb (hc0 4) (hc0 5) (fun X h1 h2 h3 => ⟨X, h1, (hc0 6).trans h2, (hmz 46 (by omega) (by omega) (by omega) (by omega) (by omega)).trans h3⟩) (fun j _ hj => ⟨hcj _ (by omega) (by omega) j hj, hcj _ (by omega) (by omega) j hj, hcj _ (by omega) (by omega) j hj, hcj _ (by omega) (by omega) j hj⟩) (fun z _ h1 h2 h3 h4 h5 => hmz z h1 h2 h3 h4 h5) hk)
theorem iv_tk_0 {k0 k : Nat} {c c2 : wk_St} (h : iv_tk k0 k c) (hc0 : ∀ b, c2.1 k0 b = c.1 k0 b) : iv_tk k0 k c2 := fun K hK hlt => h K ((hc0 4).symm.trans hK) hlt
/-- a knight's record -/
theorem iv_E_r {T w k0 k : Nat} {N : Nat → Nat} {c m : wk_St} (hE : iv_E T w N k0 c m) (hk9 : k < 9) (hb : iv_tk k0 k c) : iv_k T true (c.1 (k0 + 1) k) (c.1 (k0 + 2) k) (c.1 (k0 + 3) k) (c.1 (k0 + 4) k) (m.1 1 k) (m.1 1 (9 + k)) (m.1 1 (18 + k)) (m.1 1 (27 + k)) (m.1 1 (36 + k)) := by
  obtain ⟨_, _, _, ⟨K, D, X, h1, h2, h3, h4, h5, h6, h7, h8, h9⟩⟩ := hE
  have := h9 k hk9
  rw [hb K h4 h1] at this
  exact this
def iv_res (T w : Nat) (N : Nat → Nat) (k0 : Nat) (q : Bool) (B : Nat) (c m : wk_St) (x y : Option wk_St) : Prop := ∃ c2 m2, x = some c2 ∧ y = some m2 ∧ iv_E T w N k0 c2 m2 ∧ iv_Wk q B c2 m2 ∧ iv_Z k0 c m c2 m2
theorem po_temptR {T w k0 k B : Nat} {N : Nat → Nat} {q : Bool} {c m : wk_St} (hk0 : k0 + 4 < 23) (hk7 : 7 < k0) (hE : iv_E T w N k0 c m) (hW : iv_Wk q B c m) (hk9 : k < 9) (hb : iv_tk k0 k c) (hn : ¬ c.1 (k0 + 3) k = 0) : iv_res T w N k0 q B c m (f_X10_tempt k0 (nI k) c) (f_X12_mayLoseClothes (nI k) m) := by
  obtain ⟨t1, t2, t3, t4, t5, t6, t7, t8⟩ := iv_k_t (iv_E_r hE hk9 hb)
  rcases t8 with ⟨u1, u2⟩ | ⟨u1, Q, hQ, hl, hTQ⟩
  · exact absurd u1 hn
  · obtain ⟨c2, m2, e1, e2, e3, e4, e5⟩ := po_tempt hk0 hk7 hE hW hk9 hb hQ hTQ hl
    exact ⟨c2, m2, e1, e2, e3, e4, e5⟩
/-- behind the hunters -/
theorem po_tail {T w k0 k B G : Nat} {N : Nat → Nat} {q wd : Bool} {c m : wk_St} (hk0 : k0 + 4 < 23) (hk7 : 7 < k0) (hE : iv_E T w N k0 c m) (hW : iv_Wk q B c m) (hk9 : k < 9) (hb : iv_tk k0 k c) (hn : c.1 (k0 + 3) k = 1) : iv_res T w N k0 q B c m (j_X10_goKnight_75 k0 (nI k) (b2i wd) (nI G) c) (j_X12_dayOf_91 (nI k) (b2i wd) (nI G) m) := by
  have hr := iv_E_r hE hk9 hb
  obtain ⟨t1, t2, t3, t4, t5, t6, t7, t8⟩ := iv_k_t hr
  have hT := po_temptR hk0 hk7 hE hW hk9 hb (by rw [hn]; decide)
  obtain ⟨c2, m2, e1, e2, e3⟩ := hT
  have m27 : m.1 1 (27 + k) = 1 := t4.trans hn
  unfold j_X10_goKnight_75 j_X12_dayOf_91
  rw [po_e27, if_pos (po_wkin (by omega) (by decide)), nI_clamp (by omega), m27, if_neg (show ¬ ¬ (1 : Int32) = 1 by decide), e1, e2]
  dsimp only [Option.bind]
  cases wd with
  | true =>
    rw [if_pos (by decide), if_pos (by decide)]
    exact ⟨c2, m2, rfl, rfl, e3⟩
  | false =>
    rw [if_neg (by decide), if_neg (by decide), po_clothesOf hk9, po_e36, if_pos (po_wkin (by omega) (by decide)), nI_clamp (by omega), t5]
    dsimp only
    by_cases hc : c.1 (k0 + 4) k = nI G
    · rw [hc, if_neg (not_not_intro rfl), if_neg (not_not_intro rfl)]
      have eC : f_X0_turnMan k0 (nI k) c = some (wk_si (wk_si c (k0 + 3) k 0) (k0 + 4) k (-2)) := by
        unfold f_X0_turnMan
        rw [po_W, po_inT (n := 8) rfl (by omega), if_neg (by decide), if_pos (po_wkin hk9 (by decide)), if_pos (po_wkin hk9 (by decide)), nI_clamp (by omega)]
      have eM : f_X12_turns (nI k) 0 (-2) m = some (wk_si (wk_si m 1 (27 + k) 0) 1 (36 + k) (-2)) := by
        unfold f_X12_turns
        rw [po_e27, po_e36, if_pos (po_wkin (by omega) (by decide)), if_pos (po_wkin (by omega) (by decide)), nI_clamp (by omega), nI_clamp (by omega)]
      rw [eC, eM]
      dsimp only
      obtain ⟨C, hC⟩ : ∃ C, C = wk_si (wk_si (wk_si c (k0 + 3) k 0) (k0 + 4) k (-2)) 23 3 ((wk_si (wk_si c (k0 + 3) k 0) (k0 + 4) k (-2)).1 23 3 + 1) := ⟨_, rfl⟩
      obtain ⟨M, hM⟩ : ∃ M, M = wk_si (wk_si (wk_si m 1 (27 + k) 0) 1 (36 + k) (-2)) 0 45 ((wk_si (wk_si m 1 (27 + k) 0) 1 (36 + k) (-2)).1 0 45 + 1) := ⟨_, rfl⟩
      rw [← hC, ← hM]
      have o1 : ∀ a b, a ≠ 23 → a ≠ k0 + 4 → a ≠ k0 + 3 → C.1 a b = c.1 a b := fun a b h1 h2 h3 => by rw [hC, po_si_c h1, po_si_c h2, po_si_c h3]
      have o2 : ∀ a j, a ≠ 23 → j ≠ k → C.1 a j = c.1 a j := fun a j h1 h2 => by rw [hC, po_si_c h1, po_si_ne' h2, po_si_ne' h2]
      have o3 : ∀ b, b ≠ 3 → C.1 23 b = c.1 23 b := fun b h1 => by rw [hC, po_si_ne h1, po_si_c (by omega), po_si_c (by omega)]
      have p1 : ∀ z, z ≠ 27 + k → z ≠ 36 + k → M.1 1 z = m.1 1 z := fun z h1 h2 => by rw [hM, po_si_c (by decide), po_si_ne h2, po_si_ne h1]
      have p2 : ∀ b, b ≠ 45 → M.1 0 b = m.1 0 b := fun b h1 => by rw [hM, po_si_ne h1, po_si_c (by decide), po_si_c (by decide)]
      have p3 : ∀ a b, a ≠ 0 → a ≠ 1 → M.1 a b = m.1 a b := fun a b h1 h2 => by rw [hM, po_si_c h1, po_si_c h2, po_si_c h2]
      have hZ : iv_Z k0 c m C M := by
        refine ⟨fun b _ => o1 _ _ (by omega) (by omega) (by omega), ⟨by rw [hC]; rfl, fun a h1 h2 _ _ _ => funext (fun b => o1 a b h2 (by omega) (by omega)), fun b _ _ => o1 37 b (by decide) (by omega) (by omega)⟩, ⟨by rw [hM]; rfl, fun a h0 h1 _ _ _ _ => funext (fun b => p3 a b h0 h1), fun b hb => p2 b (by omega)⟩, p2 47 (by decide), Or.inl ⟨p2 48 (by decide), p2 49 (by decide)⟩⟩
      refine ⟨C, M, rfl, rfl, ?_, ?_, hZ⟩
      · refine iv_E_k hk0 hk7 hE hZ hk9 hb (fun b => o1 _ _ (by omega) (by omega) (by omega)) (fun a h1 h2 j hj => o2 a j (by omega) hj) (fun z _ _ _ h4 h5 => p1 z h4 h5) ?_
        have r3 : C.1 (k0 + 3) k = 0 := by rw [hC, po_si_c (by omega), po_si_c (by omega), po_si_at]
        have r4 : C.1 (k0 + 4) k = -2 := by rw [hC, po_si_c (by omega), po_si_at]
        have s3 : M.1 1 (27 + k) = 0 := by rw [hM, po_si_c (by decide), po_si_ne (by omega), po_si_at]
        have s4 : M.1 1 (36 + k) = -2 := by rw [hM, po_si_c (by decide), po_si_at]
        rw [r3, r4, s3, s4, o1 _ _ (by omega) (by omega) (by omega), o1 _ _ (by omega) (by omega) (by omega), p1 _ (by omega) (by omega), p1 _ (by omega) (by omega), p1 _ (by omega) (by omega)]
        exact ⟨t1, t2, t3, rfl, rfl, t6, t7, Or.inl ⟨rfl, rfl⟩⟩
      · intro hq
        obtain ⟨w1, w2, w3, w4, w5, w6⟩ := hW hq
        have u3 : C.1 23 3 = c.1 23 3 + 1 := by rw [hC, po_si_at, po_si_c (by omega), po_si_c (by omega)]
        have v3 : M.1 0 45 = m.1 0 45 + 1 := by rw [hM, po_si_at, po_si_c (by decide), po_si_c (by decide)]
        rw [o3 1 (by decide), o3 2 (by decide), o3 4 (by decide), o3 5 (by decide), p2 43 (by decide), p2 44 (by decide), p2 46 (by decide), p2 48 (by decide), u3, v3, w3]
        exact ⟨w1, w2, rfl, w4, w5, w6⟩
    · rw [if_pos hc, if_pos (show ¬ nI G = c.1 (k0 + 4) k from fun h => hc h.symm)]
      exact ⟨c2, m2, rfl, rfl, e3⟩
