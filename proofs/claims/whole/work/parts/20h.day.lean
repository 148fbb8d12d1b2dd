/-! PURE: a day -/
theorem iv_res_t {T w : Nat} {N : Nat → Nat} {k0 : Nat} {q : Bool} {B : Nat} {c m c2 m2 : wk_St} {x y : Option wk_St} (hZ : iv_Z k0 c m c2 m2) (h : iv_res T w N k0 q B c2 m2 x y) : iv_res T w N k0 q B c m x y := by
  obtain ⟨c3, m3, e1, e2, e3, e4, e5⟩ := h
  exact ⟨c3, m3, e1, e2, e3, e4, iv_Z_t hZ e5⟩
theorem po_die {T w k0 k B : Nat} {N : Nat → Nat} {q : Bool} {c m : wk_St} {x3 : Int32} {wd : Bool} (hk0 : k0 + 4 < 23) (hk7 : 7 < k0) (hB : B < 1000000) (hE : iv_E T w N k0 c m) (hW : iv_Wk q B c m) (hk9 : k < 9) (hb : iv_tk k0 k c) (hn : c.1 (k0 + 3) k = 1) :
    iv_res T w N k0 q (B + 1) c m (Option.bind (f_X0_die k0 (nI k) c) fun v14 => if ¬ (v14.1 23 1) = 0 then j_X10_goKnight_67 k0 (nI k) (v14.1 23 5) v14 else j_X10_goKnight_67 k0 (nI k) (nI k) v14)
      (if ¬ ((wk_si (wk_si m 1 (27 + k) (2 : Int32)) 0 43 (((wk_si m 1 (27 + k) (2 : Int32)).1 0 43) + (1 : Int32))).1 0 48) = (-1 : Int32) then
                j_X12_dayOf_91 (nI k) (b2i wd) x3 (wk_si (wk_si m 1 (27 + k) (2 : Int32)) 0 43 (((wk_si m 1 (27 + k) (2 : Int32)).1 0 43) + (1 : Int32)))
              else
                j_X12_dayOf_91 (nI k) (b2i wd) x3 (wk_si (wk_si (wk_si (wk_si m 1 (27 + k) (2 : Int32)) 0 43 (((wk_si m 1 (27 + k) (2 : Int32)).1 0 43) + (1 : Int32))) 0 48 (nI k)) 0 49 ((wk_si (wk_si (wk_si m 1 (27 + k) (2 : Int32)) 0 43 (((wk_si m 1 (27 + k) (2 : Int32)).1 0 43) + (1 : Int32))) 0 48 (nI k)).1 0 47))) := by
  obtain ⟨t1, t2, t3, t4, t5, t6, t7, t8⟩ := iv_k_t (iv_E_r hE hk9 hb)
  have eD : f_X0_die k0 (nI k) c = some (wk_si c (k0 + 3) k 2) := by
    unfold f_X0_die
    rw [po_W, po_inT (n := 8) rfl (by omega), if_neg (by decide), if_pos (po_wkin hk9 (by decide)), nI_clamp (by omega)]
  -- whatever the first dead is: the class's and the model's state
  have go : ∀ (x : Int32) (M : wk_St), (∀ a b, a ≠ 0 → a ≠ 1 → M.1 a b = m.1 a b) → M.2 = m.2 → (∀ z, z ≠ 27 + k → M.1 1 z = m.1 1 z) → M.1 1 (27 + k) = 2 → (∀ b, b ≠ 43 → b ≠ 48 → b ≠ 49 → M.1 0 b = m.1 0 b) → M.1 0 43 = m.1 0 43 + 1 → iv_fd m M → (q = true → x = M.1 0 48 ∧ ∃ k : Nat, k < 9 ∧ x = nI k) →
      iv_res T w N k0 q (B + 1) c m (j_X10_goKnight_67 k0 (nI k) x (wk_si c (k0 + 3) k 2)) (j_X12_dayOf_91 (nI k) (b2i wd) x3 M) := by
    intro x M p3 pL p1 p27 p0 p43 pfd px
    obtain ⟨C, hC⟩ : ∃ C, C = wk_si (wk_si (wk_si c (k0 + 3) k 2) 23 5 x) 23 1 ((wk_si (wk_si c (k0 + 3) k 2) 23 5 x).1 23 1 + 1) := ⟨_, rfl⟩
    have o1 : ∀ a b, a ≠ 23 → a ≠ k0 + 3 → C.1 a b = c.1 a b := fun a b h1 h2 => by rw [hC, po_si_c h1, po_si_c h1, po_si_c h2]
    have o2 : ∀ a j, a ≠ 23 → j ≠ k → C.1 a j = c.1 a j := fun a j h1 h2 => by rw [hC, po_si_c h1, po_si_c h1, po_si_ne' h2]
    have o3 : C.1 (k0 + 3) k = 2 := by rw [hC, po_si_c (by omega), po_si_c (by omega), po_si_at]
    have o5 : C.1 23 5 = x := by rw [hC, po_si_ne (by decide), po_si_at]
    have o11 : C.1 23 1 = c.1 23 1 + 1 := by rw [hC, po_si_at, po_si_ne (by decide), po_si_c (by omega)]
    have o4 : ∀ b, b ≠ 1 → b ≠ 5 → C.1 23 b = c.1 23 b := fun b h1 h2 => by rw [hC, po_si_ne h1, po_si_ne h2, po_si_c (by omega)]
    have hZ : iv_Z k0 c m C M := by
      refine ⟨fun b _ => o1 _ _ (by omega) (by omega), ⟨by rw [hC]; rfl, fun a h1 h2 _ _ _ => funext (fun b => o1 a b h2 (by omega)), fun b _ _ => o1 37 b (by decide) (by omega)⟩, ⟨pL, fun a h0 h1 _ _ _ _ => funext (fun b => p3 a b h0 h1), fun b hb => p0 b (by omega) (by omega) (by omega)⟩, pfd⟩
    have hE2 : iv_E T w N k0 C M := by
      refine iv_E_k hk0 hk7 hE hZ hk9 hb (fun b => o1 _ _ (by omega) (by omega)) (fun a h1 h2 j hj => o2 a j (by omega) hj) (fun z _ _ _ h4 _ => p1 z h4) ?_
      rw [o3, p27, o1 _ _ (by omega) (by omega), o1 _ _ (by omega) (by omega), o1 _ _ (by omega) (by omega), p1 _ (by omega), p1 _ (by omega), p1 _ (by omega), p1 _ (by omega)]
      refine ⟨t1, t2, t3, rfl, t5, t6, t7, ?_⟩
      rcases t8 with ⟨u1, _⟩ | ⟨_, u2⟩
      · rw [hn] at u1; exact absurd u1 (by decide)
      · exact Or.inr ⟨Or.inr rfl, u2⟩
    have hb2 : iv_tk k0 k C := iv_tk_0 hb (fun b => o1 _ _ (by omega) (by omega))
    have hW2 : iv_Wk q (B + 1) C M := by
      intro hq
      obtain ⟨w1, w2, w3, w4, w5, d, wd1, wd2, wd3⟩ := hW hq
      obtain ⟨x1, x2⟩ := px hq
      rw [o11, o4 2 (by decide) (by decide), o4 3 (by decide) (by decide), o4 4 (by decide) (by decide), o5, p43, p0 44 (by decide) (by decide) (by decide), p0 45 (by decide) (by decide) (by decide), p0 46 (by decide) (by decide) (by decide), w1]
      refine ⟨rfl, w2, w3, w4, x1, d + 1, by omega, ?_, Or.inr ⟨by omega, x2⟩⟩
      rw [← w1, wd2, nI_1]
    have hT := po_temptR hk0 hk7 hE2 hW2 hk9 hb2 (by rw [o3]; decide)
    refine iv_res_t hZ ?_
    obtain ⟨c4, m4, e1, e2, e3⟩ := hT
    refine ⟨c4, m4, ?_, ?_, e3⟩
    · unfold j_X10_goKnight_67
      rw [← hC, e1]; rfl
    · unfold j_X12_dayOf_91
      rw [po_e27, if_pos (po_wkin (by omega) (by decide)), nI_clamp (by omega), p27, if_pos (by decide), e2]
      rfl
  rw [eD]
  dsimp only [Option.bind]
  obtain ⟨M1, hM1⟩ : ∃ M1, M1 = wk_si (wk_si m 1 (27 + k) (2 : Int32)) 0 43 (((wk_si m 1 (27 + k) (2 : Int32)).1 0 43) + (1 : Int32)) := ⟨_, rfl⟩
  rw [← hM1]
  have m48 : M1.1 0 48 = m.1 0 48 := by rw [hM1, po_si_ne (by decide), po_si_c (by decide)]
  have m47 : M1.1 0 47 = m.1 0 47 := by rw [hM1, po_si_ne (by decide), po_si_c (by decide)]
  have m49 : M1.1 0 49 = m.1 0 49 := by rw [hM1, po_si_ne (by decide), po_si_c (by decide)]
  have m43 : M1.1 0 43 = m.1 0 43 + 1 := by rw [hM1, po_si_at, po_si_c (by decide)]
  have m1 : ∀ z, z ≠ 27 + k → M1.1 1 z = m.1 1 z := fun z h => by rw [hM1, po_si_c (by decide), po_si_ne h]
  have m27 : M1.1 1 (27 + k) = 2 := by rw [hM1, po_si_c (by decide), po_si_at]
  have m0 : ∀ b, b ≠ 43 → M1.1 0 b = m.1 0 b := fun b h => by rw [hM1, po_si_ne h, po_si_c (by decide)]
  have m3 : ∀ a b, a ≠ 0 → a ≠ 1 → M1.1 a b = m.1 a b := fun a b h1 h2 => by rw [hM1, po_si_c h1, po_si_c h2]
  have mL : M1.2 = m.2 := by rw [hM1]; rfl
  have c231 : (wk_si c (k0 + 3) k 2).1 23 1 = c.1 23 1 := po_si_c (by omega)
  have c235 : (wk_si c (k0 + 3) k 2).1 23 5 = c.1 23 5 := po_si_c (by omega)
  rw [c231, c235, m48, po_si_ne (by decide), m47]
  obtain ⟨M2, hM2⟩ : ∃ M2, M2 = wk_si (wk_si M1 0 48 (nI k)) 0 49 (m.1 0 47) := ⟨_, rfl⟩
  rw [← hM2]
  have n0 : ∀ b, b ≠ 43 → b ≠ 48 → b ≠ 49 → M2.1 0 b = m.1 0 b := fun b h1 h2 h3 => by rw [hM2, po_si_ne h3, po_si_ne h2, m0 b h1]
  have n48 : M2.1 0 48 = nI k := by rw [hM2, po_si_ne (by decide), po_si_at]
  have n49 : M2.1 0 49 = m.1 0 47 := by rw [hM2, po_si_at]
  have n43 : M2.1 0 43 = m.1 0 43 + 1 := by rw [hM2, po_si_ne (by decide), po_si_ne (by decide), m43]
  have n1 : ∀ z, z ≠ 27 + k → M2.1 1 z = m.1 1 z := fun z h => by rw [hM2, po_si_c (by decide), po_si_c (by decide), m1 z h]
  have n27 : M2.1 1 (27 + k) = 2 := by rw [hM2, po_si_c (by decide), po_si_c (by decide), m27]
  have n3 : ∀ a b, a ≠ 0 → a ≠ 1 → M2.1 a b = m.1 a b := fun a b h1 h2 => by rw [hM2, po_si_c h1, po_si_c h1, m3 a b h1 h2]
  have nL : M2.2 = m.2 := by rw [hM2]; exact mL
  have n47 : M2.1 0 47 = m.1 0 47 := n0 47 (by decide) (by decide) (by decide)
  by_cases hC0 : c.1 23 1 = 0
  · rw [if_neg (not_not_intro hC0)]
    by_cases hM0 : m.1 0 48 = -1
    · rw [if_neg (not_not_intro hM0)]
      exact go (nI k) M2 n3 nL n1 n27 n0 n43 ⟨n47, Or.inr ⟨hM0, n49⟩⟩ (fun _ => ⟨n48.symm, k, hk9, rfl⟩)
    · rw [if_pos hM0]
      refine go (nI k) M1 m3 mL m1 m27 (fun b h1 _ _ => m0 b h1) m43 ⟨m47, Or.inl ⟨m48, m49⟩⟩ (fun hq => ?_)
      obtain ⟨w1, w2, w3, w4, w5, d, wd1, wd2, wd3⟩ := hW hq
      exfalso
      rcases wd3 with ⟨_, h⟩ | ⟨h, _⟩
      · exact hM0 (w5.symm.trans h)
      · rw [wd2] at hC0
        exact po_nIne (a := d) (b := 0) (by omega) (by decide) (by omega) hC0
  · rw [if_pos hC0]
    by_cases hM0 : m.1 0 48 = -1
    · rw [if_neg (not_not_intro hM0)]
      refine go (c.1 23 5) M2 n3 nL n1 n27 n0 n43 ⟨n47, Or.inr ⟨hM0, n49⟩⟩ (fun hq => ?_)
      obtain ⟨w1, w2, w3, w4, w5, d, wd1, wd2, wd3⟩ := hW hq
      exfalso
      rcases wd3 with ⟨h, _⟩ | ⟨_, k', hk', h⟩
      · rw [h] at wd2; exact hC0 wd2
      · rw [w5, hM0] at h
        exact po_m1 (n := k') (by omega) h.symm
    · rw [if_pos hM0]
      refine go (c.1 23 5) M1 m3 mL m1 m27 (fun b h1 _ _ => m0 b h1) m43 ⟨m47, Or.inl ⟨m48, m49⟩⟩ (fun hq => ?_)
      obtain ⟨w1, w2, w3, w4, w5, d, wd1, wd2, wd3⟩ := hW hq
      rw [m48]
      refine ⟨w5, ?_⟩
      rcases wd3 with ⟨h, _⟩ | ⟨_, h⟩
      · rw [h] at wd2; exact absurd wd2 hC0
      · exact h
