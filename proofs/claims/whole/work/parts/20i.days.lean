/-! PURE: days -/
theorem iv_Z_r {k0 : Nat} {c m : wk_St} : iv_Z k0 c m c m := ⟨fun _ _ => rfl, ⟨rfl, fun _ _ _ _ _ _ => rfl, fun _ _ _ => rfl⟩, ⟨rfl, fun _ _ _ _ _ _ _ => rfl, fun _ _ => rfl⟩, rfl, Or.inl ⟨rfl, rfl⟩⟩
theorem iv_res_B {T w : Nat} {N : Nat → Nat} {k0 : Nat} {q : Bool} {B B2 : Nat} {c m : wk_St} {x y : Option wk_St} (hB : B ≤ B2) (h : iv_res T w N k0 q B c m x y) : iv_res T w N k0 q B2 c m x y := by
  obtain ⟨c3, m3, e1, e2, e3, e4, e5⟩ := h
  exact ⟨c3, m3, e1, e2, e3, iv_Wk_mono e4 hB, e5⟩
theorem po_wolf {T w k0 k B : Nat} {N : Nat → Nat} {q wd : Bool} {c m : wk_St} (hk0 : k0 + 4 < 23) (hk7 : 7 < k0) (hB : B < 1000000) (hE : iv_E T w N k0 c m) (hW : iv_Wk q B c m) (hk9 : k < 9) (hb : iv_tk k0 k c) (hn2 : ¬ c.1 (k0 + 3) k = 2) :
    iv_res T w N k0 q (B + 1) c m (j_X10_goKnight_24 k0 (nI k) (b2i wd) c) (j_X12_dayOf_36 (nI k) (b2i wd) m) := by
  obtain ⟨t1, t2, t3, t4, t5, ⟨P0, hP0, tp, hTP0⟩, t7, t8⟩ := iv_k_t (iv_E_r hE hk9 hb)
  unfold j_X10_goKnight_24 j_X12_dayOf_36 wk_let
  have hw27 : wk_in (nI (27 + k)) 47 = true := po_wkin (by omega) (by decide)
  have hw18 : wk_in (nI (18 + k)) 47 = true := po_wkin (by omega) (by decide)
  rw [po_kindOf hk9, po_e27, po_e18, nI_clamp (show 27 + k < 2 ^ 31 by omega), nI_clamp (show 18 + k < 2 ^ 31 by omega), t4]
  simp only [hw27, hw18, eq_self, if_true]
  dsimp only [Option.bind]
  rcases t8 with ⟨u1, _⟩ | ⟨u1, _⟩
  · rw [u1, if_neg (by decide), if_neg (by decide)]
    exact ⟨c, m, rfl, rfl, hE, iv_Wk_mono hW (by omega), iv_Z_r⟩
  · have u1 : c.1 (k0 + 3) k = 1 := u1.resolve_right hn2
    rw [u1, if_pos rfl, if_pos (by decide)]
    obtain ⟨G, c2, m2, m3, hG, hTG, e1, e2, hc, hm, hm3⟩ := po_goal hk0 hE hk9 hb hP0 hTP0 tp (t3.trans tp)
    have hE2 := iv_E_c hk0 hE hc hm
    have hW2 := iv_Wk_cm hW hc hm
    have hb2 := iv_tk_c hk0 hb hc
    have hZ2 : iv_Z k0 c m c2 m2 := iv_Z_cm hk0 hc hm
    have n2 : c2.1 (k0 + 3) k = 1 := by rw [hc.2.1 (k0 + 3) (by omega) (by omega) (by omega)]; exact u1
    have p2 : m2.1 1 (18 + k) = nI P0 := by rw [hm.2 1 (by decide) (by decide) (by decide) (by decide)]; exact t3.trans tp
    have eMv : f_X0_moveTo k0 (nI k) (nI G) c2 = some (wk_si c2 (k0 + 1) k (nI G)) := by
      unfold f_X0_moveTo
      rw [po_W, po_inT (n := 8) rfl (by omega), if_neg (by decide), if_pos (po_wkin hk9 (by decide)), nI_clamp (by omega)]
    obtain ⟨c3, hc3⟩ : ∃ c3, c3 = wk_si c2 (k0 + 1) k (nI G) := ⟨_, rfl⟩
    have m318 : m3.1 1 (18 + k) = nI G := by
      rcases hm3 with ⟨rfl, rfl⟩ | rfl
      · exact p2
      · exact po_si_at
    have m31 : ∀ z, z ≠ 18 + k → m3.1 1 z = m2.1 1 z := by
      intro z hz
      rcases hm3 with ⟨_, rfl⟩ | rfl
      · rfl
      · exact po_si_ne hz
    have m3o : ∀ a b, a ≠ 1 → m3.1 a b = m2.1 a b := by
      intro a b hz
      rcases hm3 with ⟨_, rfl⟩ | rfl
      · rfl
      · exact po_si_c hz
    have m3L : m3.2 = m2.2 := by
      rcases hm3 with ⟨_, rfl⟩ | rfl <;> rfl
    have c3o : ∀ a b, a ≠ k0 + 1 → c3.1 a b = c2.1 a b := fun a b h => by rw [hc3]; exact po_si_c h
    have hZ3 : iv_Z k0 c2 m2 c3 m3 := by
      refine ⟨fun b _ => c3o _ _ (by omega), ⟨by rw [hc3]; rfl, fun a h1 _ _ _ _ => funext (fun b => c3o a b (by omega)), fun b _ _ => c3o 37 b (by omega)⟩, ⟨m3L, fun a _ h1 _ _ _ _ => funext (fun b => m3o a b h1), fun b _ => m3o 0 b (by decide)⟩, m3o 0 47 (by decide), Or.inl ⟨m3o 0 48 (by decide), m3o 0 49 (by decide)⟩⟩
    have hE3 : iv_E T w N k0 c3 m3 := by
      refine iv_E_k hk0 hk7 hE2 hZ3 hk9 hb2 (fun b => c3o _ _ (by omega)) (fun a h1 h2 j hj => by rw [hc3]; exact po_si_ne' hj) (fun z _ _ h3 _ _ => m31 z h3) ?_
      obtain ⟨s1, s2, s3, s4, s5, s6, s7, s8⟩ := iv_k_t (iv_E_r hE2 hk9 hb2)
      have g1 : c3.1 (k0 + 1) k = nI G := by rw [hc3]; exact po_si_at
      rw [g1, m318, c3o _ _ (by omega), c3o _ _ (by omega), c3o _ _ (by omega), m31 _ (by omega), m31 _ (by omega), m31 _ (by omega), m31 _ (by omega)]
      exact ⟨s1, s2, rfl, s4, s5, ⟨G, hG, rfl, hTG⟩, s7, s8⟩
    have hW3 : iv_Wk q B c3 m3 := by
      intro hq
      have := hW2 hq
      rw [c3o 23 _ (by omega), c3o 23 _ (by omega), c3o 23 _ (by omega), c3o 23 _ (by omega), c3o 23 _ (by omega), m3o 0 _ (by decide), m3o 0 _ (by decide), m3o 0 _ (by decide), m3o 0 _ (by decide), m3o 0 _ (by decide)]
      exact this
    have hb3 : iv_tk k0 k c3 := iv_tk_0 hb2 (fun b => c3o _ _ (by omega))
    have n3 : c3.1 (k0 + 3) k = 1 := (c3o _ _ (by omega)).trans n2
    have hZc3 := iv_Z_t hZ2 hZ3
    rw [e1, e2]
    dsimp only
    rw [eMv]
    dsimp only
    rw [← hc3, po_placeOf hk9]
    have g1 : c3.1 (k0 + 1) k = nI G := by rw [hc3]; exact po_si_at
    rw [g1, m318]
    dsimp only
    obtain ⟨_, hH3, hL3, ⟨K3, D, X3, z1, z2, z3, z4, z5, z6, z7, z8, z9⟩⟩ := id hE3
    have hu1 := po_huC (c := c3) (p := G) (d := D) hH3 hG (by omega)
    have hu2 : f_X12_isHunted (nI G) 0 m3 = some (iv_hu (m3.1 22) (m3.1 21) G D) := po_huM (m := m3) (i := 0) (D := D) hH3 z6 hG (by omega)
    rw [z5, hu1, hu2]
    dsimp only
    cases iv_hu (m3.1 22) (m3.1 21) G D with
    | false =>
      rw [if_pos rfl, if_pos rfl]
      exact iv_res_B (by omega) (iv_res_t hZc3 (po_tail hk0 hk7 hE3 hW3 hk9 hb3 n3))
    | true =>
      rw [if_neg (by decide), if_neg (by decide)]
      obtain ⟨c4, m4, l1, l2, hc4, hm4, hlet⟩ := po_look hk0 hE3 hk9 hb3 hG hTG
      have hE4 := iv_E_c hk0 hE3 hc4 hm4
      obtain ⟨zz, hh2, rf2, K2, L2, q1, q2⟩ := po_spares (c := c4) (m := m4) hE4.2.2.1 hlet (c4.1 37 9) (c4.1 37 10) (c4.1 44) (m4.1 19)
      rw [iv_rs_id] at q1
      rw [iv_set_id] at q2
      obtain ⟨c5, hc5e⟩ : ∃ c5, c5 = iv_rs c4 hh2 rf2 K2 := ⟨_, rfl⟩
      obtain ⟨m5, hm5e⟩ : ∃ m5, m5 = iv_set m4 19 L2 := ⟨_, rfl⟩
      have hc5 : iv_c c3 c5 := by rw [hc5e]; exact iv_c_t hc4 iv_c_rs
      have hm5 : iv_m m3 m5 := by rw [hm5e]; exact iv_m_t hm4 iv_m_19
      rw [← hc5e] at q1
      rw [← hm5e] at q2
      have eS : f_X10_isSpared k0 (nI k) c3 = some (zz, c5) := by
        unfold f_X10_isSpared
        rw [po_placeOf hk9, g1]
        dsimp only [Option.bind]
        rw [l1]
        dsimp only
        rw [q1]
      rw [eS, l2]
      dsimp only
      rw [q2]
      dsimp only
      have hE5 := iv_E_c hk0 hE3 hc5 hm5
      have hW5 := iv_Wk_cm hW3 hc5 hm5
      have hb5 := iv_tk_c hk0 hb3 hc5
      have n5 : c5.1 (k0 + 3) k = 1 := by rw [hc5.2.1 (k0 + 3) (by omega) (by omega) (by omega)]; exact n3
      have hZ5 := iv_Z_t hZc3 (iv_Z_cm hk0 hc5 hm5)
      cases zz with
      | true =>
        rw [if_pos rfl, if_pos rfl]
        exact iv_res_B (by omega) (iv_res_t hZ5 (po_tail hk0 hk7 hE5 hW5 hk9 hb5 n5))
      | false =>
        rw [if_neg (by decide), if_neg (by decide)]
        have := po_die (x3 := nI G) (wd := wd) hk0 hk7 hB hE5 hW5 hk9 hb5 n5
        exact iv_res_t hZ5 this
theorem po_knight {T w k0 k B : Nat} {N : Nat → Nat} {q : Bool} {c m : wk_St} (hk0 : k0 + 4 < 23) (hk7 : 7 < k0) (hB : B < 1000000) (hE : iv_E T w N k0 c m) (hW : iv_Wk q B c m) (hk9 : k < 9) (hb : iv_tk k0 k c) (hn2 : ¬ c.1 (k0 + 3) k = 2) :
    iv_res T w N k0 q (B + 1) c m (f_X10_goKnight k0 (nI k) c) (f_X12_dayOf (nI k) m) := by
  obtain ⟨t1, t2, t3, t4, t5, t6, ⟨W, hW128, tW⟩, t8⟩ := iv_k_t (iv_E_r hE hk9 hb)
  obtain ⟨⟨f1, f2, f3, f4, f5, f6, f7, f8, f9, f10⟩, _, _, ⟨K, D, X, h1, h2, h3, h4, h5, h6, h7, h8, h9⟩⟩ := id hE
  have w0 : f_X12_weekdayIn 0 m = nI ((D + 0 + w) % 7) := po_wdM (i := 0) f6 h6 (by omega)
  have hB1 : f_X11_hasBit (nI W) (nI ((D + w) % 7)) = W.testBit ((D + w) % 7) := po_hasC (by omega) (by omega)
  have hB2 : f_X12_has (nI W) (nI ((D + 0 + w) % 7)) = W.testBit ((D + w) % 7) := po_hasM (by omega) (by omega)
  unfold f_X10_goKnight f_X12_dayOf
  rw [po_wolfDaysOf hk9, po_e9, po_e27, po_e18, if_pos (po_wkin (n := 47) (show 9 + k < 47 by omega) (by decide)), if_pos (po_wkin (n := 47) (show 27 + k < 47 by omega) (by decide)), if_pos (po_wkin (n := 47) (show 18 + k < 47 by omega) (by decide)), nI_clamp (show 9 + k < 2 ^ 31 by omega), nI_clamp (show 27 + k < 2 ^ 31 by omega), nI_clamp (show 18 + k < 2 ^ 31 by omega), t2, t4, t3, tW, h5, w0, hB2]
  dsimp only [Option.bind]
  rw [po_wdC f4 (by omega)]
  dsimp only
  rw [hB1, po_kindOf hk9]
  dsimp only
  have plain := po_wolf (wd := W.testBit ((D + w) % 7)) hk0 hk7 hB hE hW hk9 hb hn2
  by_cases hk : c.1 (k0 + 3) k = 0
  · rw [if_neg (not_not_intro hk), if_neg (not_not_intro hk)]
    cases hwd : W.testBit ((D + w) % 7) with
    | false =>
      rw [hwd] at plain
      rw [if_pos rfl, if_pos rfl]
      exact plain
    | true =>
      rw [if_neg (by decide), if_neg (by decide)]
      obtain ⟨P, hP, tP, hTP⟩ := t6
      have eC : f_X0_turnWolf k0 (nI k) c = some (wk_si (wk_si c (k0 + 3) k 1) (k0 + 4) k (c.1 (k0 + 1) k)) := by
        unfold f_X0_turnWolf
        rw [po_W, po_inT (n := 8) rfl (by omega), if_neg (by decide), if_pos (po_wkin hk9 (by decide)), if_pos (po_wkin hk9 (by decide)), if_pos (po_wkin hk9 (by decide)), nI_clamp (by omega), po_si_c (by omega)]
      have eM : ∀ x, f_X12_turns (nI k) 1 x m = some (wk_si (wk_si m 1 (27 + k) 1) 1 (36 + k) x) := by
        intro x
        unfold f_X12_turns
        rw [po_e27, po_e36, if_pos (po_wkin (by omega) (by decide)), if_pos (po_wkin (by omega) (by decide)), nI_clamp (by omega), nI_clamp (by omega)]
      rw [eC, eM]
      dsimp only
      obtain ⟨C, hC⟩ : ∃ C, C = wk_si (wk_si (wk_si c (k0 + 3) k 1) (k0 + 4) k (c.1 (k0 + 1) k)) 23 2 ((wk_si (wk_si c (k0 + 3) k 1) (k0 + 4) k (c.1 (k0 + 1) k)).1 23 2 + 1) := ⟨_, rfl⟩
      obtain ⟨M, hM⟩ : ∃ M, M = wk_si (wk_si (wk_si m 1 (27 + k) 1) 1 (36 + k) (c.1 (k0 + 1) k)) 0 44 ((wk_si (wk_si m 1 (27 + k) 1) 1 (36 + k) (c.1 (k0 + 1) k)).1 0 44 + 1) := ⟨_, rfl⟩
      rw [← hC, ← hM]
      have o1 : ∀ a b, a ≠ 23 → a ≠ k0 + 4 → a ≠ k0 + 3 → C.1 a b = c.1 a b := fun a b h1 h2 h3 => by rw [hC, po_si_c h1, po_si_c h2, po_si_c h3]
      have o2 : ∀ a j, a ≠ 23 → j ≠ k → C.1 a j = c.1 a j := fun a j h1 h2 => by rw [hC, po_si_c h1, po_si_ne' h2, po_si_ne' h2]
      have o3 : ∀ b, b ≠ 2 → C.1 23 b = c.1 23 b := fun b h1 => by rw [hC, po_si_ne h1, po_si_c (by omega), po_si_c (by omega)]
      have p1 : ∀ z, z ≠ 27 + k → z ≠ 36 + k → M.1 1 z = m.1 1 z := fun z h1 h2 => by rw [hM, po_si_c (by decide), po_si_ne h2, po_si_ne h1]
      have p2 : ∀ b, b ≠ 44 → M.1 0 b = m.1 0 b := fun b h1 => by rw [hM, po_si_ne h1, po_si_c (by decide), po_si_c (by decide)]
      have p3 : ∀ a b, a ≠ 0 → a ≠ 1 → M.1 a b = m.1 a b := fun a b h1 h2 => by rw [hM, po_si_c h1, po_si_c h2, po_si_c h2]
      have hZ : iv_Z k0 c m C M := by
        refine ⟨fun b _ => o1 _ _ (by omega) (by omega) (by omega), ⟨by rw [hC]; rfl, fun a h1 h2 _ _ _ => funext (fun b => o1 a b h2 (by omega) (by omega)), fun b _ _ => o1 37 b (by decide) (by omega) (by omega)⟩, ⟨by rw [hM]; rfl, fun a h0 h1 _ _ _ _ => funext (fun b => p3 a b h0 h1), fun b hb => p2 b (by omega)⟩, p2 47 (by decide), Or.inl ⟨p2 48 (by decide), p2 49 (by decide)⟩⟩
      have r3 : C.1 (k0 + 3) k = 1 := by rw [hC, po_si_c (by omega), po_si_c (by omega), po_si_at]
      have r4 : C.1 (k0 + 4) k = c.1 (k0 + 1) k := by rw [hC, po_si_c (by omega), po_si_at]
      have hE2 : iv_E T w N k0 C M := by
        refine iv_E_k hk0 hk7 hE hZ hk9 hb (fun b => o1 _ _ (by omega) (by omega) (by omega)) (fun a h1 h2 j hj => o2 a j (by omega) hj) (fun z _ _ _ h4 h5 => p1 z h4 h5) ?_
        have s3 : M.1 1 (27 + k) = 1 := by rw [hM, po_si_c (by decide), po_si_ne (by omega), po_si_at]
        have s4 : M.1 1 (36 + k) = c.1 (k0 + 1) k := by rw [hM, po_si_c (by decide), po_si_at]
        rw [r3, r4, s3, s4, o1 _ _ (by omega) (by omega) (by omega), o1 _ _ (by omega) (by omega) (by omega), p1 _ (by omega) (by omega), p1 _ (by omega) (by omega), p1 _ (by omega) (by omega)]
        exact ⟨t1, t2, t3, rfl, rfl, ⟨P, hP, tP, hTP⟩, ⟨W, hW128, tW⟩, Or.inr ⟨Or.inl rfl, P, hP, tP, hTP⟩⟩
      have hW2 : iv_Wk q B C M := by
        intro hq
        obtain ⟨w1, w2, w3, w4, w5, w6⟩ := hW hq
        have u3 : C.1 23 2 = c.1 23 2 + 1 := by rw [hC, po_si_at, po_si_c (by omega), po_si_c (by omega)]
        have v3 : M.1 0 44 = m.1 0 44 + 1 := by rw [hM, po_si_at, po_si_c (by decide), po_si_c (by decide)]
        rw [o3 1 (by decide), o3 3 (by decide), o3 4 (by decide), o3 5 (by decide), p2 43 (by decide), p2 45 (by decide), p2 46 (by decide), p2 48 (by decide), u3, v3, w2]
        exact ⟨w1, rfl, w3, w4, w5, w6⟩
      have hb2 : iv_tk k0 k C := iv_tk_0 hb (fun b => o1 _ _ (by omega) (by omega) (by omega))
      have := po_wolf (wd := true) hk0 hk7 hB hE2 hW2 hk9 hb2 (by rw [r3]; decide)
      exact iv_res_t hZ this
  · rw [if_pos hk, if_pos hk]
    cases hwd : W.testBit ((D + w) % 7) with
    | false =>
      rw [hwd] at plain
      rw [if_pos rfl]
      exact plain
    | true =>
      rw [hwd] at plain
      rw [if_neg (by decide)]
      exact plain
