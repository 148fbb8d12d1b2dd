/-! PURE: count, knightIs, hunted, calm, safest -/
theorem po_rel {A B P Q : Type} {f : P → Option (A ⊕ P)} {g : Q → Option (B ⊕ Q)} (I : Nat → P → Q → Prop) (Z : A → B → Prop) (n : Nat) (hs : ∀ j p q, j < n → I j p q → ∃ p2 q2, f p = some (Sum.inr p2) ∧ g q = some (Sum.inr q2) ∧ I (j + 1) p2 q2) (he : ∀ p q, I n p q → ∃ a b, f p = some (Sum.inl a) ∧ g q = some (Sum.inl b) ∧ Z a b) (hn : n < 4096) {p : P} {q : Q} (h0 : I 0 p q) : ∃ a b, wk_loop f wk_F p = some a ∧ wk_loop g wk_F q = some b ∧ Z a b := by
  have key : ∀ d i F p q, I i p q → i + d = n → d < F → ∃ a b, wk_loop f F p = some a ∧ wk_loop g F q = some b ∧ Z a b := by
    intro d
    induction d with
    | zero =>
      intro i F p q hp hi hF
      obtain ⟨F, rfl⟩ : ∃ f, F = f + 1 := ⟨F - 1, by omega⟩
      have e : i = n := by omega
      subst e
      obtain ⟨a, b, h1, h2, h3⟩ := he p q hp
      exact ⟨a, b, wk_loopI h1, wk_loopI h2, h3⟩
    | succ d ih =>
      intro i F p q hp hi hF
      obtain ⟨F, rfl⟩ : ∃ f, F = f + 1 := ⟨F - 1, by omega⟩
      obtain ⟨p2, q2, h1, h2, h3⟩ := hs i p q (by omega) hp
      obtain ⟨a, b, k1, k2, k3⟩ := ih (i + 1) F p2 q2 h3 (by omega) (by omega)
      exact ⟨a, b, (wk_loopS h1).trans k1, (wk_loopS h2).trans k2, k3⟩
  exact key n 0 wk_F p q h0 (by omega) hn
theorem po_inA {x : Int32} {a b : Nat} {u v : Int32} (hu : u.toInt = a) (hv : v.toInt = b) (h : f_X12_in x u v = true) : ∃ j, a ≤ j ∧ j ≤ b ∧ x = nI j := by
  obtain ⟨h1, h2⟩ := po_in h
  have h3 := po_le h2
  rw [Int32.lt_iff_toInt_lt] at h1
  rw [Int32.le_iff_toInt_le] at h3
  have hx := Int32.toInt_lt x
  refine ⟨x.toInt.toNat, by omega, by omega, Int32.toInt_inj.mp ?_⟩
  rw [nI_toInt (by omega)]
  omega
theorem po_nextToC {c : wk_St} {N : Nat → Nat} {p : Nat} (hN : ∀ r, r < 12 → N r < 4096 ∧ c.1 4 r = nI (N r)) (hp : p < 12) : f_X2_nextTo (nI p) c = some (nI (N p)) := by
  unfold f_X2_nextTo
  rw [po_W, po_inT (n := 11) rfl (by omega), if_neg (by decide), if_pos (po_wkin hp (by decide)), nI_clamp (by omega), (hN p hp).2]
theorem po_op_34 : lw_op_34 iv_I := by
  intro a0 σC σM hI
  have hI2 := hI
  obtain ⟨T, w, N, ⟨j, j1, j2, j3, j4⟩, hF, hH, ⟨K, D, X, h1, h2, h3, h4, h5, h6, h7, h8, h9⟩, hK, ⟨R, r1, r2, r3, r4⟩⟩ := hI
  have go : ∀ r, f_X11_count a0 σC = some r → f_X12_count a0 σM = some r → ∃ (r : Int32) (σC2 σM2 : wk_St), wk_T wk_shC 200 39 [.ref 0, .int a0] σC (some (.int r), σC2) ∧ wk_T wk_shM 200 147 [.ref 0, .int a0] σM (some (.int r), σM2) ∧ iv_I σC2 σM2 := fun r e1 e2 => ⟨r, σC, σM, (t_X11_count e1).up (by decide), (t_X12_count e2).up (by decide), hI2⟩
  have hF2 := hF
  obtain ⟨f1, f2, f3, f4, f5, f6, f7, f8, f9, f10⟩ := hF
  unfold f_X11_count f_X12_count at go
  by_cases c0 : a0 = 0
  · rw [if_pos c0, if_pos c0] at go
    exact go _ (by rw [h5]) (by rw [h6])
  rw [if_neg c0, if_neg c0] at go
  by_cases c1 : a0 = 1
  · rw [if_pos c1, if_pos c1] at go
    have e0 := po_wdM (i := 0) f6 h6 (by omega)
    have e0' : f_X12_weekdayIn 0 σM = _ := e0
    exact go _ (by rw [h5, po_wdC f4 (by omega)]; rfl) (by rw [e0']; rfl)
  rw [if_neg c1, if_neg c1] at go
  by_cases c2 : a0 = 2
  · rw [if_pos c2, if_pos c2] at go
    exact go _ (by rw [f3]) (by rw [f5])
  rw [if_neg c2, if_neg c2] at go
  by_cases c3 : a0 = 3
  · rw [if_pos c3, if_pos c3] at go
    have hl := fun x => iv_ks_lt (K := K) (W := σC.1 11) (x := x) 9 (by decide)
    refine go (nI K) (by rw [h4]) ?_
    rw [po_setOf (k0 := 8) (x := 0) h1 h4 h9, po_setOf (k0 := 8) (x := 1) h1 h4 h9, po_setOf (k0 := 8) (x := 2) h1 h4 h9]
    dsimp only [Option.bind]
    have g0 := hl 0
    have g1 := hl 1
    have g2 := hl 2
    have g01 : iv_ks K (σC.1 11) 0 9 ||| iv_ks K (σC.1 11) 1 9 < 512 := Nat.or_lt_two_pow (n := 9) g0 g1
    have o1 : nI (iv_ks K (σC.1 11) 0 9) ||| nI (iv_ks K (σC.1 11) 1 9) = nI (iv_ks K (σC.1 11) 0 9 ||| iv_ks K (σC.1 11) 1 9) := po_or (by omega) (by omega)
    have o2 : nI (iv_ks K (σC.1 11) 0 9 ||| iv_ks K (σC.1 11) 1 9) ||| nI (iv_ks K (σC.1 11) 2 9) = nI (iv_ks K (σC.1 11) 0 9 ||| iv_ks K (σC.1 11) 1 9 ||| iv_ks K (σC.1 11) 2 9) := po_or (by omega) (by omega)
    rw [o1, o2, iv_ks_all h1 h9]
  rw [if_neg c3, if_neg c3] at go
  by_cases c4 : a0 = 4
  · rw [if_pos c4, if_pos c4] at go
    exact go _ (by rw [po_bitsOf h1 h4]; rfl) (by rw [po_setOf (k0 := 8) h1 h4 h9]; rfl)
  rw [if_neg c4, if_neg c4] at go
  by_cases c5 : a0 = 5
  · rw [if_pos c5, if_pos c5] at go
    exact go _ (by rw [po_bitsOf h1 h4]; rfl) (by rw [po_setOf (k0 := 8) h1 h4 h9]; rfl)
  rw [if_neg c5, if_neg c5] at go
  by_cases c6 : a0 = 6
  · rw [if_pos c6, if_pos c6] at go
    exact go _ (by rw [r2]) (by rw [r3])
  rw [if_neg c6, if_neg c6] at go
  by_cases c7 : a0 = 7
  · rw [if_pos c7, if_pos c7] at go
    exact go _ (by rw [j2]) (by rw [j3])
  rw [if_neg c7, if_neg c7] at go
  by_cases c8 : a0 = 8
  · rw [if_pos c8, if_pos c8] at go
    exact go _ (by rw [h7]) (by rw [h8])
  rw [if_neg c8, if_neg c8] at go
  rcases po_toldF (x := a0 - 20) hF2 with ⟨d1, d2⟩ | ⟨d1, d2, p, hp, e, hTp⟩
  · rw [d1, d2, if_pos rfl, if_pos rfl, po_W] at go
    cases hin : f_X12_in a0 40 51 with
    | false =>
      rw [hin] at go
      exact go (-1) rfl rfl
    | true =>
      rw [hin] at go
      obtain ⟨a, a1, a2, rfl⟩ := po_inA (a := 40) (b := 51) rfl rfl hin
      have e : nI a - 40 = nI (a - 40) := pk_sub (b := 40) a1
      obtain ⟨k, k1, k2, k3, k4⟩ := hH (a - 40) (by omega)
      rw [e, if_neg (by decide), if_neg (by decide), if_pos (po_wkin (by omega) (by decide)), nI_clamp (by omega), k3] at go
      refine go (nI k) ?_ rfl
      unfold f_X2_huntLength
      rw [po_W, po_inT (n := 11) rfl (by omega), if_neg (by decide), if_pos (po_wkin (by omega) (by decide)), nI_clamp (by omega), k2]
      rfl
  · rw [d1, d2, if_neg (by decide), if_neg (by decide), e, if_pos (po_wkin hp (by decide)), nI_clamp (by omega), (f8 p hp).2] at go
    exact go _ (by rw [po_nextToC f7 hp]; rfl) rfl
theorem po_placeOf {k0 k : Nat} {c : wk_St} (hk : k < 9) : f_X0_placeOf k0 (nI k) c = some (c.1 (k0 + 1) k) := by
  unfold f_X0_placeOf
  rw [po_W, po_inT (n := 8) rfl (by omega), if_neg (by decide), if_pos (po_wkin hk (by decide)), nI_clamp (by omega)]
theorem po_wolfDaysOf {k0 k : Nat} {c : wk_St} (hk : k < 9) : f_X0_wolfDaysOf k0 (nI k) c = some (c.1 (k0 + 2) k) := by
  unfold f_X0_wolfDaysOf
  rw [po_W, po_inT (n := 8) rfl (by omega), if_neg (by decide), if_pos (po_wkin hk (by decide)), nI_clamp (by omega)]
theorem po_kindOf {k0 k : Nat} {c : wk_St} (hk : k < 9) : f_X0_kindOf k0 (nI k) c = some (c.1 (k0 + 3) k) := by
  unfold f_X0_kindOf
  rw [po_W, po_inT (n := 8) rfl (by omega), if_neg (by decide), if_pos (po_wkin hk (by decide)), nI_clamp (by omega)]
theorem po_clothesOf {k0 k : Nat} {c : wk_St} (hk : k < 9) : f_X0_clothesOf k0 (nI k) c = some (c.1 (k0 + 4) k) := by
  unfold f_X0_clothesOf
  rw [po_W, po_inT (n := 8) rfl (by omega), if_neg (by decide), if_pos (po_wkin hk (by decide)), nI_clamp (by omega)]
/-- steps to the clothes -/
theorem po_toCl {T k0 k P : Nat} {N : Nat → Nat} {c m : wk_St} (h5 : ∀ p q, p < 12 → q < 12 → T ≠ 0 → c.1 5 (12 * p + q) = nI (iv_st N T p q)) (hN : ∀ r, r < 12 → N r < 4096 ∧ m.1 4 r = nI (N r)) (hk : k < 9) (hP : P < 12) (hTP : T.testBit P = true)
    (hkk : iv_k T true (c.1 (k0 + 1) k) (c.1 (k0 + 2) k) (c.1 (k0 + 3) k) (c.1 (k0 + 4) k) (m.1 1 k) (m.1 1 (9 + k)) (m.1 1 (18 + k)) (m.1 1 (27 + k)) (m.1 1 (36 + k))) :
    ∃ r m2, f_X2_stepsBetween (nI P) (c.1 (k0 + 4) k) c = some r ∧ f_X12_toClothes (nI k) (nI P) m = some (r, m2) ∧ (m2 = m ∨ ∃ g5 g6, m2 = iv_2 m g5 g6) := by
  obtain ⟨t1, t2, t3, t4, t5, t6, t7, t8⟩ := iv_k_t hkk
  unfold f_X12_toClothes
  rw [po_e36, if_pos (po_wkin (by omega) (by decide)), nI_clamp (by omega), t5]
  rcases t8 with ⟨u1, u2⟩ | ⟨u1, Q, hQ, u2, hTQ⟩
  · rw [u2, if_neg (not_not_intro rfl)]
    refine ⟨99, m, ?_, rfl, Or.inl rfl⟩
    have e : f_X12_in (-2) 0 11 = false := by decide
    unfold f_X2_stepsBetween j_X2_stepsBetween_13
    rw [po_W, e]
    simp
  · have hne : ¬ nI Q = (-2 : Int32) := fun e => nI_pos (n := Q) (by omega) (by rw [e]; decide)
    obtain ⟨g5, g6, e⟩ := po_stM hN hP hQ
    rw [u2, if_pos hne, if_pos (po_wkin (by omega) (by decide)), e, po_stC h5 hP hQ hTP]
    dsimp only [Option.bind]
    by_cases h99 : iv_d N P Q = 99
    · rw [if_pos h99, if_neg (not_not_intro rfl), h99]
      exact ⟨_, _, rfl, rfl, Or.inr ⟨g5, g6, rfl⟩⟩
    · rw [if_neg h99, if_pos (po_m1 (by rcases iv_d_99 (N := N) (p := P) (q := Q) with h | h <;> omega))]
      exact ⟨_, _, rfl, rfl, Or.inr ⟨g5, g6, rfl⟩⟩
theorem po_op_10 : lw_op_10 iv_I := by
  intro a0 a1 σC σM hI
  have hI2 := hI
  obtain ⟨T, w, N, hT, hF, hH, ⟨K, D, X, h1, h2, h3, h4, h5, h6, h7, h8, h9⟩, hK, hL⟩ := hI
  obtain ⟨f1, f2, f3, f4, f5, f6, f7, f8, f9, f10⟩ := hF
  have go : ∀ r m2, f_X11_knightIs a0 a1 σC = some r → f_X12_knightIs a0 a1 σM = some (r, m2) → iv_sM σM m2 → ∃ (r : Int32) (σC2 σM2 : wk_St), wk_T wk_shC 200 11 [.ref 0, .int a0, .int a1] σC (some (.int r), σC2) ∧ wk_T wk_shM 200 109 [.ref 0, .int a0, .int a1] σM (some (.int r), σM2) ∧ iv_I σC2 σM2 := fun r m2 e1 e2 e3 => ⟨r, σC, m2, (t_X11_knightIs e1).up (by decide), (t_X12_knightIs e2).up (by decide), iv_I_s hI2 iv_sC_r e3⟩
  unfold f_X11_knightIs f_X12_knightIs at go
  rcases po_kn (x := a0) h1 h4 h9 with ⟨c1, m1⟩ | ⟨c1, m1, k, hk, rfl, hb⟩
  · rw [c1, m1] at go
    exact go (-1) σM rfl rfl iv_sM_r
  · rw [c1, m1, if_pos rfl, po_placeOf hk, po_wolfDaysOf hk, po_kindOf hk, po_clothesOf hk, po_e9, po_e18, po_e27, po_e36] at go
    have hkk := h9 k hk
    rw [hb] at hkk
    obtain ⟨t1, t2, t3, t4, t5, ⟨P, hP, tP, hTP⟩, t7, t8⟩ := iv_k_t hkk
    dsimp only [Option.bind] at go
    rw [if_pos rfl, if_pos (po_wkin (n := 47) (show 18 + k < 47 by omega) (by decide)), if_pos (po_wkin (n := 47) (show 9 + k < 47 by omega) (by decide)), if_pos (po_wkin (n := 47) (show 27 + k < 47 by omega) (by decide)), if_pos (po_wkin (n := 47) (show 36 + k < 47 by omega) (by decide)), nI_clamp (by omega), nI_clamp (by omega), nI_clamp (by omega), nI_clamp (by omega)] at go
    by_cases c0 : a1 = 0
    · rw [if_pos c0, if_pos c0] at go
      exact go _ σM rfl (by rw [t3]) iv_sM_r
    rw [if_neg c0, if_neg c0] at go
    by_cases c1 : a1 = 1
    · rw [if_pos c1, if_pos c1] at go
      exact go _ σM rfl (by rw [t2]) iv_sM_r
    rw [if_neg c1, if_neg c1] at go
    by_cases c2 : a1 = 2
    · rw [if_pos c2, if_pos c2] at go
      exact go _ σM rfl (by rw [t4]) iv_sM_r
    rw [if_neg c2, if_neg c2] at go
    by_cases c3 : a1 = 3
    · rw [if_pos c3, if_pos c3] at go
      exact go _ σM rfl (by rw [t5]) iv_sM_r
    rw [if_neg c3, if_neg c3] at go
    by_cases c4 : a1 = 4
    · rw [if_pos c4, if_pos c4] at go
      obtain ⟨r, m2, e1, e2, e3⟩ := po_toCl (k0 := 8) f10 f8 hk hP hTP hkk
      rw [t3, tP] at go
      refine go r m2 (by rw [e1]) (by rw [if_pos (po_wkin (by omega) (by decide)), e2]) ?_
      rcases e3 with rfl | ⟨g5, g6, rfl⟩
      · exact iv_sM_r
      · exact iv_2_sM
    rw [if_neg c4, if_neg c4] at go
    exact go (-1) σM rfl rfl iv_sM_r
theorem po_op_11 : lw_op_11 iv_I := by
  intro a0 a1 σC σM hI
  have hI2 := hI
  obtain ⟨T, w, N, hT, hF, hH, ⟨K, D, X, h1, h2, h3, h4, h5, h6, h7, h8, h9⟩, hK, hL⟩ := hI
  have go : ∀ r, f_X11_hunted a0 a1 σC = some r → f_X12_hunted a0 a1 σM = some r → ∃ (r : Int32) (σC2 σM2 : wk_St), wk_T wk_shC 200 12 [.ref 0, .int a0, .int a1] σC (some (.int r), σC2) ∧ wk_T wk_shM 200 95 [.ref 0, .int a0, .int a1] σM (some (.int r), σM2) ∧ iv_I σC2 σM2 := fun r e1 e2 => ⟨r, σC, σM, (t_X11_hunted e1).up (by decide), (t_X12_hunted e2).up (by decide), hI2⟩
  unfold f_X11_hunted f_X12_hunted at go
  rw [po_W] at go
  cases hin : f_X12_in a0 0 11 with
  | false =>
    rw [hin] at go
    exact go (-1) rfl rfl
  | true =>
    cases hin2 : f_X12_in a1 0 9999 with
    | false =>
      rw [hin, hin2] at go
      exact go (-1) rfl rfl
    | true =>
      obtain ⟨p, hp, rfl⟩ := po_inN (n := 11) rfl hin
      obtain ⟨t, ht, rfl⟩ := po_inN (n := 9999) rfl hin2
      rw [hin, hin2, h5, nI_add, po_huC hH (by omega) (by omega), po_huM hH h6 (by omega) (by omega)] at go
      cases hu : iv_hu (σM.1 22) (σM.1 21) p (D + t) with
      | false => rw [hu] at go; exact go 0 rfl rfl
      | true => rw [hu] at go; exact go 1 rfl rfl
