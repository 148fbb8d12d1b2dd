/-! PURE: the knights: knight, keep, undo -/
theorem iv_k_t {T : Nat} {p d w l t e a u g : Int32} (h : iv_k T true p d w l t e a u g) : t = 1 ∧ e = d ∧ a = p ∧ u = w ∧ g = l ∧ (∃ P, P < 12 ∧ p = nI P ∧ T.testBit P = true) ∧ (∃ W, W < 128 ∧ d = nI W) ∧ ((w = 0 ∧ l = -2) ∨ ((w = 1 ∨ w = 2) ∧ ∃ Q, Q < 12 ∧ l = nI Q ∧ T.testBit Q = true)) := h
theorem iv_k_f {T : Nat} {p d w l t e a u g : Int32} (h : iv_k T false p d w l t e a u g) : ¬ t = 1 := h
theorem po_out {x : Int32} {n : Nat} {b : Int32} (hb : b.toInt = n) (hin : f_X12_in x 0 b = false) : x < 0 ∨ x ≥ nI (n + 1) := by
  unfold f_X12_in at hin
  by_cases h0 : x < 0
  · exact Or.inl h0
  · rw [if_neg h0] at hin
    by_cases h11 : x > b
    · right
      have h12 : b < x := h11
      rw [Int32.lt_iff_toInt_lt] at h12
      have hx := Int32.toInt_lt x
      show nI (n + 1) ≤ x
      rw [Int32.le_iff_toInt_le, nI_toInt (by omega)]
      omega
    · rw [if_neg h11] at hin; cases hin
theorem po_kn {T k0 K : Nat} {c m : wk_St} {x : Int32} (hK : K < 512) (hc : c.1 k0 4 = nI K) (hk : ∀ k, k < 9 → iv_k T (K.testBit k) (c.1 (k0 + 1) k) (c.1 (k0 + 2) k) (c.1 (k0 + 3) k) (c.1 (k0 + 4) k) (m.1 1 k) (m.1 1 (9 + k)) (m.1 1 (18 + k)) (m.1 1 (27 + k)) (m.1 1 (36 + k))) :
    (f_X0_isTold k0 x c = false ∧ f_X12_isKnight x m = some false) ∨ (f_X0_isTold k0 x c = true ∧ f_X12_isKnight x m = some true ∧ ∃ k, k < 9 ∧ x = nI k ∧ K.testBit k = true) := by
  unfold f_X0_isTold f_X12_isKnight
  rw [hc]
  cases hin : f_X12_in x 0 8 with
  | false =>
    left
    refine ⟨?_, by rw [if_pos rfl]⟩
    rcases po_out (n := 8) rfl hin with h | h
    · by_cases h12 : x ≥ 9
      · rw [if_pos h12]
      · rw [if_neg h12]
        unfold f_X11_hasBit
        rw [if_pos h]
        rfl
    · have h9 : x ≥ 9 := h
      rw [if_pos h9]
  | true =>
    obtain ⟨k, hk9, rfl⟩ := po_inN (n := 8) rfl hin
    have e0 : (0 : Int32) + nI k = nI k := by
      have := nI_add 0 k
      rw [Nat.zero_add] at this
      exact this
    rw [if_neg (show ¬ nI k ≥ 9 from nI_ge (a := k) (b := 9) (by omega) (by decide)), po_hasC (by omega) (by omega)]
    have hkk := hk k (by omega)
    cases hb : K.testBit k with
    | false =>
      rw [hb] at hkk
      left
      refine ⟨rfl, ?_⟩
      rw [if_neg (by decide), e0, if_pos (po_wkin (by omega) (by decide)), nI_clamp (by omega)]
      exact if_pos (iv_k_f hkk)
    | true =>
      rw [hb] at hkk
      right
      refine ⟨rfl, ?_, k, by omega, rfl, hb⟩
      rw [if_neg (by decide), e0, if_pos (po_wkin (by omega) (by decide)), nI_clamp (by omega), (iv_k_t hkk).1]
      rfl
theorem po_set9 {K k j : Nat} : (K ||| 2 ^ k).testBit j = (K.testBit j || decide (k = j)) := po_setB
theorem po_op_2 : lw_op_2 iv_I := by
  intro a0 a1 a2 σC σM hI
  have hI2 := hI
  obtain ⟨T, w, N, hT, hF, hH, ⟨K, D, X, h1, h2, h3, h4, h5, h6, h7, h8, h9⟩, hK, hL⟩ := hI
  have no : f_X11_knight a0 a1 a2 σC = some (false, σC) → f_X12_knight a0 a1 a2 σM = some (false, σM) → ∃ (r : Int32) (σC2 σM2 : wk_St), wk_T wk_shC 200 2 [.ref 0, .int a0, .int a1, .int a2] σC (some (.int r), σC2) ∧ wk_T wk_shM 200 54 [.ref 0, .int a0, .int a1, .int a2] σM (some (.int r), σM2) ∧ iv_I σC2 σM2 := fun h1 h2 => ⟨b2i false, σC, σM, (t_X11_knight h1).up (by decide), (t_X12_knight h2).up (by decide), hI2⟩
  rcases po_toldF (x := a1) hF with ⟨c1, m1⟩ | ⟨c1, m1, p, hp, rfl, hTp⟩
  · refine no (by unfold f_X11_knight; rw [c1]; rfl) ?_
    unfold f_X12_knight
    rw [m1]
    cases f_X12_in a0 0 8 <;> rfl
  cases hw : f_X12_in a2 0 127 with
  | false =>
    refine no (by unfold f_X11_knight; rw [c1, po_W, hw]; rfl) ?_
    unfold f_X12_knight
    rw [m1, hw]
    cases f_X12_in a0 0 8 <;> rfl
  | true =>
    cases hk : f_X12_in a0 0 8 with
    | false =>
      refine no (by unfold f_X11_knight f_X0_enter; rw [c1, po_W, hw, hk]; rfl) ?_
      unfold f_X12_knight
      rw [hk]
      rfl
    | true =>
      obtain ⟨k, hk9, rfl⟩ := po_inN (n := 8) rfl hk
      obtain ⟨W, hW, rfl⟩ := po_inN (n := 127) rfl hw
      have h2k : 2 ^ k < 2 ^ 9 := Nat.pow_lt_pow_right (by decide) (by omega)
      have eC : f_X11_knight (nI k) (nI p) (nI W) σC = some (true, wk_si (wk_si (wk_si (wk_si (wk_si σC 8 4 (nI (K ||| 2 ^ k))) 9 k (nI p)) 10 k (nI W)) 11 k 0) 12 k (-2)) := by
        unfold f_X11_knight f_X0_enter
        rw [c1, po_W, hw, hk, if_neg (by decide), if_pos rfl, if_pos rfl, if_pos (po_wkin (by omega) (by decide)), if_pos (po_wkin (by omega) (by decide)), if_pos (po_wkin (by omega) (by decide)), if_pos (po_wkin (by omega) (by decide)), h4, po_bit (by omega), po_or (by omega) (by omega), nI_clamp (by omega)]
        rfl
      have ea : ∀ z : Nat, (nI z + nI k : Int32) = nI (z + k) := fun z => nI_add z k
      have eM : f_X12_knight (nI k) (nI p) (nI W) σM = some (true, wk_si (wk_si (wk_si (wk_si (wk_si σM 1 k 1) 1 (9 + k) (nI W)) 1 (18 + k) (nI p)) 1 (27 + k) 0) 1 (36 + k) (-2)) := by
        unfold f_X12_knight
        rw [m1, hw, hk, if_neg (by decide), if_neg (by decide), if_pos rfl]
        have e0 : (0 : Int32) + nI k = nI k := by
          have := ea 0
          rw [Nat.zero_add] at this
          exact this
        have e9 : (9 : Int32) + nI k = nI (9 + k) := ea 9
        have e18 : (18 : Int32) + nI k = nI (18 + k) := ea 18
        have e27 : (27 : Int32) + nI k = nI (27 + k) := ea 27
        have e36 : (36 : Int32) + nI k = nI (36 + k) := ea 36
        rw [e0, e9, e18, e27, e36, if_pos (po_wkin (by omega) (by decide)), if_pos (po_wkin (by omega) (by decide)), if_pos (po_wkin (by omega) (by decide)), if_pos (po_wkin (by omega) (by decide)), if_pos (po_wkin (by omega) (by decide)), nI_clamp (by omega), nI_clamp (by omega), nI_clamp (by omega), nI_clamp (by omega), nI_clamp (by omega)]
      refine ⟨b2i true, _, _, (t_X11_knight eC).up (by decide), (t_X12_knight eM).up (by decide), T, w, N, hT, hF, hH, ?_, hK, hL⟩
      refine ⟨K ||| 2 ^ k, D, X, Nat.or_lt_two_pow (n := 9) h1 h2k, h2, h3, rfl, h5, ?_, h7, ?_, ?_⟩
      · rw [po_si_ne (by omega), po_si_ne (by omega), po_si_ne (by omega), po_si_ne (by omega), po_si_ne (by omega), h6]
      · rw [po_si_ne (by omega), po_si_ne (by omega), po_si_ne (by omega), po_si_ne (by omega), po_si_ne (by omega), h8]
      · intro j hj
        by_cases hjk : j = k
        · subst hjk
          have hb : (K ||| 2 ^ j).testBit j = true := by rw [po_setB]; simp
          rw [hb]
          refine ⟨?_, ?_, ?_, ?_, ?_, ⟨p, hp, po_si_at, hTp⟩, ⟨W, by omega, po_si_at⟩, Or.inl ⟨po_si_at, po_si_at⟩⟩
          · rw [po_si_ne (by omega), po_si_ne (by omega), po_si_ne (by omega), po_si_ne (by omega), po_si_at]
          · rw [po_si_ne (by omega), po_si_ne (by omega), po_si_ne (by omega), po_si_at]; exact po_si_at.symm
          · rw [po_si_ne (by omega), po_si_ne (by omega), po_si_at]; exact po_si_at.symm
          · rw [po_si_ne (by omega), po_si_at]; exact po_si_at.symm
          · rw [po_si_at]; exact po_si_at.symm
        · have hb : (K ||| 2 ^ k).testBit j = K.testBit j := by rw [po_setB, decide_eq_false (fun h => hjk h.symm), Bool.or_false]
          rw [hb]
          have hh := h9 j hj
          have eM2 : ∀ z, z ≠ k → z ≠ 9 + k → z ≠ 18 + k → z ≠ 27 + k → z ≠ 36 + k → (wk_si (wk_si (wk_si (wk_si (wk_si σM 1 k 1) 1 (9 + k) (nI W)) 1 (18 + k) (nI p)) 1 (27 + k) 0) 1 (36 + k) (-2)).1 1 z = σM.1 1 z := fun z z1 z2 z3 z4 z5 => by
            rw [po_si_ne z5, po_si_ne z4, po_si_ne z3, po_si_ne z2, po_si_ne z1]
          rw [eM2 j (by omega) (by omega) (by omega) (by omega) (by omega), eM2 (9 + j) (by omega) (by omega) (by omega) (by omega) (by omega), eM2 (18 + j) (by omega) (by omega) (by omega) (by omega) (by omega), eM2 (27 + j) (by omega) (by omega) (by omega) (by omega) (by omega), eM2 (36 + j) (by omega) (by omega) (by omega) (by omega) (by omega)]
          have q1 : (wk_si (wk_si (wk_si (wk_si (wk_si σC 8 4 (nI (K ||| 2 ^ k))) 9 k (nI p)) 10 k (nI W)) 11 k 0) 12 k (-2)).1 9 j = σC.1 9 j := po_si_ne (s := wk_si σC 8 4 (nI (K ||| 2 ^ k))) hjk
          have q2 : (wk_si (wk_si (wk_si (wk_si (wk_si σC 8 4 (nI (K ||| 2 ^ k))) 9 k (nI p)) 10 k (nI W)) 11 k 0) 12 k (-2)).1 10 j = σC.1 10 j := po_si_ne (s := wk_si (wk_si σC 8 4 (nI (K ||| 2 ^ k))) 9 k (nI p)) hjk
          have q3 : (wk_si (wk_si (wk_si (wk_si (wk_si σC 8 4 (nI (K ||| 2 ^ k))) 9 k (nI p)) 10 k (nI W)) 11 k 0) 12 k (-2)).1 11 j = σC.1 11 j := po_si_ne (s := wk_si (wk_si (wk_si σC 8 4 (nI (K ||| 2 ^ k))) 9 k (nI p)) 10 k (nI W)) hjk
          have q4 : (wk_si (wk_si (wk_si (wk_si (wk_si σC 8 4 (nI (K ||| 2 ^ k))) 9 k (nI p)) 10 k (nI W)) 11 k 0) 12 k (-2)).1 12 j = σC.1 12 j := po_si_ne hjk
          rw [q1, q2, q3, q4]
          exact hh
theorem iv_R_congr {T : Nat} {c p d w l a c2 p2 d2 w2 l2 b : Nat → Int32} (h : iv_R T c p d w l a) (h4 : c2 4 = c 4) (h5 : c2 5 = c 5) (h6 : c2 6 = c 6) (hk : ∀ k, k < 9 → p2 k = p k ∧ d2 k = d k ∧ w2 k = w k ∧ l2 k = l k) (ha : ∀ j, j < 47 → b j = a j) : iv_R T c2 p2 d2 w2 l2 b := by
  obtain ⟨K, D, X, a1, a2, a3, a4, a5, a6, a7, a8, a9⟩ := h
  refine ⟨K, D, X, a1, a2, a3, h4.trans a4, h5.trans a5, (ha 45 (by decide)).trans a6, h6.trans a7, (ha 46 (by decide)).trans a8, fun k hk9 => ?_⟩
  have hh := a9 k hk9
  obtain ⟨e1, e2, e3, e4⟩ := hk k hk9
  rw [e1, e2, e3, e4, ha k (by omega), ha (9 + k) (by omega), ha (18 + k) (by omega), ha (27 + k) (by omega), ha (36 + k) (by omega)]
  exact hh
theorem po_copy {s : wk_St} {k0 k1 : Nat} (hd : k0 + 4 < k1 ∨ k1 + 4 < k0) : ∃ s2, f_X0_copyFrom k0 k1 s = some s2 ∧ s2.2 = s.2 ∧ (∀ c, c < k0 ∨ k0 + 4 < c → s2.1 c = s.1 c) ∧ (∀ k, k < 9 → s2.1 (k0 + 1) k = s.1 (k1 + 1) k ∧ s2.1 (k0 + 2) k = s.1 (k1 + 2) k ∧ s2.1 (k0 + 3) k = s.1 (k1 + 3) k ∧ s2.1 (k0 + 4) k = s.1 (k1 + 4) k) ∧ s2.1 k0 4 = s.1 k1 4 ∧ s2.1 k0 5 = s.1 k1 5 ∧ s2.1 k0 6 = s.1 k1 6 := by
  have off : ∀ (s : wk_St) (a b : Nat) (x : Int32) (c d : Nat), (c ≠ a ∨ d ≠ b) → (wk_si s a b x).1 c d = s.1 c d := fun s a b x c d h => if_neg (fun k => h.elim (fun h => h k.1) (fun h => h k.2))
  have offc : ∀ (s : wk_St) (a b : Nat) (x : Int32) (c : Nat), c ≠ a → (wk_si s a b x).1 c = s.1 c := fun s a b x c h => funext (fun d => off s a b x c d (Or.inl h))
  obtain ⟨s1, e1, hs2, hsc, hsk⟩ := po_inv (f := S_X0_copyFrom_2 k0 k1) (fun i p => p.1 = nI i ∧ p.2.2 = s.2 ∧ (∀ c, c < k0 + 1 ∨ k0 + 4 < c → p.2.1 c = s.1 c) ∧ ∀ k, k < i → p.2.1 (k0 + 1) k = s.1 (k1 + 1) k ∧ p.2.1 (k0 + 2) k = s.1 (k1 + 2) k ∧ p.2.1 (k0 + 3) k = s.1 (k1 + 3) k ∧ p.2.1 (k0 + 4) k = s.1 (k1 + 4) k)
    (fun a => a.2 = s.2 ∧ (∀ c, c < k0 + 1 ∨ k0 + 4 < c → a.1 c = s.1 c) ∧ ∀ k, k < 9 → a.1 (k0 + 1) k = s.1 (k1 + 1) k ∧ a.1 (k0 + 2) k = s.1 (k1 + 2) k ∧ a.1 (k0 + 3) k = s.1 (k1 + 3) k ∧ a.1 (k0 + 4) k = s.1 (k1 + 4) k) 9 (by
      rintro i ⟨x, s2⟩ hi ⟨hx, h2, hc, hk⟩
      dsimp only at hx h2 hc hk
      subst hx
      unfold S_X0_copyFrom_2
      have hin : wk_in (nI i) 9 = true := po_wkin hi (by decide)
      simp only [if_neg (show ¬ nI i ≥ 9 from nI_ge (a := i) (b := 9) hi (by decide)), hin, if_true, nI_clamp (show i < 2 ^ 31 by omega), nI_1]
      have o1 := hc (k1 + 1) (by omega)
      have o2 := hc (k1 + 2) (by omega)
      have o3 := hc (k1 + 3) (by omega)
      have o4 := hc (k1 + 4) (by omega)
      simp only [off _ _ _ _ (k1 + 2) _ (Or.inl (by omega : k1 + 2 ≠ k0 + 1)), off _ _ _ _ (k1 + 3) _ (Or.inl (by omega : k1 + 3 ≠ k0 + 1)), off _ _ _ _ (k1 + 3) _ (Or.inl (by omega : k1 + 3 ≠ k0 + 2)), off _ _ _ _ (k1 + 4) _ (Or.inl (by omega : k1 + 4 ≠ k0 + 1)), off _ _ _ _ (k1 + 4) _ (Or.inl (by omega : k1 + 4 ≠ k0 + 2)), off _ _ _ _ (k1 + 4) _ (Or.inl (by omega : k1 + 4 ≠ k0 + 3)), o1, o2, o3, o4]
      refine ⟨_, rfl, rfl, h2, ?_, ?_⟩
      · intro c hcc
        dsimp only
        rw [offc _ _ _ _ _ (by omega), offc _ _ _ _ _ (by omega), offc _ _ _ _ _ (by omega), offc _ _ _ _ _ (by omega)]
        exact hc c hcc
      · intro k hki
        dsimp only
        by_cases hk2 : k = i
        · subst hk2
          refine ⟨?_, ?_, ?_, ?_⟩
          · rw [off _ _ _ _ _ _ (Or.inl (by omega)), off _ _ _ _ _ _ (Or.inl (by omega)), off _ _ _ _ _ _ (Or.inl (by omega)), po_si_at]
          · rw [off _ _ _ _ _ _ (Or.inl (by omega)), off _ _ _ _ _ _ (Or.inl (by omega)), po_si_at]
          · rw [off _ _ _ _ _ _ (Or.inl (by omega)), po_si_at]
          · rw [po_si_at]
        · simp only [off _ _ _ _ _ k (Or.inr hk2)]
          exact hk k (by omega)) (by
      rintro ⟨x, s2⟩ ⟨hx, h2, hc, hk⟩
      dsimp only at hx h2 hc hk
      subst hx
      unfold S_X0_copyFrom_2
      dsimp only
      rw [if_pos (by decide)]
      exact ⟨_, rfl, h2, hc, hk⟩) (by decide) (p := ((0 : Int32), s)) ⟨rfl, rfl, fun _ _ => rfl, fun k hk => by omega⟩
  refine ⟨wk_si (wk_si (wk_si s1 k0 4 (s1.1 k1 4)) k0 5 ((wk_si s1 k0 4 (s1.1 k1 4)).1 k1 5)) k0 6 ((wk_si (wk_si s1 k0 4 (s1.1 k1 4)) k0 5 ((wk_si s1 k0 4 (s1.1 k1 4)).1 k1 5)).1 k1 6), by unfold f_X0_copyFrom; rw [e1]; rfl, hs2, ?_, ?_, ?_, ?_, ?_⟩
  · intro c hc
    rw [offc _ _ _ _ _ (by omega), offc _ _ _ _ _ (by omega), offc _ _ _ _ _ (by omega)]
    exact hsc c (by omega)
  · intro k hk
    simp only [offc _ k0 _ _ (k0 + 1) (by omega), offc _ k0 _ _ (k0 + 2) (by omega), offc _ k0 _ _ (k0 + 3) (by omega), offc _ k0 _ _ (k0 + 4) (by omega)]
    exact hsk k hk
  · rw [off _ _ _ _ _ _ (Or.inr (by decide)), off _ _ _ _ _ _ (Or.inr (by decide)), po_si_at, hsc k1 (by omega)]
  · rw [off _ _ _ _ _ _ (Or.inr (by decide)), po_si_at, off _ _ _ _ _ _ (Or.inl (by omega)), hsc k1 (by omega)]
  · rw [po_si_at, off _ _ _ _ _ _ (Or.inl (by omega)), off _ _ _ _ _ _ (Or.inl (by omega)), hsc k1 (by omega)]
theorem po_copies {s : wk_St} {k0 k1 : Nat} (hd : k0 ≠ k1) : f_X12_copies k0 k1 s = some (iv_set s k1 (fun b => if b < 47 then s.1 k0 b else s.1 k1 b)) := by
  have e : wk_loop (S_X12_copies_2 k0 k1) wk_F ((0 : Int32), s) = some (iv_set s k1 (fun b => if b < 47 then s.1 k0 b else s.1 k1 b)) := by
    refine po_for (fun i => (nI i, iv_set s k1 (fun b => if b < i then s.1 k0 b else s.1 k1 b))) 47 ?_ ?_ ?_ (by decide)
    · refine Prod.ext rfl ?_
      show s = iv_set s k1 _
      have e : (fun b => if b < 0 then s.1 k0 b else s.1 k1 b) = s.1 k1 := by
        funext b
        rw [if_neg (by omega)]
      rw [e, iv_set_id]
    · intro j hj
      unfold S_X12_copies_2
      dsimp only
      rw [if_neg (show ¬ nI j ≥ 47 from nI_ge (a := j) (b := 47) hj (by decide)), if_pos (po_wkin hj (by decide)), if_pos (po_wkin hj (by decide)), nI_clamp (by omega), iv_set_si, iv_set_off hd, nI_1]
      refine congrArg (fun x => some (Sum.inr (nI (j + 1), iv_set s k1 x))) ?_
      funext b
      by_cases hbj : b = j
      · rw [if_pos hbj, if_pos (by omega), hbj]
      · rw [if_neg hbj]
        have : b < j ↔ b < j + 1 := by omega
        simp only [this]
    · unfold S_X12_copies_2
      dsimp only
      rw [if_pos (by decide)]
  unfold f_X12_copies
  rw [e]
  rfl
