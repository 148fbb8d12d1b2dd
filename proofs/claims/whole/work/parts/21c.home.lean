/-! PURE: the soonest way home: the op -/
theorem po_drawBack {c : wk_St} {N : Nat → Nat} {hu : Nat → Nat → Bool} {D P Q L : Nat} {g : Nat → Int32} (hL : L ≤ 60) (hQ : Q < 12) (hP : P < 12) (hN : ∀ r, r < 12 → N r < 4096 ∧ c.1 4 r = nI (N r)) (hg : ∀ i, 1 ≤ i → i ≤ L → g i = nI (iv_fw N hu D P i)) :
    ∃ g2, f_X9_drawBack (nI L) (nI Q) (iv_set c 26 g) = some (iv_set c 26 g2) ∧ ∀ i, 1 ≤ i → i ≤ L → g2 i = nI (iv_fw N hu D P i &&& iv_gd N hu D P Q L (L - i)) := by
  have hNlt : ∀ r, r < 12 → N r < 4096 := fun r hr => (hN r hr).1
  obtain ⟨a, ea, g2, rfl, hh⟩ := po_inv (f := S_X9_drawBack_6) (fun j q => ∃ g2, q = (nI (iv_gd N hu D P Q L j), nI (L - j), iv_set c 26 g2) ∧ (∀ i, 1 ≤ i → i ≤ L - j → g2 i = nI (iv_fw N hu D P i)) ∧ ∀ i, L - j < i → i ≤ L → g2 i = nI (iv_fw N hu D P i &&& iv_gd N hu D P Q L (L - i)))
    (fun a => ∃ g2, a = iv_set c 26 g2 ∧ ∀ i, 1 ≤ i → i ≤ L → g2 i = nI (iv_fw N hu D P i &&& iv_gd N hu D P Q L (L - i))) L (by
      rintro j q hj ⟨g2, rfl, h1, h2⟩
      have h0 : ¬ nI (L - j) ≤ 0 := by
        intro h
        have := (nI_leI (a := L - j) (b := 0) (by omega) (by decide)).mp h
        omega
      have e2 : nI (L - j) + -1 = nI (L - (j + 1)) := by
        have := pk_m1 (L - (j + 1))
        rw [show L - (j + 1) + 1 = L - j by omega] at this
        exact this
      have hgd := iv_gd_lt (N := N) (hu := hu) (D := D) (P := P) (Q := Q) (L := L) (j := j) hP hQ hNlt
      have hfw := iv_fw_lt (N := N) (hu := hu) (D := D) (P := P) (i := L - j) hP hNlt
      have hand : iv_fw N hu D P (L - j) &&& iv_gd N hu D P Q L j < 4096 := Nat.lt_of_le_of_lt Nat.and_le_left hfw
      unfold S_X9_drawBack_6
      dsimp only
      rw [if_neg h0, if_neg (show ¬ nI (L - j) ≥ 61 from nI_ge (b := 61) (by omega) (by decide)), if_pos (po_wkin (by omega) (by decide)), if_pos (po_wkin (by omega) (by decide)), if_pos (po_wkin (by omega) (by decide)), nI_clamp (by omega), iv_set_at, h1 (L - j) (by omega) (Nat.le_refl _), po_and (by omega) (by omega), iv_set_si, iv_set_at, if_pos rfl, po_spread (s := iv_set c 26 (fun b => if b = L - j then nI (iv_fw N hu D P (L - j) &&& iv_gd N hu D P Q L j) else g2 b)) hand (fun r hr => hN r hr)]
      dsimp only [Option.bind]
      rw [e2]
      refine ⟨_, rfl, _, rfl, fun i hi1 hi2 => ?_, fun i hi1 hi2 => ?_⟩
      · rw [if_neg (by omega)]; exact h1 i hi1 (by omega)
      · by_cases hij : i = L - j
        · rw [if_pos hij, hij, show L - (L - j) = j by omega]
        · rw [if_neg hij]; exact h2 i (by omega) hi2) (by
      rintro q ⟨g2, rfl, h1, h2⟩
      unfold S_X9_drawBack_6
      dsimp only
      rw [Nat.sub_self, if_pos (by decide)]
      exact ⟨_, rfl, g2, rfl, fun i hi1 hi2 => h2 i (by omega) hi2⟩) (by omega) (p := (nI (2 ^ Q), nI L, iv_set c 26 g)) ⟨g, by rw [Nat.sub_zero]; rfl, fun i hi1 hi2 => hg i hi1 (by omega), fun i hi1 hi2 => by omega⟩
  refine ⟨g2, ?_, hh⟩
  unfold f_X9_drawBack wk_let
  dsimp only
  rw [po_bit (by omega), ea]
  rfl
theorem po_choose {c : wk_St} {N : Nat → Nat} {hu : Nat → Nat → Bool} {D P Q L : Nat} {g : Nat → Int32} (hL : L ≤ 60) (hL1 : 1 ≤ L) (hQ : Q < 12) (hP : P < 12) (hN : ∀ r, r < 12 → N r < 4096 ∧ c.1 4 r = nI (N r)) (hS : ∀ p q, p < 12 → q < 12 → (N p).testBit q = true → (N q).testBit p = true) (hQh : hu Q (D + (L - 1)) = false) (hf : (iv_fw N hu D P L).testBit Q = true) (hg : ∀ i, 1 ≤ i → i ≤ L → g i = nI (iv_fw N hu D P i &&& iv_gd N hu D P Q L (L - i))) :
    ∃ r, f_X9_chooseRow (nI L) (nI P) (iv_set c 26 g) = some (iv_set (iv_set c 26 g) 27 r) ∧ ∀ i, i < L → r i = nI (iv_hr N hu D P Q L (i + 1)) := by
  have hNlt : ∀ r, r < 12 → N r < 4096 := fun r hr => (hN r hr).1
  obtain ⟨a, ea, r, rfl, hh⟩ := po_inv (f := S_X9_chooseRow_4 (nI L)) (fun i q => ∃ r, q = (nI (iv_hr N hu D P Q L i), nI i, iv_set (iv_set c 26 g) 27 r) ∧ ∀ t, t < i → r t = nI (iv_hr N hu D P Q L (t + 1)))
    (fun a => ∃ r, a = iv_set (iv_set c 26 g) 27 r ∧ ∀ i, i < L → r i = nI (iv_hr N hu D P Q L (i + 1))) L (by
      rintro i q hi ⟨r, rfl, hr⟩
      obtain ⟨h1, h2, h3⟩ := iv_hr_ok hL1 hQh hQ hP hf i (by omega)
      obtain ⟨s1, s2, s3⟩ := iv_same (i := i) hNlt hS hL1 hQh hQ hP hf hi
      have hp2 : 2 ^ iv_hr N hu D P Q L i < 2 ^ 12 := Nat.pow_lt_pow_right (by decide) h1
      have hsp := iv_spn_lt (N := N) (m := 2 ^ iv_hr N hu D P Q L i) (by omega) hNlt 12 (Nat.le_refl _)
      have hfw := iv_fw_lt (N := N) (hu := hu) (D := D) (P := P) (i := i + 1) hP hNlt
      have hand : iv_fw N hu D P (i + 1) &&& iv_gd N hu D P Q L (L - (i + 1)) < 4096 := Nat.lt_of_le_of_lt Nat.and_le_left hfw
      have e26 : (iv_set (iv_set c 26 g) 27 r).1 26 (i + 1) = nI (iv_fw N hu D P (i + 1) &&& iv_gd N hu D P Q L (L - (i + 1))) := (iv_set_off (by decide)).trans (iv_set_at.trans (hg (i + 1) (by omega) (by omega)))
      have esp : f_X2_spread (nI (2 ^ iv_hr N hu D P Q L i)) (iv_set (iv_set c 26 g) 27 r) = some (nI (iv_sp N (2 ^ iv_hr N hu D P Q L i))) := po_spread (s := iv_set (iv_set c 26 g) 27 r) (by omega) (fun r hr => hN r hr)
      have eand : nI (iv_sp N (2 ^ iv_hr N hu D P Q L i)) &&& nI (iv_fw N hu D P (i + 1) &&& iv_gd N hu D P Q L (L - (i + 1))) = nI ((N (iv_hr N hu D P Q L i) ||| 2 ^ iv_hr N hu D P Q L i) &&& iv_bk N hu D P Q L (L - (i + 1))) := by
        have hsp' : iv_sp N (2 ^ iv_hr N hu D P Q L i) < 4096 := hsp
        rw [po_and (Nat.lt_trans hsp' (by decide)) (by omega), s1]
      unfold S_X9_chooseRow_4 wk_let
      dsimp only
      rw [if_neg (nI_ge hi (by omega)), if_neg (show ¬ nI i ≥ 60 from nI_ge (b := 60) (by omega) (by decide)), nI_1, if_neg (show ¬ nI (i + 1) ≥ 61 from nI_ge (b := 61) (by omega) (by decide)), po_bit (by omega), esp]
      dsimp only [Option.bind]
      rw [if_pos (po_wkin (by omega) (by decide)), if_pos (po_wkin (by omega) (by decide)), nI_clamp (by omega), nI_clamp (by omega), e26, eand, po_ntz s3 s2, iv_set_si]
      refine ⟨_, rfl, _, rfl, fun t ht => ?_⟩
      by_cases hti : t = i
      · rw [if_pos hti, hti]; rfl
      · rw [if_neg hti]; exact hr t (by omega)) (by
      rintro q ⟨r, rfl, hr⟩
      unfold S_X9_chooseRow_4
      dsimp only
      rw [if_pos (nI_le (Nat.le_refl L) (by omega))]
      exact ⟨_, rfl, r, rfl, hr⟩) (by omega) (p := (nI P, (0 : Int32), iv_set c 26 g)) ⟨(iv_set c 26 g).1 27, by rw [iv_set_id]; rfl, fun t ht => by omega⟩
  refine ⟨r, ?_, hh⟩
  unfold f_X9_chooseRow
  rw [ea]
  rfl
theorem po_home59 {m : wk_St} {N : Nat → Nat} {h B d : Nat} {x2 : Int32} (hh : h < 12) (hd : d < 61) (hN : N h < 4096 ∧ m.1 4 h = nI (N h)) (hB : B < 4096) (h27 : m.1 27 d = nI B) (h0 : (N h ||| 2 ^ h) &&& B ≠ 0) :
    wk_loop (S_X12_home_59 x2 (nI h) (nI d)) wk_F ((0 : Int32), m) = some (nI (iv_lo (fun b => ((N h ||| 2 ^ h) &&& B).testBit b) 12 0), m) := by
  have h2 : 2 ^ h < 2 ^ 12 := Nat.pow_lt_pow_right (by decide) hh
  have hNh := hN.1
  have hor : N h ||| 2 ^ h < 2 ^ 12 := Nat.or_lt_two_pow (by omega) h2
  have hand : (N h ||| 2 ^ h) &&& B < 4096 := Nat.lt_of_le_of_lt Nat.and_le_right hB
  have key : ∀ e i F, i + e = 12 → (∃ j, i ≤ j ∧ j < i + e ∧ ((N h ||| 2 ^ h) &&& B).testBit j = true) → e < F → wk_loop (S_X12_home_59 x2 (nI h) (nI d)) F (nI i, m) = some (nI (iv_lo (fun b => ((N h ||| 2 ^ h) &&& B).testBit b) e i), m) := by
    intro e
    induction e with
    | zero => rintro i F _ ⟨j, h1, h2, _⟩; omega
    | succ e ih =>
      rintro i F hi ⟨j, h1, h2', h3⟩ hF
      obtain ⟨F, rfl⟩ : ∃ z, F = z + 1 := ⟨F - 1, by omega⟩
      have step : S_X12_home_59 x2 (nI h) (nI d) (nI i, m) = if ((N h ||| 2 ^ h) &&& B).testBit i = true then some (Sum.inl (nI i, m)) else some (Sum.inr (nI (i + 1), m)) := by
        unfold S_X12_home_59 wk_let
        dsimp only
        rw [if_pos (po_wkin hh (by decide)), if_pos (po_wkin hd (by decide)), nI_clamp (by omega), nI_clamp (by omega), hN.2, h27, po_bit (by omega), po_or (by omega) (by omega), po_and (by omega) (by omega), po_hasM (by omega) (by omega), nI_1]
      unfold iv_lo
      by_cases hb : ((N h ||| 2 ^ h) &&& B).testBit i = true
      · rw [if_pos hb] at step
        rw [if_pos hb]
        exact wk_loopI step
      · rw [if_neg hb] at step
        rw [if_neg hb]
        have hij : j ≠ i := fun e => hb (by rw [← e]; exact h3)
        exact (wk_loopS step).trans (ih (i + 1) F (by omega) ⟨j, by omega, by omega, h3⟩ (by omega))
  exact key 12 0 wk_F rfl (po_exB hand h0) (by decide)
theorem po_home52 {m : wk_St} {N : Nat → Nat} {hu : Nat → Nat → Bool} {D P Q L v : Nat} (hL : L ≤ 60) (hL1 : 1 ≤ L) (hv : v < L) (hQ : Q < 12) (hP : P < 12) (hN : ∀ r, r < 12 → N r < 4096 ∧ m.1 4 r = nI (N r)) (hS : ∀ p q, p < 12 → q < 12 → (N p).testBit q = true → (N q).testBit p = true) (hQh : hu Q (D + (L - 1)) = false) (hf : (iv_fw N hu D P L).testBit Q = true) (h27 : ∀ j, j ≤ L → m.1 27 (L - j) = nI (iv_bk N hu D P Q L j)) :
    wk_loop (S_X12_home_52 (nI v)) wk_F (nI P, (1 : Int32), m) = some (nI (iv_hr N hu D P Q L (v + 1)), m) := by
  refine po_for (fun i => (nI (iv_hr N hu D P Q L i), nI (i + 1), m)) (v + 1) rfl ?_ ?_ (by omega)
  · intro i hi
    obtain ⟨h1, h2, h3⟩ := iv_hr_ok hL1 hQh hQ hP hf i (by omega)
    obtain ⟨s1, s2, s3⟩ := iv_same (i := i) (fun r hr => (hN r hr).1) hS hL1 hQh hQ hP hf (by omega)
    have e27 : m.1 27 (i + 1) = nI (iv_bk N hu D P Q L (L - (i + 1))) := by
      have := h27 (L - (i + 1)) (by omega)
      rw [show L - (L - (i + 1)) = i + 1 by omega] at this
      exact this
    unfold S_X12_home_52
    dsimp only
    rw [nI_1 v, if_neg (show ¬ nI (i + 1) > nI (v + 1) from nI_nlt (by omega) (by omega)), po_home59 h1 (by omega) (hN _ h1) (iv_bk_lt hQ) e27 s2]
    dsimp only [Option.bind]
    rw [nI_1]
    rfl
  · unfold S_X12_home_52
    dsimp only
    rw [nI_1, if_pos (show nI (v + 1 + 1) > nI (v + 1) from nI_lt (by omega) (by omega))]
theorem po_op_15 : lw_op_15 iv_I := by
  intro a0 a1 σC σM hI
  have hI2 := hI
  obtain ⟨T, w, N, hT, hF, hH, hR, hK, hL⟩ := hI
  have hE : iv_E T w N 8 σC σM := ⟨hF, hH, hL, hR⟩
  obtain ⟨K, D, X, h1, h2, h3, h4, h5, h6, h7, h8, h9⟩ := hR
  obtain ⟨f1, f2, f3, f4, f5, f6, f7, f8, f9, f10⟩ := hF
  have go : ∀ r c2 m2, f_X11_home a0 a1 σC = some (r, c2) → f_X12_home a0 a1 σM = some (r, m2) → iv_I c2 m2 → ∃ (r : Int32) (σC2 σM2 : wk_St), wk_T wk_shC 200 16 [.ref 0, .int a0, .int a1] σC (some (.int r), σC2) ∧ wk_T wk_shM 200 114 [.ref 0, .int a0, .int a1] σM (some (.int r), σM2) ∧ iv_I σC2 σM2 := fun r c2 m2 e1 e2 e3 => ⟨r, c2, m2, (t_X11_home e1).up (by decide), (t_X12_home e2).up (by decide), e3⟩
  unfold f_X11_home f_X12_home at go
  rw [po_W] at go
  rcases po_kn (x := a0) h1 h4 h9 with ⟨c1, m1⟩ | ⟨c1, m1, k, hk, rfl, hb⟩
  · rw [c1, m1] at go
    exact go (-1) _ _ rfl rfl hI2
  rw [c1, m1] at go
  simp only [Bool.true_eq_false, if_false, Option.bind] at go
  have hkk := h9 k hk
  rw [hb] at hkk
  obtain ⟨t1, t2, t3, t4, t5, ⟨P, hP, tP, hTP⟩, ⟨W, hW128, tW⟩, t8⟩ := iv_k_t hkk
  have main : (∃ v, v ≤ 59 ∧ a1 = nI v) ∨ a1 = 100 → ∃ r c2 m2, j_X11_home_15 (nI k) a1 σC = some (r, c2) ∧ j_X12_home_14 (nI k) a1 σM = some (r, m2) ∧ iv_I c2 m2 := by
    intro ha1
    unfold j_X11_home_15 j_X12_home_14 wk_let
    rw [po_kindOf hk, po_e27, if_pos (po_wkin (n := 47) (show 27 + k < 47 by omega) (by decide)), nI_clamp (show 27 + k < 2 ^ 31 by omega), t4]
    dsimp only [Option.bind]
    by_cases hk1 : σC.1 11 k = 1
    · have hk1' : σC.1 (8 + 3) k = 1 := hk1
      rw [if_pos hk1, if_pos hk1]
      obtain ⟨Q, hQ, tQ, hTQ⟩ : ∃ Q, Q < 12 ∧ σC.1 12 k = nI Q ∧ T.testBit Q = true := by
        rcases t8 with ⟨u, _⟩ | ⟨_, u⟩
        · rw [hk1] at u; exact absurd u (by decide)
        · exact u
      obtain ⟨a, b, q1, q2, q3⟩ := po_soon (k := k) (P := P) (Q := Q) (D := D) (W := W) hE hk h5 h2 h6 hW128 (t2.trans tW) hP (t3.trans tP) hQ
      have eSp : f_X9_spreadOut (nI k) σC = Sum.elim (fun r => some r) (fun s => some (0, s)) a := by
        unfold f_X9_spreadOut wk_let
        rw [po_clothesOf hk, po_wolfDaysOf hk, po_placeOf hk]
        dsimp only [Option.bind]
        have tP' : σC.1 (8 + 1) k = nI P := tP
        have tW' : σC.1 (8 + 2) k = nI W := tW
        have tQ' : σC.1 (8 + 4) k = nI Q := tQ
        rw [tP', tW', tQ', po_bit (by omega), q1]
        cases a <;> rfl
      have eDh : f_X12_daysHome (nI k) σM = Sum.elim (fun r => some r) (fun s => some (-1, s)) b := by
        unfold f_X12_daysHome wk_let
        rw [po_e36, if_pos (po_wkin (by omega) (by decide)), nI_clamp (by omega), t5.trans tQ]
        dsimp only [Option.bind]
        rw [q2]
        cases b <;> rfl
      rcases q3 with ⟨L, g, h, l1, l2, ha, hb2, l3, l4, l5⟩ | ⟨g, h, ha, hb2⟩
      · subst ha hb2
        dsimp only [Sum.elim] at eSp eDh
        have hQh : iv_hu (σM.1 22) (σM.1 21) Q (D + (L - 1)) = false := by
          obtain ⟨j, rfl⟩ : ∃ j, L = j + 1 := ⟨L - 1, by omega⟩
          exact ((iv_fw_bit hQ).mp l5).2
        obtain ⟨g2, d1, d2⟩ := po_drawBack (c := σC) (Q := Q) l2 hQ hP f7 l3
        have hSy : ∀ p q, p < 12 → q < 12 → (N p).testBit q = true → (N q).testBit p = true := fun p q hp hq h => (f9 p q hp hq h).1
        obtain ⟨rr, d3, d4⟩ := po_choose (c := σC) l2 l1 hQ hP f7 hSy hQh l5 d2
        have h0 : ¬ nI L ≤ 0 := by
          intro h
          have := (nI_leI (a := L) (b := 0) (by omega) (by decide)).mp h
          omega
        have eFh : f_X9_findHome (nI k) σC = some (nI L, iv_set (iv_set σC 26 g2) 27 rr) := by
          unfold f_X9_findHome
          rw [eSp]
          dsimp only [Option.bind]
          have tQ' : (iv_set σC 26 g).1 (8 + 4) k = nI Q := tQ
          have tP' : (iv_set σC 26 g2).1 (8 + 1) k = nI P := tP
          rw [if_neg h0, po_clothesOf hk, tQ']
          dsimp only
          rw [d1]
          dsimp only
          rw [po_placeOf hk, tP']
          dsimp only
          rw [d3]
        have inv : iv_I (iv_set (iv_set σC 26 g2) 27 rr) (iv_set σM 27 h) := iv_I_s hI2 ⟨rfl, rfl, rfl, rfl, rfl, rfl, rfl, rfl, rfl, rfl, rfl, rfl, rfl, rfl, rfl, rfl, rfl, rfl, rfl, rfl, rfl, rfl, rfl, rfl, rfl⟩ ⟨rfl, rfl, rfl, rfl, rfl, rfl, rfl, rfl, rfl, rfl, rfl, rfl, rfl, rfl, rfl, rfl⟩
        rw [eFh, eDh]
        dsimp only
        rw [if_pos (show ¬ nI L = 0 from po_nIne (b := 0) (by omega) (by decide) (by omega)), if_pos (po_m1 (by omega))]
        rcases ha1 with ⟨v, hv, rfl⟩ | rfl
        · have h100 : ¬ nI v = 100 := po_nIne (b := 100) (by omega) (by decide) (by omega)
          rw [if_pos h100, if_pos h100]
          by_cases hvL : v < L
          · rw [if_neg (nI_ge hvL (by omega)), if_pos (nI_lt hvL (by omega)), po_e18, if_pos (po_wkin (by omega) (by decide)), nI_clamp (by omega)]
            have e18 : (iv_set σM 27 h).1 1 (18 + k) = nI P := t3.trans tP
            rw [e18, po_home52 (m := iv_set σM 27 h) l2 l1 hvL hQ hP f8 hSy hQh l5 l4]
            refine ⟨nI (iv_hr N (iv_hu (σM.1 22) (σM.1 21)) D P Q L (v + 1)), _, _, ?_, rfl, inv⟩
            unfold f_X9_placeAt
            rw [if_neg (nI_pos (by omega)), if_neg (show ¬ nI v ≥ 60 from nI_ge (b := 60) (by omega) (by decide)), if_pos (po_wkin (by omega) (by decide)), nI_clamp (by omega), iv_set_at, d4 v hvL]
          · rw [if_pos (show nI v ≥ nI L from nI_le (by omega) (by omega)), if_neg (nI_nlt (by omega) (by omega))]
            exact ⟨-4, _, _, rfl, rfl, inv⟩
        · rw [if_neg (show ¬ ¬ (100 : Int32) = 100 by decide), if_neg (show ¬ ¬ (100 : Int32) = 100 by decide)]
          exact ⟨nI L, _, _, rfl, rfl, inv⟩
      · subst ha hb2
        dsimp only [Sum.elim] at eSp eDh
        have eFh : f_X9_findHome (nI k) σC = some (0, iv_set σC 26 g) := by
          unfold f_X9_findHome
          rw [eSp]
          rfl
        rw [eFh, eDh]
        exact ⟨-2, _, _, rfl, rfl, iv_I_s hI2 ⟨rfl, rfl, rfl, rfl, rfl, rfl, rfl, rfl, rfl, rfl, rfl, rfl, rfl, rfl, rfl, rfl, rfl, rfl, rfl, rfl, rfl, rfl, rfl, rfl, rfl⟩ ⟨rfl, rfl, rfl, rfl, rfl, rfl, rfl, rfl, rfl, rfl, rfl, rfl, rfl, rfl, rfl, rfl⟩⟩
    · have hk1' : ¬ σC.1 (8 + 3) k = 1 := hk1
      rw [if_neg hk1, if_neg hk1]
      exact ⟨-3, _, _, rfl, rfl, hI2⟩
  cases hin : f_X12_in a1 0 59 with
  | true =>
    rw [hin, if_pos rfl, if_pos rfl] at go
    obtain ⟨r, c2, m2, e1, e2, e3⟩ := main (Or.inl (po_inN (n := 59) rfl hin))
    exact go r c2 m2 e1 e2 e3
  | false =>
    rw [hin, if_neg Bool.false_ne_true, if_neg Bool.false_ne_true] at go
    by_cases h100 : a1 = 100
    · rw [if_pos h100, if_pos h100] at go
      obtain ⟨r, c2, m2, e1, e2, e3⟩ := main (Or.inr h100)
      exact go r c2 m2 e1 e2 e3
    · rw [if_neg h100, if_neg h100] at go
      exact go (-1) _ _ rfl rfl hI2
