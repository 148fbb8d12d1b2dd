/-! PURE: the soonest way home: both programs -/
theorem po_hb {c : wk_St} {n h : Nat → Int32} {d : Nat} (hH : iv_H (c.1 6) (c.2 7) n h) (hd : d < 2 ^ 31) : f_X2_huntedBits (nI d) c = some (nI (iv_bb (fun p => iv_hu n h p d) 12)) := by
  have e : wk_loop (S_X2_huntedBits_4 (nI d) c) wk_F ((0 : Int32), (0 : Int32)) = some (nI (iv_bb (fun p => iv_hu n h p d) 12)) := by
    refine po_for (fun i => (nI (iv_bb (fun p => iv_hu n h p d) i), nI i)) 12 rfl ?_ ?_ (by decide)
    · intro j hj
      have hlt := iv_bb_lt (f := fun p => iv_hu n h p d) j (by omega)
      have h2 : 2 ^ j < 2 ^ 12 := Nat.pow_lt_pow_right (by decide) hj
      show _ = some (Sum.inr (nI (if iv_hu n h j d = true then iv_bb (fun p => iv_hu n h p d) j ||| 2 ^ j else iv_bb (fun p => iv_hu n h p d) j), nI (j + 1)))
      unfold S_X2_huntedBits_4 wk_let
      dsimp only
      rw [if_neg (po_n12 hj), po_huC hH hj hd, po_bit (by omega), po_or (by omega) (by omega), po_or0 (by omega), nI_1]
      dsimp only [Option.bind]
      cases iv_hu n h j d with
      | false => rw [if_pos rfl, if_neg (by decide)]
      | true => rw [if_neg (by decide), if_pos rfl]
    · unfold S_X2_huntedBits_4
      dsimp only
      rw [if_pos (by decide)]
  unfold f_X2_huntedBits
  rw [e]
  rfl
theorem po_isB {M p : Nat} (hM : M < 4096) (hp : p < 12) : nI M = 0 ↔ M = 0 := ⟨fun h => (nI_eq (b := 0) (by omega) (by decide)).mp h, fun h => by rw [h]; rfl⟩
/-- the model's step back -/
theorem po_dh48 {m : wk_St} {N : Nat → Nat} {hu : Nat → Nat → Bool} {D P Q L j k : Nat} {x2 x3 : Int32} {g : Nat → Int32} (hL : L ≤ 60) (hj : j < L) (hQ : Q < 12) (hk : k < 9) (hN : ∀ r, r < 12 → N r < 4096 ∧ m.1 4 r = nI (N r)) (hP : m.1 1 (18 + k) = nI P) (hP12 : P < 12) (hhu : ∀ p i, p < 12 → i ≤ 60 → f_X12_isHunted (nI p) (nI i) (iv_set m 27 g) = some (hu p (D + i))) (hg : g (L - j) = nI (iv_bk N hu D P Q L j)) :
    wk_loop (S_X12_daysHome_48 (nI k) x2 x3 (nI (L - j))) wk_F ((0 : Int32), (0 : Int32), iv_set m 27 g) = some (nI (iv_bk N hu D P Q L (j + 1)), iv_set m 27 g) := by
  obtain ⟨f, hf⟩ : ∃ f : Nat → Bool, f = fun p => iv_hd hu D P (L - (j + 1)) p && decide ((N p ||| 2 ^ p) &&& iv_bk N hu D P Q L j ≠ 0) := ⟨_, rfl⟩
  have ebk : iv_bk N hu D P Q L (j + 1) = iv_bb f 12 := by rw [hf]; rfl
  rw [ebk]
  refine po_for (fun i => (nI (iv_bb f i), nI i, iv_set m 27 g)) 12 rfl ?_ ?_ (by decide)
  · intro i hi
    have hlt := iv_bb_lt (f := f) i (by omega)
    have h2 : 2 ^ i < 2 ^ 12 := Nat.pow_lt_pow_right (by decide) hi
    have hNi := (hN i hi).1
    have hor : N i ||| 2 ^ i < 2 ^ 12 := Nat.or_lt_two_pow (by omega) h2
    have hbk := iv_bk_lt (N := N) (hu := hu) (D := D) (P := P) (L := L) (j := j) hQ
    have hand : (N i ||| 2 ^ i) &&& iv_bk N hu D P Q L j < 4096 := Nat.lt_of_le_of_lt Nat.and_le_right hbk
    have j76 : ∀ z : Bool, j_X12_daysHome_76_l48 (nI k) x2 x3 (nI (L - j)) (nI (iv_bb f i)) (nI i) (b2i z) (iv_set m 27 g) = if (z && decide ((N i ||| 2 ^ i) &&& iv_bk N hu D P Q L j ≠ 0)) = true then some (Sum.inr (nI (iv_bb f i ||| 2 ^ i), nI (i + 1), iv_set m 27 g)) else some (Sum.inr (nI (iv_bb f i), nI (i + 1), iv_set m 27 g)) := by
      intro z
      have e4 : (iv_set m 27 g).1 4 i = nI (N i) := (iv_set_off (by decide)).trans (hN i hi).2
      unfold j_X12_daysHome_76_l48 wk_let
      rw [nI_1]
      cases z with
      | false => rw [if_pos (by decide)]; rfl
      | true =>
        rw [if_neg (by decide), if_pos (po_wkin hi (by decide)), if_pos (po_wkin (by omega) (by decide)), nI_clamp (by omega), nI_clamp (by omega), e4, iv_set_at, hg, po_bit (by omega), po_or (by omega) (by omega), po_or (by omega) (by omega), po_and (by omega) (by omega), Bool.true_and]
        by_cases h0 : (N i ||| 2 ^ i) &&& iv_bk N hu D P Q L j = 0
        · rw [if_pos ((po_isB hand hi).mpr h0), decide_eq_false (not_not_intro h0), if_neg Bool.false_ne_true]
        · rw [if_neg (fun h => h0 ((po_isB hand hi).mp h)), decide_eq_true h0, if_pos rfl]
    have ef : iv_bb f (i + 1) = if (iv_hd hu D P (L - (j + 1)) i && decide ((N i ||| 2 ^ i) &&& iv_bk N hu D P Q L j ≠ 0)) = true then iv_bb f i ||| 2 ^ i else iv_bb f i := by
      have : iv_bb f (i + 1) = if f i = true then iv_bb f i ||| 2 ^ i else iv_bb f i := rfl
      rw [this]
      have e2 : f i = (iv_hd hu D P (L - (j + 1)) i && decide ((N i ||| 2 ^ i) &&& iv_bk N hu D P Q L j ≠ 0)) := by rw [hf]
      rw [e2]
    have fin : S_X12_daysHome_48 (nI k) x2 x3 (nI (L - j)) (nI (iv_bb f i), nI i, iv_set m 27 g) = j_X12_daysHome_76_l48 (nI k) x2 x3 (nI (L - j)) (nI (iv_bb f i)) (nI i) (b2i (iv_hd hu D P (L - (j + 1)) i)) (iv_set m 27 g) := by
      unfold S_X12_daysHome_48
      dsimp only
      rw [if_neg (po_n12 hi)]
      by_cases h1 : L - j = 1
      · have e1 : nI (L - j) = 1 := by rw [h1]; rfl
        have e18 : (iv_set m 27 g).1 1 (18 + k) = nI P := (iv_set_off (by decide)).trans hP
        rw [if_neg (not_not_intro e1), po_e18, if_pos (po_wkin (by omega) (by decide)), nI_clamp (by omega), e18, show L - (j + 1) = 0 by omega]
        by_cases hiP : i = P
        · rw [if_neg (not_not_intro (congrArg nI hiP))]
          have : iv_hd hu D P 0 i = true := decide_eq_true hiP
          rw [this]; rfl
        · rw [if_pos (po_nIne (by omega) (by omega) hiP)]
          have : iv_hd hu D P 0 i = false := decide_eq_false hiP
          rw [this]; rfl
      · have e1 : ¬ nI (L - j) = 1 := po_nIne (b := 1) (by omega) (by decide) h1
        have e2 : nI (L - j) - 2 = nI (L - j - 2) := pk_sub (b := 2) (by omega)
        obtain ⟨d, hd⟩ : ∃ d, L - (j + 1) = d + 1 := ⟨L - j - 2, by omega⟩
        rw [if_pos e1, e2, hhu i _ hi (by omega), hd, show L - j - 2 = d by omega]
        dsimp only [Option.bind]
        have : iv_hd hu D P (d + 1) i = !hu i (D + d) := rfl
        rw [this]
        cases hu i (D + d) with
        | true => rw [if_pos rfl]; rfl
        | false => rw [if_neg (by decide)]; rfl
    rw [fin, j76]
    show _ = some (Sum.inr (nI (iv_bb f (i + 1)), nI (i + 1), iv_set m 27 g))
    rw [ef]
    by_cases hc : (iv_hd hu D P (L - (j + 1)) i && decide ((N i ||| 2 ^ i) &&& iv_bk N hu D P Q L j ≠ 0)) = true
    · rw [if_pos hc, if_pos hc]
    · rw [if_neg hc, if_neg hc]
  · unfold S_X12_daysHome_48
    dsimp only
    rw [if_pos (by decide)]
theorem po_dh42 {m : wk_St} {N : Nat → Nat} {hu : Nat → Nat → Bool} {D P Q L k : Nat} {x2 x3 : Int32} {g0 : Nat → Int32} (hL : L ≤ 60) (hL1 : 1 ≤ L) (hQ : Q < 12) (hk : k < 9) (hN : ∀ r, r < 12 → N r < 4096 ∧ m.1 4 r = nI (N r)) (hP : m.1 1 (18 + k) = nI P) (hP12 : P < 12) (hhu : ∀ g p i, p < 12 → i ≤ 60 → f_X12_isHunted (nI p) (nI i) (iv_set m 27 g) = some (hu p (D + i))) (hg : g0 L = nI (2 ^ Q)) :
    ∃ g, wk_loop (S_X12_daysHome_42 (nI k) x2 x3) wk_F (nI L, iv_set m 27 g0) = some (iv_set m 27 g) ∧ ∀ j, j ≤ L → g (L - j) = nI (iv_bk N hu D P Q L j) := by
  obtain ⟨a, ea, g, rfl, hh⟩ := po_inv (f := S_X12_daysHome_42 (nI k) x2 x3) (fun j q => q.1 = nI (L - j) ∧ ∃ g, q.2 = iv_set m 27 g ∧ ∀ i, i ≤ j → g (L - i) = nI (iv_bk N hu D P Q L i))
    (fun a => ∃ g, a = iv_set m 27 g ∧ ∀ j, j ≤ L → g (L - j) = nI (iv_bk N hu D P Q L j)) L (by
      rintro j ⟨x, s⟩ hj ⟨hx, g, hs, hh⟩
      dsimp only at hx hs
      subst hx hs
      have h0 : ¬ nI (L - j) ≤ 0 := by
        intro h
        have := (nI_leI (a := L - j) (b := 0) (by omega) (by decide)).mp h
        omega
      have e1 : nI (L - j) - 1 = nI (L - (j + 1)) := by
        have := pk_sub (a := L - j) (b := 1) (by omega)
        rw [show L - j - 1 = L - (j + 1) by omega] at this
        exact this
      have e2 : nI (L - j) + -1 = nI (L - (j + 1)) := by
        have := pk_m1 (L - (j + 1))
        rw [show L - (j + 1) + 1 = L - j by omega] at this
        exact this
      unfold S_X12_daysHome_42
      dsimp only
      rw [if_neg h0, po_dh48 hL hj hQ hk hN hP hP12 (hhu g) (hh j (Nat.le_refl _))]
      dsimp only [Option.bind]
      rw [e1, e2, if_pos (po_wkin (by omega) (by decide)), nI_clamp (by omega), iv_set_si]
      refine ⟨_, rfl, rfl, _, rfl, fun i hi => ?_⟩
      by_cases hij : i = j + 1
      · rw [if_pos (by omega), hij]
      · rw [if_neg (by omega)]; exact hh i (by omega)) (by
      rintro ⟨x, s⟩ ⟨hx, g, hs, hh⟩
      dsimp only at hx hs
      subst hx hs
      unfold S_X12_daysHome_42
      dsimp only
      rw [Nat.sub_self, if_pos (by decide)]
      exact ⟨_, rfl, g, rfl, hh⟩) (by omega) (p := (nI L, iv_set m 27 g0)) ⟨by rw [Nat.sub_zero], g0, rfl, fun i hi => by rw [show i = 0 by omega, Nat.sub_zero]; exact hg⟩
  exact ⟨g, ea, hh⟩
/-- both look for the soonest day -/
theorem po_soon {T w k P Q D W : Nat} {N : Nat → Nat} {c m : wk_St} (hE : iv_E T w N 8 c m) (hk : k < 9) (hD : c.1 8 5 = nI D) (hD9 : D ≤ 9999) (hDM : m.1 1 45 = nI D) (hW128 : W < 128) (hW : m.1 1 (9 + k) = nI W) (hP12 : P < 12) (hPM : m.1 1 (18 + k) = nI P) (hQ : Q < 12) :
    ∃ a b, wk_loop (S_X9_spreadOut_16 (nI Q) (nI W)) wk_F (nI (2 ^ P), (1 : Int32), c) = some a ∧ wk_loop (S_X12_daysHome_9 (nI k) (nI Q)) wk_F ((1 : Int32), m) = some b ∧
      ((∃ L g h, 1 ≤ L ∧ L ≤ 60 ∧ a = Sum.inl (nI L, iv_set c 26 g) ∧ b = Sum.inl (nI L, iv_set m 27 h) ∧ (∀ i, 1 ≤ i → i ≤ L → g i = nI (iv_fw N (iv_hu (m.1 22) (m.1 21)) D P i)) ∧ (∀ j, j ≤ L → h (L - j) = nI (iv_bk N (iv_hu (m.1 22) (m.1 21)) D P Q L j)) ∧ (iv_fw N (iv_hu (m.1 22) (m.1 21)) D P L).testBit Q = true) ∨
       (∃ g h, a = Sum.inr (iv_set c 26 g) ∧ b = Sum.inr (iv_set m 27 h))) := by
  obtain ⟨⟨f1, f2, f3, f4, f5, f6, f7, f8, f9, f10⟩, hH, hL, hR⟩ := hE
  have hNlt : ∀ r, r < 12 → N r < 4096 := fun r hr => (f7 r hr).1
  refine po_relE (F := wk_F) (G := wk_F) (f := S_X9_spreadOut_16 (nI Q) (nI W)) (g := S_X12_daysHome_9 (nI k) (nI Q))
    (fun i p q => ∃ g h, p = (nI (iv_fw N (iv_hu (m.1 22) (m.1 21)) D P i), nI (i + 1), iv_set c 26 g) ∧ q = (nI (i + 1), iv_set m 27 h) ∧ ∀ j, 1 ≤ j → j ≤ i → g j = nI (iv_fw N (iv_hu (m.1 22) (m.1 21)) D P j)) _ 60 ?_ ?_ (by decide) (by decide) ⟨c.1 26, m.1 27, ?_, ?_, fun j h1 h2 => by omega⟩
  · rintro i p q hi ⟨g, h, rfl, rfl, hg⟩
    have hfw := iv_fw_lt (N := N) (hu := iv_hu (m.1 22) (m.1 21)) (D := D) (P := P) (i := i) hP12 hNlt
    have hfw1 := iv_fw_lt (N := N) (hu := iv_hu (m.1 22) (m.1 21)) (D := D) (P := P) (i := i + 1) hP12 hNlt
    have hsp := iv_spn_lt (N := N) hfw hNlt 12 (Nat.le_refl _)
    have hbb := iv_bb_lt (f := fun p => iv_hu (m.1 22) (m.1 21) p (D + i)) 12 (Nat.le_refl _)
    have ed : nI D + nI (i + 1) - 1 = nI (D + i) := by
      rw [nI_add]
      have := pk_sub (a := D + (i + 1)) (b := 1) (by omega)
      rw [show D + (i + 1) - 1 = D + i by omega] at this
      exact this
    have c85 : (iv_set c 26 g).1 8 5 = nI D := hD
    have sp1 : f_X2_spread (nI (iv_fw N (iv_hu (m.1 22) (m.1 21)) D P i)) (iv_set c 26 g) = some (nI (iv_sp N (iv_fw N (iv_hu (m.1 22) (m.1 21)) D P i))) := po_spread (s := iv_set c 26 g) hfw (fun r hr => f7 r hr)
    have hb1 : f_X2_huntedBits (nI (D + i)) (iv_set c 26 g) = some (nI (iv_bb (fun p => iv_hu (m.1 22) (m.1 21) p (D + i)) 12)) := po_hb (c := iv_set c 26 g) hH (by omega)
    have ev : nI (iv_sp N (iv_fw N (iv_hu (m.1 22) (m.1 21)) D P i)) &&& (nI (iv_bb (fun p => iv_hu (m.1 22) (m.1 21) p (D + i)) 12) ^^^ -1) = nI (iv_fw N (iv_hu (m.1 22) (m.1 21)) D P (i + 1)) := po_andN hsp hbb
    have wdC : ∀ g', f_X2_weekdayOf (nI (D + i)) (iv_set c 26 g') = some (nI ((D + i + w) % 7)) := fun g' => po_wdC (c := iv_set c 26 g') f4 (by omega)
    have wdM : f_X12_weekdayIn (nI i) (iv_set m 27 h) = nI ((D + i + w) % 7) := po_wdM (m := iv_set m 27 h) f6 hDM (by omega)
    have ex1 : nI (i + 1) - 1 = nI i := pk_sub (a := i + 1) (b := 1) (by omega)
    have m19 : (iv_set m 27 h).1 1 (9 + k) = nI W := hW
    have hhu : ∀ h' p j, p < 12 → j ≤ 60 → f_X12_isHunted (nI p) (nI j) (iv_set m 27 h') = some (iv_hu (m.1 22) (m.1 21) p (D + j)) := fun h' p j hp hj => po_huM (m := iv_set m 27 h') hH hDM hp (by omega)
    have hg2 : ∀ v : Int32, v = nI (iv_fw N (iv_hu (m.1 22) (m.1 21)) D P (i + 1)) → ∀ j, 1 ≤ j → j ≤ i + 1 → (fun b => if b = i + 1 then v else g b) j = nI (iv_fw N (iv_hu (m.1 22) (m.1 21)) D P j) := by
      intro v hv j h1 h2
      dsimp only
      by_cases hji : j = i + 1
      · rw [if_pos hji, hv, hji]
      · rw [if_neg hji]; exact hg j h1 (by omega)
    have sC : S_X9_spreadOut_16 (nI Q) (nI W) (nI (iv_fw N (iv_hu (m.1 22) (m.1 21)) D P i), nI (i + 1), iv_set c 26 g) = if (iv_fw N (iv_hu (m.1 22) (m.1 21)) D P (i + 1)).testBit Q = false ∨ W.testBit ((D + i + w) % 7) = true then some (Sum.inr (nI (iv_fw N (iv_hu (m.1 22) (m.1 21)) D P (i + 1)), nI (i + 1 + 1), iv_set c 26 (fun b => if b = i + 1 then nI (iv_fw N (iv_hu (m.1 22) (m.1 21)) D P (i + 1)) else g b))) else some (Sum.inl (Sum.inl (nI (i + 1), iv_set c 26 (fun b => if b = i + 1 then nI (iv_fw N (iv_hu (m.1 22) (m.1 21)) D P (i + 1)) else g b)))) := by
      unfold S_X9_spreadOut_16 wk_let
      dsimp only
      rw [if_neg (show ¬ nI (i + 1) ≥ 61 from nI_ge (b := 61) (by omega) (by decide)), c85, ed, sp1]
      dsimp only [Option.bind]
      rw [hb1]
      dsimp only
      rw [ev, if_pos (po_wkin (by omega) (by decide)), nI_clamp (by omega), iv_set_si, po_hasC (by omega) (by omega), wdC, nI_1]
      dsimp only
      rw [po_hasC (by omega) (by omega)]
      cases (iv_fw N (iv_hu (m.1 22) (m.1 21)) D P (i + 1)).testBit Q with
      | false => rw [if_pos rfl, if_pos (Or.inl rfl)]
      | true =>
        rw [if_neg (by decide)]
        cases W.testBit ((D + i + w) % 7) with
        | true => rw [if_pos rfl, if_pos (Or.inr rfl)]
        | false => rw [if_neg (by decide), if_neg (by decide)]
    have hQh : (iv_fw N (iv_hu (m.1 22) (m.1 21)) D P (i + 1)).testBit Q = true → iv_hu (m.1 22) (m.1 21) Q (D + i) = false := fun h => ((iv_fw_bit hQ).mp h).2
    -- the model
    have sM0 : S_X12_daysHome_9 (nI k) (nI Q) (nI (i + 1), iv_set m 27 h) = if W.testBit ((D + i + w) % 7) = true then some (Sum.inr (nI (i + 1 + 1), iv_set m 27 h)) else if iv_hu (m.1 22) (m.1 21) Q (D + i) = false then (Option.bind (wk_loop (S_X12_daysHome_42 (nI k) (nI Q) (nI (i + 1))) wk_F (nI (i + 1), iv_set m 27 (fun b => if b = i + 1 then nI (2 ^ Q) else h b))) fun v10 => if (v10.1 27 0) = 0 then some (Sum.inr (nI (i + 1 + 1), v10)) else some (Sum.inl (Sum.inl (nI (i + 1), v10)))) else some (Sum.inr (nI (i + 1 + 1), iv_set m 27 h)) := by
      unfold S_X12_daysHome_9
      dsimp only
      rw [if_neg (show ¬ nI (i + 1) > 60 from nI_nlt (a := 60) (by omega) (by decide)), po_e9, if_pos (po_wkin (by omega) (by decide)), nI_clamp (by omega), m19, ex1, wdM, po_hasM (by omega) (by omega), hhu h Q i hQ (by omega), nI_1]
      dsimp only [Option.bind]
      rw [if_pos (po_wkin (by omega) (by decide)), nI_clamp (by omega), po_bit (by omega), iv_set_si]
    by_cases hwd : W.testBit ((D + i + w) % 7) = true
    · left
      rw [if_pos (Or.inr hwd)] at sC
      rw [if_pos hwd] at sM0
      exact ⟨_, _, sC, sM0, _, _, rfl, rfl, hg2 _ rfl⟩
    · rw [if_neg hwd] at sM0
      by_cases hhQ : iv_hu (m.1 22) (m.1 21) Q (D + i) = false
      · rw [if_pos hhQ] at sM0
        obtain ⟨g2, e42, hg42⟩ := po_dh42 (m := m) (N := N) (hu := iv_hu (m.1 22) (m.1 21)) (D := D) (P := P) (Q := Q) (L := i + 1) (k := k) (x2 := nI Q) (x3 := nI (i + 1)) (g0 := fun b => if b = i + 1 then nI (2 ^ Q) else h b) (by omega) (by omega) hQ hk f8 hPM hP12 hhu (if_pos rfl)
        rw [e42] at sM0
        dsimp only [Option.bind] at sM0
        have h0 := hg42 (i + 1) (Nat.le_refl _)
        rw [Nat.sub_self] at h0
        have hm0 := iv_meet0 (N := N) (hu := iv_hu (m.1 22) (m.1 21)) (D := D) (P := P) (Q := Q) (L := i + 1) (by omega) hhQ hQ hP12
        have hbkl := iv_bk_lt (N := N) (hu := iv_hu (m.1 22) (m.1 21)) (D := D) (P := P) (L := i + 1) (j := i + 1) hQ
        rw [iv_set_at, h0] at sM0
        by_cases hf : (iv_fw N (iv_hu (m.1 22) (m.1 21)) D P (i + 1)).testBit Q = true
        · right
          rw [if_neg (show ¬ (_ ∨ _) from fun h => h.elim (fun h => by rw [hf] at h; cases h) hwd)] at sC
          rw [if_neg (fun h => (hm0.1.mpr hf) ((po_isB hbkl hQ).mp h))] at sM0
          exact ⟨_, _, sC, sM0, Or.inl ⟨i + 1, _, g2, by omega, by omega, rfl, rfl, hg2 _ rfl, hg42, hf⟩⟩
        · left
          have hf' : (iv_fw N (iv_hu (m.1 22) (m.1 21)) D P (i + 1)).testBit Q = false := by
            cases h : (iv_fw N (iv_hu (m.1 22) (m.1 21)) D P (i + 1)).testBit Q with
            | false => rfl
            | true => exact absurd h hf
          rw [if_pos (Or.inl hf')] at sC
          have hz : iv_bk N (iv_hu (m.1 22) (m.1 21)) D P Q (i + 1) (i + 1) = 0 := Classical.byContradiction (fun h => hf (hm0.1.mp h))
          rw [if_pos ((po_isB hbkl hQ).mpr hz)] at sM0
          exact ⟨_, _, sC, sM0, _, _, rfl, rfl, hg2 _ rfl⟩
      · left
        rw [if_neg hhQ] at sM0
        have hf' : (iv_fw N (iv_hu (m.1 22) (m.1 21)) D P (i + 1)).testBit Q = false := by
          cases h : (iv_fw N (iv_hu (m.1 22) (m.1 21)) D P (i + 1)).testBit Q with
          | false => rfl
          | true => exact absurd (hQh h) hhQ
        rw [if_pos (Or.inl hf')] at sC
        exact ⟨_, _, sC, sM0, _, _, rfl, rfl, hg2 _ rfl⟩
  · rintro p q ⟨g, h, rfl, rfl, hg⟩
    unfold S_X9_spreadOut_16 S_X12_daysHome_9
    dsimp only
    rw [if_pos (by decide), if_pos (by decide)]
    exact ⟨_, _, rfl, rfl, Or.inr ⟨g, h, rfl, rfl⟩⟩
  · rw [iv_set_id]; rfl
  · rw [iv_set_id]; rfl
