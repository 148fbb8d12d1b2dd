/-! PURE: boots: the model's ways, the op -/
theorem po_minI {a b : Nat} (ha : a < 2 ^ 31) (hb : b < 2 ^ 31) : f_X12_min (nI a) (nI b) = nI (min b a) := by
  unfold f_X12_min
  by_cases h : b ≤ a
  · rw [if_pos (show nI a ≥ nI b from nI_le h ha), Nat.min_eq_left h]
  · rw [if_neg (nI_ge (by omega) hb), Nat.min_eq_right (by omega)]
theorem po_fits {v p : Nat} (hv : v < 256) (hp : p < 12) (hok : v = 63 ∨ (97 ≤ v ∧ v ≤ 108) ∨ (65 ≤ v ∧ v ≤ 76)) : f_X12_fitsSeen (nI v) (nI p) = iv_fit v p := by
  unfold f_X12_fitsSeen iv_fit
  by_cases h63 : v = 63
  · rw [if_neg (show ¬ ¬ nI v = 63 by rw [h63]; decide), decide_eq_true h63]; rfl
  · have e63 : ¬ nI v = 63 := po_nIne (b := 63) (by omega) (by decide) h63
    have e97 : f_X12_in (nI v) 97 108 = iv_seen v := po_inK (a := 97) (b := 108) rfl rfl hv (by decide) (by decide)
    rw [if_pos e63, e97, decide_eq_false h63, Bool.false_or]
    by_cases hs : 97 ≤ v ∧ v ≤ 108
    · have e : iv_seen v = true := decide_eq_true hs
      have h1 := (po_sub9 (v := v) (k := 97) (K := 97) rfl hv (by decide)).2 hs.1
      rw [e, if_neg (by decide), h1, if_pos hs]
      by_cases hpv : v - 97 = p
      · rw [if_neg (not_not_intro (congrArg nI hpv)), decide_eq_true hpv]
      · rw [if_pos (po_nIne (by omega) (by omega) hpv), decide_eq_false hpv]
    · have e : iv_seen v = false := decide_eq_false hs
      have h2 : 65 ≤ v ∧ v ≤ 76 := by rcases hok with h | h | h; exact absurd h h63; exact absurd h hs; exact h
      have h1 := (po_sub9 (v := v) (k := 65) (K := 65) rfl hv (by decide)).2 h2.1
      rw [e, if_pos rfl, h1, if_neg hs]
      by_cases hpv : v - 65 = p
      · rw [if_pos (congrArg nI hpv), decide_eq_true hpv]; rfl
      · rw [if_neg (po_nIne (by omega) (by omega) hpv), decide_eq_false hpv]; rfl
/-- the model's two rows -/
def iv_M2 (s : wk_St) (g h : Nat → Int32) : wk_St := iv_set (iv_set s 29 g) 30 h
theorem iv_M2_29 {s : wk_St} {g h : Nat → Int32} {j : Nat} {x : Int32} : wk_si (iv_M2 s g h) 29 j x = iv_M2 s (fun b => if b = j then x else g b) h := by
  unfold wk_si iv_M2 iv_set
  refine Prod.ext ?_ rfl
  funext a b
  by_cases ha : a = 29
  · subst ha
    by_cases hb : b = j <;> simp [hb]
  · simp [ha]
theorem iv_M2_30 {s : wk_St} {g h : Nat → Int32} {j : Nat} {x : Int32} : wk_si (iv_M2 s g h) 30 j x = iv_M2 s g (fun b => if b = j then x else h b) := iv_set_si
theorem po_b66 {m : wk_St} {N W : Nat → Nat} {g h : Nat → Int32} {d p v : Nat} {x2 x3 : Int32} (hN : ∀ r, r < 12 → N r < 4096 ∧ m.1 4 r = nI (N r)) (hW : ∀ p, W p ≤ 1000000000) (hg : ∀ p, p < 12 → g p = nI (W p)) (hp : p < 12) (hd : d < 260) (hv : m.1 7 d &&& 255 = nI v) (hv2 : v < 256) (hok : v = 63 ∨ (97 ≤ v ∧ v ≤ 108) ∨ (65 ≤ v ∧ v ≤ 76)) (h0 : h p = 0) :
    wk_loop (S_X12_boots_66 x2 x3 (nI d) (nI p)) wk_F ((0 : Int32), iv_M2 m g h) = some (iv_M2 m g (fun b => if b = p then nI (iv_stp N v W p) else h b)) := by
  have hNp := (hN p hp).1
  have h2 : 2 ^ p < 2 ^ 12 := Nat.pow_lt_pow_right (by decide) hp
  have hor : N p ||| 2 ^ p < 2 ^ 12 := Nat.or_lt_two_pow (by omega) h2
  have key : ∀ j, j < 12 → ∀ h : Nat → Int32, S_X12_boots_66 x2 x3 (nI d) (nI p) (nI j, iv_M2 m g h) = if ((N p ||| 2 ^ p).testBit j && iv_fit v p) = true then some (Sum.inr (nI (j + 1), iv_M2 m g (fun b => if b = p then f_X12_min 1000000000 (h p + nI (W j)) else h b))) else some (Sum.inr (nI (j + 1), iv_M2 m g h)) := by
    intro j hj h
    have e4 : (iv_M2 m g h).1 4 p = nI (N p) := (hN p hp).2
    have e7 : f_X12_octet (nI d) (iv_M2 m g h) = some (nI v) := by
      rw [po_octet hd]
      exact congrArg some hv
    have e29 : (iv_M2 m g h).1 29 j = nI (W j) := hg j hj
    unfold S_X12_boots_66
    dsimp only
    rw [if_neg (po_n12 hj), if_pos (po_wkin hp (by decide)), nI_clamp (by omega), e4, po_bit (by omega), po_or (by omega) (by omega), po_hasM (by omega) (by omega), e7, nI_1]
    dsimp only [Option.bind]
    rw [po_fits hv2 hp hok]
    cases (N p ||| 2 ^ p).testBit j with
    | false => rw [if_pos rfl]; rfl
    | true =>
      cases iv_fit v p with
      | false => rw [if_neg (by decide), if_pos rfl]; rfl
      | true =>
        rw [if_neg (by decide), if_neg (by decide), if_pos (po_wkin hp (by decide)), if_pos (po_wkin hj (by decide)), if_pos (po_wkin hp (by decide)), nI_clamp (by omega), e29, iv_M2_30]
        rfl
  cases hf : iv_fit v p with
  | false =>
    have eS : iv_stp N v W p = 0 := by unfold iv_stp; rw [hf]; rfl
    refine po_for (fun i => (nI i, iv_M2 m g (fun b => if b = p then nI (iv_stp N v W p) else h b))) 12 ?_ ?_ ?_ (by decide)
    · refine Prod.ext rfl ?_
      show iv_M2 m g h = iv_M2 m g _
      refine congrArg (iv_M2 m g) ?_
      funext b
      by_cases hb : b = p
      · rw [if_pos hb, eS, hb, h0]; rfl
      · rw [if_neg hb]
    · intro j hj
      rw [key j hj, hf, Bool.and_false, if_neg (by decide)]
    · unfold S_X12_boots_66
      dsimp only
      rw [if_pos (by decide)]
  | true =>
    have hB : ∀ i, i ≤ 12 → min (iv_sN (fun q => (N p ||| 2 ^ p).testBit q) W i) 1000000000 ≤ 1000000000 := fun i _ => Nat.min_le_right _ _
    have eS : iv_stp N v W p = min (iv_sN (fun q => (N p ||| 2 ^ p).testBit q) W 12) 1000000000 := by unfold iv_stp iv_go; rw [hf]; rfl
    refine po_for (fun i => (nI i, iv_M2 m g (fun b => if b = p then nI (min (iv_sN (fun q => (N p ||| 2 ^ p).testBit q) W i) 1000000000) else h b))) 12 ?_ ?_ ?_ (by decide)
    · refine Prod.ext rfl ?_
      show iv_M2 m g h = iv_M2 m g _
      refine congrArg (iv_M2 m g) ?_
      funext b
      by_cases hb : b = p
      · rw [if_pos hb, hb, h0]; rfl
      · rw [if_neg hb]
    · intro j hj
      rw [key j hj, hf, Bool.and_true]
      have eU : iv_sN (fun q => (N p ||| 2 ^ p).testBit q) W (j + 1) = if (N p ||| 2 ^ p).testBit j = true then iv_sN (fun q => (N p ||| 2 ^ p).testBit q) W j + W j else iv_sN (fun q => (N p ||| 2 ^ p).testBit q) W j := rfl
      rw [eU]
      by_cases hb : (N p ||| 2 ^ p).testBit j = true
      · rw [if_pos hb, if_pos hb]
        refine congrArg (fun x => some (Sum.inr (nI (j + 1), iv_M2 m g x))) ?_
        have hWj := hW j
        have hmin := hB j (by omega)
        funext b
        by_cases hbp : b = p
        · rw [if_pos hbp, if_pos hbp, if_pos rfl, nI_add]
          have e1 : f_X12_min 1000000000 (nI (min (iv_sN (fun q => (N p ||| 2 ^ p).testBit q) W j) 1000000000 + W j)) = nI (min (min (iv_sN (fun q => (N p ||| 2 ^ p).testBit q) W j) 1000000000 + W j) 1000000000) := po_minI (a := 1000000000) (by decide) (by omega)
          rw [e1]
          refine congrArg nI ?_
          omega
        · rw [if_neg hbp, if_neg hbp, if_neg hbp]
      · rw [if_neg hb, if_neg hb]
    · unfold S_X12_boots_66
      dsimp only
      rw [if_pos (by decide), eS]
theorem po_b56 {m : wk_St} {N W : Nat → Nat} {g h : Nat → Int32} {d v : Nat} {x2 x3 : Int32} (hN : ∀ r, r < 12 → N r < 4096 ∧ m.1 4 r = nI (N r)) (hW : ∀ p, W p ≤ 1000000000) (hg : ∀ p, p < 12 → g p = nI (W p)) (hd : d < 260) (hv : m.1 7 d &&& 255 = nI v) (hv2 : v < 256) (hok : v = 63 ∨ (97 ≤ v ∧ v ≤ 108) ∨ (65 ≤ v ∧ v ≤ 76)) :
    ∃ h2, wk_loop (S_X12_boots_56 x2 x3 (nI d)) wk_F ((0 : Int32), iv_M2 m g h) = some (iv_M2 m g h2) ∧ ∀ p, p < 12 → h2 p = nI (iv_stp N v W p) := by
  obtain ⟨a, ea, h2, rfl, hh⟩ := po_inv (f := S_X12_boots_56 x2 x3 (nI d)) (fun i q => q.1 = nI i ∧ ∃ h2, q.2 = iv_M2 m g h2 ∧ ∀ p, p < i → h2 p = nI (iv_stp N v W p))
    (fun a => ∃ h2, a = iv_M2 m g h2 ∧ ∀ p, p < 12 → h2 p = nI (iv_stp N v W p)) 12 (by
      rintro i ⟨x, s⟩ hi ⟨hx, h2, hs, hh⟩
      dsimp only at hx hs
      subst hx hs
      unfold S_X12_boots_56
      dsimp only
      rw [if_neg (po_n12 hi), if_pos (po_wkin hi (by decide)), nI_clamp (by omega), iv_M2_30, po_b66 hN hW hg hi hd hv hv2 hok (if_pos rfl)]
      dsimp only [Option.bind]
      refine ⟨_, rfl, nI_1 i, _, rfl, fun p hp => ?_⟩
      by_cases hpi : p = i
      · rw [if_pos hpi, hpi]
      · rw [if_neg hpi, if_neg hpi]; exact hh p (by omega)) (by
      rintro ⟨x, s⟩ ⟨hx, h2, hs, hh⟩
      dsimp only at hx hs
      subst hx hs
      unfold S_X12_boots_56
      dsimp only
      rw [if_pos (by decide)]
      exact ⟨_, rfl, h2, rfl, hh⟩) (by decide) (p := ((0 : Int32), iv_M2 m g h)) ⟨rfl, h, rfl, fun p hp => by omega⟩
  exact ⟨h2, ea, hh⟩
theorem po_b107 {m : wk_St} {g h : Nat → Int32} {d : Nat} {x2 x3 : Int32} : wk_loop (S_X12_boots_107 x2 x3 (nI d)) wk_F ((0 : Int32), iv_M2 m g h) = some (iv_M2 m (fun b => if b < 12 then h b else g b) h) := by
  refine po_for (fun i => (nI i, iv_M2 m (fun b => if b < i then h b else g b) h)) 12 ?_ ?_ ?_ (by decide)
  · refine Prod.ext rfl ?_
    show iv_M2 m g h = iv_M2 m _ h
    refine congrArg (fun x => iv_M2 m x h) ?_
    funext b
    rw [if_neg (by omega)]
  · intro j hj
    have e30 : ∀ g', (iv_M2 m g' h).1 30 j = h j := fun _ => rfl
    unfold S_X12_boots_107
    dsimp only
    rw [if_neg (po_n12 hj), if_pos (po_wkin hj (by decide)), if_pos (po_wkin hj (by decide)), nI_clamp (by omega), iv_M2_29, e30, nI_1]
    refine congrArg (fun x => some (Sum.inr (nI (j + 1), iv_M2 m x h))) ?_
    funext b
    by_cases hbj : b = j
    · rw [if_pos hbj, if_pos (by omega), hbj]
    · rw [if_neg hbj]
      have : b < j ↔ b < j + 1 := by omega
      simp only [this]
  · unfold S_X12_boots_107
    dsimp only
    rw [if_pos (by decide)]
theorem po_b51 {m : wk_St} {N : Nat → Nat} {g h : Nat → Int32} {n p0 : Nat} {x3 : Int32} (hN : ∀ r, r < 12 → N r < 4096 ∧ m.1 4 r = nI (N r)) (hn : n ≤ 20) (hok : ∀ i, i < n → iv_o (m.1 7) i = 63 ∨ (97 ≤ iv_o (m.1 7) i ∧ iv_o (m.1 7) i ≤ 108) ∨ (65 ≤ iv_o (m.1 7) i ∧ iv_o (m.1 7) i ≤ 76)) (hg : ∀ p, p < 12 → g p = nI (iv_W N (m.1 7) p0 0 p)) :
    ∃ g2 h2, wk_loop (S_X12_boots_51 (nI n) x3) wk_F ((0 : Int32), iv_M2 m g h) = some (iv_M2 m g2 h2) ∧ ∀ p, p < 12 → g2 p = nI (iv_W N (m.1 7) p0 n p) := by
  obtain ⟨a, ea, g2, h2, rfl, hh⟩ := po_inv (f := S_X12_boots_51 (nI n) x3) (fun i q => q.1 = nI i ∧ ∃ g2 h2, q.2 = iv_M2 m g2 h2 ∧ ∀ p, p < 12 → g2 p = nI (iv_W N (m.1 7) p0 i p))
    (fun a => ∃ g2 h2, a = iv_M2 m g2 h2 ∧ ∀ p, p < 12 → g2 p = nI (iv_W N (m.1 7) p0 n p)) n (by
      rintro i ⟨x, s⟩ hi ⟨hx, g2, h2, hs, hh⟩
      dsimp only at hx hs
      subst hx hs
      obtain ⟨k2, e56, hk⟩ := po_b56 (m := m) (h := h2) (d := i) (v := iv_o (m.1 7) i) (x2 := nI n) (x3 := x3) hN (fun p => iv_W_le i) hh (by omega) iv_o_e iv_o_lt (hok i hi)
      unfold S_X12_boots_51
      dsimp only
      rw [if_neg (nI_ge hi (by omega)), e56]
      dsimp only [Option.bind]
      rw [po_b107]
      dsimp only
      refine ⟨_, rfl, nI_1 i, _, _, rfl, fun p hp => ?_⟩
      rw [if_pos hp, hk p hp]
      rfl) (by
      rintro ⟨x, s⟩ ⟨hx, g2, h2, hs, hh⟩
      dsimp only at hx hs
      subst hx hs
      unfold S_X12_boots_51
      dsimp only
      rw [if_pos (nI_le (Nat.le_refl n) (by omega))]
      exact ⟨_, rfl, g2, h2, rfl, hh⟩) (by omega) (p := ((0 : Int32), iv_M2 m g h)) ⟨rfl, g, h, rfl, hg⟩
  exact ⟨g2, h2, ea, hh⟩
