/-! PURE: boots: the signs -/
theorem po_sub9 {v : Nat} {k : Nat} {K : Int32} (hK : K = nI k) (hv : v < 256) (hk : k < 256) : f_X12_in (nI v - K) 0 11 = decide (k ≤ v ∧ v ≤ k + 11) ∧ (k ≤ v → nI v - K = nI (v - k)) := by
  subst hK
  by_cases h : k ≤ v
  · rw [pk_sub h]
    refine ⟨?_, fun _ => rfl⟩
    by_cases h2 : v ≤ k + 11
    · rw [decide_eq_true ⟨h, h2⟩]
      exact po_inT (n := 11) rfl (by omega)
    · rw [decide_eq_false (fun x => h2 x.2)]
      unfold f_X12_in
      rw [if_neg (nI_pos (by omega)), if_pos (show nI (v - k) > 11 from nI_lt (a := 11) (by omega) (by omega))]
  · refine ⟨?_, fun x => absurd x h⟩
    rw [decide_eq_false (fun x => h x.1)]
    unfold f_X12_in
    rw [if_pos (pk_sneg (by omega) (by omega))]
theorem po_inK {v a b : Nat} {A B : Int32} (hA : A = nI a) (hB : B = nI b) (hv : v < 256) (ha : a < 256) (hb : b < 256) : f_X12_in (nI v) A B = decide (a ≤ v ∧ v ≤ b) := by
  subst hA hB
  unfold f_X12_in
  by_cases h1 : a ≤ v
  · rw [if_neg (nI_nlt h1 (by omega))]
    by_cases h2 : v ≤ b
    · rw [if_neg (show ¬ nI v > nI b from nI_nlt h2 (by omega)), decide_eq_true ⟨h1, h2⟩]
    · rw [if_pos (show nI v > nI b from nI_lt (by omega) (by omega)), decide_eq_false (fun x => h2 x.2)]
  · rw [if_pos (nI_lt (by omega) (by omega)), decide_eq_false (fun x => h1 x.1)]
/-- what a sign means: 0 a fault 1, 1 it passes, 2 the place must be told -/
def iv_seen (v : Nat) : Bool := decide (97 ≤ v ∧ v ≤ 108)
def iv_sp0 (v : Nat) : Nat := if iv_seen v = true then v - 97 else v - 65
theorem po_bootC {c : wk_St} {N W : Nat → Nat} {T v i n j : Nat} {g28 g29 : Nat → Int64} (hT : T < 4096) (hTc : c.1 3 4 = nI T) (hj : c.1 1 1 = nI j) (hj2 : j ≤ 260) (hi : i < n) (hn : n ≤ 20) (hnj : n ≤ j) (hv : c.1 2 i = nI v) (hv2 : v < 256) (hN : ∀ r, r < 12 → N r < 4096 ∧ c.1 4 r = nI (N r)) (hW : ∀ p, W p ≤ 1000000000) (hg : ∀ p, p < 12 → g29 p = lN (W p)) :
    (v = 63 ∧ ∃ h28 h29, S_X9_followBoots_19 (nI n) (nI i, iv_L2 c g28 g29) = some (Sum.inr (nI (i + 1), iv_L2 c h28 h29)) ∧ ∀ p, p < 12 → h29 p = lN (iv_stp N v W p)) ∨
    (v ≠ 63 ∧ ((97 ≤ v ∧ v ≤ 108) ∨ (65 ≤ v ∧ v ≤ 76)) ∧ ((T.testBit (iv_sp0 v) = true ∧ ∃ h28 h29, S_X9_followBoots_19 (nI n) (nI i, iv_L2 c g28 g29) = some (Sum.inr (nI (i + 1), iv_L2 c h28 h29)) ∧ ∀ p, p < 12 → h29 p = lN (iv_stp N v W p)) ∨
      (T.testBit (iv_sp0 v) = false ∧ S_X9_followBoots_19 (nI n) (nI i, iv_L2 c g28 g29) = some (Sum.inl (Sum.inl (f_X11_faultOf 7 (nI i), iv_L2 c g28 g29)))))) ∨
    (v ≠ 63 ∧ ¬ ((97 ≤ v ∧ v ≤ 108) ∨ (65 ≤ v ∧ v ≤ 76)) ∧ S_X9_followBoots_19 (nI n) (nI i, iv_L2 c g28 g29) = some (Sum.inl (Sum.inl (f_X11_faultOf 1 (nI i), iv_L2 c g28 g29)))) := by
  have hby : f_X8_byteAt (nI i) (iv_L2 c g28 g29) = some (nI v) := by
    rw [po_byteAt (c := iv_L2 c g28 g29) (b := c.1 2) hj hj2 (by omega) rfl, hv]
  have e97 : f_X11_isWithin (nI v) 97 108 = iv_seen v := by
    rw [po_W]; exact po_inK (a := 97) (b := 108) rfl rfl hv2 (by decide) (by decide)
  have start : S_X9_followBoots_19 (nI n) (nI i, iv_L2 c g28 g29) = j_X9_followBoots_37_l19 (nI n) (nI i) (nI v) (b2i (iv_seen v)) (if iv_seen v = true then 97 else 65) (nI v) (iv_L2 c g28 g29) := by
    unfold S_X9_followBoots_19
    dsimp only
    rw [if_neg (nI_ge hi (by omega)), hby]
    dsimp only [Option.bind]
    rw [e97]
    cases iv_seen v with
    | false => rw [if_pos rfl, if_neg (by decide)]
    | true => rw [if_neg (by decide), if_pos rfl]
  have hgo := po_goOn (c := c) (g28 := g28) hN hW hg
  rw [start]
  unfold j_X9_followBoots_37_l19
  by_cases h63 : v = 63
  · left
    refine ⟨h63, ?_⟩
    obtain ⟨h28, h29, eg, hh⟩ := hgo
    have e63 : nI v = 63 := by rw [h63]; rfl
    unfold j_X9_followBoots_51_l19 j_X9_followBoots_62_l19
    rw [if_pos e63, if_pos e63, eg]
    dsimp only [Option.bind]
    rw [if_pos e63, nI_1]
    refine ⟨h28, h29, rfl, fun p hp => ?_⟩
    rw [hh p hp]
    unfold iv_stp iv_fit
    rw [decide_eq_true h63]
    rfl
  · right
    have e63 : ¬ nI v = 63 := po_nIne (b := 63) (by omega) (by decide) h63
    rw [if_neg e63]
    have hsub : f_X11_isWithin (nI v - (if iv_seen v = true then 97 else 65)) 0 11 = decide ((97 ≤ v ∧ v ≤ 108) ∨ (65 ≤ v ∧ v ≤ 76)) ∧ (((97 ≤ v ∧ v ≤ 108) ∨ (65 ≤ v ∧ v ≤ 76)) → nI v - (if iv_seen v = true then 97 else 65) = nI (iv_sp0 v) ∧ iv_sp0 v < 12) := by
      rw [po_W]
      unfold iv_sp0
      by_cases hs : 97 ≤ v ∧ v ≤ 108
      · have e : iv_seen v = true := decide_eq_true hs
        have h := po_sub9 (v := v) (k := 97) (K := 97) rfl hv2 (by decide)
        rw [e, if_pos rfl, if_pos rfl, h.1, decide_eq_true ⟨hs.1, by omega⟩, decide_eq_true (Or.inl hs)]
        exact ⟨rfl, fun _ => ⟨h.2 hs.1, by omega⟩⟩
      · have e : iv_seen v = false := decide_eq_false hs
        have h := po_sub9 (v := v) (k := 65) (K := 65) rfl hv2 (by decide)
        rw [e, if_neg (by decide), if_neg (by decide), h.1]
        by_cases h2 : 65 ≤ v ∧ v ≤ 76
        · rw [decide_eq_true ⟨h2.1, by omega⟩, decide_eq_true (Or.inr h2)]
          exact ⟨rfl, fun _ => ⟨h.2 h2.1, by omega⟩⟩
        · rw [decide_eq_false (fun x => h2 ⟨x.1, by omega⟩), decide_eq_false (fun x => x.elim hs h2)]
          exact ⟨rfl, fun x => absurd x (fun x => x.elim hs h2)⟩
    by_cases hok : (97 ≤ v ∧ v ≤ 108) ∨ (65 ≤ v ∧ v ≤ 76)
    · left
      refine ⟨h63, hok, ?_⟩
      obtain ⟨hs1, hs2⟩ := hsub.2 hok
      rw [hsub.1, decide_eq_true hok, if_pos rfl, hs1]
      have ht : f_X2_isTold (nI (iv_sp0 v)) (iv_L2 c g28 g29) = T.testBit (iv_sp0 v) := by
        unfold f_X2_isTold
        have e34 : (iv_L2 c g28 g29).1 3 4 = nI T := hTc
        rw [if_neg (po_n12 hs2), e34, po_hasC (by omega) (by omega)]
        cases T.testBit (iv_sp0 v) <;> rfl
      unfold j_X9_followBoots_51_l19
      rw [if_neg e63, ht]
      cases hb : T.testBit (iv_sp0 v) with
      | false => right; exact ⟨rfl, if_neg (by decide)⟩
      | true =>
        left
        refine ⟨rfl, ?_⟩
        obtain ⟨h28, h29, eg, hh⟩ := hgo
        obtain ⟨k29, es, hk⟩ := po_strike (c := c) (W := iv_go N W) (g28 := h28) (g29 := h29) (z := iv_sp0 v) (seen := iv_seen v) (x2 := b2i (iv_seen v)) hs2 rfl hh
        unfold j_X9_followBoots_62_l19
        rw [if_pos rfl, eg]
        dsimp only [Option.bind]
        rw [if_neg e63, es, nI_1]
        refine ⟨h28, k29, rfl, fun p hp => ?_⟩
        rw [hk p hp]
        refine congrArg lN ?_
        unfold iv_stp iv_fit iv_sp0
        rw [decide_eq_false h63, Bool.false_or]
        by_cases hs : 97 ≤ v ∧ v ≤ 108
        · have e : iv_seen v = true := decide_eq_true hs
          rw [e, if_pos rfl, if_pos hs]
          have : (p = v - 97) ↔ (v - 97 = p) := ⟨fun h => h.symm, fun h => h.symm⟩
          simp only [this]
        · have e : iv_seen v = false := decide_eq_false hs
          rw [e, if_neg Bool.false_ne_true, if_neg hs]
          by_cases hpv : v - 65 = p
          · rw [decide_eq_true hpv, decide_eq_true hpv.symm]; rfl
          · rw [decide_eq_false hpv, decide_eq_false (fun h => hpv h.symm)]; rfl
    · right
      refine ⟨h63, hok, ?_⟩
      rw [hsub.1, decide_eq_false hok]
      exact if_neg (by decide)
theorem po_bootM {m : wk_St} {T v n i : Nat} {g : Nat → Int32} (hT : T < 4096) (hTm : g 4 = nI T) (hi : g 10 = nI i) (hl : g 11 = nI n) (hin : i < n) (hn : n ≤ 20) (hv : m.1 7 i &&& 255 = nI v) (hv2 : v < 256) :
    (v = 63 → S_X12_readsSeen_6 (nI n) (iv_set m 0 g) = some (Sum.inr (iv_set m 0 (fun b => if b = 10 then nI (i + 1) else g b)))) ∧
    (v ≠ 63 → ((97 ≤ v ∧ v ≤ 108) ∨ (65 ≤ v ∧ v ≤ 76)) → (T.testBit (iv_sp0 v) = true → S_X12_readsSeen_6 (nI n) (iv_set m 0 g) = some (Sum.inr (iv_set m 0 (fun b => if b = 10 then nI (i + 1) else g b)))) ∧ (T.testBit (iv_sp0 v) = false → S_X12_readsSeen_6 (nI n) (iv_set m 0 g) = some (Sum.inl (Sum.inl (false, iv_set m 0 (fun b => if b = 12 then f_X11_faultOf 7 (nI i) else g b)))))) ∧
    (v ≠ 63 → ¬ ((97 ≤ v ∧ v ≤ 108) ∨ (65 ≤ v ∧ v ≤ 76)) → S_X12_readsSeen_6 (nI n) (iv_set m 0 g) = some (Sum.inl (Sum.inl (false, iv_set m 0 (fun b => if b = 12 then f_X11_faultOf 1 (nI i) else g b))))) := by
  have hhe : f_X12_here (iv_set m 0 g) = some (nI v) := by
    unfold f_X12_here
    rw [iv_set_at, iv_set_at, hi, hl, if_neg (nI_ge hin (by omega)), if_pos (po_wkin (by omega) (by decide)), nI_clamp (by omega), iv_set_off (by decide), hv]
  have e97 : f_X12_in (nI v) 97 108 = iv_seen v := po_inK (a := 97) (b := 108) rfl rfl hv2 (by decide) (by decide)
  have e65 : f_X12_in (nI v) 65 76 = decide (65 ≤ v ∧ v ≤ 76) := po_inK (a := 65) (b := 76) rfl rfl hv2 (by decide) (by decide)
  have start : S_X12_readsSeen_6 (nI n) (iv_set m 0 g) = j_X12_readsSeen_25_l6 (nI n) (nI v) (if iv_seen v = true then nI v - 97 else nI v - 65) (iv_set m 0 g) := by
    unfold S_X12_readsSeen_6
    rw [iv_set_at, hi, if_neg (nI_ge hin (by omega)), hhe]
    dsimp only [Option.bind]
    rw [e97]
    cases iv_seen v with
    | false => rw [if_pos rfl, if_neg (by decide)]
    | true => rw [if_neg (by decide), if_pos rfl]
  have wrong : ∀ f : Int32, f_X12_wrongAt f ((iv_set m 0 g).1 0 10) (iv_set m 0 g) = (false, iv_set m 0 (fun b => if b = 12 then f_X11_faultOf f (nI i) else g b)) := by
    intro f
    unfold f_X12_wrongAt
    rw [iv_set_at, hi, iv_set_si]
    rfl
  have nxt : wk_si (iv_set m 0 g) 0 10 ((iv_set m 0 g).1 0 10 + 1) = iv_set m 0 (fun b => if b = 10 then nI (i + 1) else g b) := by
    rw [iv_set_at, hi, nI_1, iv_set_si]
  rw [start]
  refine ⟨fun h63 => ?_, fun h63 hok => ?_, fun h63 hno => ?_⟩
  · have e63 : nI v = 63 := by rw [h63]; rfl
    unfold j_X12_readsSeen_25_l6 j_X12_readsSeen_45_l6
    rw [if_pos e63, if_pos e63, nxt]
  · have e63 : ¬ nI v = 63 := po_nIne (b := 63) (by omega) (by decide) h63
    have hpl : (if iv_seen v = true then nI v - 97 else nI v - 65) = nI (iv_sp0 v) ∧ iv_sp0 v < 12 := by
      unfold iv_sp0
      by_cases hs : 97 ≤ v ∧ v ≤ 108
      · have e : iv_seen v = true := decide_eq_true hs
        have h1 := (po_sub9 (v := v) (k := 97) (K := 97) rfl hv2 (by decide)).2 hs.1
        rw [e, if_pos rfl, if_pos rfl]
        exact ⟨h1, by omega⟩
      · have e : iv_seen v = false := decide_eq_false hs
        rw [e, if_neg (by decide), if_neg (by decide)]
        have h2 : 65 ≤ v ∧ v ≤ 76 := by rcases hok with h | h; exact absurd h hs; exact h
        have h1 := (po_sub9 (v := v) (k := 65) (K := 65) rfl hv2 (by decide)).2 h2.1
        exact ⟨h1, by omega⟩
    have pl : f_X12_isPlace (nI (iv_sp0 v)) (iv_set m 0 g) = T.testBit (iv_sp0 v) := by
      unfold f_X12_isPlace
      have e4 : (iv_set m 0 g).1 0 4 = nI T := hTm
      rw [po_inT (n := 11) rfl (by omega), e4, po_hasM (by omega) (by omega)]
      cases T.testBit (iv_sp0 v) <;> rfl
    have j45 : j_X12_readsSeen_25_l6 (nI n) (nI v) (nI (iv_sp0 v)) (iv_set m 0 g) = j_X12_readsSeen_45_l6 (nI n) (nI v) (nI (iv_sp0 v)) (iv_set m 0 g) := by
      unfold j_X12_readsSeen_25_l6
      rw [if_neg e63, e97, e65]
      rcases hok with h | h
      · have e : iv_seen v = true := decide_eq_true h
        rw [e, if_pos rfl]
      · rw [decide_eq_true h]
        cases iv_seen v with
        | true => rw [if_pos rfl]
        | false => rw [if_neg Bool.false_ne_true, if_pos rfl]
    rw [hpl.1, j45]
    unfold j_X12_readsSeen_45_l6 wk_let
    rw [if_neg e63, pl]
    refine ⟨fun h => ?_, fun h => ?_⟩
    · rw [h, if_pos rfl, nxt]
    · rw [h, if_neg (by decide), wrong]
  · have e63 : ¬ nI v = 63 := po_nIne (b := 63) (by omega) (by decide) h63
    have h1 : iv_seen v = false := decide_eq_false (fun h => hno (Or.inl h))
    unfold j_X12_readsSeen_25_l6 wk_let
    rw [if_neg e63, e97, e65, h1, if_neg (by decide), decide_eq_false (fun h => hno (Or.inr h)), if_neg (by decide), wrong]
