/-! PURE: boots: the op -/
def iv_bb (f : Nat → Bool) : Nat → Nat
  | 0 => 0
  | n + 1 => if f n = true then iv_bb f n ||| 2 ^ n else iv_bb f n
theorem iv_bb_lt {f : Nat → Bool} : ∀ n, n ≤ 12 → iv_bb f n < 4096 := by
  intro n
  induction n with
  | zero => intro _; exact (by decide : 0 < 4096)
  | succ n ih =>
    intro hn
    have h2 : 2 ^ n < 2 ^ 12 := Nat.pow_lt_pow_right (by decide) (by omega)
    unfold iv_bb
    split
    · exact Nat.or_lt_two_pow (n := 12) (ih (by omega)) h2
    · exact ih (by omega)
theorem po_bbC {c : wk_St} {W : Nat → Nat} (hW : ∀ p, W p ≤ 1000000000) (hg : ∀ p, p < 12 → c.2 29 p = lN (W p)) : f_X9_bootsBits c = some (nI (iv_bb (fun p => decide (0 < W p)) 12)) := by
  have e : wk_loop (S_X9_bootsBits_4 c) wk_F ((0 : Int32), (0 : Int32)) = some (nI (iv_bb (fun p => decide (0 < W p)) 12)) := by
    refine po_for (fun i => (nI (iv_bb (fun p => decide (0 < W p)) i), nI i)) 12 rfl ?_ ?_ (by decide)
    · intro j hj
      have hlt := iv_bb_lt (f := fun p => decide (0 < W p)) j (by omega)
      have h2 : 2 ^ j < 2 ^ 12 := Nat.pow_lt_pow_right (by decide) hj
      have hWj := hW j
      show _ = some (Sum.inr (nI (if decide (0 < W j) = true then iv_bb (fun p => decide (0 < W p)) j ||| 2 ^ j else iv_bb (fun p => decide (0 < W p)) j), nI (j + 1)))
      unfold S_X9_bootsBits_4 wk_let
      dsimp only
      rw [if_neg (po_n12 hj), if_pos (po_wkin hj (by decide)), nI_clamp (by omega), hg j hj, po_bit (by omega), po_or (by omega) (by omega), po_or0 (by omega), nI_1]
      by_cases h0 : W j = 0
      · rw [if_pos ((po_lpos (by omega)).mpr h0), decide_eq_false (by omega), if_neg Bool.false_ne_true]
      · rw [if_neg (fun k => h0 ((po_lpos (by omega)).mp k)), decide_eq_true (by omega), if_pos rfl]
    · unfold S_X9_bootsBits_4
      dsimp only
      rw [if_pos (by decide)]
  unfold f_X9_bootsBits
  rw [e]
  rfl
theorem po_bwC {c : wk_St} {W : Nat → Nat} (hW : ∀ p, W p ≤ 1000000000) (hg : ∀ p, p < 12 → c.2 29 p = lN (W p)) : f_X9_bootsWays c = some (nI (min (iv_sN (fun _ => true) W 12) 1000000000)) := by
  have e : wk_loop (S_X9_bootsWays_4 c) wk_F ((0 : Int64), (0 : Int32)) = some (lN (iv_sN (fun _ => true) W 12)) := by
    refine po_for (fun i => (lN (iv_sN (fun _ => true) W i), nI i)) 12 rfl ?_ ?_ (by decide)
    · intro j hj
      show _ = some (Sum.inr (lN (iv_sN (fun _ => true) W j + W j), nI (j + 1)))
      unfold S_X9_bootsWays_4 wk_let
      dsimp only
      rw [if_neg (po_n12 hj), if_pos (po_wkin hj (by decide)), nI_clamp (by omega), hg j hj, lN_add, nI_1]
    · unfold S_X9_bootsWays_4
      dsimp only
      rw [if_pos (by decide)]
  have hs := iv_sN_le (f := fun _ => true) (W := W) (B := 1000000000) 12 (fun q _ => hW q)
  have emin : f_J9_min_f86c9 (lN (iv_sN (fun _ => true) W 12)) 1000000000 = lN (min (iv_sN (fun _ => true) W 12) 1000000000) := po_minL (b := 1000000000) (by omega) (by decide)
  unfold f_X9_bootsWays
  rw [e]
  dsimp only [Option.bind]
  rw [emin, lN_i]
theorem po_b128 {m : wk_St} {W : Nat → Nat} {x3 : Int32} (hW : ∀ p, W p ≤ 1000000000) (hg : ∀ p, p < 12 → m.1 29 p = nI (W p)) : wk_loop (S_X12_boots_128 x3) wk_F ((0 : Int32), (0 : Int32), (0 : Int32), m) = some (nI (iv_bb (fun p => decide (0 < W p)) 12), nI (min (iv_sN (fun _ => true) W 12) 1000000000), m) := by
  refine po_for (fun i => (nI (iv_bb (fun p => decide (0 < W p)) i), nI (min (iv_sN (fun _ => true) W i) 1000000000), nI i, m)) 12 rfl ?_ ?_ (by decide)
  · intro j hj
    have hlt := iv_bb_lt (f := fun p => decide (0 < W p)) j (by omega)
    have h2 : 2 ^ j < 2 ^ 12 := Nat.pow_lt_pow_right (by decide) hj
    have hWj := hW j
    have hmin : min (iv_sN (fun _ => true) W j) 1000000000 ≤ 1000000000 := Nat.min_le_right _ _
    have e1 : f_X12_min 1000000000 (nI (min (iv_sN (fun _ => true) W j) 1000000000 + W j)) = nI (min (min (iv_sN (fun _ => true) W j) 1000000000 + W j) 1000000000) := po_minI (a := 1000000000) (by decide) (by omega)
    have e2 : min (min (iv_sN (fun _ => true) W j) 1000000000 + W j) 1000000000 = min (iv_sN (fun _ => true) W j + W j) 1000000000 := by omega
    show _ = some (Sum.inr (nI (if decide (0 < W j) = true then iv_bb (fun p => decide (0 < W p)) j ||| 2 ^ j else iv_bb (fun p => decide (0 < W p)) j), nI (min (iv_sN (fun _ => true) W j + W j) 1000000000), nI (j + 1), m))
    unfold S_X12_boots_128 j_X12_boots_142_l128 wk_let
    dsimp only
    rw [if_neg (po_n12 hj), if_pos (po_wkin hj (by decide)), nI_clamp (by omega), hg j hj, po_bit (by omega), po_or (by omega) (by omega), po_or0 (by omega), nI_1, nI_add, e1, e2]
    by_cases h0 : W j = 0
    · rw [h0, if_pos (by decide), if_pos (po_wkin hj (by decide)), if_neg (by decide)]
    · have hgt : ¬ nI (W j) ≤ 0 := by
        intro h
        have := (nI_leI (a := W j) (b := 0) (by omega) (by decide)).mp h
        omega
      rw [if_neg hgt, if_pos (po_wkin hj (by decide)), decide_eq_true (by omega), if_pos rfl]
  · unfold S_X12_boots_128
    dsimp only
    rw [if_pos (by decide)]
theorem po_faT : (List.range 260).all (fun i => (List.range 10).all (fun f => decide (f = 0 ∨ f_X11_faultOf (nI f) (nI i) < 0))) = true := by decide +kernel
theorem po_fa {f i : Nat} (hf : f < 10) (hf0 : f ≠ 0) (hi : i < 260) : ¬ f_X11_faultOf (nI f) (nI i) ≥ 0 := by
  have h := of_decide_eq_true (List.all_eq_true.mp (List.all_eq_true.mp po_faT i (List.mem_range.mpr hi)) f (List.mem_range.mpr hf))
  have h2 := h.resolve_left hf0
  show ¬ (0 : Int32) ≤ _
  rw [Int32.lt_iff_toInt_lt] at h2
  rw [Int32.le_iff_toInt_le]
  omega
/-- the model's fields while it reads what was seen -/
def iv_sn (m : wk_St) (g : Nat → Int32) : Prop := ∀ b, b ≠ 10 → b ≠ 11 → b ≠ 12 → g b = m.1 0 b
theorem po_bootL {c m : wk_St} {N : Nat → Nat} {T n j p0 : Nat} (hT : T < 4096) (hTc : c.1 3 4 = nI T) (hTm : m.1 0 4 = nI T) (hj : c.1 1 1 = nI j) (hj2 : j ≤ 260) (hn : n ≤ 20) (hnj : n ≤ j) (hb : ∀ i, i < j → c.1 2 i = m.1 7 i &&& 255) (hN : ∀ r, r < 12 → N r < 4096 ∧ c.1 4 r = nI (N r)) (hp0 : p0 < 12) :
    ∃ a b, f_X9_followBoots (nI p0) (nI n) c = some a ∧ f_X12_readsSeen (nI n) m = some b ∧
      ((∃ f i g28 g29 g, f < 10 ∧ f ≠ 0 ∧ i < 260 ∧ a = (f_X11_faultOf (nI f) (nI i), iv_L2 c g28 g29) ∧ b = (false, iv_set m 0 g) ∧ g 12 = f_X11_faultOf (nI f) (nI i) ∧ iv_sn m g) ∨
       (∃ g28 g29 g, a = (0, iv_L2 c g28 g29) ∧ b = (true, iv_set m 0 g) ∧ iv_sn m g ∧ (∀ p, p < 12 → g29 p = lN (iv_W N (m.1 7) p0 n p)) ∧ ∀ i, i < n → iv_o (m.1 7) i = 63 ∨ (97 ≤ iv_o (m.1 7) i ∧ iv_o (m.1 7) i ≤ 108) ∨ (65 ≤ iv_o (m.1 7) i ∧ iv_o (m.1 7) i ≤ 76))) := by
  have e2 : wk_loop (S_X9_followBoots_2 (nI p0) (nI n)) wk_F ((0 : Int32), c) = some (iv_L2 c (c.2 28) (fun b => if b < 12 then lN (iv_W N (m.1 7) p0 0 b) else c.2 29 b)) := by
    refine po_for (fun i => (nI i, iv_L2 c (c.2 28) (fun b => if b < i then lN (iv_W N (m.1 7) p0 0 b) else c.2 29 b))) 12 ?_ ?_ ?_ (by decide)
    · refine Prod.ext rfl ?_
      show c = iv_L2 c (c.2 28) _
      have e : (fun b => if b < 0 then lN (iv_W N (m.1 7) p0 0 b) else c.2 29 b) = c.2 29 := by
        funext b
        rw [if_neg (by omega)]
      rw [e, iv_L2_id]
    · intro j hj
      have e0 : ∀ b, iv_W N (m.1 7) p0 0 b = if b = p0 then 1 else 0 := fun b => rfl
      have fin : ∀ v, v = lN (iv_W N (m.1 7) p0 0 j) → (fun b => if b = j then v else if b < j then lN (iv_W N (m.1 7) p0 0 b) else c.2 29 b) = (fun b => if b < j + 1 then lN (iv_W N (m.1 7) p0 0 b) else c.2 29 b) := by
        intro v hv
        funext b
        by_cases hbj : b = j
        · rw [if_pos hbj, if_pos (by omega), hv, hbj]
        · rw [if_neg hbj]
          have : b < j ↔ b < j + 1 := by omega
          simp only [this]
      unfold S_X9_followBoots_2
      dsimp only
      rw [if_neg (po_n12 hj), if_pos (po_wkin hj (by decide)), if_pos (po_wkin hj (by decide)), nI_clamp (by omega), iv_L2_29, iv_L2_29, nI_1]
      by_cases hjp : j = p0
      · rw [if_neg (not_not_intro (congrArg nI hjp)), fin 1 (by rw [e0, if_pos hjp]; rfl)]
      · rw [if_pos (po_nIne (by omega) (by omega) hjp), fin 0 (by rw [e0, if_neg hjp]; rfl)]
    · unfold S_X9_followBoots_2
      dsimp only
      rw [if_pos (by decide)]
  obtain ⟨a, b, e3, e4, h⟩ := po_relE (F := wk_F) (G := wk_F) (f := S_X9_followBoots_19 (nI n)) (g := S_X12_readsSeen_6 (nI n))
    (fun i x y => ∃ g28 g29 g, x = (nI i, iv_L2 c g28 g29) ∧ y = iv_set m 0 g ∧ g 10 = nI i ∧ g 11 = nI n ∧ iv_sn m g ∧ (∀ p, p < 12 → g29 p = lN (iv_W N (m.1 7) p0 i p)) ∧ ∀ k, k < i → iv_o (m.1 7) k = 63 ∨ (97 ≤ iv_o (m.1 7) k ∧ iv_o (m.1 7) k ≤ 108) ∨ (65 ≤ iv_o (m.1 7) k ∧ iv_o (m.1 7) k ≤ 76))
    (fun a b => (∃ f i g28 g29 g, f < 10 ∧ f ≠ 0 ∧ i < 260 ∧ a = Sum.inl (f_X11_faultOf (nI f) (nI i), iv_L2 c g28 g29) ∧ b = Sum.inl (false, iv_set m 0 g) ∧ g 12 = f_X11_faultOf (nI f) (nI i) ∧ iv_sn m g) ∨
       (∃ g28 g29 g, a = Sum.inr (iv_L2 c g28 g29) ∧ b = Sum.inr (iv_set m 0 g) ∧ iv_sn m g ∧ (∀ p, p < 12 → g29 p = lN (iv_W N (m.1 7) p0 n p)) ∧ ∀ i, i < n → iv_o (m.1 7) i = 63 ∨ (97 ≤ iv_o (m.1 7) i ∧ iv_o (m.1 7) i ≤ 108) ∨ (65 ≤ iv_o (m.1 7) i ∧ iv_o (m.1 7) i ≤ 76))) n (by
      rintro i x y hi ⟨g28, g29, g, rfl, rfl, h10, h11, hsn, hg, hok⟩
      have hC := po_bootC (c := c) (N := N) (W := iv_W N (m.1 7) p0 i) (T := T) (v := iv_o (m.1 7) i) (i := i) (n := n) (j := j) (g28 := g28) (g29 := g29) hT hTc hj hj2 hi hn hnj (by rw [hb i (by omega), iv_o_e]) iv_o_lt hN (fun p => iv_W_le i) hg
      have hM := po_bootM (m := m) (T := T) (v := iv_o (m.1 7) i) (n := n) (i := i) (g := g) hT (by rw [hsn 4 (by decide) (by decide) (by decide), hTm]) h10 h11 hi hn iv_o_e iv_o_lt
      have snx : iv_sn m (fun b => if b = 10 then nI (i + 1) else g b) := fun b b1 b2 b3 => by
        dsimp only
        rw [if_neg b1]; exact hsn b b1 b2 b3
      have snf : ∀ v, iv_sn m (fun b => if b = 12 then v else g b) := fun v b b1 b2 b3 => by
        dsimp only
        rw [if_neg b3]; exact hsn b b1 b2 b3
      have okn : (iv_o (m.1 7) i = 63 ∨ (97 ≤ iv_o (m.1 7) i ∧ iv_o (m.1 7) i ≤ 108) ∨ (65 ≤ iv_o (m.1 7) i ∧ iv_o (m.1 7) i ≤ 76)) → ∀ k, k < i + 1 → iv_o (m.1 7) k = 63 ∨ (97 ≤ iv_o (m.1 7) k ∧ iv_o (m.1 7) k ≤ 108) ∨ (65 ≤ iv_o (m.1 7) k ∧ iv_o (m.1 7) k ≤ 76) := fun h k hk => by
        by_cases hki : k = i
        · rw [hki]; exact h
        · exact hok k (by omega)
      rcases hC with ⟨h63, h28, h29, e5, hh⟩ | ⟨h63, hr, (⟨hTt, h28, h29, e5, hh⟩ | ⟨hTf, e5⟩)⟩ | ⟨h63, hr, e5⟩
      · left
        exact ⟨_, _, e5, hM.1 h63, h28, h29, _, rfl, rfl, rfl, h11, snx, hh, okn (Or.inl h63)⟩
      · left
        exact ⟨_, _, e5, (hM.2.1 h63 hr).1 hTt, h28, h29, _, rfl, rfl, rfl, h11, snx, hh, okn (Or.inr hr)⟩
      · right
        exact ⟨_, _, e5, (hM.2.1 h63 hr).2 hTf, Or.inl ⟨7, i, g28, g29, _, by decide, by decide, by omega, rfl, rfl, rfl, snf _⟩⟩
      · right
        exact ⟨_, _, e5, hM.2.2 h63 hr, Or.inl ⟨1, i, g28, g29, _, by decide, by decide, by omega, rfl, rfl, rfl, snf _⟩⟩) (by
      rintro x y ⟨g28, g29, g, rfl, rfl, h10, h11, hsn, hg, hok⟩
      unfold S_X9_followBoots_19 S_X12_readsSeen_6
      dsimp only
      rw [if_pos (nI_le (Nat.le_refl n) (by omega)), iv_set_at, h10, if_pos (nI_le (Nat.le_refl n) (by omega))]
      exact ⟨_, _, rfl, rfl, Or.inr ⟨g28, g29, g, rfl, rfl, hsn, hg, hok⟩⟩) (show n < 4096 by omega) (show n < 4096 by omega)
    (p := ((0 : Int32), iv_L2 c (c.2 28) (fun b => if b < 12 then lN (iv_W N (m.1 7) p0 0 b) else c.2 29 b))) (q := wk_si (wk_si m 0 10 0) 0 11 (nI n))
    ⟨_, _, fun b => if b = 11 then nI n else if b = 10 then 0 else m.1 0 b, rfl, by
      have h0 : wk_si m 0 10 0 = iv_set m 0 (fun b => if b = 10 then 0 else m.1 0 b) := by
        have := iv_set_si (s := m) (c := 0) (j := 10) (g := m.1 0) (x := 0)
        rw [iv_set_id] at this
        exact this
      rw [h0, iv_set_si], rfl, rfl, fun b b1 b2 b3 => by
      dsimp only
      rw [if_neg b2, if_neg b1], fun p hp => if_pos hp, fun k hk => by omega⟩
  rcases h with ⟨f, i, g28, g29, g, k1, k2, k3, rfl, rfl, k4, k5⟩ | ⟨g28, g29, g, rfl, rfl, k1, k2, k3⟩
  · refine ⟨(f_X11_faultOf (nI f) (nI i), iv_L2 c g28 g29), (false, iv_set m 0 g), ?_, ?_, Or.inl ⟨f, i, g28, g29, g, k1, k2, k3, rfl, rfl, k4, k5⟩⟩
    · unfold f_X9_followBoots
      rw [e2]
      dsimp only [Option.bind]
      rw [e3]
    · unfold f_X12_readsSeen
      rw [e4]; rfl
  · refine ⟨(0, iv_L2 c g28 g29), (true, iv_set m 0 g), ?_, ?_, Or.inr ⟨g28, g29, g, rfl, rfl, k1, k2, k3⟩⟩
    · unfold f_X9_followBoots
      rw [e2]
      dsimp only [Option.bind]
      rw [e3]
    · unfold f_X12_readsSeen
      rw [e4]; rfl
theorem po_b34 {m : wk_St} {g h : Nat → Int32} {p0 : Nat} {x2 x3 : Int32} {N : Nat → Nat} {hh : Nat → Int32} (hp0 : p0 < 12) : ∃ g2, wk_loop (S_X12_boots_34 (nI p0) x2 x3) wk_F ((0 : Int32), iv_M2 m g h) = some (iv_M2 m g2 h) ∧ ∀ p, p < 12 → g2 p = nI (iv_W N hh p0 0 p) := by
  refine ⟨fun b => if b < 12 then nI (iv_W N hh p0 0 b) else g b, ?_, fun p hp => if_pos hp⟩
  refine po_for (fun i => (nI i, iv_M2 m (fun b => if b < i then nI (iv_W N hh p0 0 b) else g b) h)) 12 ?_ ?_ ?_ (by decide)
  · refine Prod.ext rfl ?_
    show iv_M2 m g h = iv_M2 m _ h
    refine congrArg (fun x => iv_M2 m x h) ?_
    funext b
    rw [if_neg (by omega)]
  · intro j hj
    have e0 : ∀ b, iv_W N hh p0 0 b = if b = p0 then 1 else 0 := fun b => rfl
    have fin : ∀ v, v = nI (iv_W N hh p0 0 j) → (fun b => if b = j then v else if b < j then nI (iv_W N hh p0 0 b) else g b) = (fun b => if b < j + 1 then nI (iv_W N hh p0 0 b) else g b) := by
      intro v hv
      funext b
      by_cases hbj : b = j
      · rw [if_pos hbj, if_pos (by omega), hv, hbj]
      · rw [if_neg hbj]
        have : b < j ↔ b < j + 1 := by omega
        simp only [this]
    unfold S_X12_boots_34
    dsimp only
    rw [if_neg (po_n12 hj), if_pos (po_wkin hj (by decide)), if_pos (po_wkin hj (by decide)), nI_clamp (by omega), iv_M2_29, iv_M2_29, nI_1]
    by_cases hjp : j = p0
    · rw [if_neg (not_not_intro (congrArg nI hjp)), fin 1 (by rw [e0, if_pos hjp]; rfl)]
    · rw [if_pos (po_nIne (by omega) (by omega) hjp), fin 0 (by rw [e0, if_neg hjp]; rfl)]
  · unfold S_X12_boots_34
    dsimp only
    rw [if_pos (by decide)]
theorem iv_M2_id {m : wk_St} : iv_M2 m (m.1 29) (m.1 30) = m := by
  unfold iv_M2 iv_set
  refine Prod.ext ?_ rfl
  funext a b
  by_cases h9 : a = 30
  · subst h9; simp
  · by_cases h8 : a = 29
    · subst h8; simp
    · simp [h9, h8]
theorem po_op_21 : lw_op_21 iv_I := by
  intro a0 a1 a2 σC σM hI
  have hI2 := hI
  obtain ⟨T, w, N, ⟨j, j1, j2, j3, j4⟩, hF, hH, hR, hK, hL⟩ := hI
  have hF2 := hF
  obtain ⟨f1, f2, f3, f4, f5, f6, f7, f8, f9, f10⟩ := hF
  have go : ∀ r c2 m2, f_X11_boots a0 a1 a2 σC = some (r, c2) → f_X12_boots a0 a1 a2 σM = some (r, m2) → iv_I c2 m2 → ∃ (r : Int32) (σC2 σM2 : wk_St), wk_T wk_shC 200 22 [.ref 0, .int a0, .int a1, .int a2] σC (some (.int r), σC2) ∧ wk_T wk_shM 200 124 [.ref 0, .int a0, .int a1, .int a2] σM (some (.int r), σM2) ∧ iv_I σC2 σM2 := fun r c2 m2 e1 e2 e3 => ⟨r, c2, m2, (t_X11_boots e1).up (by decide), (t_X12_boots e2).up (by decide), e3⟩
  unfold f_X11_boots f_X12_boots wk_let at go
  rw [po_W, po_has j2, j3] at go
  rcases po_toldF (x := a0) hF2 with ⟨c1, m1⟩ | ⟨c1, m1, p, hp, rfl, hTp⟩
  · rw [c1, m1] at go
    exact go (-1) _ _ rfl rfl hI2
  rw [c1, m1] at go
  cases hin : f_X12_in a1 1 20 with
  | false =>
    rw [hin] at go
    exact go (-1) _ _ rfl rfl hI2
  | true =>
    obtain ⟨n, n1, n2, rfl⟩ := po_inA (a := 1) (b := 20) rfl rfl hin
    rw [hin, Bool.true_and] at go
    cases hin2 : f_X12_in a2 0 1 with
    | false =>
      rw [hin2] at go
      refine go (-1) _ _ ?_ rfl hI2
      cases decide (nI n ≤ nI j) <;> rfl
    | true =>
      rw [hin2] at go
      by_cases hle : nI n ≤ nI j
      · have hnj := (nI_leI (by omega) (by omega)).mp hle
        obtain ⟨a, b, k1, k2, k3⟩ := po_bootL (c := σC) (m := σM) (p0 := p) f1 f3 f5 j2 j1 n2 hnj j4 f7 hp
        have same : ∀ g28 g29 g, iv_sn σM g → iv_I (wk_si (iv_L2 σC g28 g29) 1 1 0) (wk_si (iv_set σM 0 g) 0 9 0) := by
          intro g28 g29 g hg
          have hs : iv_sM (wk_si σM 0 9 0) (wk_si (iv_set σM 0 g) 0 9 0) := by
            refine ⟨hg 4 ?_ ?_ ?_, hg 5 ?_ ?_ ?_, rfl, hg 18 ?_ ?_ ?_, hg 57 ?_ ?_ ?_, rfl, rfl, rfl, rfl, rfl, rfl, rfl, rfl, rfl, rfl, rfl⟩ <;> decide
          exact iv_I_s (iv_I_tape hI2) ⟨rfl, rfl, rfl, rfl, rfl, rfl, rfl, rfl, rfl, rfl, rfl, rfl, rfl, rfl, rfl, rfl, rfl, rfl, rfl, rfl, rfl, rfl, rfl, rfl, rfl⟩ hs
        rw [decide_eq_true hle, k1, k2, if_pos hle] at go
        simp only [Bool.true_eq_false, if_false, if_true, eq_self, Option.bind] at go
        rcases k3 with ⟨f, i, g28, g29, g, q1, q2, q3, rfl, rfl, q4, q5⟩ | ⟨g28, g29, g, rfl, rfl, q1, q2, q3⟩
        · refine go _ _ _ (if_neg (po_fa q1 q2 q3)) ?_ (same g28 g29 g q5)
          dsimp only
          rw [if_neg (by decide)]
          refine congrArg (fun x => some (x, wk_si (iv_set σM 0 g) 0 9 0)) ?_
          exact q4
        · dsimp only at go
          have hWle : ∀ p', iv_W N (σM.1 7) p n p' ≤ 1000000000 := fun p' => iv_W_le n
          obtain ⟨g2, e34, hg2⟩ := po_b34 (m := wk_si (iv_set σM 0 g) 0 9 0) (g := σM.1 29) (h := σM.1 30) (x2 := nI n) (x3 := a2) (N := N) (hh := σM.1 7) hp
          have eid : iv_M2 (wk_si (iv_set σM 0 g) 0 9 0) (σM.1 29) (σM.1 30) = wk_si (iv_set σM 0 g) 0 9 0 := iv_M2_id (m := wk_si (iv_set σM 0 g) 0 9 0)
          rw [eid] at e34
          obtain ⟨g3, h3, e51, hg3⟩ := po_b51 (m := wk_si (iv_set σM 0 g) 0 9 0) (N := N) (g := g2) (h := σM.1 30) (n := n) (p0 := p) (x3 := a2) f8 n2 q3 hg2
          have e128 := po_b128 (m := iv_M2 (wk_si (iv_set σM 0 g) 0 9 0) g3 h3) (x3 := a2) hWle hg3
          rw [e34] at go
          dsimp only at go
          rw [e51] at go
          dsimp only at go
          rw [e128] at go
          dsimp only at go
          have eB := po_bbC (c := f_X8_clear (iv_L2 σC g28 g29)) hWle q2
          have eW := po_bwC (c := f_X8_clear (iv_L2 σC g28 g29)) hWle q2
          rw [eB, eW, if_pos (by decide), if_pos rfl] at go
          have same2 : iv_I (f_X8_clear (iv_L2 σC g28 g29)) (iv_M2 (wk_si (iv_set σM 0 g) 0 9 0) g3 h3) := iv_I_s (same g28 g29 g q1) iv_sC_r ⟨rfl, rfl, rfl, rfl, rfl, rfl, rfl, rfl, rfl, rfl, rfl, rfl, rfl, rfl, rfl, rfl⟩
          by_cases h0 : a2 = 0
          · rw [if_neg (not_not_intro h0), if_neg (not_not_intro h0)] at go
            exact go _ _ _ rfl rfl same2
          · rw [if_pos h0, if_pos h0] at go
            exact go _ _ _ rfl rfl same2
      · rw [decide_eq_false hle, if_neg hle] at go
        exact go (-1) _ _ rfl rfl hI2
