/-! PURE: feed -/
theorem po_255T : ∀ i, i < 32 → 8 ≤ i → (Int32.toBitVec 255).getLsbD i = false := by decide +kernel
theorem po_255 (y : Int32) : y.toInt8.toInt32 &&& 255 = y &&& 255 := by
  refine Int32.toBitVec_inj.mp (BitVec.eq_of_getLsbD_eq (fun i hi => ?_))
  rw [Int32.toBitVec_and, Int32.toBitVec_and, BitVec.getLsbD_and, BitVec.getLsbD_and, Int8.toBitVec_toInt32, Int32.toBitVec_toInt8, BitVec.getLsbD_signExtend, BitVec.getLsbD_signExtend]
  by_cases h8 : i < 8
  · simp [h8, hi]
  · rw [po_255T i hi (by omega), Bool.and_false, Bool.and_false]
theorem po_u255 (x : Int32) {k : Nat} (hk : k ≤ 24) : wk_ushr x (nI k) &&& 255 = (x >>> (nI k &&& 31)) &&& 255 := by
  refine Int32.toBitVec_inj.mp (BitVec.eq_of_getLsbD_eq (fun i hi => ?_))
  rw [Int32.toBitVec_and, Int32.toBitVec_and, BitVec.getLsbD_and, BitVec.getLsbD_and]
  by_cases h8 : i < 8
  · have e1 : (wk_ushr x (nI k)).toBitVec.getLsbD i = x.toBitVec.getLsbD (k + i) := by
      have h := pk_ushr x (nI k) k (po_ush (by omega))
      show (wk_ushr x (nI k)).toBitVec.toNat.testBit i = x.toBitVec.toNat.testBit (k + i)
      have h2 : (wk_ushr x (nI k)).toBitVec.toNat = x.toBitVec.toNat / 2 ^ k := h
      rw [h2, Nat.testBit_div_two_pow, Nat.add_comm]
    have e2 : (x >>> (nI k &&& 31)).toBitVec.getLsbD i = x.toBitVec.getLsbD (k + i) := by
      have hs : ((nI k &&& 31).toBitVec.smod 32).toNat = k := po_sh (by omega)
      rw [Int32.toBitVec_shiftRight, BitVec.getLsbD_sshiftRight']
      have hs2 : (BitVec.smod (nI k &&& 31).toBitVec (32 : BitVec 32)).toNat = k := hs
      rw [hs2, if_pos (by omega)]
      simp
      omega
    rw [e1, e2]
  · rw [po_255T i hi (by omega), Bool.and_false, Bool.and_false]
def iv_tt (c0 l c1 : Nat) (s : wk_St) (j : Nat) (g : Nat → Int32) : wk_St := iv_set (wk_si s c0 l (nI j)) c1 g
theorem iv_tt_0 {c0 l c1 : Nat} {s : wk_St} {j : Nat} (h0 : c0 ≠ c1) (h : s.1 c0 l = nI j) : s = iv_tt c0 l c1 s j (s.1 c1) := by
  unfold iv_tt iv_set wk_si
  refine Prod.ext ?_ rfl
  funext a b
  by_cases ha : a = c1
  · simp [ha]
  · by_cases hb : a = c0 ∧ b = l
    · simp [hb, h, h0]
    · simp [ha, hb]
theorem iv_tt_s {c0 l c1 : Nat} {s : wk_St} {j j2 : Nat} {g : Nat → Int32} {x : Int32} {b : Nat} (h : c0 ≠ c1) : wk_si (wk_si (iv_tt c0 l c1 s j g) c1 b x) c0 l (nI j2) = iv_tt c0 l c1 s j2 (fun i => if i = b then x else g i) := by
  unfold iv_tt iv_set wk_si
  refine Prod.ext ?_ rfl
  funext a i
  by_cases ha : a = c1
  · subst ha
    by_cases hb : i = b
    · simp [hb, h.symm]
    · simp [hb, h.symm]
  · by_cases hc : a = c0 ∧ i = l
    · simp [hc, h]
    · simp [ha, hc]
theorem iv_tt_n {c0 l c1 : Nat} {s : wk_St} {j : Nat} {g : Nat → Int32} (h : c0 ≠ c1) : (iv_tt c0 l c1 s j g).1 c0 l = nI j := by
  unfold iv_tt
  rw [iv_set_off h]
  exact if_pos ⟨rfl, rfl⟩
def iv_byte (v : Int32) (t : Nat) : Int32 := wk_ushr v (nI (24 - 8 * t)) &&& 255
theorem po_append {s : wk_St} {j : Nat} {g : Nat → Int32} {v : Int32} (hj : j + 4 ≤ 260) : ∃ g2, f_X8_append v (iv_tt 1 1 2 s j g) = some (iv_tt 1 1 2 s (j + 4) g2) ∧ (∀ b, b < j → g2 b = g b) ∧ ∀ t, t < 4 → g2 (j + t) = iv_byte v t := by
  obtain ⟨a, ha, g2, rfl, h1, h2⟩ := po_inv (f := S_X8_append_2 v) (fun i p => p.1 = (if i < 4 then nI (24 - 8 * i) else -8) ∧ ∃ g2, p.2 = iv_tt 1 1 2 s (j + i) g2 ∧ (∀ b, b < j → g2 b = g b) ∧ ∀ t, t < i → g2 (j + t) = iv_byte v t)
    (fun a => ∃ g2, a = iv_tt 1 1 2 s (j + 4) g2 ∧ (∀ b, b < j → g2 b = g b) ∧ ∀ t, t < 4 → g2 (j + t) = iv_byte v t) 4 (by
      rintro i ⟨x, s2⟩ hi ⟨hx, g2, hs, h1, h2⟩
      dsimp only at hx hs
      subst hs
      rw [if_pos hi] at hx
      subst hx
      unfold S_X8_append_2
      dsimp only
      rw [if_neg (nI_pos (by omega)), iv_tt_n (by decide), if_neg (nI_pos (by omega)), if_neg (show ¬ nI (j + i) ≥ 260 from nI_ge (a := j + i) (b := 260) (by omega) (by decide)), if_pos (po_wkin (by omega) (by decide)), nI_clamp (by omega)]
      have e : ∀ x : Int32, (wk_si (iv_tt 1 1 2 s (j + i) g2) 2 (j + i) x).1 1 1 = nI (j + i) := fun x => (po_si_c (by decide)).trans (iv_tt_n (by decide))
      rw [e, nI_1, iv_tt_s (by decide)]
      refine ⟨_, rfl, ?_, _, rfl, ?_, ?_⟩
      · dsimp only
        rcases (show i = 0 ∨ i = 1 ∨ i = 2 ∨ i = 3 by omega) with rfl | rfl | rfl | rfl
        all_goals decide
      · intro b hb
        rw [if_neg (by omega)]
        exact h1 b hb
      · intro t ht
        by_cases hti : t = i
        · subst hti
          rw [if_pos rfl]
          rfl
        · rw [if_neg (by omega)]
          exact h2 t (by omega)) (by
      rintro ⟨x, s2⟩ ⟨hx, g2, hs, h1, h2⟩
      dsimp only at hx hs
      subst hs
      rw [if_neg (by decide)] at hx
      subst hx
      unfold S_X8_append_2
      dsimp only
      rw [if_pos (by decide)]
      exact ⟨_, rfl, g2, rfl, h1, h2⟩) (by decide) (p := ((24 : Int32), iv_tt 1 1 2 s j g)) ⟨(by decide : (24 : Int32) = if 0 < 4 then nI (24 - 8 * 0) else -8), g, rfl, fun _ _ => rfl, fun t ht => by omega⟩
  refine ⟨g2, ?_, h1, h2⟩
  unfold f_X8_append
  rw [ha]
  rfl
theorem po_types {s : wk_St} {j : Nat} {g : Nat → Int32} {v : Int32} (hj : j + 4 ≤ 260) : ∃ g2, f_X12_types v (iv_tt 0 9 7 s j g) = some (iv_tt 0 9 7 s (j + 4) g2) ∧ (∀ b, b < j → g2 b = g b) ∧ ∀ t, t < 4 → g2 (j + t) &&& 255 = iv_byte v t := by
  obtain ⟨a, ha, g2, rfl, h1, h2⟩ := po_inv (f := S_X12_types_2 v) (fun i p => p.1 = (if i < 4 then nI (3 - i) else -1) ∧ ∃ g2, p.2 = iv_tt 0 9 7 s (j + i) g2 ∧ (∀ b, b < j → g2 b = g b) ∧ ∀ t, t < i → g2 (j + t) &&& 255 = iv_byte v t)
    (fun a => ∃ g2, a = iv_tt 0 9 7 s (j + 4) g2 ∧ (∀ b, b < j → g2 b = g b) ∧ ∀ t, t < 4 → g2 (j + t) &&& 255 = iv_byte v t) 4 (by
      rintro i ⟨x, s2⟩ hi ⟨hx, g2, hs, h1, h2⟩
      dsimp only at hx hs
      subst hs
      rw [if_pos hi] at hx
      subst hx
      unfold S_X12_types_2
      dsimp only
      rw [if_neg (nI_pos (by omega)), iv_tt_n (by decide), if_pos (po_wkin (by omega) (by decide)), nI_clamp (by omega)]
      have e : ∀ x : Int32, (wk_si (iv_tt 0 9 7 s (j + i) g2) 7 (j + i) x).1 0 9 = nI (j + i) := fun x => (po_si_c (by decide)).trans (iv_tt_n (by decide))
      rw [e, nI_1, iv_tt_s (by decide)]
      refine ⟨_, rfl, ?_, _, rfl, ?_, ?_⟩
      · dsimp only
        rcases (show i = 0 ∨ i = 1 ∨ i = 2 ∨ i = 3 by omega) with rfl | rfl | rfl | rfl
        all_goals decide
      · intro b hb
        rw [if_neg (by omega)]
        exact h1 b hb
      · intro t ht
        by_cases hti : t = i
        · subst hti
          have e8 : (8 : Int32) * nI (3 - t) = nI (24 - 8 * t) := by
            have := pk_mul 8 (3 - t)
            rw [show 8 * (3 - t) = 24 - 8 * t by omega] at this
            exact this
          rw [if_pos rfl, po_255, po_255, e8, ← po_u255 v (by omega)]
          rfl
        · rw [if_neg (by omega)]
          exact h2 t (by omega)) (by
      rintro ⟨x, s2⟩ ⟨hx, g2, hs, h1, h2⟩
      dsimp only at hx hs
      subst hs
      rw [if_neg (by decide)] at hx
      subst hx
      unfold S_X12_types_2
      dsimp only
      rw [if_pos (by decide)]
      exact ⟨_, rfl, g2, rfl, h1, h2⟩) (by decide) (p := ((3 : Int32), iv_tt 0 9 7 s j g)) ⟨(by decide : (3 : Int32) = if 0 < 4 then nI (3 - 0) else -1), g, rfl, fun _ _ => rfl, fun t ht => by omega⟩
  refine ⟨g2, ?_, h1, h2⟩
  unfold f_X12_types
  rw [ha]
  rfl
theorem po_feed4 {s t : wk_St} {j : Nat} {g h : Nat → Int32} (v : Int32) (hj : j + 4 ≤ 260) (hR : ∀ i, i < j → g i = h i &&& 255) : ∃ g2 h2, f_X8_append v (iv_tt 1 1 2 s j g) = some (iv_tt 1 1 2 s (j + 4) g2) ∧ f_X12_types v (iv_tt 0 9 7 t j h) = some (iv_tt 0 9 7 t (j + 4) h2) ∧ ∀ i, i < j + 4 → g2 i = h2 i &&& 255 := by
  obtain ⟨g2, e1, a1, a2⟩ := po_append (s := s) (g := g) (v := v) hj
  obtain ⟨h2, e2, b1, b2⟩ := po_types (s := t) (g := h) (v := v) hj
  refine ⟨g2, h2, e1, e2, fun i hi => ?_⟩
  by_cases hij : i < j
  · rw [a1 i hij, b1 i hij]; exact hR i hij
  · obtain ⟨q, rfl⟩ : ∃ q, i = j + q := ⟨i - j, by omega⟩
    rw [a2 q (by omega), b2 q (by omega)]
theorem po_op_4 : lw_op_4 iv_I := by
  intro a0 a1 a2 a3 a4 σC σM hI
  have hI2 := hI
  obtain ⟨T, w, N, ⟨j, j1, j2, j3, j4⟩, hF, hH, hR, hK, hL⟩ := hI
  have eq20 : ∀ i : Nat, i ≤ 260 → nI i + 20 = nI (i + 20) := fun i _ => nI_add i 20
  by_cases hroom : j + 20 ≤ 260
  · obtain ⟨g1, k1, c1, m1, r1⟩ := po_feed4 (s := σC) (t := σM) a0 (j := j) (by omega) j4
    obtain ⟨g2, k2, c2, m2, r2⟩ := po_feed4 (s := σC) (t := σM) a1 (j := j + 4) (by omega) r1
    obtain ⟨g3, k3, c3, m3, r3⟩ := po_feed4 (s := σC) (t := σM) a2 (j := j + 4 + 4) (by omega) r2
    obtain ⟨g4, k4, c4, m4, r4⟩ := po_feed4 (s := σC) (t := σM) a3 (j := j + 4 + 4 + 4) (by omega) r3
    obtain ⟨g5, k5, c5, m5, r5⟩ := po_feed4 (s := σC) (t := σM) a4 (j := j + 4 + 4 + 4 + 4) (by omega) r4
    have eC : f_X11_feed a0 a1 a2 a3 a4 σC = some (nI (j + 4 + 4 + 4 + 4 + 4), iv_tt 1 1 2 σC (j + 4 + 4 + 4 + 4 + 4) g5) := by
      unfold f_X11_feed f_X8_hasRoom
      rw [j2, eq20 j j1, if_neg (show ¬ nI (j + 20) > 260 from nI_nlt (a := 260) (b := j + 20) hroom (by decide)), if_pos rfl]
      have c1' : f_X8_append a0 σC = some (iv_tt 1 1 2 σC (j + 4) g1) := by
        rw [← iv_tt_0 (by decide) j2] at c1
        exact c1
      rw [c1']
      dsimp only [Option.bind]
      rw [c2]
      dsimp only [Option.bind]
      rw [c3]
      dsimp only [Option.bind]
      rw [c4]
      dsimp only [Option.bind]
      rw [c5]
      dsimp only [Option.bind]
      rw [iv_tt_n (by decide)]
    have eM : f_X12_feed a0 a1 a2 a3 a4 σM = some (nI (j + 4 + 4 + 4 + 4 + 4), iv_tt 0 9 7 σM (j + 4 + 4 + 4 + 4 + 4) k5) := by
      unfold f_X12_feed
      rw [j3, eq20 j j1, if_pos (show nI (j + 20) ≤ 260 from nI_le (a := j + 20) (b := 260) hroom (by decide))]
      have m1' : f_X12_types a0 σM = some (iv_tt 0 9 7 σM (j + 4) k1) := by
        rw [← iv_tt_0 (by decide) j3] at m1
        exact m1
      rw [m1']
      dsimp only [Option.bind]
      rw [m2]
      dsimp only [Option.bind]
      rw [m3]
      dsimp only [Option.bind]
      rw [m4]
      dsimp only [Option.bind]
      rw [m5]
      dsimp only [Option.bind]
      rw [iv_tt_n (by decide)]
    exact ⟨_, _, _, (t_X11_feed eC).up (by decide), (t_X12_feed eM).up (by decide), T, w, N, ⟨j + 4 + 4 + 4 + 4 + 4, by omega, iv_tt_n (by decide), iv_tt_n (by decide), r5⟩, hF, hH, hR, hK, hL⟩
  · refine ⟨-1, σC, σM, (t_X11_feed (r := (-1, σC)) ?_).up (by decide), (t_X12_feed (r := (-1, σM)) ?_).up (by decide), hI2⟩
    · unfold f_X11_feed f_X8_hasRoom
      rw [j2, eq20 j j1, if_pos (show nI (j + 20) > 260 from nI_lt (a := 260) (b := j + 20) (by omega) (by omega))]
      rfl
    · unfold f_X12_feed
      rw [j3, eq20 j j1, if_neg (show ¬ nI (j + 20) ≤ 260 from fun h => hroom ((nI_leI (a := j + 20) (b := 260) (by omega) (by decide)).mp h))]
