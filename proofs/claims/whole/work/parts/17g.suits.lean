/-! PURE: suits, the sets of suits -/
theorem po_relF {A B P Q : Type} {f : P → Option (A ⊕ P)} {g : Q → Option (B ⊕ Q)} {F G : Nat} (I : Nat → P → Q → Prop) (Z : A → B → Prop) (n : Nat) (hs : ∀ j p q, j < n → I j p q → ∃ p2 q2, f p = some (Sum.inr p2) ∧ g q = some (Sum.inr q2) ∧ I (j + 1) p2 q2) (he : ∀ p q, I n p q → ∃ a b, f p = some (Sum.inl a) ∧ g q = some (Sum.inl b) ∧ Z a b) (hn : n < F) (hn2 : n < G) {p : P} {q : Q} (h0 : I 0 p q) : ∃ a b, wk_loop f F p = some a ∧ wk_loop g G q = some b ∧ Z a b := by
  have key : ∀ d i F G p q, I i p q → i + d = n → d < F → d < G → ∃ a b, wk_loop f F p = some a ∧ wk_loop g G q = some b ∧ Z a b := by
    intro d
    induction d with
    | zero =>
      intro i F G p q hp hi hF hG
      obtain ⟨F, rfl⟩ : ∃ f, F = f + 1 := ⟨F - 1, by omega⟩
      obtain ⟨G, rfl⟩ : ∃ f, G = f + 1 := ⟨G - 1, by omega⟩
      have e : i = n := by omega
      subst e
      obtain ⟨a, b, h1, h2, h3⟩ := he p q hp
      exact ⟨a, b, wk_loopI h1, wk_loopI h2, h3⟩
    | succ d ih =>
      intro i F G p q hp hi hF hG
      obtain ⟨F, rfl⟩ : ∃ f, F = f + 1 := ⟨F - 1, by omega⟩
      obtain ⟨G, rfl⟩ : ∃ f, G = f + 1 := ⟨G - 1, by omega⟩
      obtain ⟨p2, q2, h1, h2, h3⟩ := hs i p q (by omega) hp
      obtain ⟨a, b, k1, k2, k3⟩ := ih (i + 1) F G p2 q2 h3 (by omega) (by omega) (by omega)
      exact ⟨a, b, (wk_loopS h1).trans k1, (wk_loopS h2).trans k2, k3⟩
  exact key n 0 F G p q h0 (by omega) hn hn2
def iv_ws (u z : Nat) (g h : Nat → Int32) : Prop := (∀ b, b < z → g b = h b) ∧ ∀ b, b < z → b < 512 → b.testBit u = true → g b = 0
theorem po_bit9 {z s : Nat} (hz : z < 512) (h : z.testBit s = true) : s < 9 := by
  by_cases hs : s < 9
  · exact hs
  · have := Nat.testBit_lt_two_pow (Nat.lt_of_lt_of_le hz (Nat.pow_le_pow_right (n := 2) (by decide) (by omega : 9 ≤ s)))
    rw [this] at h; cases h
theorem po_511 {s : Nat} (hs : s < 9) : (511 : Nat).testBit s = true := by
  have : (2 ^ 9 - 1).testBit s = true := by rw [Nat.testBit_two_pow_sub_one]; exact decide_eq_true hs
  exact this
theorem po_suitS {u z P : Nat} {g h : Nat → Int32} (hu : u ≤ 9) (hz : z < 512) (hg : iv_ws u z g h) :
    (z.testBit u = true → iv_sum (fun s => (z &&& (P &&& (511 &&& (4095 - 2 ^ u)))).testBit s) (fun s => g (z &&& (4095 - 2 ^ s))) 9 = 0) ∧
    (z.testBit u = false → iv_sum (fun s => (z &&& (P &&& (511 &&& (4095 - 2 ^ u)))).testBit s) (fun s => g (z &&& (4095 - 2 ^ s))) 9 = iv_sum (fun s => z.testBit s && P.testBit s) (fun s => h (z &&& (4095 - 2 ^ s))) 9) := by
  have hb : ∀ s, s < 9 → (z &&& (P &&& (511 &&& (4095 - 2 ^ u)))).testBit s = (z.testBit s && (P.testBit s && !decide (s = u))) := by
    intro s hs
    rw [Nat.testBit_and, Nat.testBit_and, po_clrB (by omega) (by omega), po_511 hs, Bool.true_and]
  constructor
  · intro hzu
    refine iv_sum_0 9 (fun s hs hc => ?_)
    rw [hb s hs, Bool.and_eq_true, Bool.and_eq_true] at hc
    have hsu : s ≠ u := by
      have := hc.2.2
      intro e
      rw [decide_eq_true e] at this
      cases this
    have hw := po_wo (by omega) hc.1
    refine hg.2 _ hw (by omega) ?_
    rw [po_clrB (by omega) (by have := po_bit9 hz hzu; omega), hzu, decide_eq_false (fun e => hsu e.symm)]
    rfl
  · intro hzu
    refine iv_sum_congr 9 (fun s hs => ⟨?_, fun hc => ?_⟩)
    · rw [hb s hs]
      by_cases hsu : s = u
      · subst hsu; rw [hzu]; rfl
      · rw [decide_eq_false hsu]; simp
    · rw [hb s hs, Bool.and_eq_true] at hc
      exact hg.1 _ (po_wo (by omega) hc.1)
theorem po_suitL {c m : wk_St} {j n u : Nat} {x2 : Int32} (hj : c.1 1 1 = nI j) (hj2 : j ≤ 260) (hn : 2 * n ≤ j) (hn9 : n ≤ 9) (hn1 : 1 ≤ n) (hb : ∀ i, i < j → c.1 2 i = m.1 7 i &&& 255) (hu : (x2 = -1 ∧ u = 9) ∨ (x2 = nI u ∧ u ≤ 8)) {g0 h0 : Nat → Int32} (hg0 : g0 0 = 1) (hh0 : h0 0 = 1) :
    ∃ r g h, wk_loop (S_X11_waysToDress_4 (nI n) (nI (511 &&& (4095 - 2 ^ u)))) 4095 ((0 : Int32), (1 : Int32), iv_set c 36 g0) = some (r, iv_set c 36 g) ∧ wk_loop (S_X12_suits_32 (nI n) x2) wk_F ((0 : Int32), (1 : Int32), iv_set m 31 h0) = some (r, iv_set m 31 h) := by
  have hu9 : u ≤ 9 := by rcases hu with h | h <;> omega
  have hL : 511 &&& (4095 - 2 ^ u) < 512 := Nat.lt_of_le_of_lt Nat.and_le_left (by decide)
  obtain ⟨a, b, e1, e2, r, g, h, rfl, rfl⟩ := po_relF (F := 4095) (G := wk_F) (f := S_X11_waysToDress_4 (nI n) (nI (511 &&& (4095 - 2 ^ u)))) (g := S_X12_suits_32 (nI n) x2)
    (fun i p q => ∃ r g h, p = (r, nI (1 + i), iv_set c 36 g) ∧ q = (r, nI (1 + i), iv_set m 31 h) ∧ iv_ws u (1 + i) g h)
    (fun p q => ∃ r g h, p = (r, iv_set c 36 g) ∧ q = (r, iv_set m 31 h)) 511 (by
      rintro i p q hi ⟨r, g, h, rfl, rfl, hw⟩
      obtain ⟨z, hz⟩ : ∃ z, z = 1 + i := ⟨_, rfl⟩
      rw [← hz] at hw ⊢
      have hz512 : z < 512 := by omega
      have hz0 : ¬ z = 0 := by omega
      obtain ⟨p1, p2, p3⟩ := po_pc hz512
      have hpc1 : 1 ≤ iv_pc z := by rcases p3 with h | h; exact absurd h hz0; exact h
      have hpc12 : iv_pc z ≤ 12 := iv_cnt_n 12
      have hzne : ¬ nI z = 0 := po_nIne (b := 0) (by omega) (by decide) hz0
      have hl1 : ¬ nI (iv_pc z) < 1 := nI_nlt (a := iv_pc z) (b := 1) hpc1 (by omega)
      have hs1 : nI (iv_pc z) - 1 = nI (iv_pc z - 1) := pk_sub (b := 1) hpc1
      have hsn : nI n - 1 = nI (n - 1) := pk_sub (b := 1) hn1
      -- the new invariant
      have hnew : ∀ v : Int32, (z.testBit u = true → v = 0) → iv_ws u (z + 1) (fun b => if b = z then v else g b) (fun b => if b = z then v else h b) := by
        intro v hv
        refine ⟨fun b hb => ?_, fun b hb hb2 hbu => ?_⟩
        · dsimp only
          by_cases hbz : b = z
          · rw [if_pos hbz, if_pos hbz]
          · rw [if_neg hbz, if_neg hbz]; exact hw.1 b (by omega)
        · dsimp only
          by_cases hbz : b = z
          · rw [if_pos hbz]; rw [hbz] at hbu; exact hv hbu
          · rw [if_neg hbz]; exact hw.2 b (by omega) hb2 hbu
      have eC : S_X11_waysToDress_4 (nI n) (nI (511 &&& (4095 - 2 ^ u))) (r, nI z, iv_set c 36 g) = j_X11_waysToDress_20_l4 (nI n) (nI (511 &&& (4095 - 2 ^ u))) r (nI z) (nI (iv_pc z)) 0 (nI z) (iv_set c 36 g) := by
        unfold S_X11_waysToDress_4 wk_let
        dsimp only
        rw [if_neg (show ¬ nI z ≥ 512 from nI_ge (b := 512) hz512 (by decide)), p1, if_pos hzne]
      have e1i : 1 + (i + 1) = z + 1 := by omega
      rw [eC, e1i]
      unfold j_X11_waysToDress_20_l4 S_X12_suits_32 wk_let
      dsimp only
      rw [if_pos (po_wkin hz512 (by decide)), if_neg hl1, nI_clamp (by omega), iv_set_si, if_neg (show ¬ nI z ≥ 512 from nI_ge (b := 512) hz512 (by decide)), p2]
      dsimp only [Option.bind]
      rw [hs1, if_pos (po_wkin hz512 (by decide)), iv_set_si]
      -- the last step of both
      have jC : ∀ (g2 : Nat → Int32), j_X11_waysToDress_42_l4 (nI n) (nI (511 &&& (4095 - 2 ^ u))) r (nI z) (nI (iv_pc z)) (iv_set c 36 g2) = some (Sum.inr ((if iv_pc z = n then r + g2 z else r), nI (z + 1), iv_set c 36 g2)) := by
        intro g2
        unfold j_X11_waysToDress_42_l4 wk_let
        by_cases hen : iv_pc z = n
        · rw [if_neg (show ¬ ¬ nI (iv_pc z) = nI n by rw [hen]; simp), if_pos (po_wkin hz512 (by decide)), nI_clamp (by omega), iv_set_at, if_pos hen, nI_1]
        · rw [if_pos (po_nIne (by omega) (by omega) hen), if_neg hen, nI_1]
      by_cases hgt : n < iv_pc z
      · rw [if_pos (show nI (iv_pc z) > nI n from nI_lt hgt (by omega)), jC, if_neg (by omega), if_pos (show nI (iv_pc z - 1) ≥ nI n from nI_le (by omega) (by omega)), nI_1]
        exact ⟨_, _, rfl, rfl, r, _, _, rfl, rfl, hnew 0 (fun _ => rfl)⟩
      · have hpr := iv_pr_lt (h := m.1 7) (i := iv_pc z - 1)
        have hpa : f_X8_pairAt (nI (iv_pc z - 1)) (iv_set c 36 (fun b => if b = z then 0 else g b)) = some (nI (iv_pr (m.1 7) (iv_pc z - 1))) := po_pairC (c := iv_set c 36 (fun b => if b = z then 0 else g b)) hj hj2 (by omega) hb
        have hws : iv_ws u z (fun b => if b = z then 0 else g b) (fun b => if b = z then 0 else h b) := by
          refine ⟨fun b hb => ?_, fun b hb hb2 hbu => ?_⟩
          · dsimp only
            rw [if_neg (by omega), if_neg (by omega)]; exact hw.1 b hb
          · dsimp only
            rw [if_neg (by omega)]; exact hw.2 b hb hb2 hbu
        obtain ⟨s1, s2⟩ := po_suitS (P := iv_pr (m.1 7) (iv_pc z - 1)) hu9 hz512 hws
        have hand : iv_pr (m.1 7) (iv_pc z - 1) &&& (511 &&& (4095 - 2 ^ u)) < 65536 := Nat.lt_of_le_of_lt Nat.and_le_left hpr
        rw [if_neg (show ¬ nI (iv_pc z) > nI n from nI_nlt (by omega) (by omega)), hpa]
        dsimp only
        rw [po_and (by omega) (by omega), po_endW hz512 hand]
        dsimp only
        rw [if_pos (po_wkin hz512 (by decide)), iv_set_si, jC, if_neg (nI_ge (show iv_pc z - 1 < n by omega) (by omega))]
        have eG : ∀ (v : Int32) (g : Nat → Int32), (fun b => if b = z then v else (fun b => if b = z then 0 else g b) b) = (fun b => if b = z then v else g b) := by
          intro v g
          funext b
          by_cases hbz : b = z
          · rw [if_pos hbz, if_pos hbz]
          · rw [if_neg hbz, if_neg hbz]; exact if_neg hbz
        have eH : ∀ (v : Int32), (if iv_pc z - 1 = n - 1 then True else False) = (if iv_pc z = n then True else False) := by
          intro _
          by_cases h : iv_pc z = n
          · rw [if_pos h, if_pos (by omega)]
          · rw [if_neg h, if_neg (by omega)]
        have jM : z.testBit u = false → j_X12_suits_56_l32 (nI n) x2 r (nI z) (nI (iv_pc z - 1)) (iv_set m 31 (fun b => if b = z then 0 else h b)) = some (Sum.inr ((if iv_pc z = n then r + iv_sum (fun s => (z &&& (iv_pr (m.1 7) (iv_pc z - 1) &&& (511 &&& (4095 - 2 ^ u)))).testBit s) (fun s => (fun b => if b = z then 0 else g b) (z &&& (4095 - 2 ^ s))) 9 else r), nI (z + 1), iv_set m 31 (fun b => if b = z then iv_sum (fun s => (z &&& (iv_pr (m.1 7) (iv_pc z - 1) &&& (511 &&& (4095 - 2 ^ u)))).testBit s) (fun s => (fun b => if b = z then 0 else g b) (z &&& (4095 - 2 ^ s))) 9 else h b))) := by
          intro hzu
          unfold j_X12_suits_56_l32 wk_let
          rw [po_suit58 hz512 (by omega) (if_pos rfl)]
          dsimp only [Option.bind]
          rw [← s2 hzu, eG, hsn]
          by_cases hen : iv_pc z = n
          · rw [if_neg (show ¬ ¬ nI (iv_pc z - 1) = nI (n - 1) by rw [hen]; simp), if_pos (po_wkin hz512 (by decide)), nI_clamp (by omega), iv_set_at, if_pos rfl, if_pos hen, nI_1]
          · rw [if_pos (po_nIne (by omega) (by omega) (show iv_pc z - 1 ≠ n - 1 by omega)), if_neg hen, nI_1]
        rw [eG]
        cases hzu : z.testBit u with
        | false =>
          have jM := jM hzu
          rcases hu with ⟨rfl, rfl⟩ | ⟨rfl, hu8⟩
          · rw [if_pos rfl, jM, if_pos rfl]
            exact ⟨_, _, rfl, rfl, _, _, _, rfl, rfl, hnew _ (fun h => by rw [hzu] at h; cases h)⟩
          · rw [if_neg (po_m1 (by omega)), po_hasM (by omega) (by omega), hzu, if_pos rfl, jM, if_pos rfl]
            exact ⟨_, _, rfl, rfl, _, _, _, rfl, rfl, hnew _ (fun h => by rw [hzu] at h; cases h)⟩
        | true =>
          rcases hu with ⟨rfl, rfl⟩ | ⟨rfl, hu8⟩
          · have := po_bit9 hz512 hzu
            omega
          · rw [if_neg (po_m1 (by omega)), po_hasM (by omega) (by omega), hzu, if_neg (show ¬ true = false by decide), s1 hzu, nI_1]
            have e0 : ∀ v : Int32, v = 0 → (if iv_pc z = n then r + v else r) = r := by
              rintro v rfl
              by_cases h : iv_pc z = n
              · rw [if_pos h]; exact Int32.add_zero r
              · rw [if_neg h]
            rw [e0 _ (if_pos rfl)]
            exact ⟨_, _, rfl, rfl, r, _, _, rfl, rfl, hnew 0 (fun _ => rfl)⟩) (by
      rintro p q ⟨r, g, h, rfl, rfl, hw⟩
      unfold S_X11_waysToDress_4 S_X12_suits_32
      dsimp only
      rw [if_pos (by decide), if_pos (by decide)]
      exact ⟨_, _, rfl, rfl, r, g, h, rfl, rfl⟩) (by decide) (by decide) (p := ((0 : Int32), (1 : Int32), iv_set c 36 g0)) (q := ((0 : Int32), (1 : Int32), iv_set m 31 h0)) ⟨0, g0, h0, rfl, rfl, (fun b hb => by rw [show b = 0 by omega, hg0, hh0]), fun b hb _ hbu => by rw [show b = 0 by omega, Nat.zero_testBit] at hbu; cases hbu⟩
  exact ⟨r, g, h, e1, e2⟩
theorem po_op_24 : lw_op_24 iv_I := by
  intro a0 a1 σC σM hI
  have hI2 := hI
  obtain ⟨T, w, N, ⟨j, j1, j2, j3, j4⟩, hF, hH, hR, hK, hL⟩ := hI
  have go : ∀ r c2 m2, f_X11_suits a0 a1 σC = some (r, c2) → f_X12_suits a0 a1 σM = some (r, m2) → iv_I c2 m2 → ∃ (r : Int32) (σC2 σM2 : wk_St), wk_T wk_shC 200 28 [.ref 0, .int a0, .int a1] σC (some (.int r), σC2) ∧ wk_T wk_shM 200 130 [.ref 0, .int a0, .int a1] σM (some (.int r), σM2) ∧ iv_I σC2 σM2 := fun r c2 m2 e1 e2 e3 => ⟨r, c2, m2, (t_X11_suits e1).up (by decide), (t_X12_suits e2).up (by decide), e3⟩
  unfold f_X11_suits f_X12_suits wk_let at go
  rw [po_W, po_has j2, j3] at go
  cases hin : f_X12_in a0 1 9 with
  | false =>
    rw [hin] at go
    exact go (-1) _ _ rfl rfl hI2
  | true =>
    obtain ⟨n, n1, n2, rfl⟩ := po_inA (a := 1) (b := 9) rfl rfl hin
    have e2 : (2 : Int32) * nI n = nI (2 * n) := pk_mul 2 n
    have hin18 : f_X12_in (nI (2 * n)) 2 18 = true := by
      unfold f_X12_in
      rw [if_neg (show ¬ nI (2 * n) < 2 from nI_nlt (a := 2 * n) (b := 2) (by omega) (by omega)), if_neg (show ¬ nI (2 * n) > 18 from nI_nlt (a := 18) (b := 2 * n) (by omega) (by decide))]
    rw [hin, e2, hin18, Bool.true_and] at go
    by_cases hle : nI (2 * n) ≤ nI j
    · have hnj := (nI_leI (by omega) (by omega)).mp hle
      rw [decide_eq_true hle, if_pos hle] at go
      cases hin2 : f_X12_in a1 (-1) 8 with
      | false =>
        rw [hin2] at go
        exact go (-2) _ _ rfl rfl (iv_I_tape hI2)
      | true =>
        rw [hin2] at go
        simp only [Bool.true_eq_false, if_false, if_true, eq_self] at go
        -- the first set, of no suits, in the class
        have first : ∀ L, S_X11_waysToDress_4 (nI n) L ((0 : Int32), (0 : Int32), σC) = some (Sum.inr ((0 : Int32), (1 : Int32), iv_set σC 36 (fun b => if b = 0 then 1 else σC.1 36 b))) := by
          intro L
          have hb : f_J6_bitCount_0f7a4 0 = 0 := by decide
          have hne : ¬ (0 : Int32) = nI n := fun e => po_nIne (a := n) (b := 0) (by omega) (by decide) (by omega) e.symm
          unfold S_X11_waysToDress_4 j_X11_waysToDress_20_l4 j_X11_waysToDress_42_l4 wk_let
          dsimp only
          rw [if_neg (by decide), hb, if_neg (show ¬ ¬ (0 : Int32) = 0 by decide), if_pos (by decide), if_pos (by decide), if_pos hne]
          refine congrArg (fun x => some (Sum.inr ((0 : Int32), (1 : Int32), x))) ?_
          have := iv_set_si (s := σC) (c := 36) (j := 0) (g := σC.1 36) (x := 1)
          rw [iv_set_id] at this
          exact this
        have eM0 : wk_si (wk_si σM 0 9 0) 31 0 1 = iv_set (wk_si σM 0 9 0) 31 (fun b => if b = 0 then 1 else σM.1 31 b) := by
          have := iv_set_si (s := wk_si σM 0 9 0) (c := 31) (j := 0) (g := σM.1 31) (x := 1)
          have h2 : iv_set (wk_si σM 0 9 0) 31 (σM.1 31) = wk_si σM 0 9 0 := iv_set_id (s := wk_si σM 0 9 0) (c := 31)
          rw [h2] at this
          exact this
        have fin : ∀ u, ((a1 = -1 ∧ u = 9) ∨ (a1 = nI u ∧ u ≤ 8)) → ∃ r g h, f_X11_waysToDress (nI n) (nI (511 &&& (4095 - 2 ^ u))) σC = some (r, iv_set σC 36 g) ∧ wk_loop (S_X12_suits_32 (nI n) a1) wk_F ((0 : Int32), (1 : Int32), wk_si (wk_si σM 0 9 0) 31 0 1) = some (r, iv_set (wk_si σM 0 9 0) 31 h) := by
          intro u hu
          obtain ⟨r, g, h, k1, k2⟩ := po_suitL (c := σC) (m := wk_si σM 0 9 0) (g0 := fun b => if b = 0 then 1 else σC.1 36 b) (h0 := fun b => if b = 0 then 1 else σM.1 31 b) j2 j1 hnj n2 n1 j4 hu rfl rfl
          refine ⟨r, g, h, ?_, by rw [eM0]; exact k2⟩
          have k4 : wk_loop (S_X11_waysToDress_4 (nI n) (nI (511 &&& (4095 - 2 ^ u)))) wk_F ((0 : Int32), (0 : Int32), σC) = some (r, iv_set σC 36 g) := (wk_loopS (n := 4095) (first _)).trans k1
          unfold f_X11_waysToDress
          rw [k4]
          rfl
        have same : ∀ g h, iv_I (wk_si (iv_set σC 36 g) 1 1 0) (iv_set (wk_si σM 0 9 0) 31 h) := by
          intro g h
          refine iv_I_s (iv_I_tape hI2) ⟨rfl, rfl, rfl, rfl, rfl, rfl, rfl, rfl, rfl, rfl, rfl, rfl, rfl, rfl, rfl, rfl, rfl, rfl, rfl, rfl, rfl, rfl, rfl, rfl, rfl⟩ ⟨rfl, rfl, rfl, rfl, rfl, rfl, rfl, rfl, rfl, rfl, rfl, rfl, rfl, rfl, rfl, rfl⟩
        by_cases hm1 : a1 = -1
        · obtain ⟨r, g, h, k1, k2⟩ := fin 9 (Or.inl ⟨hm1, rfl⟩)
          have k1' : f_X11_waysToDress (nI n) 511 σC = some (r, iv_set σC 36 g) := k1
          rw [if_neg (not_not_intro hm1), k1', k2] at go
          exact go r _ _ rfl rfl (same g h)
        · have hu : ∃ u, u ≤ 8 ∧ a1 = nI u := by
            obtain ⟨h1, h2⟩ := po_in hin2
            have h3 := po_le h2
            rw [Int32.lt_iff_toInt_lt] at h1
            rw [Int32.le_iff_toInt_le] at h3
            have e8 : (8 : Int32).toInt = 8 := rfl
            have em : (-1 : Int32).toInt = -1 := rfl
            have hne : a1.toInt ≠ -1 := fun e => hm1 (Int32.toInt_inj.mp (e.trans em.symm))
            refine ⟨a1.toInt.toNat, by omega, Int32.toInt_inj.mp ?_⟩
            rw [nI_toInt (by omega)]
            omega
          obtain ⟨u, hu8, rfl⟩ := hu
          obtain ⟨r, g, h, k1, k2⟩ := fin u (Or.inr ⟨rfl, hu8⟩)
          have eL : (511 : Int32) &&& (nI (2 ^ u) ^^^ (-1 : Int32)) = nI (511 &&& (4095 - 2 ^ u)) := po_clr (m := 511) (by decide) (by omega)
          rw [if_pos hm1, po_bit (by omega), eL, k1, k2] at go
          exact go r _ _ rfl rfl (same g h)
    · rw [decide_eq_false hle, if_neg hle] at go
      exact go (-1) _ _ rfl rfl hI2
