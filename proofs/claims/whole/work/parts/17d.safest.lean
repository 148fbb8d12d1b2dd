/-! PURE: safest -/
theorem po_add0 {a : Nat} : nI a + 0 = nI a := by
  have := nI_add a 0
  rw [Nat.add_zero] at this
  exact this
theorem po_hfC {c : wk_St} {n h : Nat → Int32} {p D k : Nat} (hH : iv_H (c.1 6) (c.2 7) n h) (hp : p < 12) (hd : D + k < 2 ^ 31) (hk : k < 4096) : f_X2_huntsFrom (nI p) (nI D) (nI k) c = some (nI (iv_cnt (fun i => iv_hu n h p (D + i)) k)) := by
  have e : wk_loop (S_X2_huntsFrom_4 (nI p) (nI D) (nI k) c) wk_F ((0 : Int32), (0 : Int32)) = some (nI (iv_cnt (fun i => iv_hu n h p (D + i)) k)) := by
    refine po_for (fun i => (nI (iv_cnt (fun i => iv_hu n h p (D + i)) i), nI i)) k rfl ?_ ?_ hk
    · intro j hj
      show _ = some (Sum.inr (nI (iv_cnt (fun i => iv_hu n h p (D + i)) j + (if iv_hu n h p (D + j) = true then 1 else 0)), nI (j + 1)))
      unfold S_X2_huntsFrom_4 wk_let
      dsimp only
      rw [if_neg (nI_ge hj (by omega)), nI_add, po_huC hH hp (by omega), nI_1]
      dsimp only [Option.bind]
      cases iv_hu n h p (D + j) with
      | false => rw [if_pos rfl, po_add0]; rfl
      | true => rw [if_neg (by decide), nI_1]; rfl
    · unfold S_X2_huntsFrom_4
      dsimp only
      rw [if_pos (nI_le (Nat.le_refl k) (by omega))]
  unfold f_X2_huntsFrom
  rw [e]
  rfl
theorem po_hfM {m : wk_St} {c6 : Nat → Int32} {c7 : Nat → Int64} {p D k : Nat} (hH : iv_H c6 c7 (m.1 22) (m.1 21)) (hD : m.1 1 45 = nI D) (hp : p < 12) (hd : D + k < 2 ^ 31) (hk : k < 4096) : f_X12_huntsIn (nI p) (nI k) m = some (nI (iv_cnt (fun i => iv_hu (m.1 22) (m.1 21) p (D + i)) k)) := by
  have e : wk_loop (S_X12_huntsIn_4 (nI p) (nI k) m) wk_F ((0 : Int32), (0 : Int32)) = some (nI (iv_cnt (fun i => iv_hu (m.1 22) (m.1 21) p (D + i)) k)) := by
    refine po_for (fun i => (nI (iv_cnt (fun i => iv_hu (m.1 22) (m.1 21) p (D + i)) i), nI i)) k rfl ?_ ?_ hk
    · intro j hj
      show _ = some (Sum.inr (nI (iv_cnt (fun i => iv_hu (m.1 22) (m.1 21) p (D + i)) j + (if iv_hu (m.1 22) (m.1 21) p (D + j) = true then 1 else 0)), nI (j + 1)))
      unfold S_X12_huntsIn_4 wk_let
      dsimp only
      rw [if_neg (nI_ge hj (by omega)), po_huM hH hD hp (by omega), nI_1]
      dsimp only [Option.bind]
      cases iv_hu (m.1 22) (m.1 21) p (D + j) with
      | false => rw [if_pos rfl]; rfl
      | true => rw [if_neg (by decide), nI_1]; rfl
    · unfold S_X12_huntsIn_4
      dsimp only
      rw [if_pos (nI_le (Nat.le_refl k) (by omega))]
  unfold f_X12_huntsIn
  rw [e]
  rfl
theorem po_m2 {n : Nat} (h : n < 2 ^ 31) : ¬ nI n = (-2 : Int32) := fun e => nI_pos h (by rw [e]; decide)
theorem po_told2 {T : Nat} {c m : wk_St} {j : Nat} (hT : T < 4096) (hc : c.1 3 4 = nI T) (hm : m.1 0 4 = nI T) (hj : j < 12) : f_X2_isTold (nI j) c = T.testBit j ∧ f_X12_isPlace (nI j) m = T.testBit j := by
  unfold f_X2_isTold f_X12_isPlace
  rw [hc, hm, if_neg (po_n12 hj), po_hasC (by omega) (by omega), po_hasM (by omega) (by omega), po_inT (n := 11) rfl (by omega)]
  cases T.testBit j <;> exact ⟨rfl, rfl⟩
theorem po_op_16 : lw_op_16 iv_I := by
  intro a0 a1 σC σM hI
  have hI2 := hI
  obtain ⟨T, w, N, hT, hF, hH, ⟨K, D, X, h1, h2, h3, h4, h5, h6, h7, h8, h9⟩, hK, hL⟩ := hI
  obtain ⟨f1, f2, f3, f4, f5, f6, f7, f8, f9, f10⟩ := hF
  have go : ∀ r, f_X11_safest a0 a1 σC = some r → f_X12_safest a0 a1 σM = some r → ∃ (r : Int32) (σC2 σM2 : wk_St), wk_T wk_shC 200 17 [.ref 0, .int a0, .int a1] σC (some (.int r), σC2) ∧ wk_T wk_shM 200 116 [.ref 0, .int a0, .int a1] σM (some (.int r), σM2) ∧ iv_I σC2 σM2 := fun r e1 e2 => ⟨r, σC, σM, (t_X11_safest e1).up (by decide), (t_X12_safest e2).up (by decide), hI2⟩
  unfold f_X11_safest f_X12_safest wk_let at go
  rw [po_W] at go
  cases hin : f_X12_in a0 1 240 with
  | false =>
    rw [hin] at go
    exact go (-1) rfl rfl
  | true =>
    cases hin2 : f_X12_in a1 0 1 with
    | false =>
      rw [hin, hin2] at go
      exact go (-1) rfl rfl
    | true =>
      obtain ⟨n, n1, n2, rfl⟩ := po_inA (a := 1) (b := 240) rfl rfl hin
      obtain ⟨⟨b1, b2⟩, b, q1, q2, q3⟩ := po_rel (f := S_X11_safest_20 (nI n) a1 σC) (g := S_X12_safest_16 (nI n) a1 σM)
        (fun i p q => (p = (-2, nI (n + 1), nI i) ∧ q = (-2, nI i)) ∨ ∃ z : Nat, z < 12 ∧ p = (nI z, nI (iv_cnt (fun t => iv_hu (σM.1 22) (σM.1 21) z (D + t)) n), nI i) ∧ q = (nI z, nI i))
        (fun a b => (a = (-2, nI (n + 1)) ∧ b = -2) ∨ ∃ z : Nat, z < 12 ∧ a = (nI z, nI (iv_cnt (fun t => iv_hu (σM.1 22) (σM.1 21) z (D + t)) n)) ∧ b = nI z) 12 (by
          intro i p q hi hpq
          have ht := po_told2 (c := σC) (m := σM) f1 f3 f5 hi
          have hc1 := po_hfC (k := n) hH hi (D := D) (by omega) (by omega)
          have hm1 := po_hfM (k := n) hH h6 hi (by omega) (by omega)
          have hle := iv_cnt_n (f := fun t => iv_hu (σM.1 22) (σM.1 21) i (D + t)) n
          rcases hpq with ⟨rfl, rfl⟩ | ⟨z, hz, rfl, rfl⟩
          · unfold S_X11_safest_20 S_X12_safest_16
            dsimp only
            rw [if_neg (po_n12 hi), if_neg (po_n12 hi), ht.1, ht.2]
            unfold j_X11_safest_40_l20
            cases hb : T.testBit i with
            | false =>
              rw [if_pos rfl, if_pos rfl, nI_1, nI_1, if_pos (nI_le (Nat.le_refl (n + 1)) (by omega))]
              exact ⟨_, _, rfl, rfl, Or.inl ⟨rfl, rfl⟩⟩
            | true =>
              rw [if_neg (by decide), if_neg (by decide), if_pos rfl, h5, hc1, nI_1]
              dsimp only [Option.bind]
              rw [if_neg (nI_ge (Nat.lt_succ_of_le hle) (by omega))]
              exact ⟨_, _, rfl, rfl, Or.inr ⟨i, hi, rfl, rfl⟩⟩
          · have hle2 := iv_cnt_n (f := fun t => iv_hu (σM.1 22) (σM.1 21) z (D + t)) n
            have hm2 := po_hfM (k := n) hH h6 hz (by omega) (by omega)
            unfold S_X11_safest_20 S_X12_safest_16
            dsimp only
            rw [if_neg (po_n12 hi), if_neg (po_n12 hi), ht.1, ht.2]
            unfold j_X11_safest_40_l20
            cases hb : T.testBit i with
            | false =>
              rw [if_pos rfl, if_pos rfl, nI_1, nI_1, if_pos (nI_le (by omega) (by omega))]
              exact ⟨_, _, rfl, rfl, Or.inr ⟨z, hz, rfl, rfl⟩⟩
            | true =>
              rw [if_neg (by decide), if_neg (by decide), if_neg (po_m2 (by omega)), h5, hc1, hm1, hm2, nI_1]
              dsimp only [Option.bind]
              by_cases hge : nI (iv_cnt (fun t => iv_hu (σM.1 22) (σM.1 21) i (D + t)) n) ≥ nI (iv_cnt (fun t => iv_hu (σM.1 22) (σM.1 21) z (D + t)) n)
              · rw [if_pos hge, if_pos hge]
                exact ⟨_, _, rfl, rfl, Or.inr ⟨z, hz, rfl, rfl⟩⟩
              · rw [if_neg hge, if_neg hge]
                exact ⟨_, _, rfl, rfl, Or.inr ⟨i, hi, rfl, rfl⟩⟩) (by
          rintro p q (⟨rfl, rfl⟩ | ⟨z, hz, rfl, rfl⟩)
          · unfold S_X11_safest_20 S_X12_safest_16
            dsimp only
            rw [if_pos (by decide), if_pos (by decide)]
            exact ⟨_, _, rfl, rfl, Or.inl ⟨rfl, rfl⟩⟩
          · unfold S_X11_safest_20 S_X12_safest_16
            dsimp only
            rw [if_pos (by decide), if_pos (by decide)]
            exact ⟨_, _, rfl, rfl, Or.inr ⟨z, hz, rfl, rfl⟩⟩) (by decide) (p := ((-2 : Int32), nI (n + 1), (0 : Int32))) (q := ((-2 : Int32), (0 : Int32))) (Or.inl ⟨rfl, rfl⟩)
      rw [hin, hin2] at go
      dsimp only at go
      rw [nI_1, q1, q2] at go
      rcases q3 with ⟨e1, rfl⟩ | ⟨z, hz, e1, rfl⟩
      · obtain ⟨rfl, rfl⟩ := Prod.mk.inj e1
        refine go (-2) ?_ ?_
        · rw [if_neg (by decide), if_pos rfl]
          dsimp only [Option.bind]
          by_cases hz : a1 = 0
          · rw [if_pos hz]
          · rw [if_neg hz, if_neg (by decide)]
        · rw [if_neg (by decide), if_pos rfl]
          dsimp only [Option.bind]
          by_cases hz : a1 = 0
          · rw [if_pos hz]
          · rw [if_neg hz, if_neg (by decide)]
      · obtain ⟨rfl, rfl⟩ := Prod.mk.inj e1
        have hm2 := po_hfM (k := n) hH h6 hz (by omega) (by omega)
        by_cases hz1 : a1 = 0
        · refine go (nI z) ?_ ?_
          · rw [if_neg (by decide), if_pos rfl]
            dsimp only [Option.bind]
            rw [if_pos hz1]
          · rw [if_neg (by decide), if_pos rfl]
            dsimp only [Option.bind]
            rw [if_pos hz1]
        · refine go (nI (iv_cnt (fun t => iv_hu (σM.1 22) (σM.1 21) z (D + t)) n)) ?_ ?_
          · rw [if_neg (by decide), if_pos rfl]
            dsimp only [Option.bind]
            rw [if_neg hz1, if_pos (show nI z ≥ 0 from nI_pos' (by omega))]
          · rw [if_neg (by decide), if_pos rfl]
            dsimp only [Option.bind]
            rw [if_neg hz1, if_pos (po_m2 (by omega)), hm2]
