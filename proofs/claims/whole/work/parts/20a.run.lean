/-! PURE: the law's codes run -/
def iv_rs (c : wk_St) (h rf : Int32) (K : Nat → Int32) : wk_St := (fun a b => if a = 44 then K b else if a = 37 then (if b = 9 then h else if b = 10 then rf else c.1 37 b) else c.1 a b, c.2)
theorem iv_rs_44 {c : wk_St} {h rf : Int32} {K : Nat → Int32} {j : Nat} {x : Int32} : wk_si (iv_rs c h rf K) 44 j x = iv_rs c h rf (fun b => if b = j then x else K b) := by
  unfold wk_si iv_rs
  refine Prod.ext ?_ rfl
  funext a b
  by_cases ha : a = 44
  · subst ha
    by_cases hb : b = j <;> simp [hb]
  · simp [ha]
theorem iv_rs_9 {c : wk_St} {h rf : Int32} {K : Nat → Int32} {y : Int32} : wk_si (iv_rs c h rf K) 37 9 y = iv_rs c y rf K := by
  unfold wk_si iv_rs
  refine Prod.ext ?_ rfl
  funext a b
  by_cases ha : a = 44
  · subst ha; simp
  · by_cases h3 : a = 37
    · subst h3
      by_cases hb : b = 9 <;> simp [hb]
    · simp [ha, h3]
theorem iv_rs_10 {c : wk_St} {h rf : Int32} {K : Nat → Int32} {y : Int32} : wk_si (iv_rs c h rf K) 37 10 y = iv_rs c h y K := by
  unfold wk_si iv_rs
  refine Prod.ext ?_ rfl
  funext a b
  by_cases ha : a = 44
  · subst ha; simp
  · by_cases h3 : a = 37
    · subst h3
      by_cases hb : b = 10
      · simp [hb]
      · by_cases h9 : b = 9 <;> simp [hb, h9]
    · simp [ha, h3]
theorem iv_rs_id {c : wk_St} : iv_rs c (c.1 37 9) (c.1 37 10) (c.1 44) = c := by
  unfold iv_rs
  refine Prod.ext ?_ rfl
  funext a b
  by_cases ha : a = 44
  · subst ha; simp
  · by_cases h3 : a = 37
    · subst h3
      by_cases hb : b = 10
      · simp [hb]
      · by_cases h9 : b = 9 <;> simp [hb, h9]
    · simp [ha, h3]
theorem iv_rs_h {c : wk_St} {h rf : Int32} {K : Nat → Int32} : (iv_rs c h rf K).1 37 9 = h := rfl
theorem iv_rs_f {c : wk_St} {h rf : Int32} {K : Nat → Int32} : (iv_rs c h rf K).1 37 10 = rf := rfl
theorem iv_rs_K {c : wk_St} {h rf : Int32} {K : Nat → Int32} {j : Nat} : (iv_rs c h rf K).1 44 j = K j := rfl
theorem iv_rs_off {c : wk_St} {h rf : Int32} {K : Nat → Int32} {a : Nat} (h1 : a ≠ 44) (h2 : a ≠ 37) : (iv_rs c h rf K).1 a = c.1 a := funext (fun _ => (if_neg h1).trans (if_neg h2))
theorem po_push {c : wk_St} {rf : Int32} {K : Nat → Int32} {n : Nat} {x : Int32} (hn : n < 32) : f_X4_push x (iv_rs c (nI n) rf K) = some (iv_rs c (nI (n + 1)) rf (fun b => if b = n then x else K b)) := by
  unfold f_X4_push
  rw [iv_rs_h, if_neg (nI_pos (by omega)), if_neg (show ¬ nI n ≥ 32 from nI_ge (b := 32) hn (by decide)), if_pos (po_wkin hn (by decide)), nI_clamp (by omega), iv_rs_44, iv_rs_h, nI_1, iv_rs_9]
theorem po_pop {c : wk_St} {rf : Int32} {K : Nat → Int32} {n : Nat} (hn : n < 32) : f_X4_pop (iv_rs c (nI (n + 1)) rf K) = some (K n, iv_rs c (nI n) rf K) := by
  have e1 : nI (n + 1) - 1 = nI n := pk_sub (a := n + 1) (b := 1) (by omega)
  have h0 : ¬ nI (n + 1) ≤ 0 := by
    intro h
    have := (nI_leI (a := n + 1) (b := 0) (by omega) (by decide)).mp h
    omega
  unfold f_X4_pop
  rw [iv_rs_h, if_neg h0, if_pos (show nI (n + 1) ≤ 32 from nI_le (b := 32) (by omega) (by decide)), e1, iv_rs_9, iv_rs_h, if_pos (po_wkin hn (by decide)), nI_clamp (by omega), iv_rs_K]
/-- the reckoning of the law -/
def iv_rk (o : Nat) (x y : Int32) : Int32 := if o = 2 then x + y else if o = 3 then x - y else if o = 4 then x * y else if o = 5 then x / y else if o = 6 then wk_rem x y else if o = 7 then (if x ≥ y then 0 else 1) else if o = 8 then (if x ≤ y then 0 else 1) else (if ¬ x = y then 0 else 1)
theorem iv_rk_01 {o : Nat} {x y : Int32} (h : 7 ≤ o) : iv_rk o x y = 0 ∨ iv_rk o x y = 1 := by
  unfold iv_rk
  rw [if_neg (by omega), if_neg (by omega), if_neg (by omega), if_neg (by omega), if_neg (by omega)]
  split
  · split
    · exact Or.inl rfl
    · exact Or.inr rfl
  · split
    · split
      · exact Or.inl rfl
      · exact Or.inr rfl
    · split
      · exact Or.inl rfl
      · exact Or.inr rfl
theorem po_rkM {o : Nat} {x y : Int32} (h2 : 2 ≤ o) (h9 : o ≤ 9) (hy : ¬ ((o = 5 ∨ o = 6) ∧ y = 0)) : f_X12_reckon (nI o) x y = some (iv_rk o x y) := by
  unfold f_X12_reckon iv_rk
  rcases (show o = 2 ∨ o = 3 ∨ o = 4 ∨ o = 5 ∨ o = 6 ∨ o = 7 ∨ o = 8 ∨ o = 9 by omega) with rfl | rfl | rfl | rfl | rfl | rfl | rfl | rfl
  · rfl
  · rfl
  · rfl
  · have hy0 : ¬ y = 0 := fun h => hy ⟨Or.inl rfl, h⟩
    rw [if_neg (by decide), if_neg (by decide), if_neg (by decide), if_pos (by decide), if_neg hy0]; rfl
  · have hy0 : ¬ y = 0 := fun h => hy ⟨Or.inr rfl, h⟩
    rw [if_neg (by decide), if_neg (by decide), if_neg (by decide), if_neg (by decide), if_pos (by decide), if_neg hy0]; rfl
  · rw [if_neg (by decide), if_neg (by decide), if_neg (by decide), if_neg (by decide), if_neg (by decide), if_pos (by decide)]
    simp only [show ¬ (7 = 2) by decide, show ¬ (7 = 3) by decide, show ¬ (7 = 4) by decide, show ¬ (7 = 5) by decide, show ¬ (7 = 6) by decide, if_false, if_true]
    split <;> rfl
  · rw [if_neg (by decide), if_neg (by decide), if_neg (by decide), if_neg (by decide), if_neg (by decide), if_neg (by decide), if_pos (by decide)]
    simp only [show ¬ (8 = 2) by decide, show ¬ (8 = 3) by decide, show ¬ (8 = 4) by decide, show ¬ (8 = 5) by decide, show ¬ (8 = 6) by decide, show ¬ (8 = 7) by decide, if_false, if_true]
    split <;> rfl
  · rw [if_neg (by decide), if_neg (by decide), if_neg (by decide), if_neg (by decide), if_neg (by decide), if_neg (by decide), if_neg (by decide)]
    simp only [show ¬ (9 = 2) by decide, show ¬ (9 = 3) by decide, show ¬ (9 = 4) by decide, show ¬ (9 = 5) by decide, show ¬ (9 = 6) by decide, show ¬ (9 = 7) by decide, show ¬ (9 = 8) by decide, if_false]
    split <;> rfl
theorem po_rkC {o : Nat} {x y : Int32} {s : wk_St} (h2 : 2 ≤ o) (h9 : o ≤ 9) : f_X4_reckon (iv_sg o) x y s = some (if (o = 5 ∨ o = 6) ∧ y = 0 then (0, wk_si s 37 10 1) else (iv_rk o x y, s)) := by
  unfold f_X4_reckon iv_rk
  rcases (show o = 2 ∨ o = 3 ∨ o = 4 ∨ o = 5 ∨ o = 6 ∨ o = 7 ∨ o = 8 ∨ o = 9 by omega) with rfl | rfl | rfl | rfl | rfl | rfl | rfl | rfl
  · rfl
  · rfl
  · rfl
  · rw [if_neg (by decide), if_neg (by decide), if_neg (by decide), if_neg (by decide), if_neg (by decide), if_neg (by decide)]
    by_cases hy : y = 0
    · rw [if_neg (not_not_intro hy), if_pos ⟨Or.inl rfl, hy⟩]
    · rw [if_pos hy, if_neg (show ¬ ¬ iv_sg 5 = 47 by decide), if_neg hy, if_neg (fun h => hy h.2)]; rfl
  · rw [if_neg (by decide), if_neg (by decide), if_neg (by decide), if_neg (by decide), if_neg (by decide), if_neg (by decide)]
    by_cases hy : y = 0
    · rw [if_neg (not_not_intro hy), if_pos ⟨Or.inr rfl, hy⟩]
    · rw [if_pos hy, if_pos (show ¬ iv_sg 6 = 47 by decide), if_neg hy, if_neg (fun h => hy h.2)]; rfl
  · rw [if_neg (by decide), if_neg (by decide), if_neg (by decide), if_pos (by decide), if_neg (show ¬ ((7 = 5 ∨ 7 = 6) ∧ y = 0) by omega)]
    simp only [show ¬ (7 = 2) by decide, show ¬ (7 = 3) by decide, show ¬ (7 = 4) by decide, show ¬ (7 = 5) by decide, show ¬ (7 = 6) by decide, if_false, if_true]
    split <;> rfl
  · rw [if_neg (by decide), if_neg (by decide), if_neg (by decide), if_neg (by decide), if_neg (by decide), if_pos (by decide), if_neg (show ¬ ((8 = 5 ∨ 8 = 6) ∧ y = 0) by omega)]
    simp only [show ¬ (8 = 2) by decide, show ¬ (8 = 3) by decide, show ¬ (8 = 4) by decide, show ¬ (8 = 5) by decide, show ¬ (8 = 6) by decide, show ¬ (8 = 7) by decide, if_false, if_true]
    split <;> rfl
  · rw [if_neg (by decide), if_neg (by decide), if_neg (by decide), if_neg (by decide), if_pos (by decide), if_neg (show ¬ ((9 = 5 ∨ 9 = 6) ∧ y = 0) by omega)]
    simp only [show ¬ (9 = 2) by decide, show ¬ (9 = 3) by decide, show ¬ (9 = 4) by decide, show ¬ (9 = 5) by decide, show ¬ (9 = 6) by decide, show ¬ (9 = 7) by decide, show ¬ (9 = 8) by decide, if_false]
    split <;> rfl
/-- what a step of the class does -/
def iv_cS (c : wk_St) (o v k i n : Nat) (K : Nat → Int32) : Int32 × Int32 × wk_St :=
  if o = 0 then (nI (k + 1), nI (i + 1), iv_rs c (nI (n + 1)) 0 (fun b => if b = n then nI v else K b))
  else if o = 1 then (nI (k + 1), nI (i + 1), iv_rs c (nI (n + 1)) 0 (fun b => if b = n then c.1 24 v else K b))
  else if o = 10 then (nI (k + 1), nI (i + 1), iv_rs c (nI n) 0 (fun b => if b = n - 1 then 1 - K (n - 1) else K b))
  else if o = 11 then (if K (n - 1) = 0 then (nI v, nI (i + 1), iv_rs c (nI n) 0 (fun b => if b = n - 1 then K (n - 1) else K b)) else (nI (k + 1), nI (i + 1), iv_rs c (nI (n - 1)) 0 K))
  else if o = 12 then (if K (n - 1) = 0 then (nI (k + 1), nI (i + 1), iv_rs c (nI (n - 1)) 0 K) else (nI v, nI (i + 1), iv_rs c (nI n) 0 (fun b => if b = n - 1 then K (n - 1) else K b)))
  else if (o = 5 ∨ o = 6) ∧ K (n - 1) = 0 then (nI (k + 1), nI (i + 1), iv_rs c (nI (n - 1)) 1 (fun b => if b = n - 2 then 0 else K b))
  else (nI (k + 1), nI (i + 1), iv_rs c (nI (n - 1)) 0 (fun b => if b = n - 2 then iv_rk o (K (n - 2)) (K (n - 1)) else K b))
theorem po_runC {c : wk_St} {o v k i n e : Nat} {K : Nat → Int32} (hk : k < e) (he : e ≤ 240) (hi : i < 240) (ho : o < 13) (hsg : c.1 42 k = iv_sg o) (har : c.1 43 k = nI v) (hv8 : o = 1 → v < 8) (hv : v < 1048576) (hn : n ≤ 30) (hn1 : 2 ≤ o → 1 ≤ n) (hn2 : 2 ≤ o → o ≤ 9 → 2 ≤ n) : S_X4_run_10 (nI e) (nI k, nI i, iv_rs c (nI n) 0 K) = some (Sum.inr (iv_cS c o v k i n K)) := by
  have e42 : (iv_rs c (nI n) 0 K).1 42 k = iv_sg o := by rw [iv_rs_off (by decide) (by decide)]; exact hsg
  have e43 : (iv_rs c (nI n) 0 K).1 43 k = nI v := by rw [iv_rs_off (by decide) (by decide)]; exact har
  have e24 : (iv_rs c (nI n) 0 K).1 24 = c.1 24 := iv_rs_off (by decide) (by decide)
  unfold S_X4_run_10 wk_let
  dsimp only
  rw [if_neg (show ¬ nI i ≥ 240 from nI_ge (b := 240) hi (by decide)), iv_rs_f, if_neg (show ¬ ¬ (0 : Int32) = 0 by decide), if_neg (nI_pos (by omega)), if_neg (nI_ge hk (by omega)), if_neg (show ¬ nI k ≥ 240 from nI_ge (b := 240) (by omega) (by decide)), if_pos (po_wkin (by omega) (by decide)), if_pos (po_wkin (by omega) (by decide)), nI_clamp (by omega), e42, e43, nI_1]
  unfold j_X4_run_107_l10 iv_cS
  by_cases h29 : 2 ≤ o ∧ o ≤ 9
  · obtain ⟨n, rfl⟩ : ∃ z, n = z + 2 := ⟨n - 2, by have := hn2 h29.1 h29.2; omega⟩
    have c1 : ¬ iv_sg o = 48 ∧ ¬ iv_sg o = 97 ∧ ¬ iv_sg o = 33 ∧ ¬ iv_sg o = 38 ∧ ¬ iv_sg o = 124 := by
      rcases (show o = 2 ∨ o = 3 ∨ o = 4 ∨ o = 5 ∨ o = 6 ∨ o = 7 ∨ o = 8 ∨ o = 9 by omega) with rfl | rfl | rfl | rfl | rfl | rfl | rfl | rfl
      all_goals decide
    rw [if_pos c1.1, if_pos c1.2.1, if_pos c1.2.2.1, if_neg c1.2.2.2.1, if_pos c1.2.2.2.2, po_pop (n := n + 1) (by omega)]
    dsimp only [Option.bind]
    rw [po_pop (n := n) (by omega)]
    dsimp only
    rw [po_rkC h29.1 h29.2, if_neg (show ¬ o = 0 by omega), if_neg (show ¬ o = 1 by omega), if_neg (show ¬ o = 10 by omega), if_neg (show ¬ o = 11 by omega), if_neg (show ¬ o = 12 by omega), show n + 2 - 1 = n + 1 by omega, show n + 2 - 2 = n by omega]
    by_cases hz : (o = 5 ∨ o = 6) ∧ K (n + 1) = 0
    · rw [if_pos hz, if_pos hz]
      dsimp only
      rw [iv_rs_10, po_push (by omega), nI_1]
    · rw [if_neg hz, if_neg hz]
      dsimp only
      rw [po_push (by omega), nI_1]
  · by_cases h0 : o = 0
    · subst h0
      rw [if_neg (show ¬ ¬ iv_sg 0 = 48 by decide), po_push (by omega), if_pos rfl, nI_1]
      rfl
    · by_cases h1 : o = 1
      · subst h1
        have hv8' := hv8 rfl
        rw [if_pos (show ¬ iv_sg 1 = 48 by decide), if_neg (show ¬ ¬ iv_sg 1 = 97 by decide), if_neg (nI_pos (by omega)), if_neg (show ¬ nI v ≥ 8 from nI_ge (b := 8) hv8' (by decide)), if_pos (po_wkin hv8' (by decide)), nI_clamp (by omega), e24, po_push (by omega), if_neg (show ¬ 1 = 0 by decide), if_pos rfl, nI_1]
        rfl
      · obtain ⟨n, rfl⟩ : ∃ z, n = z + 1 := ⟨n - 1, by have := hn1 (by omega); omega⟩
        rw [if_neg h0, if_neg h1, show n + 1 - 1 = n by omega]
        rcases (show o = 10 ∨ o = 11 ∨ o = 12 by omega) with rfl | rfl | rfl
        · rw [if_pos (show ¬ iv_sg 10 = 48 by decide), if_pos (show ¬ iv_sg 10 = 97 by decide), if_neg (show ¬ ¬ iv_sg 10 = 33 by decide), po_pop (n := n) (by omega), if_pos rfl]
          dsimp only [Option.bind]
          rw [po_push (by omega), nI_1]
        · rw [if_pos (show ¬ iv_sg 11 = 48 by decide), if_pos (show ¬ iv_sg 11 = 97 by decide), if_pos (show ¬ iv_sg 11 = 33 by decide), if_pos (show iv_sg 11 = 38 by decide), po_pop (n := n) (by omega), if_neg (show ¬ 11 = 10 by decide), if_pos rfl]
          dsimp only [Option.bind]
          unfold j_X4_run_83_l10 j_X4_run_107_l10
          rw [if_pos (show ¬ iv_sg 11 = 124 by decide), if_pos (show ¬ iv_sg 11 = 124 by decide), if_neg (show ¬ ¬ (0 : Int32) = 0 by decide), if_pos (show ¬ (1 : Int32) = 0 by decide)]
          by_cases hz : K n = 0
          · rw [if_pos hz, if_pos hz, po_push (by omega), nI_1]
            rfl
          · rw [if_neg hz, if_neg hz, nI_1]
        · rw [if_pos (show ¬ iv_sg 12 = 48 by decide), if_pos (show ¬ iv_sg 12 = 97 by decide), if_pos (show ¬ iv_sg 12 = 33 by decide), if_neg (show ¬ iv_sg 12 = 38 by decide), if_neg (show ¬ ¬ iv_sg 12 = 124 by decide), po_pop (n := n) (by omega), if_neg (show ¬ 12 = 10 by decide), if_neg (show ¬ 12 = 11 by decide), if_pos rfl]
          dsimp only [Option.bind]
          unfold j_X4_run_83_l10 j_X4_run_107_l10
          rw [if_neg (show ¬ ¬ iv_sg 12 = 124 by decide), if_neg (show ¬ ¬ iv_sg 12 = 124 by decide), if_pos (show ¬ (0 : Int32) = 1 by decide), if_neg (show ¬ ¬ (1 : Int32) = 1 by decide)]
          by_cases hz : K n = 0
          · rw [if_pos hz, if_pos hz, nI_1]
          · rw [if_neg hz, if_neg hz, po_push (by omega), nI_1]
            rfl
