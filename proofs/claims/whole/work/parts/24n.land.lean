/-! PURE: law: jumps that wait land -/
theorem iv_sgm_jump {c m : wk_St} {L s X e o : Nat} (a : iv_sgm c m L s X [] [true]) (b : iv_sgm c m L (X + 1) e [] [true]) (h50 : c.1 50 X = iv_sg o) (h51 : c.1 51 X = nI e) (h8 : m.1 8 X = nI (1048576 * o + e)) (ho : o = 11 ∨ o = 12) (hsX : s ≤ X) (hX : X + 1 ≤ e) (he : e < 1048576) (hL : L ≤ 30) : iv_sgm c m L s e [] [true] := by
  obtain ⟨t1, h1, h2, h3, h4⟩ := a
  obtain ⟨t2, k1, k2, k3, k4⟩ := b
  have u1 : ∀ j, j ≤ X → (fun i => if i ≤ X then t1 i else t2 i) j = t1 j := fun j hj => if_pos hj
  have u2 : ∀ j, X < j → (fun i => if i ≤ X then t1 i else t2 i) j = t2 j := fun j hj => if_neg (by omega)
  refine ⟨fun i => if i ≤ X then t1 i else t2 i, (u1 s hsX).trans h1, (u2 e (by omega)).trans k2, fun i hi hi2 => ?_, fun i hi hi2 => ?_⟩
  · by_cases h : i ≤ X
    · rw [u1 i h]; exact h3 i hi h
    · rw [u2 i (by omega)]; exact k3 i (by omega) hi2
  · by_cases h : i < X
    · exact iv_ci_g (h4 i hi h) h (by omega) (fun j _ hj => u1 j hj)
    · by_cases hx : i = X
      · subst hx
        refine ⟨o, e, he, by omega, h50, h51, h8, ?_, Or.inr (Or.inr (Or.inr (Or.inr (Or.inr ⟨by omega, [], ?_, ?_, by omega, Nat.le_refl e, ?_⟩))))⟩
        · rw [u1 i (Nat.le_refl i), h2]
          exact (by decide : 1 ≤ 30)
        · rw [u1 i (Nat.le_refl i)]; exact h2
        · rw [u2 (i + 1) (by omega)]; exact k1
        · rw [u2 e (by omega)]; exact k2
      · exact iv_ci_g (k4 i (by omega) hi2) hi2 (Nat.le_refl e) (fun j hj _ => u2 j (by omega))
/-- a jump that waits, or none: o is its code, x the class's number, k how many, from s on its part's codes, e behind it, h its place on the stack -/
def iv_pd (o : Nat) (x : Int32) (k s e h : Nat) (c m : wk_St) : Prop := (x = -1 ∧ k = 0 ∧ s = e) ∨ (k = 1 ∧ ∃ X, x = nI X ∧ s ≤ X ∧ e = X + 1 ∧ iv_sgm c m 16 s X [] [true] ∧ c.1 50 X = iv_sg o ∧ m.1 8 X = nI (1048576 * o) ∧ m.1 9 h = nI (1048576 * o + X))
theorem iv_pd_le {o k s e h : Nat} {x : Int32} {c m : wk_St} (p : iv_pd o x k s e h c m) : s ≤ e ∧ k ≤ 1 := by
  rcases p with ⟨_, rfl, rfl⟩ | ⟨rfl, X, _, p1, p2, _⟩
  · exact ⟨Nat.le_refl _, by omega⟩
  · exact ⟨by omega, by omega⟩
theorem iv_pd_old {o k s e h E H : Nat} {x : Int32} {c m c2 m2 : wk_St} (p : iv_pd o x k s e h c m) (a : iv_old E H c m c2 m2) (he : e ≤ E) (hh : h + k ≤ H) : iv_pd o x k s e h c2 m2 := by
  rcases p with p | ⟨rfl, X, p1, p2, p3, p4, p5, p6, p7⟩
  · exact Or.inl p
  · exact Or.inr ⟨rfl, X, p1, p2, p3, iv_sgm_old p4 (fun j _ hj => a.1 j (by omega)), (a.1 X (by omega)).1.trans p5, (a.1 X (by omega)).2.2.trans p6, (a.2 h (by omega)).trans p7⟩
theorem iv_pd_wt {o k s e h : Nat} {x : Int32} {c m : wk_St} (p : iv_pd o x k s e h c m) (ho : o = 11 ∨ o = 12) (he : e ≤ 240) : (k = 0 ∧ iv_wt m (h + k) = iv_wt m h) ∨ (k = 1 ∧ iv_wt m (h + k) = nI o) := by
  rcases p with ⟨_, rfl, _⟩ | ⟨rfl, X, p1, p2, p3, p4, p5, p6, p7⟩
  · exact Or.inl ⟨rfl, rfl⟩
  · exact Or.inr ⟨rfl, po_wtk p7 (by omega) (by omega)⟩
theorem po_landN {m : wk_St} {h : Nat} {y : Int32} (hh : m.1 0 16 = nI h) (h260 : h ≤ 260) (h11 : ¬ iv_wt m h = 11) (h12 : y = 0 ∨ ¬ iv_wt m h = 12) : S_X12_lands_0 y m = some (Sum.inl m) := by
  unfold S_X12_lands_0
  rw [po_wt hh h260]
  dsimp only [Option.bind]
  rw [if_neg h11]
  by_cases hy : y = 0
  · rw [if_pos hy]
  · rw [if_neg hy, if_pos (h12.resolve_left hy)]
theorem po_land1 {m : wk_St} {h o X e : Nat} {y : Int32} (ho : o = 11 ∨ o = 12) (hy : o = 11 ∨ y = 1) (hh : m.1 0 16 = nI (h + 1)) (h240 : h < 240) (h9 : m.1 9 h = nI (1048576 * o + X)) (hX : X < 240) (h8 : m.1 8 X = nI (1048576 * o)) (he : m.1 0 15 = nI e) :
    S_X12_lands_0 y m = some (Sum.inr (wk_si (wk_si m 8 X (nI (1048576 * o + e))) 0 16 (nI h))) := by
  have hw : iv_wt m (h + 1) = nI o := po_wtk h9 (by omega) (by omega)
  have u1 : nI (h + 1) - 1 = nI h := by rw [Int32.sub_eq_iff_eq_add, nI_1]
  have u2 : wk_rem (nI (1048576 * o + X)) 1048576 = nI X := by
    have := po_rem (a := 1048576 * o + X) (d := 1048576) (by omega) (by decide) (by decide)
    rw [show (1048576 * o + X) % 1048576 = X by omega] at this
    exact this
  have u3 : nI (1048576 * o) / 1048576 = nI o := by
    have := pk_div (a := 1048576 * o) (d := 1048576) (by omega) (by decide) (by decide)
    rw [show 1048576 * o / 1048576 = o by omega] at this
    exact this
  have u4 : (1048576 : Int32) * nI o = nI (1048576 * o) := po_mulN 1048576 o
  have j10 : j_X12_lands_10_l0 y m = some (Sum.inr (wk_si (wk_si m 8 X (nI (1048576 * o + e))) 0 16 (nI h))) := by
    unfold j_X12_lands_10_l0 wk_let
    rw [hh, u1, if_pos (po_wkin (by omega) (by decide)), nI_clamp (by omega), h9, u2]
    dsimp only
    rw [if_pos (po_wkin (by omega) (by decide)), if_pos (po_wkin (by omega) (by decide)), nI_clamp (by omega), h8, u3, u4, he, nI_add, po_si_c (by decide), hh, u1]
  unfold S_X12_lands_0
  rw [po_wt hh (by omega), hw]
  dsimp only [Option.bind]
  rcases ho with rfl | rfl
  · rw [if_pos (show nI 11 = 11 from rfl), j10]
  · have hy1 : y = 1 := hy.resolve_left (by decide)
    rw [if_neg (show ¬ nI 12 = 11 by decide), if_neg (by rw [hy1]; decide), if_neg (fun k => k (show nI 12 = 12 from rfl)), j10]
theorem po_land {t : Nat → Nat} {n p e e2 h d o k s : Nat} {x : Int32} {c m : wk_St} (ho : o = 11 ∨ o = 12) (hpd : iv_pd o x k s e h c m) (hY : iv_Y t n p e2 (h + k) d c m) (hee : e < e2) (he : e2 ≤ 240) (hsg : iv_sgm c m 16 e e2 [] [true]) :
    ∃ c2 m2, f_X4_skipToHere x c = some c2 ∧ (∀ y F, (k = 0 ∨ o = 11 ∨ y = 1) → ∃ F2, F ≤ F2 + 1 ∧ F2 ≤ F ∧ (0 < F → wk_loop (S_X12_lands_0 y) F m = wk_loop (S_X12_lands_0 y) F2 m2)) ∧ iv_Y t n p e2 h d c2 m2 ∧ iv_wC c c2 ∧ iv_wM m m2 ∧ (∀ H, iv_old s H c m c2 m2) ∧ iv_sgm c2 m2 16 s e2 [] [true] := by
  rcases hpd with ⟨rfl, rfl, rfl⟩ | ⟨rfl, X, rfl, hsX, rfl, hseg, h50, h8, h9⟩
  · refine ⟨c, m, ?_, fun y F _ => ⟨F, by omega, Nat.le_refl F, fun _ => rfl⟩, hY, iv_wC_r, iv_wM_r, fun H => iv_old_r, hsg⟩
    unfold f_X4_skipToHere
    rw [if_pos (by decide)]
  · have hhp : h + 1 ≤ p := hY.2.1
    have hpn : p ≤ n := hY.1.2.1
    have hn : n ≤ 240 := hY.1.1
    obtain ⟨⟨r1, r2, r3, r4, r5, r6, r7⟩, y1, y2, y3, y4, y5⟩ := hY
    obtain ⟨C, hC⟩ : ∃ C, C = wk_si c 51 X (nI e2) := ⟨_, rfl⟩
    obtain ⟨M, hM⟩ : ∃ M, M = wk_si (wk_si m 8 X (nI (1048576 * o + e2))) 0 16 (nI h) := ⟨_, rfl⟩
    have oC : ∀ a, a ≠ 51 → C.1 a = c.1 a := fun a h => by rw [hC]; exact funext (fun b => po_si_c h)
    have oC1 : ∀ b, b ≠ X → C.1 51 b = c.1 51 b := fun b h => by rw [hC]; exact po_si_ne h
    have oM : ∀ a, a ≠ 0 → a ≠ 8 → M.1 a = m.1 a := fun a h h8 => by rw [hM]; exact funext (fun b => by rw [po_si_c h, po_si_c h8])
    have oM0 : ∀ b, b ≠ 16 → M.1 0 b = m.1 0 b := fun b h => by rw [hM, po_si_ne h]; exact po_si_c (by decide)
    have oM8 : ∀ b, b ≠ X → M.1 8 b = m.1 8 b := fun b h => by rw [hM, po_si_c (by decide)]; exact po_si_ne h
    have o8 : M.1 8 X = nI (1048576 * o + e2) := by rw [hM, po_si_c (by decide)]; exact po_si_at
    have ol : ∀ j, j ≠ X → C.1 50 j = c.1 50 j ∧ C.1 51 j = c.1 51 j ∧ M.1 8 j = m.1 8 j := fun j hj => ⟨by rw [oC 50 (by decide)], oC1 j hj, oM8 j hj⟩
    refine ⟨C, M, ?_, fun y F hy => ⟨F - 1, by omega, by omega, fun hF => ?_⟩, ⟨⟨r1, r2, ?_, ?_, ?_, ?_, fun i hi => ⟨(r7 i hi).1, ?_, ?_⟩⟩, by omega, ?_, ?_, ?_, ?_⟩, ⟨by rw [hC]; rfl, fun a _ _ _ a4 => oC a a4, by rw [oC 45 (by decide)]⟩, ⟨by rw [hM]; rfl, fun a a1 a2 _ => oM a a1 a2, fun b _ _ _ _ _ b6 => oM0 b b6⟩, fun H => ⟨fun j hj => ol j (by omega), fun j _ => by rw [oM 9 (by decide) (by decide)]⟩, ?_⟩
    · unfold f_X4_skipToHere
      rw [if_neg (nI_pos (by omega)), if_neg (show ¬ nI X ≥ 240 from nI_ge (b := 240) (by omega) (by decide)), if_pos (po_wkin (by omega) (by decide)), nI_clamp (by omega), y2, hC]
    · obtain ⟨F, rfl⟩ : ∃ z, F = z + 1 := ⟨F - 1, by omega⟩
      refine wk_loopS ?_
      rw [po_land1 ho (hy.resolve_left (by decide)) y4 (by omega) h9 (by omega) h8 y3, hM]
    · rw [oC 34 (by decide)]; exact r3
    · rw [oC 34 (by decide)]; exact r4
    · rw [oM0 10 (by decide)]; exact r5
    · rw [oM0 11 (by decide)]; exact r6
    · rw [oC (34 + 1) (by decide)]; exact (r7 i hi).2.1
    · rw [oM 7 (by decide) (by decide)]; exact (r7 i hi).2.2
    · rw [oC 45 (by decide)]; exact y2
    · rw [oM0 15 (by decide)]; exact y3
    · rw [hM]; exact po_si_at
    · rw [oM0 14 (by decide)]; exact y5
    · exact iv_sgm_jump (X := X) (o := o) (iv_sgm_old hseg (fun j _ hj => ol j (by omega))) (iv_sgm_old hsg (fun j hj _ => ol j (by omega))) (by rw [oC 50 (by decide)]; exact h50) (by rw [hC]; exact po_si_at) o8 ho hsX (by omega) (by omega) (by decide)
/-- '&' or '|' : a new one waits -/
theorem po_jump {t : Nat → Nat} {n p e h d : Nat} {c m : wk_St} (o : Nat) (ho : o ≤ 12) (hY : iv_Y t n p e h d c m) (hp : p < n) (hh : h + 1 ≤ p) (he : e < 240) :
    ∃ c1 c2 m2, f_X4_put (iv_sg o) 0 c = some (nI e, c1) ∧ c2 = wk_si c1 34 3 (c1.1 34 3 + 1) ∧ f_X12_jumps (nI o) m = some m2 ∧ iv_Y t n (p + 1) (e + 1) (h + 1) d c2 m2 ∧ iv_wC c c2 ∧ iv_wM m m2 ∧ iv_old e h c m c2 m2 ∧ c2.1 50 e = iv_sg o ∧ m2.1 8 e = nI (1048576 * o) ∧ m2.1 9 h = nI (1048576 * o + e) := by
  have hpn : p ≤ n := hY.1.2.1
  have hn : n ≤ 240 := hY.1.1
  have hY0 := hY
  obtain ⟨⟨r1, r2, r3, r4, r5, r6, r7⟩, y1, y2, y3, y4, y5⟩ := hY
  obtain ⟨M, hM⟩ : ∃ M, M = wk_si (wk_si m 9 h (nI (1048576 * o + e))) 0 16 (nI (h + 1)) := ⟨_, rfl⟩
  have oM : ∀ a, a ≠ 0 → a ≠ 9 → M.1 a = m.1 a := fun a h h8 => by rw [hM]; exact funext (fun b => by rw [po_si_c h, po_si_c h8])
  have oM0 : ∀ b, b ≠ 16 → M.1 0 b = m.1 0 b := fun b h => by rw [hM, po_si_ne h]; exact po_si_c (by decide)
  have oM9 : ∀ b, b ≠ h → M.1 9 b = m.1 9 b := fun b h => by rw [hM, po_si_c (by decide)]; exact po_si_ne h
  have o9 : M.1 9 h = nI (1048576 * o + e) := by rw [hM, po_si_c (by decide)]; exact po_si_at
  have hYM : iv_Y t n p e (h + 1) d c M := by
    refine ⟨⟨r1, r2, r3, r4, ?_, ?_, fun i hi => ⟨(r7 i hi).1, (r7 i hi).2.1, ?_⟩⟩, hh, y2, ?_, ?_, ?_⟩
    · rw [oM0 10 (by decide)]; exact r5
    · rw [oM0 11 (by decide)]; exact r6
    · rw [oM 7 (by decide) (by decide)]; exact (r7 i hi).2.2
    · rw [oM0 15 (by decide)]; exact y3
    · rw [hM]; exact po_si_at
    · rw [oM0 14 (by decide)]; exact y5
  obtain ⟨c1, M1, q1, q2, q3, q4, q5, q6, q7, q8, q9, _, _⟩ := po_emit o 0 hYM he (iv_sg o) 0 rfl rfl
  have q2' : f_X12_notes (nI o) 0 M = some M1 := q2
  obtain ⟨c2, M2, s1, s2, s3, s4, s5, s6⟩ := po_step q3 hp
  have ex : (1048576 : Int32) * nI o = nI (1048576 * o) := po_mulN 1048576 o
  have w1 := (s6 (e + 1) 0).1 e (by omega)
  refine ⟨c1, c2, M2, q1, s1, ?_, s3, iv_wC_t q4 s4, iv_wM_t ⟨by rw [hM]; rfl, fun a a1 _ a3 => oM a a1 a3, fun b _ _ _ _ _ b6 => oM0 b b6⟩ (iv_wM_t q5 s5), ?_, w1.1.trans q7, w1.2.2.trans q9, ?_⟩
  · unfold f_X12_jumps
    rw [y4, if_pos (po_wkin (by omega) (by decide)), nI_clamp (by omega), ex, y3, nI_add, po_si_c (by decide), y4, nI_1, ← hM, q2']
    dsimp only [Option.bind]
    rw [s2]
  · refine ⟨fun j hj => ?_, fun j hj => ?_⟩
    · have a1 := (q6 0).1 j hj
      have a2 := (s6 e 0).1 j hj
      refine ⟨a2.1.trans a1.1, a2.2.1.trans a1.2.1, a2.2.2.trans (a1.2.2.trans ?_)⟩
      rw [oM 8 (by decide) (by decide)]
    · exact ((s6 0 h).2 j hj).trans (((q6 h).2 j hj).trans (oM9 j (by omega)))
  · exact ((s6 0 (h + 1)).2 h (by omega)).trans (((q6 (h + 1)).2 h (by omega)).trans o9)
