/-! PURE: law: what waits is said -/
def iv_wt (m : wk_St) (h : Nat) : Int32 := if h = 0 then -1 else m.1 9 (h - 1) / 1048576
theorem po_wt {m : wk_St} {h : Nat} (hh : m.1 0 16 = nI h) (h260 : h ≤ 260) : f_X12_waitTop m = some (iv_wt m h) := by
  unfold f_X12_waitTop iv_wt
  rw [hh]
  by_cases h0 : h = 0
  · rw [if_neg (fun k => k (by rw [h0]; rfl)), if_pos h0]
  · have e : nI h - 1 = nI (h - 1) := by
      rw [Int32.sub_eq_iff_eq_add, nI_1]
      congr 1; omega
    rw [if_pos (show ¬ nI h = 0 from fun k => h0 ((nI_eq (b := 0) (by omega) (by decide)).mp k)), e, if_pos (po_wkin (by omega) (by decide)), nI_clamp (by omega), if_neg h0]
theorem po_wtk {m : wk_St} {h x y : Nat} (hm : m.1 9 h = nI (1048576 * x + y)) (hx : x ≤ 14) (hy : y < 1048576) : iv_wt m (h + 1) = nI x := by
  unfold iv_wt
  rw [if_neg (by omega), Nat.add_sub_cancel, hm]
  show nI (1048576 * x + y) / nI 1048576 = nI x
  rw [pk_div (by omega) (by decide) (by decide)]
  congr 1
  omega
/-- one that waits is said by both -/
theorem po_close {t : Nat → Nat} {n p e h d o : Nat} {c m : wk_St} (hY : iv_Y t n p e (h + 1) d c m) (he : e < 240) (hm : m.1 9 h = nI (1048576 * o)) (ho : 2 ≤ o) (ho6 : o ≤ 6) :
    ∃ c2 m2, f_X4_put (iv_sg o) 0 c = some (nI e, c2) ∧ (∀ x : Int32, (4 ≤ o ∨ x = 1) → S_X12_closesSums_0 x m = some (Sum.inr m2)) ∧ iv_Y t n p (e + 1) h d c2 m2 ∧ iv_wC c c2 ∧ iv_wM m m2 ∧ (∀ H, iv_old e H c m c2 m2) ∧ c2.1 50 e = iv_sg o ∧ c2.1 51 e = nI 0 ∧ m2.1 8 e = nI (1048576 * o + 0) := by
  have hp : h + 1 ≤ p := hY.2.1
  have hpn : p ≤ n := hY.1.2.1
  have hn : n ≤ 240 := hY.1.1
  have hw : f_X12_waitTop m = some (nI o) := by
    rw [po_wt hY.2.2.2.2.1 (by omega), po_wtk (y := 0) hm (by omega) (by decide)]
  obtain ⟨c2, m2, q1, q2, q3, q4, q5, q6, q7, q8, q9, q10, q11⟩ := po_emit o 0 hY he (iv_sg o) 0 rfl rfl
  obtain ⟨m3, hm3⟩ : ∃ m3, m3 = wk_si m2 0 16 (nI h) := ⟨_, rfl⟩
  have q2' : f_X12_notes (nI o) 0 m = some m2 := q2
  have e16 : m2.1 0 16 - 1 = nI h := by
    rw [q3.2.2.2.2.1, Int32.sub_eq_iff_eq_add, nI_1]
  have j18 : ∀ x, j_X12_closesSums_18_l0 x m = some (Sum.inr m3) := fun x => by
    unfold j_X12_closesSums_18_l0
    rw [hw]
    dsimp only [Option.bind]
    rw [q2']
    dsimp only
    rw [e16, hm3]
  have eS : ∀ x : Int32, (4 ≤ o ∨ x = 1) → S_X12_closesSums_0 x m = some (Sum.inr m3) := fun x hx => by
    unfold S_X12_closesSums_0
    rw [hw]
    dsimp only [Option.bind]
    by_cases h4 : 4 ≤ o
    · rw [if_neg (show ¬ nI o < 4 from nI_nlt (a := o) (b := 4) (by omega) (by omega)), if_pos (show nI o ≤ 6 from (nI_leI (b := 6) (by omega) (by decide)).mpr ho6), j18]
    · have hx1 : x = 1 := hx.resolve_left h4
      rw [if_pos (show nI o < 4 from nI_lt (b := 4) (by omega) (by decide))]
      unfold j_X12_closesSums_8_l0
      rw [if_neg (by rw [hx1]; decide), hw]
      dsimp only [Option.bind]
      rw [j18]
      rcases (show o = 2 ∨ o = 3 by omega) with rfl | rfl
      · rw [if_pos (show nI 2 = 2 from rfl)]
      · rw [if_neg (show ¬ nI 3 = 2 by decide), if_neg (fun k => k (show nI 3 = 3 from rfl))]
  have o0 : ∀ b, b ≠ 16 → m3.1 0 b = m2.1 0 b := fun b h => by rw [hm3]; exact po_si_ne h
  have oa : ∀ a, a ≠ 0 → m3.1 a = m2.1 a := fun a h => by rw [hm3]; exact funext (fun b => po_si_c h)
  obtain ⟨⟨r1, r2, r3, r4, r5, r6, r7⟩, y1, y2, y3, y4, y5⟩ := q3
  refine ⟨c2, m3, q1, eS, ⟨⟨r1, r2, r3, r4, ?_, ?_, ?_⟩, by omega, y2, ?_, ?_, ?_⟩, q4, iv_wM_t q5 ⟨by rw [hm3]; rfl, fun a a1 _ _ => oa a a1, fun b _ _ _ _ _ b6 => o0 b b6⟩, fun H => ⟨fun j hj => ⟨((q6 H).1 j hj).1, ((q6 H).1 j hj).2.1, by rw [oa 8 (by decide)]; exact ((q6 H).1 j hj).2.2⟩, fun j hj => by rw [oa 9 (by decide)]; exact (q6 H).2 j hj⟩, q7, q8, by rw [oa 8 (by decide)]; exact q9⟩
  · rw [o0 10 (by decide)]; exact r5
  · rw [o0 11 (by decide)]; exact r6
  · rw [oa 7 (by decide)]; exact r7
  · rw [o0 15 (by decide)]; exact y3
  · rw [hm3]; exact po_si_at
  · rw [o0 14 (by decide)]; exact y5
theorem po_stop {m : wk_St} {h : Nat} {x : Int32} (hh : m.1 0 16 = nI h) (h260 : h ≤ 260) (hw : ∀ o, 2 ≤ o → o ≤ 6 → (4 ≤ o ∨ ¬ x = 0) → ¬ iv_wt m h = nI o) : S_X12_closesSums_0 x m = some (Sum.inl m) := by
  have j8 : ¬ (iv_wt m h = nI 4 ∨ iv_wt m h = nI 5 ∨ iv_wt m h = nI 6) := fun k => by
    rcases k with k | k | k
    · exact hw 4 (by decide) (by decide) (Or.inl (by decide)) k
    · exact hw 5 (by decide) (by decide) (Or.inl (by decide)) k
    · exact hw 6 (by decide) (by decide) (Or.inl (by decide)) k
  have e8 : j_X12_closesSums_8_l0 x m = some (Sum.inl m) := by
    unfold j_X12_closesSums_8_l0
    by_cases hx : x = 0
    · rw [if_pos hx]
    · rw [if_neg hx, po_wt hh h260]
      dsimp only [Option.bind]
      rw [if_neg (show ¬ iv_wt m h = 2 from fun k => hw 2 (by decide) (by decide) (Or.inr hx) k), if_pos (show ¬ iv_wt m h = 3 from fun k => hw 3 (by decide) (by decide) (Or.inr hx) k)]
  unfold S_X12_closesSums_0
  rw [po_wt hh h260]
  dsimp only [Option.bind]
  rw [e8]
  by_cases h4 : iv_wt m h < 4
  · rw [if_pos h4]
  · rw [if_neg h4]
    by_cases h6 : iv_wt m h ≤ 6
    · exfalso
      obtain ⟨q, q1, q2⟩ := nI_of2 (M := 6) (n := 6) (x := iv_wt m h) rfl (fun k => h4 (by
        rw [Int32.lt_iff_toInt_lt] at k ⊢
        exact Int.lt_trans k (by decide))) h6
      rw [q2] at h4 j8
      have : 4 ≤ q := by
        by_cases hq : 4 ≤ q
        · exact hq
        · exact absurd (nI_lt (b := 4) (by omega) (by decide)) h4
      rcases (show q = 4 ∨ q = 5 ∨ q = 6 by omega) with rfl | rfl | rfl
      · exact j8 (Or.inl rfl)
      · exact j8 (Or.inr (Or.inl rfl))
      · exact j8 (Or.inr (Or.inr rfl))
    · rw [if_neg h6]
