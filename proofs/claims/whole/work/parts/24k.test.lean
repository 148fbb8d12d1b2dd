/-! PURE: law: a test, its tools -/
/-- a 'not' that waits is said by both -/
theorem po_bang {t : Nat → Nat} {n p e h d : Nat} {c m : wk_St} (hY : iv_Y t n p e (h + 1) (d + 1) c m) (he : e < 240) (hm : m.1 9 h = nI (1048576 * 10)) :
    ∃ c2 m2, f_X4_put 33 0 c = some (nI e, c2) ∧ S_X12_endsPiece_0 m = some (Sum.inr m2) ∧ iv_Y t n p (e + 1) h d c2 m2 ∧ iv_wC c c2 ∧ iv_wM m m2 ∧ (∀ H, iv_old e H c m c2 m2) ∧ c2.1 50 e = iv_sg 10 ∧ c2.1 51 e = nI 0 ∧ m2.1 8 e = nI (1048576 * 10 + 0) := by
  have hp : h + 1 ≤ p := hY.2.1
  have hpn : p ≤ n := hY.1.2.1
  have hn : n ≤ 240 := hY.1.1
  have hw : f_X12_waitTop m = some (nI 10) := by
    rw [po_wt hY.2.2.2.2.1 (by omega), po_wtk (x := 10) (y := 0) hm (by decide) (by decide)]
  obtain ⟨c2, m2, q1, q2, q3, q4, q5, q6, q7, q8, q9, q10, q11⟩ := po_emit 10 0 hY he (iv_sg 10) 0 rfl rfl
  obtain ⟨m3, hm3⟩ : ∃ m3, m3 = wk_si (wk_si m2 0 16 (nI h)) 0 14 (nI d) := ⟨_, rfl⟩
  have q2' : f_X12_notes 10 0 m = some m2 := q2
  have e16 : m2.1 0 16 - 1 = nI h := by rw [q3.2.2.2.2.1, Int32.sub_eq_iff_eq_add, nI_1]
  have e14 : (wk_si m2 0 16 (nI h)).1 0 14 - 1 = nI d := by rw [po_si_ne (by decide), q3.2.2.2.2.2, Int32.sub_eq_iff_eq_add, nI_1]
  have eS : S_X12_endsPiece_0 m = some (Sum.inr m3) := by
    unfold S_X12_endsPiece_0
    rw [hw]
    dsimp only [Option.bind]
    rw [if_neg (fun k => k (show nI 10 = 10 from rfl)), q2']
    dsimp only
    rw [e16, e14, hm3]
  have o0 : ∀ b, b ≠ 16 → b ≠ 14 → m3.1 0 b = m2.1 0 b := fun b h h2 => by rw [hm3, po_si_ne h2]; exact po_si_ne h
  have oa : ∀ a, a ≠ 0 → m3.1 a = m2.1 a := fun a h => by rw [hm3]; exact funext (fun b => (po_si_c h).trans (po_si_c h))
  obtain ⟨⟨r1, r2, r3, r4, r5, r6, r7⟩, y1, y2, y3, y4, y5⟩ := q3
  refine ⟨c2, m3, q1, eS, ⟨⟨r1, r2, r3, r4, ?_, ?_, ?_⟩, by omega, y2, ?_, ?_, ?_⟩, q4, iv_wM_t q5 ⟨by rw [hm3]; rfl, fun a a1 _ _ => oa a a1, fun b _ _ _ b5 _ b6 => o0 b b6 b5⟩, fun H => ⟨fun j hj => ⟨((q6 H).1 j hj).1, ((q6 H).1 j hj).2.1, by rw [oa 8 (by decide)]; exact ((q6 H).1 j hj).2.2⟩, fun j hj => by rw [oa 9 (by decide)]; exact (q6 H).2 j hj⟩, q7, q8, by rw [oa 8 (by decide)]; exact q9⟩
  · rw [o0 10 (by decide) (by decide)]; exact r5
  · rw [o0 11 (by decide) (by decide)]; exact r6
  · rw [oa 7 (by decide)]; exact r7
  · rw [o0 15 (by decide) (by decide)]; exact y3
  · rw [hm3, po_si_ne (by decide)]; exact po_si_at
  · rw [hm3]; exact po_si_at
theorem po_bangN {m : wk_St} {h : Nat} (hh : m.1 0 16 = nI h) (h260 : h ≤ 260) (hw : ¬ iv_wt m h = 10) : S_X12_endsPiece_0 m = some (Sum.inl m) := by
  unfold S_X12_endsPiece_0
  rw [po_wt hh h260]
  dsimp only [Option.bind]
  rw [if_pos hw]
/-- a code is put, whatever stands: nothing else changes -/
theorem po_putT (x y : Int32) (c : wk_St) : ∃ v c2, f_X4_put x y c = some (v, c2) ∧ iv_wC c c2 ∧ c2.1 34 = c.1 34 := by
  by_cases h0 : c.1 45 8 < 0
  · refine ⟨-1, c, ?_, iv_wC_r, rfl⟩
    unfold f_X4_put
    rw [if_pos h0]
  · by_cases h1 : c.1 45 8 < 240
    · obtain ⟨e, he, hee⟩ := nI_of2 (M := 239) (n := 239) (x := c.1 45 8) rfl h0 (by
        rw [Int32.le_iff_toInt_le]
        rw [Int32.lt_iff_toInt_lt] at h1
        have a1 : (240 : Int32).toInt = 240 := rfl
        have a2 : (239 : Int32).toInt = 239 := rfl
        omega)
      refine ⟨_, _, po_put x y hee (by omega), ⟨rfl, fun a _ a2 a3 a4 => funext (fun b => by rw [po_si_c a2, po_si_c a4, po_si_c a3]), by rw [po_si_ne (by decide), po_si_c (by decide), po_si_c (by decide)]⟩, funext (fun b => by rw [po_si_c (by decide), po_si_c (by decide), po_si_c (by decide)])⟩
    · refine ⟨-1, c, ?_, iv_wC_r, rfl⟩
      unfold f_X4_put
      rw [if_neg h0, if_neg h1]
