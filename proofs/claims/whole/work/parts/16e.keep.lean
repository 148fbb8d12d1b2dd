/-! PURE: keep, undo, check -/
theorem po_op_31 : lw_op_31 iv_I := by
  intro σC σM hI
  obtain ⟨T, w, N, hT, hF, hH, hR, hK, hL⟩ := hI
  obtain ⟨s2, e, q2, qc, qk, q4, q5, q6⟩ := po_copy (s := σC) (k0 := 13) (k1 := 8) (by decide)
  have hR2 := hR
  obtain ⟨K, D, X, a1, a2, a3, a4, a5, a6, a7, a8, a9⟩ := hR2
  have eC : f_X11_keep σC = some (nI D, wk_si s2 0 13 1) := by
    unfold f_X11_keep
    rw [e]
    dsimp only [Option.bind]
    have : (wk_si s2 0 13 1).1 8 5 = nI D := by
      show s2.1 8 5 = nI D
      rw [qc 8 (by decide), a5]
    rw [this]
  have eM : f_X12_keep σM = some (nI D, iv_set (wk_si σM 0 57 1) 3 (fun b => if b < 47 then σM.1 1 b else σM.1 3 b)) := by
    unfold f_X12_keep
    rw [po_copies (by decide)]
    dsimp only [Option.bind]
    have : (iv_set (wk_si σM 0 57 1) 3 (fun b => if b < 47 then (wk_si σM 0 57 1).1 1 b else (wk_si σM 0 57 1).1 3 b)).1 1 45 = nI D := a6
    rw [this]
    rfl
  refine ⟨_, _, _, (t_X11_keep eC).up (by decide), (t_X12_keep eM).up (by decide), T, w, N, ?_, ?_, ?_, ?_, Or.inr ⟨rfl, rfl, ?_⟩, ?_⟩
  · show iv_T (s2.1 1 1) (s2.1 2) (σM.1 0 9) (σM.1 7)
    rw [qc 1 (by decide), qc 2 (by decide)]; exact hT
  · show iv_F T w N (s2.1 3 4) (s2.1 3 5) (s2.1 4) (s2.1 5) (σM.1 0 4) (σM.1 0 5) (σM.1 4)
    rw [qc 3 (by decide), qc 4 (by decide), qc 5 (by decide)]; exact hF
  · show iv_H (s2.1 6) (s2.2 7) (σM.1 22) (σM.1 21)
    rw [qc 6 (by decide), q2]; exact hH
  · show iv_R T (s2.1 8) (s2.1 9) (s2.1 10) (s2.1 11) (s2.1 12) (σM.1 1)
    rw [qc 8 (by decide), qc 9 (by decide), qc 10 (by decide), qc 11 (by decide), qc 12 (by decide)]; exact hR
  · exact iv_R_congr (c2 := s2.1 13) (p2 := s2.1 14) (d2 := s2.1 15) (w2 := s2.1 16) (l2 := s2.1 17) (b := fun b => if b < 47 then σM.1 1 b else σM.1 3 b) hR q4 q5 q6 qk (fun j hj => if_pos hj)
  · show iv_L (s2.1 37 7) (s2.1 38) (s2.1 39) (s2.1 40) (s2.1 41) (s2.1 42) (s2.1 43) (σM.1 0 18) (σM.1 14) (σM.1 15) (σM.1 16) (σM.1 17) (σM.1 18)
    rw [qc 37 (by decide), qc 38 (by decide), qc 39 (by decide), qc 40 (by decide), qc 41 (by decide), qc 42 (by decide), qc 43 (by decide)]; exact hL
theorem po_op_32 : lw_op_32 iv_I := by
  intro σC σM hI
  have hI2 := hI
  obtain ⟨T, w, N, hT, hF, hH, hR, hK, hL⟩ := hI
  rcases hK with ⟨k1, k2⟩ | ⟨k1, k2, k3⟩
  · refine ⟨b2i false, σC, σM, (t_X11_undo (r := (false, σC)) ?_).up (by decide), (t_X12_undo (r := (false, σM)) ?_).up (by decide), hI2⟩
    · unfold f_X11_undo
      rw [k1]; rfl
    · unfold f_X12_undo
      rw [k2]; rfl
  · obtain ⟨s2, e, q2, qc, qk, q4, q5, q6⟩ := po_copy (s := σC) (k0 := 8) (k1 := 13) (by decide)
    have eC : f_X11_undo σC = some (true, s2) := by
      unfold f_X11_undo
      rw [k1, e]; rfl
    have eM : f_X12_undo σM = some (true, iv_set σM 1 (fun b => if b < 47 then σM.1 3 b else σM.1 1 b)) := by
      unfold f_X12_undo
      rw [k2, po_copies (by decide)]; rfl
    refine ⟨b2i true, _, _, (t_X11_undo eC).up (by decide), (t_X12_undo eM).up (by decide), T, w, N, ?_, ?_, ?_, ?_, Or.inr ⟨?_, k2, ?_⟩, ?_⟩
    · show iv_T (s2.1 1 1) (s2.1 2) (σM.1 0 9) (σM.1 7)
      rw [qc 1 (by decide), qc 2 (by decide)]; exact hT
    · show iv_F T w N (s2.1 3 4) (s2.1 3 5) (s2.1 4) (s2.1 5) (σM.1 0 4) (σM.1 0 5) (σM.1 4)
      rw [qc 3 (by decide), qc 4 (by decide), qc 5 (by decide)]; exact hF
    · show iv_H (s2.1 6) (s2.2 7) (σM.1 22) (σM.1 21)
      rw [qc 6 (by decide), q2]; exact hH
    · exact iv_R_congr (c2 := s2.1 8) (p2 := s2.1 9) (d2 := s2.1 10) (w2 := s2.1 11) (l2 := s2.1 12) (b := fun b => if b < 47 then σM.1 3 b else σM.1 1 b) k3 q4 q5 q6 qk (fun j hj => if_pos hj)
    · rw [qc 0 (by decide)]; exact k1
    · show iv_R T (s2.1 13) (s2.1 14) (s2.1 15) (s2.1 16) (s2.1 17) (σM.1 3)
      rw [qc 13 (by decide), qc 14 (by decide), qc 15 (by decide), qc 16 (by decide), qc 17 (by decide)]; exact k3
    · show iv_L (s2.1 37 7) (s2.1 38) (s2.1 39) (s2.1 40) (s2.1 41) (s2.1 42) (s2.1 43) (σM.1 0 18) (σM.1 14) (σM.1 15) (σM.1 16) (σM.1 17) (σM.1 18)
      rw [qc 37 (by decide), qc 38 (by decide), qc 39 (by decide), qc 40 (by decide), qc 41 (by decide), qc 42 (by decide), qc 43 (by decide)]; exact hL
theorem wk_loopS {A P : Type} {f : P → Option (A ⊕ P)} {n : Nat} {p q : P} (h : f p = some (Sum.inr q)) : wk_loop f (n + 1) p = wk_loop f n q := by
  conv => lhs; unfold wk_loop
  rw [h]; rfl
theorem wk_loopI {A P : Type} {f : P → Option (A ⊕ P)} {n : Nat} {p : P} {a : A} (h : f p = some (Sum.inl a)) : wk_loop f (n + 1) p = some a := by
  unfold wk_loop
  rw [h]; rfl
/-- the tape's clearing -/
theorem iv_I_tape {c m : wk_St} (h : iv_I c m) : iv_I (wk_si c 1 1 0) (wk_si m 0 9 0) := by
  obtain ⟨T, w, N, hT, hF, hH, hR, hK, hL⟩ := h
  exact ⟨T, w, N, ⟨0, by decide, rfl, rfl, fun i hi => by omega⟩, hF, hH, hR, hK, hL⟩
theorem po_has {c : wk_St} {j : Nat} {x a b : Int32} (hj : c.1 1 1 = nI j) : f_X8_has x a b c = (f_X12_in x a b && decide (x ≤ nI j)) := by
  unfold f_X8_has
  rw [po_W, hj]
  cases f_X12_in x a b with
  | false => rfl
  | true =>
    rw [if_neg (by decide)]
    by_cases h : x > nI j
    · have h2 : ¬ x ≤ nI j := by
        have h3 : nI j < x := h
        rw [Int32.lt_iff_toInt_lt] at h3
        rw [Int32.le_iff_toInt_le]
        omega
      rw [if_pos h, decide_eq_false h2]; rfl
    · rw [if_neg h, decide_eq_true (po_le h)]; rfl
theorem po_byteAt {c : wk_St} {j i : Nat} {b : Nat → Int32} (hj : c.1 1 1 = nI j) (hj2 : j ≤ 260) (hi : i < j) (hb : c.1 2 = b) : f_X8_byteAt (nI i) c = some (b i) := by
  unfold f_X8_byteAt
  rw [if_neg (nI_pos (by omega)), hj, if_neg (nI_ge hi (by omega)), if_neg (show ¬ nI i ≥ 260 from nI_ge (a := i) (b := 260) (by omega) (by decide)), if_pos (po_wkin (by omega) (by decide)), nI_clamp (by omega), hb]
theorem po_octet {m : wk_St} {i : Nat} (hi : i < 260) : f_X12_octet (nI i) m = some (m.1 7 i &&& 255) := by
  unfold f_X12_octet
  rw [if_pos (po_wkin hi (by decide)), nI_clamp (by omega)]
