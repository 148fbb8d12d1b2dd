/-! PURE: hunts: the op -/
theorem po_RIbad {t : Nat → Nat} {n p d k Fo : Nat} {c m : wk_St} (hQ : iv_Q t n p d k c m) (hFo : 0 < Fo) (hs1 : iv_sgn t n p = 41) : ∃ m2, Option.bind (f_X12_readsTimes m) (iv_RI Fo) = some (false, m2) ∧ m2.1 0 12 = f_X11_faultOf 1 (nI p) ∧ ∀ e, iv_qM e m m2 := by
  obtain ⟨M, hM⟩ : ∃ M, M = wk_si (wk_si m 0 40 (m.1 0 10)) 0 41 1 := ⟨_, rfl⟩
  have M0 : ∀ b, b ≠ 40 → b ≠ 41 → M.1 0 b = m.1 0 b := fun b h h1 => by rw [hM, po_si_ne h1, po_si_ne h]
  have Ma : ∀ a, a ≠ 0 → M.1 a = m.1 a := fun a h => by rw [hM]; exact funext (fun b => (po_si_c h).trans (po_si_c h))
  have hRM : iv_RD 30 t n p c M := by
    obtain ⟨r1, r2, r3, r4, r5, r6, r7⟩ := hQ.1
    refine ⟨r1, r2, r3, r4, ?_, ?_, ?_⟩
    · rw [M0 10 (by decide) (by decide)]; exact r5
    · rw [M0 11 (by decide) (by decide)]; exact r6
    · rw [Ma 7 (by decide)]; exact r7
  have hs := (po_sign hRM).2
  have eT : f_X12_readsTimes m = some M := by
    unfold f_X12_readsTimes
    rw [← hM, hs, hs1]
    dsimp only [Option.bind]
    rw [if_neg (by decide)]
  have e : ∀ f, wk_loop S_X12_readsItem_2 (f + 1) M = some (Sum.inr M) := fun f => by
    refine wk_loopI ?_
    unfold S_X12_readsItem_2
    rw [hs, hs1]
    dsimp only [Option.bind]
    rw [if_pos (show ¬ (41 : Int32) = 40 by decide)]
  refine ⟨wk_si M 0 12 (f_X11_faultOf 1 (nI p)), ?_, po_si_at, fun e => ⟨by rw [hM]; rfl, fun a h _ _ _ _ => (funext (fun b => po_si_c h) : _ = M.1 a).trans (Ma a h), fun b _ h2 _ _ h4 h5 => (po_si_ne h2).trans (M0 b h4 h5), fun i _ => ⟨(po_si_c (by decide)).trans (by rw [Ma 24 (by decide)]), (po_si_c (by decide)).trans (by rw [Ma 25 (by decide)]), (po_si_c (by decide)).trans (by rw [Ma 26 (by decide)])⟩⟩⟩
  obtain ⟨f, rfl⟩ : ∃ f, Fo = f + 1 := ⟨Fo - 1, by omega⟩
  rw [eT]
  dsimp only [Option.bind]
  unfold iv_RI wk_let
  rw [e]
  dsimp only [Option.bind]
  rw [hs, hs1, hRM.2.2.2.2.1]
  dsimp only
  rw [if_neg (show ¬ (41 : Int32) = 46 by decide), if_neg (show ¬ (41 : Int32) = 104 by decide)]
  rfl
/-- the text is read: both say the same -/
theorem po_huntsR {x : Int32} {t : Nat → Nat} {n : Nat} {c m : wk_St} (hQ : iv_Q t n 0 0 0 c m) :
    ∃ b c2 m2, iv_qC c c2 ∧ iv_qM 0 m m2 ∧ iv_A x wk_F wk_F m = some (b2i b, m2) ∧
      ((b = false ∧ ∃ r, r < 0 ∧ m2.1 0 12 = r ∧ (Option.bind (f_X3_readRow (0 : Int32) c) fun v1 => if v1.1 = false then some ((f_X6_answer 30 (0 : Int32) (v1.2.1 30 5) v1.2), v1.2) else Option.bind (f_X6_pass 30 (-1 : Int32) v1.2) fun v3 => if v3.1 = false then some ((f_X6_answer 30 (0 : Int32) (v3.2.1 30 5) v3.2), v3.2) else some ((f_X6_answer 30 (1 : Int32) (v3.2.1 30 5) v3.2), v3.2)) = some (r, c2)) ∨
       (b = true ∧ ∃ k, k ≤ 48 ∧ m2.1 0 38 = nI k ∧ (∀ j, j < k → (m2.1 23 j = 0 ∨ m2.1 23 j = 1) ∧ iv_bit (c2.2 30 4) j = decide (m2.1 23 j = 1)) ∧ (Option.bind (f_X3_readRow (0 : Int32) c) fun v1 => if v1.1 = false then some ((f_X6_answer 30 (0 : Int32) (v1.2.1 30 5) v1.2), v1.2) else Option.bind (f_X6_pass 30 (-1 : Int32) v1.2) fun v3 => if v3.1 = false then some ((f_X6_answer 30 (0 : Int32) (v3.2.1 30 5) v3.2), v3.2) else some ((f_X6_answer 30 (1 : Int32) (v3.2.1 30 5) v3.2), v3.2)) = some (nI k, c2))) := by
  have hFF : wk_F = 4096 := rfl
  have neg : ∀ f i, f < 10 → f ≠ 0 → i < 260 → f_X11_faultOf (nI f) (nI i) < 0 := fun f i h1 h2 h3 => by
    have := po_fa h1 h2 h3
    have h4 : ¬ (0 : Int32) ≤ f_X11_faultOf (nI f) (nI i) := this
    rw [Int32.le_iff_toInt_le] at h4
    rw [Int32.lt_iff_toInt_lt]
    omega
  obtain ⟨b, c2, m2, h1, h2, h3, h4⟩ := po_rows (x := x) 0 0 c m wk_F wk_F hQ (by omega) (by omega)
  have h1' : f_X3_readRow 0 c = some (b, c2) := h1
  rw [h1']
  dsimp only [Option.bind]
  rcases h4 with ⟨rfl, h5, ⟨f, i, f1, f2, f3, f4, f5⟩⟩ | ⟨rfl, p2, k2, F, G, h5, h6, h7, h8, h9, h10, h11⟩
  · refine ⟨false, c2, m2, h2, h3, h5, Or.inl ⟨rfl, _, neg f i f1 f2 f3, f5, ?_⟩⟩
    rw [if_pos rfl]
    unfold f_X6_answer
    rw [if_pos rfl, f4]
  · have hR2 := h8.1
    have hp2 := hR2.2.1
    have hn := hR2.1
    obtain ⟨G, rfl⟩ : ∃ z, G = z + 1 := ⟨G - 1, by omega⟩
    obtain ⟨F, rfl⟩ : ∃ z, F = z + 1 := ⟨F - 1, by omega⟩
    have hs := po_sign hR2
    rw [if_neg (fun h => Bool.false_ne_true h.symm)]
    rcases h7 with hm1 | h41
    · have hp2n : ¬ p2 < n := fun h => by
        unfold iv_sgn at hm1
        rw [if_pos h] at hm1
        exact po_m1 (by have := (hR2.2.2.2.2.2.2 p2 h).1; omega) hm1
      have e1 : f_X6_pass 30 (-1) c2 = some (true, wk_si c2 30 3 (c2.1 30 3 + 1)) := by
        unfold f_X6_pass wk_let
        rw [hs.1, hm1]
        rfl
      rw [e1, h9]
      refine ⟨true, wk_si c2 30 3 (c2.1 30 3 + 1), m2, iv_qC_t h2 iv_qC_si, h3, ?_, Or.inr ⟨rfl, k2, h8.2.1, h8.2.2.2.1, h8.2.2.2.2.2.1, ?_⟩⟩
      · unfold iv_BB
        rw [po_cl1 hR2 (by omega) (by rw [hm1]; decide)]
        unfold iv_on
        dsimp only [Option.bind]
        refine wk_loopI ?_
        unfold S_X12_hunts_28
        dsimp only
        rw [if_neg (show ¬ b2i true = 0 by decide), hR2.2.2.2.2.1, hR2.2.2.2.2.2.1, if_neg (nI_nlt (by omega) (by omega)), h8.2.2.2.2.1, if_pos (show nI 0 ≤ 0 by decide)]
      · dsimp only
        rw [if_neg (fun h => Bool.false_ne_true h.symm)]
        unfold f_X6_answer
        rw [if_neg (show ¬ (1 : Int32) = 0 by decide), po_si_ne (by decide), h8.2.2.1]
    · obtain ⟨hp2n, _⟩ := po_sgnp (z := 41) hR2 (by decide) h41
      have e1 : f_X6_pass 30 (-1) c2 = some (false, wk_si c2 30 2 (f_X11_faultOf 1 (nI p2))) := by
        unfold f_X6_pass wk_let
        rw [hs.1, h41, hR2.2.2.2.1]
        rfl
      obtain ⟨m3, k1, k3, k4⟩ := po_RIbad (Fo := wk_F) h8 (by omega) h41
      rw [e1, h9]
      refine ⟨false, wk_si c2 30 2 (f_X11_faultOf 1 (nI p2)), m3, iv_qC_t h2 iv_qC_si, iv_qM_t h3 (k4 0), ?_, Or.inl ⟨rfl, _, neg 1 p2 (by decide) (by decide) (by omega), k3, ?_⟩⟩
      · have ec : iv_cl (F + 1) m2 = some (true, m2) := by
          have e : wk_loop S_X12_readsItem_118 (F + 1) m2 = some (Sum.inr m2) := by
            refine wk_loopI ?_
            unfold S_X12_readsItem_118
            rw [hs.2, h41]
            dsimp only [Option.bind]
            rw [if_neg (fun h => h rfl), h8.2.2.2.2.1, if_pos (show nI 0 ≤ 0 by decide)]
          unfold iv_cl
          rw [e]
          rfl
        unfold iv_BB
        rw [ec, po_28 ?_, iv_RI_e, k1]
        · exact iv_on_f (by omega)
        · unfold S_X12_hunts_28
          dsimp only
          rw [if_neg (show ¬ b2i true = 0 by decide), hR2.2.2.2.2.1, hR2.2.2.2.2.2.1, if_pos (nI_lt hp2n (by omega))]
      · dsimp only
        rw [if_pos rfl]
        unfold f_X6_answer
        rw [if_pos rfl, po_si_at]
        rfl
