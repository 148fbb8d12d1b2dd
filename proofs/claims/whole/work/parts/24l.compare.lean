/-! PURE: law: two sums compared -/
theorem po_cmpM {t : Nat → Nat} {n p e h d : Nat} {c m : wk_St} (hY : iv_Y t n p e h d c m) : ∀ m0, f_X12_readsSum m0 = some (true, m) → f_X12_readsCompared m0 = if iv_sgn t n p = 60 then j_X12_readsCompared_24 7 m else if iv_sgn t n p = 62 then j_X12_readsCompared_24 8 m else if iv_sgn t n p = 61 then j_X12_readsCompared_24 9 m else j_X12_readsCompared_24 (-1) m := by
  intro m0 h0
  have hs := (po_sign hY.1).2
  unfold f_X12_readsCompared
  rw [h0]
  dsimp only [Option.bind]
  rw [if_pos rfl, hs]
  dsimp only
  by_cases h1 : iv_sgn t n p = 60
  · rw [if_neg (fun k => k h1), if_pos h1]
  · rw [if_pos h1, if_neg h1]
    by_cases h2 : iv_sgn t n p = 62
    · rw [if_neg (fun k => k h2), if_pos h2]
    · rw [if_pos h2, if_neg h2]
      by_cases h3 : iv_sgn t n p = 61
      · rw [if_neg (fun k => k h3), if_pos h3]
      · rw [if_pos h3, if_neg h3]
/-- both readers take one sign -/
theorem po_step {t : Nat → Nat} {n p e h d : Nat} {c m : wk_St} (hY : iv_Y t n p e h d c m) (hp : p < n) : ∃ c2 m2, c2 = wk_si c 34 3 (c.1 34 3 + 1) ∧ m2 = wk_si m 0 10 (m.1 0 10 + 1) ∧ iv_Y t n (p + 1) e h d c2 m2 ∧ iv_wC c c2 ∧ iv_wM m m2 ∧ ∀ E H, iv_old E H c m c2 m2 := by
  have e1 : c.1 34 3 + 1 = nI (p + 1) := by rw [hY.1.2.2.2.1, nI_1]
  have e2 : m.1 0 10 + 1 = nI (p + 1) := by rw [hY.1.2.2.2.2.1, nI_1]
  refine ⟨_, _, rfl, rfl, ?_, ?_, ?_, fun E H => ⟨fun j _ => ⟨po_si_c (by decide), po_si_c (by decide), po_si_c (by decide)⟩, fun j _ => po_si_c (by decide)⟩⟩
  · rw [e1, e2]
    exact iv_Y_p hY (by omega) (by omega) (fun a h => funext (fun b => po_si_c h)) (po_si_ne (by decide)) po_si_at (fun a h => funext (fun b => po_si_c h)) po_si_at (fun b h _ _ => po_si_ne h)
  · exact ⟨rfl, fun a h _ _ _ => funext (fun b => po_si_c h), po_si_c (by decide)⟩
  · exact ⟨rfl, fun a h _ _ => funext (fun b => po_si_c h), fun b h _ _ _ _ _ => po_si_ne h⟩
theorem po_compare {t : Nat → Nat} {n p e h d w : Nat} {c m : wk_St} (A B : Int32 → wk_St → Option (Bool × wk_St)) (hd : d ≤ 6) (hY : iv_Y t n p e h d c m) (hew : e + w ≤ p) (hwt : ∀ o, 2 ≤ o → o ≤ 6 → ¬ iv_wt m h = nI o) :
    ∃ b c2 m2, (Option.bind (f_X5_readSum (nI d) c) fun v3 => if v3.1 = true then Option.bind (f_X6_sign 34 v3.2) fun v4 => if v4 = (60 : Int32) then j_X5_readTest_74 A B (nI d) v4 v3.2 else if v4 = (62 : Int32) then j_X5_readTest_74 A B (nI d) v4 v3.2 else if v4 = (61 : Int32) then j_X5_readTest_74 A B (nI d) v4 v3.2 else wk_let (f_X6_blame 34 (1 : Int32) (v3.2.1 34 3) v3.2) fun v7 => some (v7.1, v7.2) else some (false, v3.2)) = some (b, c2) ∧ iv_wC c c2 ∧ iv_wM m m2 ∧
      ((b = false ∧ f_X12_readsCompared m = some (false, m2) ∧ iv_flL c2 m2) ∨ (b = true ∧ f_X12_readsCompared m = (Option.bind (f_X12_endsPiece m2) fun v7 => some (true, v7)) ∧ iv_old e h c m c2 m2 ∧ ∃ p2 e2, p < p2 ∧ e < e2 ∧ e2 + w ≤ p2 ∧ iv_Y t n p2 e2 h d c2 m2 ∧ iv_sgm c2 m2 16 e e2 [] [true])) := by
  obtain ⟨b, c1, m1, f1, f2, f3, f4, f5, f6⟩ := po_readsSum hd hY hew hwt
  rw [f1]
  dsimp only [Option.bind]
  rcases f6 with ⟨rfl, f7⟩ | ⟨rfl, p1, e1, g1, g2, g3, g4, g5⟩
  · rw [if_neg Bool.false_ne_true]
    refine ⟨false, c1, m1, rfl, f3, f4, Or.inl ⟨rfl, ?_, f7⟩⟩
    unfold f_X12_readsCompared
    rw [f2]
    rfl
  · rw [if_pos rfl, (po_sign g4.1).1]
    have eM := po_cmpM g4 m f2
    have hpn := g4.1.2.1
    have hn := g4.1.1
    have main : ∀ o, 7 ≤ o → o ≤ 9 → iv_sgn t n p1 = iv_sg o → f_X12_readsCompared m = j_X12_readsCompared_24 (nI o) m1 → ∃ b c2 m2, j_X5_readTest_74 A B (nI d) (iv_sg o) c1 = some (b, c2) ∧ iv_wC c c2 ∧ iv_wM m m2 ∧
      ((b = false ∧ f_X12_readsCompared m = some (false, m2) ∧ iv_flL c2 m2) ∨ (b = true ∧ f_X12_readsCompared m = (Option.bind (f_X12_endsPiece m2) fun v7 => some (true, v7)) ∧ iv_old e h c m c2 m2 ∧ ∃ p2 e2, p < p2 ∧ e < e2 ∧ e2 + w ≤ p2 ∧ iv_Y t n p2 e2 h d c2 m2 ∧ iv_sgm c2 m2 16 e e2 [] [true])) := by
      intro o o7 o9 hσ eM2
      have hp1 : p1 < n := by
        by_cases k : p1 < n
        · exact k
        · exfalso
          rw [show iv_sgn t n p1 = -1 from if_neg k] at hσ
          rcases (show o = 7 ∨ o = 8 ∨ o = 9 by omega) with rfl | rfl | rfl <;> exact absurd hσ (by decide)
      obtain ⟨c2, m2, s1, s2, s3, s4, s5, s6⟩ := po_step g4 hp1
      have w2 : iv_old e h c m c2 m2 := iv_old_t f5 (s6 e h) (Nat.le_refl e) (Nat.le_refl h)
      obtain ⟨b, c3, m3, k1, k2, k3, k4, k5, k6⟩ := po_readsSum (w := w + 1) hd s3 (by omega) (fun o' a1 a2 => by rw [iv_wt_old w2]; exact hwt o' a1 a2)
      unfold j_X12_readsCompared_24 at eM2
      rw [if_pos (show ¬ nI o = -1 from po_m1 (by omega)), ← s2, k2] at eM2
      unfold j_X5_readTest_74
      rw [← s1, k1]
      dsimp only [Option.bind] at eM2 ⊢
      rcases k6 with ⟨rfl, k7⟩ | ⟨rfl, p2, e2, y1, y2, y3, y4, y5⟩
      · obtain ⟨v, c4, z1, z2, z3⟩ := po_putT (iv_sg o) 0 c3
        rw [z1]
        rw [if_neg Bool.false_ne_true] at eM2
        obtain ⟨fl, i, q1, q2, q3, q4, q5⟩ := k7
        exact ⟨false, c4, m3, rfl, iv_wC_t f3 (iv_wC_t s4 (iv_wC_t k3 z2)), iv_wM_t f4 (iv_wM_t s5 k4), Or.inl ⟨rfl, eM2, fl, i, q1, q2, q3, by rw [z3]; exact q4, q5⟩⟩
      · have hp2 := y4.1.2.1
        obtain ⟨c4, m4, q1, q2, q3, q4, q5, q6, q7, q8, q9, _, _⟩ := po_emit o 0 y4 (by omega) (iv_sg o) 0 rfl rfl
        have q2' : f_X12_notes (nI o) 0 m3 = some m4 := q2
        rw [q1]
        rw [if_pos rfl, q2'] at eM2
        refine ⟨true, c4, m4, rfl, iv_wC_t f3 (iv_wC_t s4 (iv_wC_t k3 q4)), iv_wM_t f4 (iv_wM_t s5 (iv_wM_t k4 q5)), Or.inr ⟨rfl, eM2, iv_old_t w2 (iv_old_t k5 (q6 h) (by omega) (Nat.le_refl h)) (by omega) (Nat.le_refl h), p2, e2 + 1, by omega, by omega, by omega, q3, ?_⟩⟩
        have t1 : iv_sgm c4 m4 16 e e1 [] [false] := iv_sgm_L (iv_sgm_old g5 (fun j _ hj => by
          have a1 := (s6 e1 h).1 j hj
          have a2 := k5.1 j hj
          have a3 := (q6 0).1 j (by omega)
          exact ⟨a3.1.trans (a2.1.trans a1.1), a3.2.1.trans (a2.2.1.trans a1.2.1), a3.2.2.trans (a2.2.2.trans a1.2.2)⟩)) (by omega)
        have t2 : iv_sgm c4 m4 16 e1 e2 [false] [false, false] := iv_sgm_L (iv_sgm_sh [false] (iv_sgm_old y5 (fun j _ hj => (q6 0).1 j hj)) (by show 15 - 2 * d + 1 ≤ 30; omega)) (by show 15 - 2 * d + 1 ≤ 16; omega)
        exact iv_sgm_cat (iv_sgm_cat t1 t2 (by omega) (by omega)) (iv_sgm_1 o 0 (by omega) (by decide) q7 q8 q9 (by decide) (by decide) (by decide) (Or.inr (Or.inr (Or.inr (Or.inl ⟨o7, o9, false, false, [], rfl, rfl⟩))))) (by omega) (by omega)
    dsimp only
    by_cases h1 : iv_sgn t n p1 = 60
    · rw [if_pos h1] at eM ⊢
      rw [h1]
      exact main 7 (by decide) (by decide) h1 eM
    · rw [if_neg h1] at eM ⊢
      by_cases h2 : iv_sgn t n p1 = 62
      · rw [if_pos h2] at eM ⊢
        rw [h2]
        exact main 8 (by decide) (by decide) h2 eM
      · rw [if_neg h2] at eM ⊢
        by_cases h3 : iv_sgn t n p1 = 61
        · rw [if_pos h3] at eM ⊢
          rw [h3]
          exact main 9 (by decide) (by decide) h3 eM
        · rw [if_neg h3] at eM ⊢
          obtain ⟨c3, m3, q1, q2, q3, q4, q5, q6⟩ := po_blameL (c := c1) (m := m1) 1 p1 (by decide) (by decide) (by omega)
          have q1' : f_X6_blame 34 1 (nI p1) c1 = _ := q1
          have q2' : f_X12_wrongAt 1 (nI p1) m1 = _ := q2
          unfold wk_let
          rw [g4.1.2.2.2.1, q1']
          refine ⟨false, c3, m3, rfl, iv_wC_t f3 q4, iv_wM_t f4 q5, Or.inl ⟨rfl, ?_, q3⟩⟩
          rw [eM]
          unfold j_X12_readsCompared_24 wk_let
          rw [if_neg (fun k => k rfl), g4.1.2.2.2.2.1, q2']
