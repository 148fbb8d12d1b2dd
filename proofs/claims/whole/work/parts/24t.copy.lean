/-! PURE: law: what was read comes into force -/
theorem po_copyR (s : wk_St) : ∃ s2, wk_loop S_X4_copyFrom_2 wk_F ((0 : Int32), s) = some s2 ∧ s2.2 = s.2 ∧ (∀ a, (a < 38 ∨ 41 < a) → s2.1 a = s.1 a) ∧ ∀ j, j < 16 → s2.1 38 j = s.1 46 j ∧ s2.1 39 j = s.1 47 j ∧ s2.1 40 j = s.1 48 j ∧ s2.1 41 j = s.1 49 j := by
  obtain ⟨a, ea, h⟩ := po_inv (f := S_X4_copyFrom_2)
    (fun i q => ∃ s2, q = (nI i, s2) ∧ s2.2 = s.2 ∧ (∀ a, (a < 38 ∨ 41 < a) → s2.1 a = s.1 a) ∧ ∀ j, j < i → s2.1 38 j = s.1 46 j ∧ s2.1 39 j = s.1 47 j ∧ s2.1 40 j = s.1 48 j ∧ s2.1 41 j = s.1 49 j)
    (fun s2 => s2.2 = s.2 ∧ (∀ a, (a < 38 ∨ 41 < a) → s2.1 a = s.1 a) ∧ ∀ j, j < 16 → s2.1 38 j = s.1 46 j ∧ s2.1 39 j = s.1 47 j ∧ s2.1 40 j = s.1 48 j ∧ s2.1 41 j = s.1 49 j) 16 (by
      rintro i q hi ⟨s2, rfl, h1, h2, h3⟩
      have w := po_wkin (j := i) (n := 16) hi (by decide)
      unfold S_X4_copyFrom_2
      dsimp only
      rw [if_neg (show ¬ nI i ≥ 16 from nI_ge (b := 16) hi (by decide)), if_pos w, if_pos w, if_pos w, if_pos w, if_pos w, if_pos w, if_pos w, if_pos w, nI_clamp (by omega), nI_1]
      refine ⟨_, rfl, _, rfl, h1, fun a ha => ?_, fun j hj => ?_⟩
      · rw [← h2 a ha]
        exact funext (fun b => by rw [po_si_c (by omega), po_si_c (by omega), po_si_c (by omega), po_si_c (by omega)])
      · have e46 : s2.1 46 i = s.1 46 i := by rw [h2 46 (by decide)]
        have e47 : s2.1 47 i = s.1 47 i := by rw [h2 47 (by decide)]
        have e48 : s2.1 48 i = s.1 48 i := by rw [h2 48 (by decide)]
        have e49 : s2.1 49 i = s.1 49 i := by rw [h2 49 (by decide)]
        by_cases hji : j = i
        · subst hji
          refine ⟨?_, ?_, ?_, ?_⟩
          · rw [po_si_c (by decide), po_si_c (by decide), po_si_c (by decide), po_si_at]; exact e46
          · rw [po_si_c (by decide), po_si_c (by decide), po_si_at, po_si_c (by decide)]; exact e47
          · rw [po_si_c (by decide), po_si_at, po_si_c (by decide), po_si_c (by decide)]; exact e48
          · rw [po_si_at, po_si_c (by decide), po_si_c (by decide), po_si_c (by decide)]; exact e49
        · obtain ⟨k1, k2, k3, k4⟩ := h3 j (by omega)
          refine ⟨?_, ?_, ?_, ?_⟩
          · rw [po_si_c (by decide), po_si_c (by decide), po_si_c (by decide), po_si_ne hji]; exact k1
          · rw [po_si_c (by decide), po_si_c (by decide), po_si_ne hji, po_si_c (by decide)]; exact k2
          · rw [po_si_c (by decide), po_si_ne hji, po_si_c (by decide), po_si_c (by decide)]; exact k3
          · rw [po_si_ne hji, po_si_c (by decide), po_si_c (by decide), po_si_c (by decide)]; exact k4) (by
      rintro q ⟨s2, rfl, h1, h2, h3⟩
      unfold S_X4_copyFrom_2
      dsimp only
      rw [if_pos (show nI 16 ≥ 16 from by decide)]
      exact ⟨_, rfl, h1, h2, h3⟩) (by decide) (p := ((0 : Int32), s)) ⟨s, rfl, rfl, fun _ _ => rfl, fun j hj => by omega⟩
  exact ⟨a, ea, h⟩
theorem po_copyC (s : wk_St) : ∃ s2, wk_loop S_X4_copyFrom_41 wk_F ((0 : Int32), s) = some s2 ∧ s2.2 = s.2 ∧ (∀ a, (a < 42 ∨ 43 < a) → s2.1 a = s.1 a) ∧ ∀ j, j < 240 → s2.1 42 j = s.1 50 j ∧ s2.1 43 j = s.1 51 j := by
  obtain ⟨a, ea, h⟩ := po_inv (f := S_X4_copyFrom_41)
    (fun i q => ∃ s2, q = (nI i, s2) ∧ s2.2 = s.2 ∧ (∀ a, (a < 42 ∨ 43 < a) → s2.1 a = s.1 a) ∧ ∀ j, j < i → s2.1 42 j = s.1 50 j ∧ s2.1 43 j = s.1 51 j)
    (fun s2 => s2.2 = s.2 ∧ (∀ a, (a < 42 ∨ 43 < a) → s2.1 a = s.1 a) ∧ ∀ j, j < 240 → s2.1 42 j = s.1 50 j ∧ s2.1 43 j = s.1 51 j) 240 (by
      rintro i q hi ⟨s2, rfl, h1, h2, h3⟩
      have w := po_wkin (j := i) (n := 240) hi (by decide)
      unfold S_X4_copyFrom_41
      dsimp only
      rw [if_neg (show ¬ nI i ≥ 240 from nI_ge (b := 240) hi (by decide)), if_pos w, if_pos w, if_pos w, if_pos w, nI_clamp (by omega), nI_1]
      refine ⟨_, rfl, _, rfl, h1, fun a ha => ?_, fun j hj => ?_⟩
      · rw [← h2 a ha]
        exact funext (fun b => by rw [po_si_c (by omega), po_si_c (by omega)])
      · have e50 : s2.1 50 i = s.1 50 i := by rw [h2 50 (by decide)]
        have e51 : s2.1 51 i = s.1 51 i := by rw [h2 51 (by decide)]
        by_cases hji : j = i
        · subst hji
          refine ⟨?_, ?_⟩
          · rw [po_si_c (by decide), po_si_at]; exact e50
          · rw [po_si_at, po_si_c (by decide)]; exact e51
        · obtain ⟨k1, k2⟩ := h3 j (by omega)
          refine ⟨?_, ?_⟩
          · rw [po_si_c (by decide), po_si_ne hji]; exact k1
          · rw [po_si_ne hji, po_si_c (by decide)]; exact k2) (by
      rintro q ⟨s2, rfl, h1, h2, h3⟩
      unfold S_X4_copyFrom_41
      dsimp only
      rw [if_pos (show nI 240 ≥ 240 from by decide)]
      exact ⟨_, rfl, h1, h2, h3⟩) (by decide) (p := ((0 : Int32), s)) ⟨s, rfl, rfl, fun _ _ => rfl, fun j hj => by omega⟩
  exact ⟨a, ea, h⟩
theorem po_copyL (s : wk_St) : ∃ s2, f_X4_copyFrom s = some s2 ∧ s2.2 = s.2 ∧ (∀ a, (a < 37 ∨ 43 < a) → s2.1 a = s.1 a) ∧ s2.1 37 7 = s.1 45 7 ∧ (∀ j, j < 16 → s2.1 38 j = s.1 46 j ∧ s2.1 39 j = s.1 47 j ∧ s2.1 40 j = s.1 48 j ∧ s2.1 41 j = s.1 49 j) ∧ ∀ j, j < 240 → s2.1 42 j = s.1 50 j ∧ s2.1 43 j = s.1 51 j := by
  obtain ⟨s1, a1, a2, a3, a4⟩ := po_copyR s
  obtain ⟨s2, b1, b2, b3, b4⟩ := po_copyC s1
  have e45 : ∀ b, s2.1 45 b = s.1 45 b := fun b => by rw [b3 45 (by decide), a3 45 (by decide)]
  obtain ⟨S, hS⟩ : ∃ S, S = wk_si (wk_si s2 37 7 (s2.1 45 7)) 37 8 ((wk_si s2 37 7 (s2.1 45 7)).1 45 8) := ⟨_, rfl⟩
  have oS : ∀ a, a ≠ 37 → S.1 a = s2.1 a := fun a h => by rw [hS]; exact funext (fun b => by rw [po_si_c h, po_si_c h])
  refine ⟨S, ?_, by rw [hS]; exact b2.trans a2, fun a ha => ?_, ?_, fun j hj => ?_, fun j hj => ?_⟩
  · unfold f_X4_copyFrom
    rw [a1]
    dsimp only [Option.bind]
    rw [b1]
    dsimp only
    rw [← hS]
  · rw [oS a (by omega), b3 a (by omega), a3 a (by omega)]
  · rw [hS, po_si_ne (by decide), po_si_at]; exact e45 7
  · rw [oS 38 (by decide), oS 39 (by decide), oS 40 (by decide), oS 41 (by decide), b3 38 (by decide), b3 39 (by decide), b3 40 (by decide), b3 41 (by decide)]
    exact a4 j hj
  · rw [oS 42 (by decide), oS 43 (by decide)]
    have := b4 j hj
    rw [a3 50 (by decide), a3 51 (by decide)] at this
    exact this
theorem po_saysC {m : wk_St} {e : Nat} (h15 : m.1 0 15 = nI e) (he : e ≤ 240) : ∃ m2, wk_loop S_X12_law_50 wk_F ((0 : Int32), m) = some m2 ∧ m2.2 = m.2 ∧ (∀ a, a ≠ 14 → m2.1 a = m.1 a) ∧ ∀ j, j < e → m2.1 14 j = m.1 8 j := by
  obtain ⟨a, ea, h⟩ := po_inv (f := S_X12_law_50)
    (fun i q => ∃ s2, q = (nI i, s2) ∧ s2.2 = m.2 ∧ (∀ a, a ≠ 14 → s2.1 a = m.1 a) ∧ ∀ j, j < i → s2.1 14 j = m.1 8 j)
    (fun s2 => s2.2 = m.2 ∧ (∀ a, a ≠ 14 → s2.1 a = m.1 a) ∧ ∀ j, j < e → s2.1 14 j = m.1 8 j) e (by
      rintro i q hi ⟨s2, rfl, h1, h2, h3⟩
      have w := po_wkin (j := i) (n := 260) (by omega) (by decide)
      have e15 : s2.1 0 15 = nI e := by rw [h2 0 (by decide)]; exact h15
      unfold S_X12_law_50
      dsimp only
      rw [e15, if_neg (nI_ge hi (by omega)), if_pos w, if_pos w, nI_clamp (by omega), nI_1]
      refine ⟨_, rfl, _, rfl, h1, fun a ha => ?_, fun j hj => ?_⟩
      · rw [← h2 a ha]
        exact funext (fun b => po_si_c ha)
      · by_cases hji : j = i
        · subst hji
          rw [po_si_at, h2 8 (by decide)]
        · rw [po_si_ne hji]
          exact h3 j (by omega)) (by
      rintro q ⟨s2, rfl, h1, h2, h3⟩
      have e15 : s2.1 0 15 = nI e := by rw [h2 0 (by decide)]; exact h15
      unfold S_X12_law_50
      dsimp only
      rw [e15, if_pos (nI_le (Nat.le_refl e) (by omega))]
      exact ⟨_, rfl, h1, h2, h3⟩) (by omega) (p := ((0 : Int32), m)) ⟨m, rfl, rfl, fun _ _ => rfl, fun j hj => by omega⟩
  exact ⟨a, ea, h⟩
theorem po_saysR {m : wk_St} {R : Nat} (h17 : m.1 0 17 = nI R) (hR : R ≤ 16) : ∃ m2, wk_loop S_X12_law_66 wk_F ((0 : Int32), m) = some m2 ∧ m2.2 = m.2 ∧ (∀ a, (a < 15 ∨ 18 < a) → m2.1 a = m.1 a) ∧ ∀ j, j < R → m2.1 15 j = m.1 10 j ∧ m2.1 16 j = m.1 11 j ∧ m2.1 17 j = m.1 12 j ∧ m2.1 18 j = m.1 13 j := by
  obtain ⟨a, ea, h⟩ := po_inv (f := S_X12_law_66)
    (fun i q => ∃ s2, q = (nI i, s2) ∧ s2.2 = m.2 ∧ (∀ a, (a < 15 ∨ 18 < a) → s2.1 a = m.1 a) ∧ ∀ j, j < i → s2.1 15 j = m.1 10 j ∧ s2.1 16 j = m.1 11 j ∧ s2.1 17 j = m.1 12 j ∧ s2.1 18 j = m.1 13 j)
    (fun s2 => s2.2 = m.2 ∧ (∀ a, (a < 15 ∨ 18 < a) → s2.1 a = m.1 a) ∧ ∀ j, j < R → s2.1 15 j = m.1 10 j ∧ s2.1 16 j = m.1 11 j ∧ s2.1 17 j = m.1 12 j ∧ s2.1 18 j = m.1 13 j) R (by
      rintro i q hi ⟨s2, rfl, h1, h2, h3⟩
      have w := po_wkin (j := i) (n := 16) (by omega) (by decide)
      have e17 : s2.1 0 17 = nI R := by rw [h2 0 (by decide)]; exact h17
      unfold S_X12_law_66
      dsimp only
      rw [e17, if_neg (nI_ge hi (by omega)), if_pos w, if_pos w, if_pos w, if_pos w, if_pos w, if_pos w, if_pos w, if_pos w, nI_clamp (by omega), nI_1]
      refine ⟨_, rfl, _, rfl, h1, fun a ha => ?_, fun j hj => ?_⟩
      · rw [← h2 a ha]
        exact funext (fun b => by rw [po_si_c (by omega), po_si_c (by omega), po_si_c (by omega), po_si_c (by omega)])
      · have e46 : s2.1 10 i = m.1 10 i := by rw [h2 10 (by decide)]
        have e47 : s2.1 11 i = m.1 11 i := by rw [h2 11 (by decide)]
        have e48 : s2.1 12 i = m.1 12 i := by rw [h2 12 (by decide)]
        have e49 : s2.1 13 i = m.1 13 i := by rw [h2 13 (by decide)]
        by_cases hji : j = i
        · subst hji
          refine ⟨?_, ?_, ?_, ?_⟩
          · rw [po_si_c (by decide), po_si_c (by decide), po_si_c (by decide), po_si_at]; exact e46
          · rw [po_si_c (by decide), po_si_c (by decide), po_si_at, po_si_c (by decide)]; exact e47
          · rw [po_si_c (by decide), po_si_at, po_si_c (by decide), po_si_c (by decide)]; exact e48
          · rw [po_si_at, po_si_c (by decide), po_si_c (by decide), po_si_c (by decide)]; exact e49
        · obtain ⟨k1, k2, k3, k4⟩ := h3 j (by omega)
          refine ⟨?_, ?_, ?_, ?_⟩
          · rw [po_si_c (by decide), po_si_c (by decide), po_si_c (by decide), po_si_ne hji]; exact k1
          · rw [po_si_c (by decide), po_si_c (by decide), po_si_ne hji, po_si_c (by decide)]; exact k2
          · rw [po_si_c (by decide), po_si_ne hji, po_si_c (by decide), po_si_c (by decide)]; exact k3
          · rw [po_si_ne hji, po_si_c (by decide), po_si_c (by decide), po_si_c (by decide)]; exact k4) (by
      rintro q ⟨s2, rfl, h1, h2, h3⟩
      have e17 : s2.1 0 17 = nI R := by rw [h2 0 (by decide)]; exact h17
      unfold S_X12_law_66
      dsimp only
      rw [e17, if_pos (nI_le (Nat.le_refl R) (by omega))]
      exact ⟨_, rfl, h1, h2, h3⟩) (by omega) (p := ((0 : Int32), m)) ⟨m, rfl, rfl, fun _ _ => rfl, fun j hj => by omega⟩
  exact ⟨a, ea, h⟩
/-- what was read, in force -/
theorem po_force {R e : Nat} {c m c2 m2 : wk_St} (hZ : iv_LZ R e c m) (he : e ≤ 240) (h37 : c2.1 37 7 = c.1 45 7) (h18 : m2.1 0 18 = nI R) (hr : ∀ j, j < 16 → c2.1 38 j = c.1 46 j ∧ c2.1 39 j = c.1 47 j ∧ c2.1 40 j = c.1 48 j ∧ c2.1 41 j = c.1 49 j) (hc : ∀ j, j < 240 → c2.1 42 j = c.1 50 j ∧ c2.1 43 j = c.1 51 j) (hm : ∀ j, j < e → m2.1 14 j = m.1 8 j) (hs : ∀ j, j < R → m2.1 15 j = m.1 10 j ∧ m2.1 16 j = m.1 11 j ∧ m2.1 17 j = m.1 12 j ∧ m2.1 18 j = m.1 13 j) :
    iv_L (c2.1 37 7) (c2.1 38) (c2.1 39) (c2.1 40) (c2.1 41) (c2.1 42) (c2.1 43) (m2.1 0 18) (m2.1 14) (m2.1 15) (m2.1 16) (m2.1 17) (m2.1 18) := by
  obtain ⟨z1, z2, z3, z4⟩ := hZ
  have seg : ∀ f g b, g ≤ e → iv_sgm c m 30 f g [] [b] → iv_seg (c2.1 42) (c2.1 43) (m2.1 14) b f g := fun f g b hg k => by
    obtain ⟨ty, k1, k2, _, k4⟩ := k
    refine ⟨ty, k1, k2, fun i hi hi2 => ?_⟩
    rw [(hc i (by omega)).1, (hc i (by omega)).2, hm i (by omega)]
    exact k4 i hi hi2
  refine ⟨R, z1, h37.trans z2, h18, fun r hrR => ?_⟩
  obtain ⟨w1, f, h, g, w2, w3, w4, w5, w6, w7, w8, w9, w10, w11, w12⟩ := z4 r hrR
  obtain ⟨a1, a2, a3, a4⟩ := hr r (by omega)
  obtain ⟨b1, b2, b3, b4⟩ := hs r hrR
  rw [a1, a2, a3, a4, b1, b2, b3, b4]
  exact ⟨w1, f, h, g, w2, w3, by omega, w5, w6, w7, w8, w9, w10, fun hz => seg f h false (by omega) (w11 hz), seg h g true w4 w12⟩
