/-! PURE: what the law says -/
theorem po_clamp {v : Int32} {H : Nat} (hH : H < 2 ^ 31) : ∃ V, V ≤ H ∧ f_J9_max_7cf53 0 (f_J9_min_7cf53 (nI H) v) = nI V ∧ (if v ≥ 0 then (if v ≤ nI H then v else nI H) else 0) = nI V := by
  unfold f_J9_max_7cf53 f_J9_min_7cf53
  by_cases h0 : v ≥ 0
  · have h0' : ¬ v < 0 := fun h => by
      have h1 : (0 : Int32) ≤ v := h0
      rw [Int32.le_iff_toInt_le] at h1
      rw [Int32.lt_iff_toInt_lt] at h
      omega
    obtain ⟨q, hq, rfl⟩ := nI_of h0'
    rw [if_pos h0]
    by_cases hle : q ≤ H
    · refine ⟨q, hle, ?_, if_pos (nI_le hle hH)⟩
      have e : (if nI H > nI q then nI q else nI H) = nI q := by
        by_cases h : q < H
        · rw [if_pos (show nI H > nI q from nI_lt h hH)]
        · have : q = H := by omega
          rw [this, if_neg (show ¬ nI H > nI H from nI_nlt (Nat.le_refl H) hH)]
      rw [e]
      by_cases hq0 : q = 0
      · subst hq0; rfl
      · rw [if_pos (show (0 : Int32) < nI q from nI_lt (a := 0) (by omega) hq)]
    · refine ⟨H, Nat.le_refl H, ?_, if_neg (fun h => hle ((nI_leI hq hH).mp h))⟩
      rw [if_neg (show ¬ nI H > nI q from nI_nlt (by omega) (by omega))]
      by_cases hq0 : H = 0
      · subst hq0; rfl
      · rw [if_pos (show (0 : Int32) < nI H from nI_lt (a := 0) (by omega) hH)]
  · refine ⟨0, Nat.zero_le _, ?_, if_neg h0⟩
    have hv : v.toInt < 0 := by
      have h1 : ¬ (0 : Int32) ≤ v := h0
      rw [Int32.le_iff_toInt_le] at h1
      have e0 : (0 : Int32).toInt = 0 := rfl
      omega
    have e1 : nI H > v := by
      show v < nI H
      rw [Int32.lt_iff_toInt_lt, nI_toInt hH]
      omega
    have e2 : ¬ (0 : Int32) < v := by
      rw [Int32.lt_iff_toInt_lt]
      have e0 : (0 : Int32).toInt = 0 := rfl
      omega
    rw [if_pos e1, if_neg e2]; rfl
theorem po_n16 {a : Nat} (h : a < 16) : ¬ nI a ≥ 16 := nI_ge (b := 16) h (by decide)
theorem po_value {c m : wk_St} {kd : Int32} {H : Nat} (hL : iv_L (c.1 37 7) (c.1 38) (c.1 39) (c.1 40) (c.1 41) (c.1 42) (c.1 43) (m.1 0 18) (m.1 14) (m.1 15) (m.1 16) (m.1 17) (m.1 18)) (hlet : ∀ v, v < 8 → c.1 24 v = m.1 20 v) (hkd : ¬ kd = 115) (hH : H < 2 ^ 31) (h rf : Int32) (K L : Nat → Int32) :
    ∃ V h2 rf2 K2 L2, f_X4_valueOf kd (nI H) (iv_rs c h rf K) = some (nI V, iv_rs c h2 rf2 K2) ∧ f_X12_byLaw kd (nI H) (iv_set m 19 L) = some (nI V, iv_set m 19 L2) ∧ V ≤ H := by
  obtain ⟨R, hR, hn, hm, hr⟩ := hL
  obtain ⟨a, b, e1, e2, h3⟩ := po_relE (F := wk_F) (G := wk_F) (f := S_X4_valueOf_2 kd (nI H)) (g := S_X12_byLaw_2 kd (nI H))
    (fun i p q => ∃ h rf K L, p = (nI i, iv_rs c h rf K) ∧ q = (nI i, iv_set m 19 L))
    (fun a b => (∃ V h2 rf2 K2 L2, V ≤ H ∧ a = Sum.inl (nI V, iv_rs c h2 rf2 K2) ∧ b = Sum.inl (nI V, iv_set m 19 L2)) ∨ (∃ h2 rf2 K2 L2, a = Sum.inr (iv_rs c h2 rf2 K2) ∧ b = Sum.inr (iv_set m 19 L2))) R (by
      rintro i p q hi ⟨h, rf, K, L, rfl, rfl⟩
      obtain ⟨k15, f, hh, e, hfh, hhe, he, k39, k16, k40, k17, k41, k18, hs, ht⟩ := hr i hi
      have o37 : ∀ (h rf : Int32) (K : Nat → Int32), (iv_rs c h rf K).1 37 7 = nI R := fun _ _ _ => hn
      have o18 : ∀ L : Nat → Int32, (iv_set m 19 L).1 0 18 = nI R := fun _ => hm
      have o38 : ∀ (h rf : Int32) (K : Nat → Int32), (iv_rs c h rf K).1 38 i = m.1 15 i := fun _ _ _ => k15
      have o39 : ∀ (h rf : Int32) (K : Nat → Int32), (iv_rs c h rf K).1 39 i = nI f := fun _ _ _ => k39
      have o40 : ∀ (h rf : Int32) (K : Nat → Int32), (iv_rs c h rf K).1 40 i = nI hh := fun _ _ _ => k40
      have o41 : ∀ (h rf : Int32) (K : Nat → Int32), (iv_rs c h rf K).1 41 i = nI e := fun _ _ _ => k41
      have p15 : ∀ L : Nat → Int32, (iv_set m 19 L).1 15 i = m.1 15 i := fun _ => rfl
      have p16 : ∀ L : Nat → Int32, (iv_set m 19 L).1 16 i = nI f := fun _ => k16
      have p17 : ∀ L : Nat → Int32, (iv_set m 19 L).1 17 i = nI hh := fun _ => k17
      have p18 : ∀ L : Nat → Int32, (iv_set m 19 L).1 18 i = nI e := fun _ => k18
      unfold S_X4_valueOf_2 S_X12_byLaw_2
      dsimp only
      rw [o37, o18, if_neg (nI_ge hi (by omega)), if_neg (nI_ge hi (by omega)), if_neg (po_n16 (by omega)), if_pos (po_wkin (by omega) (by decide)), if_pos (po_wkin (by omega) (by decide)), nI_clamp (by omega), o38, p15, nI_1]
      by_cases hk : m.1 15 i = kd
      · rw [if_neg (not_not_intro hk), if_neg (not_not_intro hk), if_pos (po_wkin (by omega) (by decide)), if_pos (po_wkin (by omega) (by decide)), if_pos (po_wkin (by omega) (by decide)), if_pos (po_wkin (by omega) (by decide)), o40, o41, p17, p18]
        obtain ⟨r, h2, rf2, K2, L2, q1, q2, q3⟩ := po_run (b := true) ht hhe he hlet h rf K L
        rw [q1, q2]
        dsimp only [Option.bind]
        rcases q3 rfl with rfl | rfl
        · left
          rw [if_pos rfl, if_neg (by decide)]
          exact ⟨_, _, rfl, rfl, _, _, _, _, rfl, rfl⟩
        · right
          have hseg := hs (by rw [k15, hk]; exact hkd)
          obtain ⟨r, h3, rf3, K3, L3, q4, q5, q6⟩ := po_run (b := false) hseg hfh (by omega) hlet h2 rf2 K2 L2
          obtain ⟨V, v1, v2, v3⟩ := po_clamp (v := r) hH
          rw [if_neg (by decide), if_pos rfl, if_pos (po_wkin (by omega) (by decide)), if_pos (po_wkin (by omega) (by decide)), if_pos (po_wkin (by omega) (by decide)), if_pos (po_wkin (by omega) (by decide)), o39, o40, p16, p17, q4, q5]
          dsimp only
          rw [v2]
          have v4 : (if r ≥ 0 then if r ≤ nI H then some (Sum.inl (Sum.inl (r, iv_set m 19 L3))) else some (Sum.inl (Sum.inl (nI H, iv_set m 19 L3))) else some (Sum.inl (Sum.inl ((0 : Int32), iv_set m 19 L3)))) = (some (Sum.inl (Sum.inl (nI V, iv_set m 19 L3))) : Option (((Int32 × wk_St) ⊕ wk_St) ⊕ (Int32 × wk_St))) := by
            rw [← v3]
            by_cases h1 : r ≥ 0
            · rw [if_pos h1, if_pos h1]
              by_cases h2 : r ≤ nI H
              · rw [if_pos h2, if_pos h2]
              · rw [if_neg h2, if_neg h2]
            · rw [if_neg h1, if_neg h1]
          rw [v4]
          exact ⟨_, _, rfl, rfl, Or.inl ⟨V, _, _, _, _, v1, rfl, rfl⟩⟩
      · left
        rw [if_pos hk, if_pos hk, if_pos (po_wkin (by omega) (by decide))]
        exact ⟨_, _, rfl, rfl, _, _, _, _, rfl, rfl⟩) (by
      rintro p q ⟨h, rf, K, L, rfl, rfl⟩
      have o37 : (iv_rs c h rf K).1 37 7 = nI R := hn
      have o18 : (iv_set m 19 L).1 0 18 = nI R := hm
      unfold S_X4_valueOf_2 S_X12_byLaw_2
      dsimp only
      rw [o37, o18, if_pos (nI_le (Nat.le_refl R) (by omega)), if_pos (nI_le (Nat.le_refl R) (by omega))]
      exact ⟨_, _, rfl, rfl, Or.inr ⟨_, _, _, _, rfl, rfl⟩⟩) (show R < 4096 by omega) (show R < 4096 by omega) (p := ((0 : Int32), iv_rs c h rf K)) (q := ((0 : Int32), iv_set m 19 L)) ⟨h, rf, K, L, rfl, rfl⟩
  rcases h3 with ⟨V, h2, rf2, K2, L2, hV, rfl, rfl⟩ | ⟨h2, rf2, K2, L2, rfl, rfl⟩
  · refine ⟨V, h2, rf2, K2, L2, ?_, ?_, hV⟩
    · unfold f_X4_valueOf; rw [e1]; rfl
    · unfold f_X12_byLaw; rw [e2]; rfl
  · refine ⟨0, h2, rf2, K2, L2, ?_, ?_, Nat.zero_le _⟩
    · unfold f_X4_valueOf; rw [e1]; rfl
    · unfold f_X12_byLaw; rw [e2]; rfl
theorem po_spares {c m : wk_St} (hL : iv_L (c.1 37 7) (c.1 38) (c.1 39) (c.1 40) (c.1 41) (c.1 42) (c.1 43) (m.1 0 18) (m.1 14) (m.1 15) (m.1 16) (m.1 17) (m.1 18)) (hlet : ∀ v, v < 8 → c.1 24 v = m.1 20 v) (h rf : Int32) (K L : Nat → Int32) :
    ∃ z h2 rf2 K2 L2, f_X4_spares (iv_rs c h rf K) = some (z, iv_rs c h2 rf2 K2) ∧ f_X12_holdsAny 115 (iv_set m 19 L) = some (z, iv_set m 19 L2) := by
  obtain ⟨R, hR, hn, hm, hr⟩ := hL
  obtain ⟨a, b, e1, e2, h3⟩ := po_relE (F := wk_F) (G := wk_F) (f := S_X4_spares_2) (g := S_X12_holdsAny_2 115)
    (fun i p q => ∃ h rf K L, p = (nI i, iv_rs c h rf K) ∧ q = (nI i, iv_set m 19 L))
    (fun a b => (∃ h2 rf2 K2 L2, a = Sum.inl (true, iv_rs c h2 rf2 K2) ∧ b = Sum.inl (true, iv_set m 19 L2)) ∨ (∃ h2 rf2 K2 L2, a = Sum.inr (iv_rs c h2 rf2 K2) ∧ b = Sum.inr (iv_set m 19 L2))) R (by
      rintro i p q hi ⟨h, rf, K, L, rfl, rfl⟩
      obtain ⟨k15, f, hh, e, hfh, hhe, he, k39, k16, k40, k17, k41, k18, hs, ht⟩ := hr i hi
      have o37 : ∀ (h rf : Int32) (K : Nat → Int32), (iv_rs c h rf K).1 37 7 = nI R := fun _ _ _ => hn
      have o18 : ∀ L : Nat → Int32, (iv_set m 19 L).1 0 18 = nI R := fun _ => hm
      have o38 : ∀ (h rf : Int32) (K : Nat → Int32), (iv_rs c h rf K).1 38 i = m.1 15 i := fun _ _ _ => k15
      have o40 : ∀ (h rf : Int32) (K : Nat → Int32), (iv_rs c h rf K).1 40 i = nI hh := fun _ _ _ => k40
      have o41 : ∀ (h rf : Int32) (K : Nat → Int32), (iv_rs c h rf K).1 41 i = nI e := fun _ _ _ => k41
      have p15 : ∀ L : Nat → Int32, (iv_set m 19 L).1 15 i = m.1 15 i := fun _ => rfl
      have p17 : ∀ L : Nat → Int32, (iv_set m 19 L).1 17 i = nI hh := fun _ => k17
      have p18 : ∀ L : Nat → Int32, (iv_set m 19 L).1 18 i = nI e := fun _ => k18
      unfold S_X4_spares_2 S_X12_holdsAny_2
      dsimp only
      rw [o37, o18, if_neg (nI_ge hi (by omega)), if_neg (nI_ge hi (by omega)), if_neg (po_n16 (by omega)), if_pos (po_wkin (by omega) (by decide)), if_pos (po_wkin (by omega) (by decide)), nI_clamp (by omega), o38, p15, nI_1]
      by_cases hk : m.1 15 i = 115
      · rw [if_neg (not_not_intro hk), if_neg (not_not_intro hk), if_pos (po_wkin (by omega) (by decide)), if_pos (po_wkin (by omega) (by decide)), if_pos (po_wkin (by omega) (by decide)), if_pos (po_wkin (by omega) (by decide)), o40, o41, p17, p18]
        obtain ⟨r, h2, rf2, K2, L2, q1, q2, q3⟩ := po_run (b := true) ht hhe he hlet h rf K L
        rw [q1, q2]
        dsimp only [Option.bind]
        rcases q3 rfl with rfl | rfl
        · left
          rw [if_pos rfl, if_pos (by decide)]
          exact ⟨_, _, rfl, rfl, _, _, _, _, rfl, rfl⟩
        · right
          rw [if_neg (by decide), if_neg (by decide)]
          exact ⟨_, _, rfl, rfl, Or.inl ⟨_, _, _, _, rfl, rfl⟩⟩
      · left
        rw [if_pos hk, if_pos hk, if_pos (po_wkin (by omega) (by decide))]
        exact ⟨_, _, rfl, rfl, _, _, _, _, rfl, rfl⟩) (by
      rintro p q ⟨h, rf, K, L, rfl, rfl⟩
      have o37 : (iv_rs c h rf K).1 37 7 = nI R := hn
      have o18 : (iv_set m 19 L).1 0 18 = nI R := hm
      unfold S_X4_spares_2 S_X12_holdsAny_2
      dsimp only
      rw [o37, o18, if_pos (nI_le (Nat.le_refl R) (by omega)), if_pos (nI_le (Nat.le_refl R) (by omega))]
      exact ⟨_, _, rfl, rfl, Or.inr ⟨_, _, _, _, rfl, rfl⟩⟩) (show R < 4096 by omega) (show R < 4096 by omega) (p := ((0 : Int32), iv_rs c h rf K)) (q := ((0 : Int32), iv_set m 19 L)) ⟨h, rf, K, L, rfl, rfl⟩
  rcases h3 with ⟨h2, rf2, K2, L2, rfl, rfl⟩ | ⟨h2, rf2, K2, L2, rfl, rfl⟩
  · refine ⟨true, h2, rf2, K2, L2, ?_, ?_⟩
    · unfold f_X4_spares; rw [e1]; rfl
    · unfold f_X12_holdsAny; rw [e2]; rfl
  · refine ⟨false, h2, rf2, K2, L2, ?_, ?_⟩
    · unfold f_X4_spares; rw [e1]; rfl
    · unfold f_X12_holdsAny; rw [e2]; rfl
