/-! PURE: law: a rule -/
def iv_LZ (R e : Nat) (c m : wk_St) : Prop := R ≤ 16 ∧ c.1 45 7 = nI R ∧ m.1 0 17 = nI R ∧ ∀ r, r < R → c.1 46 r = m.1 10 r ∧ ∃ f h g : Nat, f ≤ h ∧ h ≤ g ∧ g ≤ e ∧ c.1 47 r = nI f ∧ m.1 11 r = nI f ∧ c.1 48 r = nI h ∧ m.1 12 r = nI h ∧ c.1 49 r = nI g ∧ m.1 13 r = nI g ∧
  (¬ c.1 46 r = 115 → iv_sgm c m 30 f h [] [false]) ∧ iv_sgm c m 30 h g [] [true]
def iv_rC (s : wk_St) : Option (Bool × wk_St) :=
  Option.bind (f_X6_sign 34 s) fun v2 =>
  Option.bind (f_X5_readKind v2 s) fun v3 =>
  if v3.1 = false then
    some (false, v3.2)
  else
    if v2 = (115 : Int32) then
      iv_tC v3.2
    else
      Option.bind (f_X5_readSum (0 : Int32) v3.2) fun v12 =>
      if v12.1 = false then
        some (false, v12.2)
      else
        iv_tC v12.2
theorem po_tCS (x4 : Int32) (s : wk_St) : j_X5_readLaw_31_l8 x4 s = Option.bind (iv_tC s) fun v => if v.1 = false then j_X5_readLaw_46_l8 x4 v.2 else Option.bind (f_X4_closeRule v.2) fun v10 => Option.bind (f_X6_sign 34 v10) fun v11 => if v11 = (-1 : Int32) then j_X5_readLaw_57_l8 (1 : Int32) x4 (0 : Int32) v10 else j_X5_readLaw_57_l8 (1 : Int32) x4 (1 : Int32) v10 := by
  unfold j_X5_readLaw_31_l8 iv_tC
  cases f_X5_openTests s with
  | none => rfl
  | some v7 =>
    obtain ⟨b7, s7⟩ := v7
    cases b7 with
    | false => rfl
    | true =>
      dsimp only [Option.bind]
      rw [if_neg (fun k => Bool.false_ne_true k.symm), if_neg (fun k => Bool.false_ne_true k.symm)]
      cases f_X5_readTests 1 s7 with
      | none => rfl
      | some v8 =>
        obtain ⟨b8, s8⟩ := v8
        cases b8 with
        | false => rfl
        | true =>
          dsimp only
          rw [if_neg (fun k => Bool.false_ne_true k.symm), if_neg (fun k => Bool.false_ne_true k.symm)]
theorem po_rCS (x4 : Int32) (s : wk_St) (hx : ¬ x4 ≥ 240) : S_X5_readLaw_8 (1, 1, x4, s) = Option.bind (iv_rC s) fun v => if v.1 = false then j_X5_readLaw_46_l8 x4 v.2 else Option.bind (f_X4_closeRule v.2) fun v10 => Option.bind (f_X6_sign 34 v10) fun v11 => if v11 = (-1 : Int32) then j_X5_readLaw_57_l8 (1 : Int32) x4 (0 : Int32) v10 else j_X5_readLaw_57_l8 (1 : Int32) x4 (1 : Int32) v10 := by
  unfold S_X5_readLaw_8 iv_rC
  dsimp only
  rw [if_neg hx, if_neg (by decide), if_neg (by decide)]
  cases f_X6_sign 34 s with
  | none => rfl
  | some v2 =>
    dsimp only [Option.bind]
    cases f_X5_readKind v2 s with
    | none => rfl
    | some v3 =>
      obtain ⟨b3, s3⟩ := v3
      cases b3 with
      | false => rfl
      | true =>
        dsimp only
        rw [if_neg (show ¬ true = false by decide), if_neg (show ¬ true = false by decide)]
        by_cases h : v2 = 115
        · rw [if_pos h, if_pos h]
          exact po_tCS x4 s3
        · rw [if_neg h, if_neg h]
          cases f_X5_readSum 0 s3 with
          | none => rfl
          | some v12 =>
            obtain ⟨b12, s12⟩ := v12
            cases b12 with
            | false => rfl
            | true =>
              dsimp only
              rw [if_neg (show ¬ true = false by decide), if_neg (show ¬ true = false by decide)]
              exact po_tCS x4 s12
theorem po_kindC {c : wk_St} {R e p : Nat} {z : Int32} (h7 : c.1 45 7 = nI R) (hR : R < 16) (h8 : c.1 45 8 = nI e) (h3 : c.1 34 3 = nI p) (hz : z = 101 ∨ z = 104 ∨ z = 115) : f_X5_readKind z c = some (true, wk_si (wk_si (wk_si c 34 3 (nI (p + 1))) 46 R z) 47 R (nI e)) := by
  have u7 : (wk_si c 34 3 (nI (p + 1))).1 45 7 = nI R := (po_si_c (by decide)).trans h7
  have u8 : ∀ y, (wk_si (wk_si c 34 3 (nI (p + 1))) 46 R y).1 45 7 = nI R := fun y => (po_si_c (by decide)).trans u7
  have u9 : ∀ y, (wk_si (wk_si c 34 3 (nI (p + 1))) 46 R y).1 45 8 = nI e := fun y => (po_si_c (by decide)).trans ((po_si_c (by decide)).trans h8)
  have j : j_X5_readKind_15 z c = some (true, wk_si (wk_si (wk_si c 34 3 (nI (p + 1))) 46 R z) 47 R (nI e)) := by
    unfold j_X5_readKind_15 f_X4_isFull f_X4_openRule
    rw [h7, if_pos (show nI R < 16 from nI_lt (b := 16) hR (by decide)), if_pos rfl, h3, nI_1, u7, if_neg (nI_pos (by omega)), if_neg (show ¬ nI R ≥ 16 from nI_ge (b := 16) hR (by decide)), if_pos (po_wkin hR (by decide)), nI_clamp (by omega), u8, if_pos (po_wkin hR (by decide)), nI_clamp (by omega), u9]
    rfl
  unfold f_X5_readKind
  rcases hz with rfl | rfl | rfl
  · rw [if_pos rfl]; exact j
  · rw [if_neg (by decide), if_pos rfl]; exact j
  · rw [if_neg (by decide), if_neg (by decide), if_pos rfl]; exact j
theorem po_kindM {m M : wk_St} {R e p : Nat} {z : Int32} (h17 : m.1 0 17 = nI R) (hR : R < 16) (h15 : m.1 0 15 = nI e) (h10 : m.1 0 10 = nI p) (hM : M = wk_si (wk_si (wk_si (wk_si (wk_si m 10 R z) 0 10 (nI (p + 1))) 11 R (nI e)) 0 14 0) 0 16 0) :
    j_X12_readsRule_18 z m = if z = (115 : Int32) then j_X12_readsRule_61 M else Option.bind (f_X12_readsSum M) fun v3 => if v3.1 = true then j_X12_readsRule_61 v3.2 else some (false, v3.2) := by
  have u1 : (wk_si m 10 R z).1 0 10 = nI p := (po_si_c (by decide)).trans h10
  have u2 : (wk_si (wk_si m 10 R z) 0 10 (nI (p + 1))).1 0 17 = nI R := (po_si_ne (by decide)).trans ((po_si_c (by decide)).trans h17)
  have u3 : (wk_si (wk_si m 10 R z) 0 10 (nI (p + 1))).1 0 15 = nI e := (po_si_ne (by decide)).trans ((po_si_c (by decide)).trans h15)
  unfold j_X12_readsRule_18
  rw [h17, if_pos (show ¬ nI R = 16 from fun k => by have := (nI_eq (b := 16) (by omega) (by decide)).mp k; omega), if_pos (po_wkin hR (by decide)), nI_clamp (by omega), u1, nI_1, u2, if_pos (po_wkin hR (by decide)), nI_clamp (by omega), u3, ← hM]
theorem po_rule {t : Nat → Nat} {n p e R : Nat} {c m : wk_St} (hRD : iv_RD 34 t n p c m) (he : e ≤ p) (h8 : c.1 45 8 = nI e) (h15 : m.1 0 15 = nI e) (hZ : iv_LZ R e c m) :
    ∃ b c2 m2, iv_rC c = some (b, c2) ∧ f_X12_readsRule m = some (b, m2) ∧ iv_uC c c2 ∧ iv_uM m m2 ∧ ((b = false ∧ iv_flL c2 m2) ∨
      (b = true ∧ R < 16 ∧ ∃ p2 e2 c3, p < p2 ∧ e2 ≤ p2 ∧ f_X4_closeRule c2 = some c3 ∧ iv_uC c2 c3 ∧ iv_RD 34 t n p2 c3 m2 ∧ c3.1 45 8 = nI e2 ∧ m2.1 0 15 = nI e2 ∧ iv_LZ (R + 1) e2 c3 m2)) := by
  have hn := hRD.1
  have hpn := hRD.2.1
  have hs := po_sign hRD
  obtain ⟨hR16, h7, h17, hrows⟩ := hZ
  obtain ⟨z, hz⟩ : ∃ z, z = iv_sgn t n p := ⟨_, rfl⟩
  rw [← hz] at hs
  have eR : (z = 101 ∨ z = 104 ∨ z = 115) → f_X12_readsRule m = j_X12_readsRule_18 z m := fun k => by
    unfold f_X12_readsRule
    rw [hs.2]
    dsimp only [Option.bind]
    rcases k with k | k | k
    · rw [if_pos k]
    · rw [if_neg (by rw [k]; decide), if_pos k]
    · rw [if_neg (by rw [k]; decide), if_neg (by rw [k]; decide), if_pos k]
  by_cases hk : z = 101 ∨ z = 104 ∨ z = 115
  · have hp : p < n := by
      by_cases k : p < n
      · exact k
      · exfalso
        have : z = -1 := by rw [hz]; exact if_neg k
        rw [this] at hk
        rcases hk with hk | hk | hk <;> exact absurd hk (by decide)
    by_cases hR : R < 16
    · obtain ⟨C1, hC1⟩ : ∃ C, C = wk_si (wk_si (wk_si c 34 3 (nI (p + 1))) 46 R z) 47 R (nI e) := ⟨_, rfl⟩
      obtain ⟨M1, hM1⟩ : ∃ M, M = wk_si (wk_si (wk_si (wk_si (wk_si m 10 R z) 0 10 (nI (p + 1))) 11 R (nI e)) 0 14 0) 0 16 0 := ⟨_, rfl⟩
      have eK : f_X5_readKind z c = some (true, C1) := by rw [hC1]; exact po_kindC h7 hR h8 hRD.2.2.2.1 hk
      have eM := (eR hk).trans (po_kindM h17 hR h15 hRD.2.2.2.2.1 hM1)
      have oC : ∀ a, a ≠ 34 → a ≠ 46 → a ≠ 47 → C1.1 a = c.1 a := fun a h1 h2 h3 => by rw [hC1]; exact funext (fun b => by rw [po_si_c h3, po_si_c h2, po_si_c h1])
      have oM : ∀ a, a ≠ 0 → a ≠ 10 → a ≠ 11 → M1.1 a = m.1 a := fun a h1 h2 h3 => by rw [hM1]; exact funext (fun b => by rw [po_si_c h1, po_si_c h1, po_si_c h3, po_si_c h1, po_si_c h2])
      have oM0 : ∀ b, b ≠ 10 → b ≠ 14 → b ≠ 16 → M1.1 0 b = m.1 0 b := fun b h1 h2 h3 => by rw [hM1, po_si_ne h3, po_si_ne h2, po_si_c (by decide), po_si_ne h1, po_si_c (by decide)]
      have C46 : C1.1 46 = fun b => if b = R then z else c.1 46 b := by
        rw [hC1]
        have : (wk_si (wk_si (wk_si c 34 3 (nI (p + 1))) 46 R z) 47 R (nI e)).1 46 = (wk_si (wk_si c 34 3 (nI (p + 1))) 46 R z).1 46 := funext (fun b => po_si_c (by decide))
        rw [this, po_si_ro]
        exact funext (fun b => by rw [po_si_c (by decide)])
      have C47 : C1.1 47 = fun b => if b = R then nI e else c.1 47 b := by
        rw [hC1, po_si_ro]
        exact funext (fun b => by rw [po_si_c (by decide), po_si_c (by decide)])
      have M10 : M1.1 10 = fun b => if b = R then z else m.1 10 b := by
        rw [hM1]
        have : (wk_si (wk_si (wk_si (wk_si (wk_si m 10 R z) 0 10 (nI (p + 1))) 11 R (nI e)) 0 14 0) 0 16 0).1 10 = (wk_si m 10 R z).1 10 := funext (fun b => by rw [po_si_c (by decide), po_si_c (by decide), po_si_c (by decide), po_si_c (by decide)])
        rw [this, po_si_ro]
      have M11 : M1.1 11 = fun b => if b = R then nI e else m.1 11 b := by
        rw [hM1]
        have : (wk_si (wk_si (wk_si (wk_si (wk_si m 10 R z) 0 10 (nI (p + 1))) 11 R (nI e)) 0 14 0) 0 16 0).1 11 = (wk_si (wk_si (wk_si m 10 R z) 0 10 (nI (p + 1))) 11 R (nI e)).1 11 := funext (fun b => by rw [po_si_c (by decide), po_si_c (by decide)])
        rw [this, po_si_ro]
        exact funext (fun b => by rw [po_si_c (by decide), po_si_c (by decide)])
      have uC1 : iv_uC c C1 := by rw [hC1]; exact iv_uC_t (iv_uC_si (Or.inl rfl)) (iv_uC_t (iv_uC_si (Or.inr (by decide))) (iv_uC_si (Or.inr (by decide))))
      have uM1 : iv_uM m M1 := by rw [hM1]; exact iv_uM_t (iv_uM_si (by decide)) (iv_uM_t (iv_uM_s0 (by decide)) (iv_uM_t (iv_uM_si (by decide)) (iv_uM_t (iv_uM_s0 (by decide)) (iv_uM_s0 (by decide)))))
      have hY1 : iv_Y t n (p + 1) e 0 0 C1 M1 := by
        obtain ⟨r1, r2, r3, r4, r5, r6, r7⟩ := hRD
        refine ⟨⟨r1, by omega, ?_, ?_, ?_, ?_, fun i hi => ⟨(r7 i hi).1, ?_, ?_⟩⟩, Nat.zero_le _, ?_, ?_, ?_, ?_⟩
        · rw [hC1, po_si_c (by decide), po_si_c (by decide), po_si_ne (by decide)]; exact r3
        · rw [hC1, po_si_c (by decide), po_si_c (by decide)]; exact po_si_at
        · rw [hM1, po_si_ne (by decide), po_si_ne (by decide), po_si_c (by decide)]; exact po_si_at
        · rw [oM0 11 (by decide) (by decide) (by decide)]; exact r6
        · rw [oC (34 + 1) (by decide) (by decide) (by decide)]; exact (r7 i hi).2.1
        · rw [oM 7 (by decide) (by decide) (by decide)]; exact (r7 i hi).2.2
        · rw [oC 45 (by decide) (by decide) (by decide)]; exact h8
        · rw [oM0 15 (by decide) (by decide) (by decide)]; exact h15
        · rw [hM1]; exact po_si_at
        · rw [hM1, po_si_ne (by decide)]; exact po_si_at
      have h71 : C1.1 45 7 = nI R := by rw [oC 45 (by decide) (by decide) (by decide)]; exact h7
      have h171 : M1.1 0 17 = nI R := by rw [oM0 17 (by decide) (by decide) (by decide)]; exact h17
      have eC : iv_rC c = if z = 115 then iv_tC C1 else Option.bind (f_X5_readSum 0 C1) fun v12 => if v12.1 = false then some (false, v12.2) else iv_tC v12.2 := by
        unfold iv_rC
        rw [hs.1]
        dsimp only [Option.bind]
        rw [eK]
        dsimp only
        rw [if_neg (fun k => Bool.false_ne_true k.symm)]
      -- the tests, from a state behind the sum
      have fin : ∀ p1 e1 c1 m1, p < p1 → e ≤ e1 → e1 ≤ p1 → iv_Y t n p1 e1 0 0 c1 m1 → iv_wC C1 c1 → iv_wM M1 m1 → iv_old e 0 C1 M1 c1 m1 → (¬ z = 115 → iv_sgm c1 m1 30 e e1 [] [false]) → iv_rC c = iv_tC c1 → f_X12_readsRule m = j_X12_readsRule_61 m1 →
          ∃ b c2 m2, iv_rC c = some (b, c2) ∧ f_X12_readsRule m = some (b, m2) ∧ iv_uC c c2 ∧ iv_uM m m2 ∧ ((b = false ∧ iv_flL c2 m2) ∨
          (b = true ∧ R < 16 ∧ ∃ p2 e2 c3, p < p2 ∧ e2 ≤ p2 ∧ f_X4_closeRule c2 = some c3 ∧ iv_uC c2 c3 ∧ iv_RD 34 t n p2 c3 m2 ∧ c3.1 45 8 = nI e2 ∧ m2.1 0 15 = nI e2 ∧ iv_LZ (R + 1) e2 c3 m2)) := by
        intro p1 e1 c1 m1 hp1 hee1 hep1 hYc kC kM kO kS eC2 eM2
        obtain ⟨b, c2, m2, f1, f2, f3, f4, f5⟩ := po_cond hYc hep1 hR (kC.2.2.trans h71) ((kM.2.2 17 (by decide) (by decide) (by decide) (by decide) (by decide) (by decide)).trans h171)
        refine ⟨b, c2, m2, eC2.trans f1, eM2.trans f2, iv_uC_t uC1 (iv_uC_t (iv_uC_w kC) f3), iv_uM_t uM1 (iv_uM_t (iv_uM_w kM) f4), ?_⟩
        rcases f5 with f5 | ⟨rfl, p2, e2, g1, g2, g3, g4, g5, g6, g7, g8, g9, g10, g11, g12, g13, g14, g15, g16, g17, g18⟩
        · exact Or.inl f5
        · obtain ⟨C3, hC3⟩ : ∃ C, C = wk_si (wk_si c2 49 R (nI e2)) 45 7 (nI (R + 1)) := ⟨_, rfl⟩
          have eX : f_X4_closeRule c2 = some C3 := by
            unfold f_X4_closeRule
            rw [g7, if_neg (nI_pos (by omega)), if_neg (show ¬ nI R ≥ 16 from nI_ge (b := 16) hR (by decide)), if_pos (po_wkin hR (by decide)), nI_clamp (by omega), g5, po_si_c (by decide), g7, nI_1, hC3]
          have oC3 : ∀ a, a ≠ 45 → a ≠ 49 → C3.1 a = c2.1 a := fun a h1 h2 => by rw [hC3]; exact funext (fun b => by rw [po_si_c h1, po_si_c h2])
          have hp2n := g4.2.1
          have x46 : C3.1 46 = fun b => if b = R then z else c.1 46 b := by rw [oC3 46 (by decide) (by decide), g11, kC.2.1 46 (by decide) (by decide) (by decide) (by decide), C46]
          have x47 : C3.1 47 = fun b => if b = R then nI e else c.1 47 b := by rw [oC3 47 (by decide) (by decide), g12, kC.2.1 47 (by decide) (by decide) (by decide) (by decide), C47]
          have x48 : C3.1 48 = fun b => if b = R then nI e1 else c.1 48 b := by rw [oC3 48 (by decide) (by decide), g13, kC.2.1 48 (by decide) (by decide) (by decide) (by decide), oC 48 (by decide) (by decide) (by decide)]
          have x49 : C3.1 49 = fun b => if b = R then nI e2 else c.1 49 b := by
            have : C3.1 49 = (wk_si c2 49 R (nI e2)).1 49 := by rw [hC3]; exact funext (fun b => po_si_c (by decide))
            rw [this, po_si_ro, g14, kC.2.1 49 (by decide) (by decide) (by decide) (by decide), oC 49 (by decide) (by decide) (by decide)]
          have y10 : m2.1 10 = fun b => if b = R then z else m.1 10 b := by rw [g15, kM.2.1 10 (by decide) (by decide) (by decide), M10]
          have y11 : m2.1 11 = fun b => if b = R then nI e else m.1 11 b := by rw [g16, kM.2.1 11 (by decide) (by decide) (by decide), M11]
          have y12 : m2.1 12 = fun b => if b = R then nI e1 else m.1 12 b := by rw [g17, kM.2.1 12 (by decide) (by decide) (by decide), oM 12 (by decide) (by decide) (by decide)]
          have y13 : m2.1 13 = fun b => if b = R then nI e2 else m.1 13 b := by rw [g18, kM.2.1 13 (by decide) (by decide) (by decide), oM 13 (by decide) (by decide) (by decide)]
          have co : ∀ j, j < e → C3.1 50 j = c.1 50 j ∧ C3.1 51 j = c.1 51 j ∧ m2.1 8 j = m.1 8 j := fun j hj => by
            have a1 := g9 j (by omega)
            have a2 := kO.1 j hj
            refine ⟨?_, ?_, ?_⟩
            · rw [oC3 50 (by decide) (by decide), a1.1, a2.1, oC 50 (by decide) (by decide) (by decide)]
            · rw [oC3 51 (by decide) (by decide), a1.2.1, a2.2.1, oC 51 (by decide) (by decide) (by decide)]
            · rw [a1.2.2, a2.2.2, oM 8 (by decide) (by decide) (by decide)]
          have co1 : ∀ j, j < e1 → C3.1 50 j = c1.1 50 j ∧ C3.1 51 j = c1.1 51 j ∧ m2.1 8 j = m1.1 8 j := fun j hj => by
            have a1 := g9 j hj
            refine ⟨?_, ?_, a1.2.2⟩
            · rw [oC3 50 (by decide) (by decide), a1.1]
            · rw [oC3 51 (by decide) (by decide), a1.2.1]
          refine Or.inr ⟨rfl, hR, p2, e2, C3, by omega, g3, eX, ?_, ?_, ?_, g6, ⟨by omega, ?_, g8, fun r hr => ?_⟩⟩
          · rw [hC3]; exact iv_uC_t (iv_uC_si (Or.inr (by decide))) (iv_uC_si (Or.inr (by decide)))
          · obtain ⟨r1, r2, r3, r4, r5, r6, r7⟩ := g4
            refine ⟨r1, r2, ?_, ?_, r5, r6, fun i hi => ⟨(r7 i hi).1, ?_, (r7 i hi).2.2⟩⟩
            · rw [oC3 34 (by decide) (by decide)]; exact r3
            · rw [oC3 34 (by decide) (by decide)]; exact r4
            · rw [oC3 (34 + 1) (by decide) (by decide)]; exact (r7 i hi).2.1
          · rw [hC3, po_si_ne (by decide), po_si_c (by decide)]; exact g5
          · rw [hC3]; exact po_si_at
          · rw [x46, x47, x48, x49, y10, y11, y12, y13]
            dsimp only
            by_cases hrR : r = R
            · rw [if_pos hrR, if_pos hrR, if_pos hrR, if_pos hrR, if_pos hrR, if_pos hrR, if_pos hrR, if_pos hrR]
              refine ⟨rfl, e, e1, e2, hee1, by omega, Nat.le_refl e2, rfl, rfl, rfl, rfl, rfl, rfl, fun hz => iv_sgm_old (kS hz) (fun j _ hj => co1 j hj), iv_sgm_L (iv_sgm_old g10 (fun j _ _ => ⟨by rw [oC3 50 (by decide) (by decide)], by rw [oC3 51 (by decide) (by decide)], rfl⟩)) (by decide)⟩
            · rw [if_neg hrR, if_neg hrR, if_neg hrR, if_neg hrR, if_neg hrR, if_neg hrR, if_neg hrR, if_neg hrR]
              obtain ⟨w1, f, h, g, w2, w3, w4, w5, w6, w7, w8, w9, w10, w11, w12⟩ := hrows r (by omega)
              exact ⟨w1, f, h, g, w2, w3, by omega, w5, w6, w7, w8, w9, w10, fun hz => iv_sgm_old (w11 hz) (fun j _ hj => co j (by omega)), iv_sgm_old w12 (fun j _ hj => co j (by omega))⟩
      by_cases h115 : z = 115
      · rw [if_pos h115] at eC eM
        exact fin (p + 1) e C1 M1 (by omega) (Nat.le_refl e) (by omega) hY1 iv_wC_r iv_wM_r iv_old_r (fun k => absurd h115 k) eC eM
      · rw [if_neg h115] at eC eM
        have hwt : ∀ o, 2 ≤ o → o ≤ 6 → ¬ iv_wt M1 0 = nI o := fun o o1 o2 k => by
          unfold iv_wt at k
          rw [if_pos rfl] at k
          exact po_m1 (by omega) k.symm
        obtain ⟨b, c2, m2, f1, f2, f3, f4, f5, f6⟩ := po_readsSum (w := 0) (by decide) hY1 (by omega) hwt
        have f1' : f_X5_readSum 0 C1 = some (b, c2) := f1
        rw [f1'] at eC
        rw [f2] at eM
        dsimp only [Option.bind] at eC eM
        rcases f6 with ⟨rfl, f7⟩ | ⟨rfl, p2, e2, g1, g2, g3, g4, g5⟩
        · rw [if_pos rfl] at eC
          rw [if_neg Bool.false_ne_true] at eM
          exact ⟨false, c2, m2, eC, eM, iv_uC_t uC1 (iv_uC_w f3), iv_uM_t uM1 (iv_uM_w f4), Or.inl ⟨rfl, f7⟩⟩
        · rw [if_neg (fun k => Bool.false_ne_true k.symm)] at eC
          rw [if_pos rfl] at eM
          exact fin p2 e2 c2 m2 (by omega) (by omega) (by omega) g4 f3 f4 f5 (fun _ => iv_sgm_L g5 (by omega)) eC eM
    · have hR6 : R = 16 := by omega
      obtain ⟨c4, m4, k1, k2, k4, k5, k6, k7⟩ := po_blameL (c := c) (m := m) 4 p (by decide) (by decide) (by omega)
      have k1' : f_X6_blame 34 4 (nI p) c = _ := k1
      have k2' : f_X12_wrongAt 4 (nI p) m = _ := k2
      have j : j_X5_readKind_15 z c = some (false, c4) := by
        unfold j_X5_readKind_15 f_X4_isFull wk_let
        rw [h7, hR6, if_neg (show ¬ nI 16 < 16 by decide), if_neg (fun k => Bool.false_ne_true k.symm), hRD.2.2.2.1, k1']
      have eK : f_X5_readKind z c = some (false, c4) := by
        unfold f_X5_readKind
        rcases hk with k | k | k
        · rw [if_pos k]; exact j
        · rw [if_neg (by rw [k]; decide), if_pos k]; exact j
        · rw [if_neg (by rw [k]; decide), if_neg (by rw [k]; decide), if_pos k]; exact j
      refine ⟨false, c4, m4, ?_, ?_, iv_uC_w k5, iv_uM_w k6, Or.inl ⟨rfl, k4⟩⟩
      · unfold iv_rC
        rw [hs.1]
        dsimp only [Option.bind]
        rw [eK]
        rfl
      · rw [eR hk]
        unfold j_X12_readsRule_18 wk_let
        rw [h17, hR6, if_neg (fun k => k (show nI 16 = 16 from rfl)), hRD.2.2.2.2.1, k2']
  · obtain ⟨c4, m4, k1, k2, k4, k5, k6, k7⟩ := po_blameL (c := c) (m := m) 1 p (by decide) (by decide) (by omega)
    have k1' : f_X6_blame 34 1 (nI p) c = _ := k1
    have k2' : f_X12_wrongAt 1 (nI p) m = _ := k2
    have n1 : ¬ z = 101 := fun k => hk (Or.inl k)
    have n2 : ¬ z = 104 := fun k => hk (Or.inr (Or.inl k))
    have n3 : ¬ z = 115 := fun k => hk (Or.inr (Or.inr k))
    refine ⟨false, c4, m4, ?_, ?_, iv_uC_w k5, iv_uM_w k6, Or.inl ⟨rfl, k4⟩⟩
    · unfold iv_rC
      rw [hs.1]
      dsimp only [Option.bind]
      unfold f_X5_readKind wk_let
      rw [if_neg n1, if_neg n2, if_neg n3, hRD.2.2.2.1, k1']
      rfl
    · unfold f_X12_readsRule wk_let
      rw [hs.2]
      dsimp only [Option.bind]
      rw [if_neg n1, if_neg n2, if_neg n3, hRD.2.2.2.2.1, k2']
