/-! PURE: diary: the lines -/
theorem po_knT {k0 K : Nat} {c : wk_St} {x : Int32} (h4 : c.1 k0 4 = nI K) (hK : K < 512) (h : ∃ k, k < 9 ∧ x = nI k ∧ K.testBit k = true) : ∃ k, k < 9 ∧ x = nI k ∧ iv_tk k0 k c := by
  obtain ⟨k, h1, h2, h3⟩ := h
  refine ⟨k, h1, h2, fun K' hK' hlt => ?_⟩
  rw [h4] at hK'
  have : K = K' := (nI_eq (by omega) (by omega)).mp hK'
  rw [← this]; exact h3
def iv_bad (c m : wk_St) : Prop := ∃ f i, f < 10 ∧ f ≠ 0 ∧ i < 260 ∧ c.1 32 2 = f_X11_faultOf (nI f) (nI i) ∧ m.1 0 12 = f_X11_faultOf (nI f) (nI i)
def iv_lnR (T w : Nat) (N : Nat → Nat) (t : Nat → Nat) (n p l : Nat) (c m : wk_St) (x y : Option (Bool × wk_St)) : Prop :=
  ∃ b c2 m2, x = some (b, c2) ∧ y = some (b, m2) ∧ iv_yC c c2 ∧ iv_yM m m2 ∧ ((b = true ∧ l ≤ 20 ∧ m2.1 0 42 = nI l ∧ ∃ p2, p < p2 ∧ iv_RD 32 t n p2 c2 m2 ∧ iv_E T w N 18 c2 m2) ∨ (b = false ∧ iv_bad c2 m2))
/-- the deed is read -/
theorem po_deed {T w n p k l : Nat} {N : Nat → Nat} {t : Nat → Nat} {c m : wk_St} {wolf : Bool} (hE : iv_E T w N 18 c m) (hR : iv_RD 32 t n p c m) (hk : k < 9) (hb : iv_tk 18 k c) (hl : m.1 0 42 = nI l) (hl20 : l ≤ 20) (hp : p < n) (hw : if wolf = true then c.1 21 k = 1 else c.1 21 k = 0) (d : Int32) (hd : d = 62 ∨ d = 64 ∨ d = 43 ∨ d = 45) :
    iv_lnR T w N t n p l c m (j_X1_readDeed_30 (nI k) d (b2i wolf) c) (j_X12_readsLine_80 (nI k) d (b2i wolf) m) := by
  have h10 := hR.2.2.2.2.1
  have hc3 := hR.2.2.2.1
  have hn240 := hR.1
  have fault : iv_lnR T w N t n p l c m (wk_let (f_X6_blame 32 (9 : Int32) (c.1 32 3) c) fun v3 => some (v3.1, v3.2)) (wk_let (f_X12_wrongAt (9 : Int32) (m.1 0 10) m) fun v6 => some (v6.1, v6.2)) := by
    rw [hc3, h10]
    refine ⟨false, _, _, rfl, rfl, ⟨rfl, fun a _ h => funext (fun b => po_si_c h)⟩, ⟨rfl, fun a h _ => funext (fun b => po_si_c h), fun b _ _ h12 _ _ => po_si_ne h12⟩, Or.inr ⟨rfl, 9, p, by decide, by decide, by omega, po_si_at, po_si_at⟩⟩
  -- behind the sign
  obtain ⟨C1, hC1⟩ : ∃ C1, C1 = wk_si c 32 3 (nI (p + 1)) := ⟨_, rfl⟩
  obtain ⟨M1, hM1⟩ : ∃ M1, M1 = wk_si m 0 10 (nI (p + 1)) := ⟨_, rfl⟩
  have oC : ∀ a, a ≠ 32 → C1.1 a = c.1 a := fun a h => funext (fun b => by rw [hC1]; exact po_si_c h)
  have oM : ∀ a, a ≠ 0 → M1.1 a = m.1 a := fun a h => funext (fun b => by rw [hM1]; exact po_si_c h)
  have oM0 : ∀ b, b ≠ 10 → M1.1 0 b = m.1 0 b := fun b h => by rw [hM1]; exact po_si_ne h
  have hE1 : iv_E T w N 18 C1 M1 := iv_E_y hE (by rw [hC1]; rfl) oC oM (oM0 4 (by decide)) (oM0 5 (by decide)) (oM0 18 (by decide))
  have hR1 : iv_RD 32 t n (p + 1) C1 M1 := po_adv hR hp (by rw [hC1]; exact po_si_ne (by decide)) (by rw [hC1]; exact po_si_at) (oC 33 (by decide)) (by rw [hM1]; exact po_si_at) (oM0 11 (by decide)) (oM 7 (by decide))
  have hyC : iv_yC c C1 := ⟨by rw [hC1]; rfl, fun a _ h => oC a h⟩
  have hyM : iv_yM m M1 := ⟨by rw [hM1]; rfl, fun a h _ => oM a h, fun b h10 _ _ _ _ => oM0 b h10⟩
  have hb1 : iv_tk 18 k C1 := iv_tk_4 hb (by rw [oC 18 (by decide)])
  have hl1 : M1.1 0 42 = nI l := (oM0 42 (by decide)).trans hl
  have kC : C1.1 21 k = c.1 21 k := by rw [oC 21 (by decide)]
  have adC : wk_si c 32 3 (c.1 32 3 + 1) = C1 := by rw [hc3, nI_1, hC1]
  have adM : wk_si m 0 10 (m.1 0 10 + 1) = M1 := by rw [h10, nI_1, hM1]
  obtain ⟨t1, t2, t3, t4, t5, t6, t7, t8⟩ := iv_k_t (iv_E_r hE1 hk hb1)
  -- a change of what he is
  have turn : ∀ (what cl : Int32), (what = 1 ∧ cl = C1.1 19 k) ∨ (what = 0 ∧ cl = -2) → ∃ C2 M2, C2 = wk_si (wk_si C1 21 k what) 22 k cl ∧ M2 = wk_si (wk_si M1 1 (27 + k) what) 1 (36 + k) cl ∧ iv_lnR T w N t n p l c m (some (true, C2)) (some (true, M2)) := by
    intro what cl hwc
    obtain ⟨C2, hC2⟩ : ∃ C2, C2 = wk_si (wk_si C1 21 k what) 22 k cl := ⟨_, rfl⟩
    obtain ⟨M2, hM2⟩ : ∃ M2, M2 = wk_si (wk_si M1 1 (27 + k) what) 1 (36 + k) cl := ⟨_, rfl⟩
    refine ⟨C2, M2, hC2, hM2, true, C2, M2, rfl, rfl, ?_, ?_, Or.inl ⟨rfl, hl20, ?_, p + 1, by omega, ?_, ?_⟩⟩
    · rw [hC2]
      exact iv_yC_t hyC ⟨rfl, fun a h1 _ => funext (fun b => by rw [po_si_c (by omega), po_si_c (by omega)])⟩
    · rw [hM2]
      exact iv_yM_t hyM ⟨rfl, fun a _ h => funext (fun b => by rw [po_si_c h, po_si_c h]), fun b _ _ _ _ _ => by rw [po_si_c (by decide), po_si_c (by decide)]⟩
    · rw [hM2, po_si_c (by decide), po_si_c (by decide)]; exact hl1
    · rw [hC2, hM2]
      refine po_same hR1 ?_ ?_ (funext (fun b => ?_)) ?_ ?_ (funext (fun b => ?_))
      · rw [po_si_c (by decide), po_si_c (by decide)]
      · rw [po_si_c (by decide), po_si_c (by decide)]
      · rw [po_si_c (by decide), po_si_c (by decide)]
      · rw [po_si_c (by decide), po_si_c (by decide)]
      · rw [po_si_c (by decide), po_si_c (by decide)]
      · rw [po_si_c (by decide), po_si_c (by decide)]
    · have p1 : ∀ z, z ≠ 27 + k → z ≠ 36 + k → M2.1 1 z = M1.1 1 z := fun z h1 h2 => by rw [hM2, po_si_ne h2, po_si_ne h1]
      have c1 : ∀ a b, a ≠ 21 → a ≠ 22 → C2.1 a b = C1.1 a b := fun a b h1 h2 => by rw [hC2, po_si_c h2, po_si_c h1]
      have hZ : iv_Z 18 C1 M1 C2 M2 := by
        refine ⟨fun b _ => c1 18 b (by decide) (by decide), ⟨by rw [hC2]; rfl, fun a h1 _ _ _ _ => funext (fun b => c1 a b (by omega) (by omega)), fun b _ _ => c1 37 b (by decide) (by decide)⟩, ⟨by rw [hM2]; rfl, fun a _ h1 _ _ _ _ => funext (fun b => by rw [hM2, po_si_c h1, po_si_c h1]), fun b _ => by rw [hM2, po_si_c (by decide), po_si_c (by decide)]⟩, by rw [hM2, po_si_c (by decide), po_si_c (by decide)], Or.inl ⟨by rw [hM2, po_si_c (by decide), po_si_c (by decide)], by rw [hM2, po_si_c (by decide), po_si_c (by decide)]⟩⟩
      refine iv_E_k (by decide) (by decide) hE1 hZ hk hb1 (fun b => c1 18 b (by decide) (by decide)) (fun a _ _ j hj => by rw [hC2, po_si_ne' hj, po_si_ne' hj]) (fun z _ _ _ h4 h5 => p1 z h4 h5) ?_
      have r3 : C2.1 (18 + 3) k = what := by rw [hC2, po_si_c (by decide)]; exact po_si_at
      have r4 : C2.1 (18 + 4) k = cl := by rw [hC2]; exact po_si_at
      have s3 : M2.1 1 (27 + k) = what := by rw [hM2, po_si_ne (by omega), po_si_at]
      have s4 : M2.1 1 (36 + k) = cl := by rw [hM2, po_si_at]
      rw [r3, r4, s3, s4, c1 _ _ (by decide) (by decide), c1 _ _ (by decide) (by decide), p1 _ (by omega) (by omega), p1 _ (by omega) (by omega), p1 _ (by omega) (by omega)]
      refine ⟨t1, t2, t3, rfl, rfl, t6, t7, ?_⟩
      rcases hwc with ⟨rfl, rfl⟩ | ⟨rfl, rfl⟩
      · obtain ⟨P, hP, tP, hTP⟩ := t6
        exact Or.inr ⟨Or.inl rfl, P, hP, tP, hTP⟩
      · exact Or.inl ⟨rfl, rfl⟩
  have eTurns : ∀ what cl, f_X12_turns (nI k) what cl M1 = some (wk_si (wk_si M1 1 (27 + k) what) 1 (36 + k) cl) := by
    intro what cl
    unfold f_X12_turns
    rw [po_e27, po_e36, if_pos (po_wkin (by omega) (by decide)), if_pos (po_wkin (by omega) (by decide)), nI_clamp (by omega), nI_clamp (by omega)]
  have eWolf : f_X0_turnWolf 18 (nI k) C1 = some (wk_si (wk_si C1 21 k 1) 22 k (C1.1 19 k)) := by
    unfold f_X0_turnWolf
    rw [po_W, po_inT (n := 8) rfl (by omega), if_neg (by decide), if_pos (po_wkin hk (by decide)), if_pos (po_wkin hk (by decide)), if_pos (po_wkin hk (by decide)), nI_clamp (by omega), po_si_c (by decide)]
  have eMan : f_X0_turnMan 18 (nI k) C1 = some (wk_si (wk_si C1 21 k 0) 22 k (-2)) := by
    unfold f_X0_turnMan
    rw [po_W, po_inT (n := 8) rfl (by omega), if_neg (by decide), if_pos (po_wkin hk (by decide)), if_pos (po_wkin hk (by decide)), nI_clamp (by omega)]
  have place : (d = 62 ∨ (d = 64 ∧ wolf = true)) → iv_lnR T w N t n p l c m (j_X1_readDeed_48 (nI k) d c) (j_X12_readsLine_100 (nI k) d m) := by
    intro hdw
    have n43 : ¬ d = 43 := by rcases hdw with h | ⟨h, _⟩ <;> (rw [h]; decide)
    have n45 : ¬ d = 45 := by rcases hdw with h | ⟨h, _⟩ <;> (rw [h]; decide)
    obtain ⟨b, c2, m2, e1, e2, e3, e4, e5, e6⟩ := po_where hE1 hR1 hk hb1 d (fun h62 => by
      rcases hdw with h | ⟨_, h⟩
      · exact absurd h h62
      · rw [kC]
        rw [h, if_pos rfl] at hw
        exact hw)
    refine ⟨b, c2, m2, ?_, ?_, iv_yC_t hyC e3, iv_yM_t hyM e4, ?_⟩
    · unfold j_X1_readDeed_48
      rw [if_pos n43, if_pos n45, adC, e1]
      rfl
    · unfold j_X12_readsLine_100
      rw [if_neg n43, if_neg n45, adM, po_e36, po_e18]
      simp only [po_wkin (show 36 + k < 47 by omega) (by decide), po_wkin (show 18 + k < 47 by omega) (by decide), nI_clamp (show 36 + k < 2 ^ 31 by omega), nI_clamp (show 18 + k < 2 ^ 31 by omega), if_true]
      exact e2
    · rcases e6 with ⟨h1, p2, h2, h3, h4⟩ | ⟨h1, h2⟩
      · exact Or.inl ⟨h1, hl20, e5.trans hl1, p2, by omega, h3, h4⟩
      · exact Or.inr ⟨h1, h2⟩
  unfold j_X1_readDeed_30 j_X12_readsLine_80
  cases wolf with
  | false =>
    rw [if_pos (show b2i false = 0 by decide), if_pos (show b2i false = 0 by decide)]
    rcases hd with rfl | rfl | rfl | rfl
    · rw [if_neg (by decide), if_pos (by decide), if_neg (by decide), if_pos (by decide)]
      unfold j_X12_readsLine_89
      rw [if_pos (by decide)]
      exact place (Or.inl rfl)
    · rw [if_pos rfl, if_pos rfl]
      exact fault
    · rw [if_neg (by decide), if_pos (by decide), if_neg (by decide), if_pos (by decide)]
      unfold j_X12_readsLine_89 j_X1_readDeed_48 j_X12_readsLine_100
      rw [if_neg (by decide), if_neg (by decide), if_pos (by decide), if_pos rfl, po_e18, if_pos (po_wkin (by omega) (by decide)), nI_clamp (by omega), adC, adM, eWolf, eTurns]
      have e19 : M1.1 1 (18 + k) = C1.1 19 k := t3
      rw [e19]
      obtain ⟨C2, M2, h1, h2, h3⟩ := turn 1 (C1.1 19 k) (Or.inl ⟨rfl, rfl⟩)
      rw [← h1, ← h2]
      exact h3
    · rw [if_neg (by decide), if_neg (by decide), if_neg (by decide), if_neg (by decide)]
      exact fault
  | true =>
    rw [if_neg (show ¬ b2i true = 0 by decide), if_neg (show ¬ b2i true = 0 by decide)]
    rcases hd with rfl | rfl | rfl | rfl
    · rw [if_pos (by decide), if_neg (by decide), if_pos (by decide)]
      unfold j_X12_readsLine_89
      rw [if_pos (by decide)]
      exact place (Or.inl rfl)
    · rw [if_pos (by decide), if_pos rfl]
      unfold j_X12_readsLine_89
      rw [if_pos (by decide)]
      exact place (Or.inr ⟨rfl, rfl⟩)
    · rw [if_neg (by decide), if_neg (by decide), if_pos (by decide)]
      unfold j_X12_readsLine_89
      rw [if_neg (by decide), if_neg (by decide)]
      exact fault
    · rw [if_pos (by decide), if_neg (by decide), if_neg (by decide)]
      unfold j_X12_readsLine_89 j_X1_readDeed_48 j_X12_readsLine_100
      rw [if_pos (show ¬ (45 : Int32) = 43 by decide), if_neg (show ¬ ¬ (45 : Int32) = 45 by decide), if_pos (show ¬ (45 : Int32) = 43 by decide), if_neg (show ¬ (45 : Int32) = 43 by decide), if_pos rfl, adC, adM, eMan, eTurns]
      obtain ⟨C2, M2, h1, h2, h3⟩ := turn 0 (-2) (Or.inr ⟨rfl, rfl⟩)
      rw [← h1, ← h2]
      exact h3
