/-! PURE: diary: a line -/
def iv_yC (c0 c : wk_St) : Prop := c.2 = c0.2 ∧ ∀ a, (a < 18 ∨ 22 < a) → a ≠ 32 → c.1 a = c0.1 a
def iv_yM (m0 m : wk_St) : Prop := m.2 = m0.2 ∧ (∀ a, a ≠ 0 → a ≠ 1 → m.1 a = m0.1 a) ∧ ∀ b, b ≠ 10 → b ≠ 11 → b ≠ 12 → b ≠ 13 → b ≠ 42 → m.1 0 b = m0.1 0 b
theorem iv_yC_t {a b c : wk_St} (h : iv_yC a b) (k : iv_yC b c) : iv_yC a c := ⟨k.1.trans h.1, fun x h1 h2 => (k.2 x h1 h2).trans (h.2 x h1 h2)⟩
theorem iv_yM_t {a b c : wk_St} (h : iv_yM a b) (k : iv_yM b c) : iv_yM a c := ⟨k.1.trans h.1, fun x h1 h2 => (k.2.1 x h1 h2).trans (h.2.1 x h1 h2), fun x h1 h2 h3 h4 h5 => (k.2.2 x h1 h2 h3 h4 h5).trans (h.2.2 x h1 h2 h3 h4 h5)⟩
theorem iv_yC_r {c : wk_St} : iv_yC c c := ⟨rfl, fun _ _ _ => rfl⟩
theorem iv_yM_r {m : wk_St} : iv_yM m m := ⟨rfl, fun _ _ _ => rfl, fun _ _ _ _ _ _ => rfl⟩
theorem iv_E_y {T w : Nat} {N : Nat → Nat} {c m c2 m2 : wk_St} (hE : iv_E T w N 18 c m) (h1 : c2.2 = c.2) (h2 : ∀ a, a ≠ 32 → c2.1 a = c.1 a) (h3 : ∀ a, a ≠ 0 → m2.1 a = m.1 a) (h4 : m2.1 0 4 = m.1 0 4) (h5 : m2.1 0 5 = m.1 0 5) (h18 : m2.1 0 18 = m.1 0 18) : iv_E T w N 18 c2 m2 := by
  unfold iv_E at hE ⊢
  rw [h1, h2 3 (by decide), h2 4 (by decide), h2 5 (by decide), h2 6 (by decide), h2 37 (by decide), h2 38 (by decide), h2 39 (by decide), h2 40 (by decide), h2 41 (by decide), h2 42 (by decide), h2 43 (by decide), h2 18 (by decide), h2 (18 + 1) (by decide), h2 (18 + 2) (by decide), h2 (18 + 3) (by decide), h2 (18 + 4) (by decide), h4, h5, h18, h3 4 (by decide), h3 22 (by decide), h3 21 (by decide), h3 14 (by decide), h3 15 (by decide), h3 16 (by decide), h3 17 (by decide), h3 18 (by decide), h3 1 (by decide)]
  exact hE
def iv_CL (x : Int32) (c : wk_St) : Option (Bool × wk_St) := Option.bind (f_X1_readKnight x c) fun v1 => if v1.1 = (-1 : Int32) then some (false, v1.2) else f_X1_readDeed v1.1 v1.2
/-- the place that is read: the class's end and the model's -/
theorem po_where {T w n p k : Nat} {N : Nat → Nat} {t : Nat → Nat} {c m : wk_St} (hE : iv_E T w N 18 c m) (hR : iv_RD 32 t n p c m) (hk : k < 9) (hb : iv_tk 18 k c) (d : Int32) (hlay : ¬ d = 62 → c.1 21 k = 1) :
    ∃ b c2 m2, f_X1_readPlace (nI k) d c = some (b, c2) ∧ (Option.bind (f_X12_readsWhere m) fun v9 => if v9.1 = true then (if ¬ d = (62 : Int32) then some (true, (wk_si v9.2 1 (36 + k) (v9.2.1 0 13))) else some (true, (wk_si v9.2 1 (18 + k) (v9.2.1 0 13)))) else some (false, v9.2)) = some (b, m2) ∧ iv_yC c c2 ∧ iv_yM m m2 ∧ m2.1 0 42 = m.1 0 42 ∧
      ((b = true ∧ ∃ p2, p < p2 ∧ iv_RD 32 t n p2 c2 m2 ∧ iv_E T w N 18 c2 m2) ∨ (b = false ∧ ∃ f i, f < 10 ∧ f ≠ 0 ∧ i < 260 ∧ c2.1 32 2 = f_X11_faultOf (nI f) (nI i) ∧ m2.1 0 12 = f_X11_faultOf (nI f) (nI i))) := by
  obtain ⟨q, hq2, hqd, hqn⟩ := po_digits t n p 2
  have hn240 := hR.1
  have hpq : p + q ≤ n := by
    by_cases hq : q = 0
    · have := hR.2.1; omega
    · have := (iv_dg_p (hqd (q - 1) (by omega))).1
      omega
  have eC := po_numC (D := 2) hR (by decide) hq2 hqd hqn
  have eC' : f_X6_readNumber 32 2 c = _ := eC
  have eM := po_numM (D := 2) (f := S_X12_readsWhere_15 (nI p)) hR (by decide) (by decide) (fun s => by
    unfold S_X12_readsWhere_15
    have : nI p + 2 = nI (p + 2) := nI_add p 2
    rw [this]) hq2 hqd hqn
  have hdg := (po_dg hR).2
  have h10 := hR.2.2.2.2.1
  have hc3 := hR.2.2.2.1
  unfold f_X1_readPlace f_X12_readsWhere
  rw [eC', hdg, h10]
  dsimp only [Option.bind]
  by_cases hq0 : q = 0
  · -- no digit
    subst hq0
    have hd0 : iv_dg t n p = false := hqn (by decide)
    have hd0' : iv_dg t n (p + 0) = false := hd0
    rw [hd0', hd0, if_neg Bool.false_ne_true, if_pos rfl, if_neg Bool.false_ne_true]
    dsimp only
    rw [if_neg (show ¬ ¬ (-1 : Int32) = -1 by decide)]
    unfold f_X12_wrongAt wk_let
    dsimp only
    rw [if_neg Bool.false_ne_true]
    refine ⟨false, _, _, rfl, rfl, ⟨rfl, fun a _ h => funext (fun b => by rw [po_si_c h, po_si_c h])⟩, ⟨rfl, fun a h _ => funext (fun b => po_si_c h), fun b _ _ h12 _ _ => po_si_ne h12⟩, po_si_ne (by decide), Or.inr ⟨rfl, 1, p, by decide, by decide, by have := hR.2.1; omega, po_si_at, po_si_at⟩⟩
  · have hd0 : iv_dg t n p = true := hqd 0 (by omega)
    rw [hd0, if_pos rfl]
    rw [eM]
    cases hdq : iv_dg t n (p + q) with
    | true =>
      rw [if_pos rfl, if_pos rfl]
      dsimp only
      rw [if_neg (show ¬ ¬ (-1 : Int32) = -1 by decide), if_neg Bool.false_ne_true]
      refine ⟨false, _, _, rfl, rfl, ⟨rfl, fun a _ h => funext (fun b => by rw [po_si_c h, po_si_c h])⟩, ⟨rfl, fun a h _ => funext (fun b => iv_set_off h), fun b h10 _ h12 h13 _ => ?_⟩, ?_, Or.inr ⟨rfl, 2, p + q, by decide, by decide, by omega, po_si_at, ?_⟩⟩
      · rw [iv_set_at, if_neg h12, if_neg h10, if_neg h13]
      · rw [iv_set_at, if_neg (by decide), if_neg (by decide), if_neg (by decide)]
      · rw [iv_set_at, if_pos rfl]; rfl
    | false =>
      rw [if_neg Bool.false_ne_true, if_neg hq0, if_neg Bool.false_ne_true]
      dsimp only
      have hnv := iv_nv_lt (t := t) (p := p) q (fun j hj => (iv_dg_p (hqd j (by omega))).2.2)
      have hp10 : 10 ^ q ≤ 10 ^ 2 := Nat.pow_le_pow_right (by decide) hq2
      rw [if_pos (po_m1 (by omega))]
      obtain ⟨M1, hM1⟩ : ∃ M1, M1 = iv_set m 0 (fun z => if z = 10 then nI (p + q) else if z = 13 then nI (iv_nv t p q) else m.1 0 z) := ⟨_, rfl⟩
      obtain ⟨C1, hC1⟩ : ∃ C1, C1 = wk_si c 32 3 (nI (p + q)) := ⟨_, rfl⟩
      rw [← hM1, ← hC1]
      have m13 : M1.1 0 13 = nI (iv_nv t p q) := by rw [hM1]; rfl
      have oM : ∀ a, a ≠ 0 → M1.1 a = m.1 a := fun a h => funext (fun b => by rw [hM1]; exact iv_set_off h)
      have oM0 : ∀ b, b ≠ 10 → b ≠ 13 → M1.1 0 b = m.1 0 b := fun b h1 h2 => by rw [hM1, iv_set_at, if_neg h1, if_neg h2]
      have oC : ∀ a, a ≠ 32 → C1.1 a = c.1 a := fun a h => funext (fun b => by rw [hC1]; exact po_si_c h)
      have hE1 : iv_E T w N 18 C1 M1 := iv_E_y hE (by rw [hC1]; rfl) oC oM (oM0 4 (by decide) (by decide)) (oM0 5 (by decide) (by decide)) (oM0 18 (by decide) (by decide))
      have hR1 : iv_RD 32 t n (p + q) C1 M1 := by
        obtain ⟨a1, a2, a3, a4, a5, a6, a7⟩ := hR
        refine ⟨a1, hpq, by rw [hC1]; exact (po_si_ne (by decide)).trans a3, by rw [hC1]; exact po_si_at, by rw [hM1]; rfl, (oM0 11 (by decide) (by decide)).trans a6, fun j hj => ?_⟩
        rw [oC 33 (by decide), oM 7 (by decide)]
        exact a7 j hj
      have hyC : iv_yC c C1 := ⟨by rw [hC1]; rfl, fun a _ h => oC a h⟩
      have hyM : iv_yM m M1 := ⟨by rw [hM1]; rfl, fun a h _ => oM a h, fun b h10 _ _ h13 _ => oM0 b h10 h13⟩
      have hb1 : iv_tk 18 k C1 := iv_tk_4 hb (by rw [oC 18 (by decide)])
      rw [m13]
      rcases po_toldF (x := nI (iv_nv t p q)) hE1.1 with ⟨u1, u2⟩ | ⟨u1, u2, P, hP, hPe, hTP⟩
      · rw [u1, u2, if_neg Bool.false_ne_true, if_neg Bool.false_ne_true, hc3]
        unfold f_X6_blame f_X12_wrongAt wk_let
        dsimp only
        rw [if_pos rfl]
        dsimp only
        rw [if_neg Bool.false_ne_true]
        refine ⟨false, _, _, rfl, rfl, iv_yC_t hyC ⟨rfl, fun a _ h => funext (fun b => po_si_c h)⟩, iv_yM_t hyM ⟨rfl, fun a h _ => funext (fun b => po_si_c h), fun b _ _ h12 _ _ => po_si_ne h12⟩, (po_si_ne (by decide)).trans (oM0 42 (by decide) (by decide)), Or.inr ⟨rfl, 7, p, by decide, by decide, by have := hR.2.1; omega, po_si_at, po_si_at⟩⟩
      · rw [u1, u2, if_pos rfl, if_pos rfl, hPe]
        dsimp only
        rw [if_pos rfl]
        obtain ⟨t1, t2, t3, t4, t5, t6, t7, t8⟩ := iv_k_t (iv_E_r hE1 hk hb1)
        by_cases hd : d = 62
        · rw [if_neg (not_not_intro hd), if_neg (not_not_intro hd)]
          have eMv : f_X0_moveTo 18 (nI k) (nI P) C1 = some (wk_si C1 19 k (nI P)) := by
            unfold f_X0_moveTo
            rw [po_W, po_inT (n := 8) rfl (by omega), if_neg (by decide), if_pos (po_wkin hk (by decide)), nI_clamp (by omega)]
          have m13' : M1.1 0 13 = nI P := m13.trans hPe
          rw [eMv, m13']
          have hZ : iv_Z 18 C1 M1 (wk_si C1 19 k (nI P)) (wk_si M1 1 (18 + k) (nI P)) := ⟨fun b _ => po_si_c (by decide), ⟨rfl, fun a h1 _ _ _ _ => funext (fun b => po_si_c (by omega)), fun b _ _ => po_si_c (by decide)⟩, ⟨rfl, fun a _ h1 _ _ _ _ => funext (fun b => po_si_c h1), fun b _ => po_si_c (by decide)⟩, po_si_c (by decide), Or.inl ⟨po_si_c (by decide), po_si_c (by decide)⟩⟩
          refine ⟨true, _, _, rfl, rfl, iv_yC_t hyC ⟨rfl, fun a h1 _ => funext (fun b => po_si_c (by omega))⟩, iv_yM_t hyM ⟨rfl, fun a _ h => funext (fun b => po_si_c h), fun b _ _ _ _ _ => po_si_c (by decide)⟩, (po_si_c (by decide)).trans (oM0 42 (by decide) (by decide)), Or.inl ⟨rfl, p + q, by omega, po_same hR1 (po_si_c (by decide)) (po_si_c (by decide)) (funext (fun b => po_si_c (by decide))) (po_si_c (by decide)) (po_si_c (by decide)) (funext (fun b => po_si_c (by decide))), ?_⟩⟩
          refine iv_E_k (by decide) (by decide) hE1 hZ hk hb1 (fun b => po_si_c (by decide)) (fun a _ _ j hj => po_si_ne' hj) (fun z _ _ h3 _ _ => po_si_ne h3) ?_
          have g1 : (wk_si C1 19 k (nI P)).1 (18 + 1) k = nI P := po_si_at
          have g2 : (wk_si M1 1 (18 + k) (nI P)).1 1 (18 + k) = nI P := po_si_at
          rw [g1, g2, po_si_c (by decide), po_si_c (by decide), po_si_c (by decide), po_si_ne (by omega), po_si_ne (by omega), po_si_ne (by omega), po_si_ne (by omega)]
          exact ⟨t1, t2, rfl, t4, t5, ⟨P, hP, rfl, hTP⟩, t7, t8⟩
        · rw [if_pos hd, if_pos hd]
          have eLy : f_X0_layClothes 18 (nI k) (nI P) C1 = some (wk_si C1 22 k (nI P)) := by
            unfold f_X0_layClothes
            rw [po_W, po_inT (n := 8) rfl (by omega), if_neg (by decide), if_pos (po_wkin hk (by decide)), nI_clamp (by omega)]
          have m13' : M1.1 0 13 = nI P := m13.trans hPe
          rw [eLy, m13']
          have hZ : iv_Z 18 C1 M1 (wk_si C1 22 k (nI P)) (wk_si M1 1 (36 + k) (nI P)) := ⟨fun b _ => po_si_c (by decide), ⟨rfl, fun a h1 _ _ _ _ => funext (fun b => po_si_c (by omega)), fun b _ _ => po_si_c (by decide)⟩, ⟨rfl, fun a _ h1 _ _ _ _ => funext (fun b => po_si_c h1), fun b _ => po_si_c (by decide)⟩, po_si_c (by decide), Or.inl ⟨po_si_c (by decide), po_si_c (by decide)⟩⟩
          refine ⟨true, _, _, rfl, rfl, iv_yC_t hyC ⟨rfl, fun a h1 _ => funext (fun b => po_si_c (by omega))⟩, iv_yM_t hyM ⟨rfl, fun a _ h => funext (fun b => po_si_c h), fun b _ _ _ _ _ => po_si_c (by decide)⟩, (po_si_c (by decide)).trans (oM0 42 (by decide) (by decide)), Or.inl ⟨rfl, p + q, by omega, po_same hR1 (po_si_c (by decide)) (po_si_c (by decide)) (funext (fun b => po_si_c (by decide))) (po_si_c (by decide)) (po_si_c (by decide)) (funext (fun b => po_si_c (by decide))), ?_⟩⟩
          refine iv_E_k (by decide) (by decide) hE1 hZ hk hb1 (fun b => po_si_c (by decide)) (fun a _ _ j hj => po_si_ne' hj) (fun z _ _ _ _ h5 => po_si_ne h5) ?_
          have g1 : (wk_si C1 22 k (nI P)).1 (18 + 4) k = nI P := po_si_at
          have g2 : (wk_si M1 1 (36 + k) (nI P)).1 1 (36 + k) = nI P := po_si_at
          rw [g1, g2, po_si_c (by decide), po_si_c (by decide), po_si_c (by decide), po_si_ne (by omega), po_si_ne (by omega), po_si_ne (by omega), po_si_ne (by omega)]
          have k1 : C1.1 (18 + 3) k = 1 := by rw [oC 21 (by decide)]; exact hlay hd
          exact ⟨t1, t2, t3, t4, rfl, t6, t7, Or.inr ⟨Or.inl k1, P, hP, rfl, hTP⟩⟩
