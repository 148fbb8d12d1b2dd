/-! PURE: law: a rule's tests -/
def iv_uC (c c2 : wk_St) : Prop := c2.2 = c.2 ∧ ∀ a, a ≠ 34 → (a < 45 ∨ 51 < a) → c2.1 a = c.1 a
def iv_uM (m m2 : wk_St) : Prop := m2.2 = m.2 ∧ (∀ a, a ≠ 0 → (a < 8 ∨ 13 < a) → m2.1 a = m.1 a) ∧ ∀ b, (b < 10 ∨ 17 < b) → m2.1 0 b = m.1 0 b
theorem iv_uC_r {c : wk_St} : iv_uC c c := ⟨rfl, fun _ _ _ => rfl⟩
theorem iv_uM_r {m : wk_St} : iv_uM m m := ⟨rfl, fun _ _ _ => rfl, fun _ _ => rfl⟩
theorem iv_uC_t {a b c : wk_St} (h : iv_uC a b) (k : iv_uC b c) : iv_uC a c := ⟨k.1.trans h.1, fun x h1 h2 => (k.2 x h1 h2).trans (h.2 x h1 h2)⟩
theorem iv_uM_t {a b c : wk_St} (h : iv_uM a b) (k : iv_uM b c) : iv_uM a c := ⟨k.1.trans h.1, fun x h1 h2 => (k.2.1 x h1 h2).trans (h.2.1 x h1 h2), fun x h1 => (k.2.2 x h1).trans (h.2.2 x h1)⟩
theorem iv_uC_w {c c2 : wk_St} (h : iv_wC c c2) : iv_uC c c2 := ⟨h.1, fun a h1 h2 => h.2.1 a h1 (by omega) (by omega) (by omega)⟩
theorem iv_uM_w {m m2 : wk_St} (h : iv_wM m m2) : iv_uM m m2 := ⟨h.1, fun a h1 h2 => h.2.1 a h1 (by omega) (by omega), fun b h1 => h.2.2 b (by omega) (by omega) (by omega) (by omega) (by omega) (by omega)⟩
theorem iv_uC_si {c : wk_St} {a b : Nat} {x : Int32} (h : a = 34 ∨ (45 ≤ a ∧ a ≤ 51)) : iv_uC c (wk_si c a b x) := ⟨rfl, fun a1 h1 h2 => funext (fun b => po_si_c (by omega))⟩
theorem iv_uM_si {m : wk_St} {a b : Nat} {x : Int32} (h : 8 ≤ a ∧ a ≤ 13) : iv_uM m (wk_si m a b x) := ⟨rfl, fun a1 h1 h2 => funext (fun b => po_si_c (by omega)), fun b1 h1 => po_si_c (by omega)⟩
theorem iv_uM_s0 {m : wk_St} {b : Nat} {x : Int32} (h : 10 ≤ b ∧ b ≤ 17) : iv_uM m (wk_si m 0 b x) := ⟨rfl, fun a1 h1 h2 => funext (fun b => po_si_c (by omega)), fun b1 h1 => po_si_ne (by omega)⟩
theorem po_si_ro {s : wk_St} {c j : Nat} {x : Int32} : (wk_si s c j x).1 c = fun b => if b = j then x else s.1 c b := by
  funext b
  by_cases h : b = j
  · rw [if_pos h, h]; exact po_si_at
  · rw [if_neg h]; exact po_si_ne h
def iv_tC (s : wk_St) : Option (Bool × wk_St) :=
  Option.bind (f_X5_openTests s) fun v7 =>
  if v7.1 = false then
    some (false, v7.2)
  else
    Option.bind (f_X5_readTests (1 : Int32) v7.2) fun v8 =>
    if v8.1 = false then
      some (false, v8.2)
    else
      f_X6_pass 34 (41 : Int32) v8.2
theorem po_cond {t : Nat → Nat} {n p e R : Nat} {c m : wk_St} (hY : iv_Y t n p e 0 0 c m) (he : e ≤ p) (hR : R < 16) (h7 : c.1 45 7 = nI R) (h17 : m.1 0 17 = nI R) :
    ∃ b c2 m2, iv_tC c = some (b, c2) ∧ j_X12_readsRule_61 m = some (b, m2) ∧ iv_uC c c2 ∧ iv_uM m m2 ∧ ((b = false ∧ iv_flL c2 m2) ∨
      (b = true ∧ ∃ p2 e2, p < p2 ∧ e < e2 ∧ e2 ≤ p2 ∧ iv_RD 34 t n p2 c2 m2 ∧ c2.1 45 8 = nI e2 ∧ m2.1 0 15 = nI e2 ∧ c2.1 45 7 = nI R ∧ m2.1 0 17 = nI (R + 1) ∧
        (∀ j, j < e → c2.1 50 j = c.1 50 j ∧ c2.1 51 j = c.1 51 j ∧ m2.1 8 j = m.1 8 j) ∧ iv_sgm c2 m2 16 e e2 [] [true] ∧
        c2.1 46 = c.1 46 ∧ c2.1 47 = c.1 47 ∧ c2.1 48 = (fun b => if b = R then nI e else c.1 48 b) ∧ c2.1 49 = c.1 49 ∧
        m2.1 10 = m.1 10 ∧ m2.1 11 = m.1 11 ∧ m2.1 12 = (fun b => if b = R then nI e else m.1 12 b) ∧ m2.1 13 = (fun b => if b = R then nI e2 else m.1 13 b))) := by
  have hFF : wk_F = 4096 := rfl
  have hn := hY.1.1
  have hpn := hY.1.2.1
  obtain ⟨C3, hC3⟩ : ∃ C, C = wk_si c 48 R (nI e) := ⟨_, rfl⟩
  obtain ⟨M3, hM3⟩ : ∃ M, M = wk_si m 12 R (nI e) := ⟨_, rfl⟩
  obtain ⟨M4, hM4⟩ : ∃ M, M = wk_si (wk_si M3 0 14 0) 0 16 0 := ⟨_, rfl⟩
  have oC3 : ∀ a, a ≠ 48 → C3.1 a = c.1 a := fun a h => by rw [hC3]; exact funext (fun b => po_si_c h)
  have oM4 : ∀ a, a ≠ 0 → a ≠ 12 → M4.1 a = m.1 a := fun a h h12 => by rw [hM4, hM3]; exact funext (fun b => by rw [po_si_c h, po_si_c h, po_si_c h12])
  have oM40 : ∀ b, b ≠ 14 → b ≠ 16 → M4.1 0 b = m.1 0 b := fun b h1 h2 => by rw [hM4, hM3, po_si_ne h2, po_si_ne h1]; exact po_si_c (by decide)
  have hY3 : iv_Y t n p e 0 0 C3 M4 := by
    obtain ⟨⟨r1, r2, r3, r4, r5, r6, r7⟩, y1, y2, y3, y4, y5⟩ := hY
    refine ⟨⟨r1, r2, ?_, ?_, ?_, ?_, fun i hi => ⟨(r7 i hi).1, ?_, ?_⟩⟩, y1, ?_, ?_, ?_, ?_⟩
    · rw [oC3 34 (by decide)]; exact r3
    · rw [oC3 34 (by decide)]; exact r4
    · rw [oM40 10 (by decide) (by decide)]; exact r5
    · rw [oM40 11 (by decide) (by decide)]; exact r6
    · rw [oC3 (34 + 1) (by decide)]; exact (r7 i hi).2.1
    · rw [oM4 7 (by decide) (by decide)]; exact (r7 i hi).2.2
    · rw [oC3 45 (by decide)]; exact y2
    · rw [oM40 15 (by decide) (by decide)]; exact y3
    · rw [hM4]; exact po_si_at
    · rw [hM4, po_si_ne (by decide)]; exact po_si_at
  have hs := po_sign hY.1
  have hs3 := po_sign hY3.1
  have k3 : f_X4_openTests c = some C3 := by
    unfold f_X4_openTests
    rw [h7, if_neg (nI_pos (by omega)), if_neg (show ¬ nI R ≥ 16 from nI_ge (b := 16) hR (by decide)), if_pos (po_wkin hR (by decide)), nI_clamp (by omega), hY.2.2.1, hC3]
  have hsM3 : f_X12_here M3 = some (iv_sgn t n p) := by
    have : iv_RD 34 t n p c M3 := by
      obtain ⟨⟨r1, r2, r3, r4, r5, r6, r7⟩, _⟩ := hY
      refine ⟨r1, r2, r3, r4, ?_, ?_, fun i hi => ⟨(r7 i hi).1, (r7 i hi).2.1, ?_⟩⟩
      · rw [hM3, po_si_c (by decide)]; exact r5
      · rw [hM3, po_si_c (by decide)]; exact r6
      · rw [hM3, po_si_c (by decide)]; exact (r7 i hi).2.2
    exact (po_sign this).2
  have h310 : M3.1 0 10 = nI p := by rw [hM3, po_si_c (by decide)]; exact hY.1.2.2.2.2.1
  have eJ : j_X12_readsRule_61 m = Option.bind (f_X12_readsCondition M3) fun v2 => if v2.1 = true then (if wk_in (v2.2.1 0 17) 16 = true then some (true, (wk_si (wk_si v2.2 13 ((v2.2.1 0 17).toNatClampNeg) (v2.2.1 0 15)) 0 17 (((wk_si v2.2 13 ((v2.2.1 0 17).toNatClampNeg) (v2.2.1 0 15)).1 0 17) + (1 : Int32)))) else none) else some (false, v2.2) := by
    unfold j_X12_readsRule_61
    rw [h17, if_pos (po_wkin hR (by decide)), nI_clamp (by omega), hY.2.2.2.1, ← hM3]
  have uC3 : iv_uC c C3 := by rw [hC3]; exact iv_uC_si (Or.inr (by decide))
  have uM3 : iv_uM m M3 := by rw [hM3]; exact iv_uM_si (by decide)
  have uM4 : iv_uM m M4 := by rw [hM4]; exact iv_uM_t uM3 (iv_uM_t (iv_uM_s0 (by decide)) (iv_uM_s0 (by decide)))
  by_cases h40 : iv_sgn t n p = 40
  · obtain ⟨hp, _⟩ := po_sgnp (z := 40) hY.1 (by decide) h40
    obtain ⟨c4, m4, q1, q2, q3, q4, q5, q6, q7⟩ := po_opens (x := 13) hY3 hp (by decide) (by decide)
    have q2' : f_X12_opens 13 M4 = some (true, m4) := q2
    have c4e : c4 = wk_si C3 34 3 (C3.1 34 3 + 1) := by
      have := congrArg Prod.snd q1
      unfold f_X5_open at this
      rw [if_pos (by decide)] at this
      exact this.symm
    have eO : f_X5_openTests c = some (true, c4) := by
      unfold f_X5_openTests
      rw [k3]
      dsimp only [Option.bind]
      unfold f_X6_pass
      rw [hs3.1, h40]
      dsimp only [Option.bind]
      rw [if_pos rfl, ← c4e]
    have eC : f_X12_readsCondition M3 = wk_loop S_X12_readsCondition_22 wk_F m4 := by
      unfold f_X12_readsCondition
      rw [hsM3, h40]
      dsimp only [Option.bind]
      rw [if_pos rfl, ← hM4, q2']
      dsimp only
      rw [if_pos rfl]
      cases wk_loop S_X12_readsCondition_22 wk_F m4 <;> rfl
    have hwt : iv_wt m4 1 = nI 13 := po_wtk (h := 0) (y := 0) q7 (by decide) (by decide)
    obtain ⟨b, c5, m5, f1, f2, f3, f4⟩ := po_testsA (p + 1) e 1 0 c4 m4 wk_F q3 (by omega) hwt (by omega)
    have f1' : f_X5_readTests 1 c4 = some (b, c5) := f1
    rcases f4 with ⟨rfl, f5, f6⟩ | ⟨rfl, f5, p2, e2, F, G2, n1, f6, f7, f8, f9, f10, f11, f12, f13, f14, f15, f16, f17, f18⟩
    · refine ⟨false, c5, m5, ?_, ?_, iv_uC_t uC3 (iv_uC_t (iv_uC_w q4) (iv_uC_w f2)), iv_uM_t uM4 (iv_uM_t (iv_uM_w q5) (iv_uM_w f3)), Or.inl ⟨rfl, f6⟩⟩
      · unfold iv_tC
        rw [eO]
        dsimp only [Option.bind]
        rw [if_neg (fun k => Bool.false_ne_true k.symm), f1']
        rfl
      · rw [eJ, eC, f5]
        rfl
    · have hp2 := f9.1.2.1
      have hs2 := po_sign f9.1
      have hs1 := (po_sign f15).2
      obtain ⟨F, rfl⟩ : ∃ z, F = z + 1 := ⟨F - 1, by omega⟩
      have eT : iv_tC c = f_X6_pass 34 41 c5 := by
        unfold iv_tC
        rw [eO]
        dsimp only [Option.bind]
        rw [if_neg (fun k => Bool.false_ne_true k.symm), f1']
        dsimp only
        rw [if_neg (fun k => Bool.false_ne_true k.symm)]
      by_cases hs41 : iv_sgn t n p2 = 41
      · obtain ⟨hp2n, _⟩ := po_sgnp (z := 41) f9.1 (by decide) hs41
        obtain ⟨C6, hC6⟩ : ∃ C, C = wk_si c5 34 3 (nI (p2 + 1)) := ⟨_, rfl⟩
        obtain ⟨M6, hM6⟩ : ∃ M, M = wk_si (wk_si (wk_si m5 0 16 (nI 0)) 0 14 (nI 0)) 0 10 (nI (p2 + 1)) := ⟨_, rfl⟩
        obtain ⟨M7, hM7⟩ : ∃ M, M = wk_si (wk_si M6 13 R (nI e2)) 0 17 (nI (R + 1)) := ⟨_, rfl⟩
        have eM := po_c47 (hs1.trans (congrArg some hs41)) f14 f9.2.2.2.2.1 f9.2.2.2.2.2 f9.1.2.2.2.2.1 hM6
        have oC6 : ∀ a, a ≠ 34 → C6.1 a = c5.1 a := fun a h => by rw [hC6]; exact funext (fun b => po_si_c h)
        have oM6 : ∀ a, a ≠ 0 → M6.1 a = m5.1 a := fun a h => by rw [hM6]; exact funext (fun b => by rw [po_si_c h, po_si_c h, po_si_c h])
        have oM60 : ∀ b, b ≠ 10 → b ≠ 14 → b ≠ 16 → M6.1 0 b = m5.1 0 b := fun b h1 h2 h3 => by rw [hM6, po_si_ne h1, po_si_ne h2, po_si_ne h3]
        have oM7 : ∀ a, a ≠ 0 → a ≠ 13 → M7.1 a = M6.1 a := fun a h h2 => by rw [hM7]; exact funext (fun b => by rw [po_si_c h, po_si_c h2])
        have oM70 : ∀ b, b ≠ 17 → M7.1 0 b = M6.1 0 b := fun b h1 => by rw [hM7, po_si_ne h1]; exact po_si_c (by decide)
        have M617 : M6.1 0 17 = nI R := by
          rw [oM60 17 (by decide) (by decide) (by decide), f3.2.2 17 (by decide) (by decide) (by decide) (by decide) (by decide) (by decide), q5.2.2 17 (by decide) (by decide) (by decide) (by decide) (by decide) (by decide), oM40 17 (by decide) (by decide)]
          exact h17
        have M615 : M6.1 0 15 = nI e2 := by rw [oM60 15 (by decide) (by decide) (by decide)]; exact f9.2.2.2.1
        have a1 : ∀ a, a ≠ 34 → a ≠ 45 → a ≠ 50 → a ≠ 51 → C6.1 a = C3.1 a := fun a h1 h2 h3 h4 => by rw [oC6 a h1, f2.2.1 a h1 h2 h3 h4, q4.2.1 a h1 h2 h3 h4]
        have a2 : ∀ a, a ≠ 0 → a ≠ 8 → a ≠ 9 → M6.1 a = M4.1 a := fun a h1 h2 h3 => by rw [oM6 a h1, f3.2.1 a h1 h2 h3, q5.2.1 a h1 h2 h3]
        have vo : iv_old e 0 C3 M4 c5 m5 := iv_old_t q6 (iv_old_m f5 (Nat.le_refl e) (Nat.zero_le 1)) (Nat.le_refl e) (Nat.le_refl 0)
        refine ⟨true, C6, M7, ?_, ?_, iv_uC_t uC3 (iv_uC_t (iv_uC_w q4) (iv_uC_t (iv_uC_w f2) ?_)), iv_uM_t uM4 (iv_uM_t (iv_uM_w q5) (iv_uM_t (iv_uM_w f3) ?_)), Or.inr ⟨rfl, p2 + 1, e2, by omega, f7, by omega, ?_, ?_, ?_, ?_, ?_, fun j hj => ?_, ?_, ?_, ?_, ?_, ?_, ?_, ?_, ?_, ?_⟩⟩
        · rw [eT]
          unfold f_X6_pass
          rw [hs2.1, hs41, f9.1.2.2.2.1]
          dsimp only [Option.bind]
          rw [if_pos rfl, nI_1, hC6]
        · rw [eJ, eC, f11, po_cDe eM]
          dsimp only [Option.bind]
          rw [if_pos rfl, M617, if_pos (po_wkin hR (by decide)), nI_clamp (by omega), M615, po_si_c (by decide), M617, nI_1, hM7]
        · rw [hC6]; exact iv_uC_si (Or.inl rfl)
        · rw [hM7, hM6]
          exact iv_uM_t (iv_uM_t (iv_uM_s0 (by decide)) (iv_uM_t (iv_uM_s0 (by decide)) (iv_uM_s0 (by decide)))) (iv_uM_t (iv_uM_si (by decide)) (iv_uM_s0 (by decide)))
        · obtain ⟨⟨r1, r2, r3, r4, r5, r6, r7⟩, _⟩ := f9
          refine ⟨r1, by omega, ?_, ?_, ?_, ?_, fun i hi => ⟨(r7 i hi).1, ?_, ?_⟩⟩
          · rw [hC6]; exact (po_si_ne (by decide)).trans r3
          · rw [hC6]; exact po_si_at
          · rw [oM70 10 (by decide), hM6]; exact po_si_at
          · rw [oM70 11 (by decide), oM60 11 (by decide) (by decide) (by decide)]; exact r6
          · rw [oC6 (34 + 1) (by decide)]; exact (r7 i hi).2.1
          · rw [oM7 7 (by decide) (by decide), oM6 7 (by decide)]; exact (r7 i hi).2.2
        · rw [oC6 45 (by decide)]; exact f9.2.2.1
        · rw [oM70 15 (by decide)]; exact M615
        · rw [oC6 45 (by decide), f2.2.2, q4.2.2, oC3 45 (by decide)]; exact h7
        · rw [hM7]; exact po_si_at
        · have w1 := vo.1 j hj
          refine ⟨?_, ?_, ?_⟩
          · rw [oC6 50 (by decide), w1.1, oC3 50 (by decide)]
          · rw [oC6 51 (by decide), w1.2.1, oC3 51 (by decide)]
          · rw [oM7 8 (by decide) (by decide), oM6 8 (by decide), w1.2.2, oM4 8 (by decide) (by decide)]
        · exact iv_sgm_old f10 (fun j _ _ => ⟨by rw [oC6 50 (by decide)], by rw [oC6 51 (by decide)], by rw [oM7 8 (by decide) (by decide), oM6 8 (by decide)]⟩)
        · rw [a1 46 (by decide) (by decide) (by decide) (by decide), oC3 46 (by decide)]
        · rw [a1 47 (by decide) (by decide) (by decide) (by decide), oC3 47 (by decide)]
        · rw [a1 48 (by decide) (by decide) (by decide) (by decide), hC3]
          exact po_si_ro
        · rw [a1 49 (by decide) (by decide) (by decide) (by decide), oC3 49 (by decide)]
        · rw [oM7 10 (by decide) (by decide), a2 10 (by decide) (by decide) (by decide), oM4 10 (by decide) (by decide)]
        · rw [oM7 11 (by decide) (by decide), a2 11 (by decide) (by decide) (by decide), oM4 11 (by decide) (by decide)]
        · rw [oM7 12 (by decide) (by decide), a2 12 (by decide) (by decide) (by decide), hM4]
          have : (wk_si (wk_si M3 0 14 0) 0 16 0).1 12 = M3.1 12 := funext (fun b => by rw [po_si_c (by decide), po_si_c (by decide)])
          rw [this, hM3]
          exact po_si_ro
        · have b1 : M7.1 13 = (wk_si M6 13 R (nI e2)).1 13 := by rw [hM7]; exact funext (fun b => po_si_c (by decide))
          rw [b1, po_si_ro, a2 13 (by decide) (by decide) (by decide), oM4 13 (by decide) (by decide)]
      · obtain ⟨c6, m6, k1, k2, k4, k5, k6, k7⟩ := po_blameL (c := c5) (m := n1) 1 p2 (by decide) (by decide) (by omega)
        have k1' : f_X6_blame 34 1 (nI p2) c5 = _ := k1
        have k2' : f_X12_wrongAt 1 (nI p2) n1 = _ := k2
        refine ⟨false, c6, m6, ?_, ?_, iv_uC_t uC3 (iv_uC_t (iv_uC_w q4) (iv_uC_t (iv_uC_w f2) (iv_uC_w k5))), iv_uM_t uM4 (iv_uM_t (iv_uM_w q5) (iv_uM_t (iv_uM_w f16) (iv_uM_w k6))), Or.inl ⟨rfl, k4⟩⟩
        · rw [eT]
          unfold f_X6_pass wk_let
          rw [hs2.1, f9.1.2.2.2.1]
          dsimp only [Option.bind]
          rw [if_neg hs41, k1']
        · rw [eJ, eC, f11, po_cDs hs1 hs41, po_cKx hs1 f17 f18, f15.2.2.2.2.1, k2']
          rfl
  · obtain ⟨c4, m4, k1, k2, k4, k5, k6, k7⟩ := po_blameL (c := C3) (m := M3) 1 p (by decide) (by decide) (by omega)
    have k1' : f_X6_blame 34 1 (nI p) C3 = _ := k1
    have k2' : f_X12_wrongAt 1 (nI p) M3 = _ := k2
    refine ⟨false, c4, m4, ?_, ?_, iv_uC_t uC3 (iv_uC_w k5), iv_uM_t uM3 (iv_uM_w k6), Or.inl ⟨rfl, k4⟩⟩
    · unfold iv_tC f_X5_openTests
      rw [k3]
      dsimp only [Option.bind]
      unfold f_X6_pass wk_let
      rw [hs3.1, hY3.1.2.2.2.1]
      dsimp only [Option.bind]
      rw [if_neg h40, k1']
      rfl
    · rw [eJ]
      unfold f_X12_readsCondition wk_let
      rw [hsM3, h310]
      dsimp only [Option.bind]
      rw [if_neg h40, k2']
      rfl
