/-! PURE: law: a sign of the sum -/
theorem po_sumSg (σ : Int32) : (∃ o, 2 ≤ o ∧ o ≤ 6 ∧ σ = iv_sg o ∧ f_X12_sumSign σ = nI o) ∨ (f_X12_sumSign σ = -1 ∧ ¬ σ = 43 ∧ ¬ σ = 45 ∧ ¬ σ = 42 ∧ ¬ σ = 47 ∧ ¬ σ = 37) := by
  by_cases h1 : σ = 43
  · exact Or.inl ⟨2, by decide, by decide, h1, by rw [h1]; rfl⟩
  by_cases h2 : σ = 45
  · exact Or.inl ⟨3, by decide, by decide, h2, by rw [h2]; rfl⟩
  by_cases h3 : σ = 42
  · exact Or.inl ⟨4, by decide, by decide, h3, by rw [h3]; rfl⟩
  by_cases h4 : σ = 47
  · exact Or.inl ⟨5, by decide, by decide, h4, by rw [h4]; rfl⟩
  by_cases h5 : σ = 37
  · exact Or.inl ⟨6, by decide, by decide, h5, by rw [h5]; rfl⟩
  refine Or.inr ⟨?_, h1, h2, h3, h4, h5⟩
  unfold f_X12_sumSign
  rw [if_pos h1, if_pos h2, if_pos h3, if_pos h4, if_pos h5]
/-- the sign is taken: it waits on the model's stack -/
theorem po_pushS {t : Nat → Nat} {n p e h d o : Nat} {c m m1 : wk_St} {b s0 : Int32} (hY : iv_Y t n p e h d c m) (hp : p < n) (ho : o ≤ 14) (hcl : f_X12_closesSums s0 m1 = some m) :
    ∃ c2 m2, c2 = wk_si c 34 3 (nI (p + 1)) ∧ j_X12_readsSum_22_l8 b (nI o) s0 m1 = (Option.bind (iv_rF wk_F m2) fun v12 => if v12.1 = true then some (Sum.inr v12.2) else some (Sum.inl (false, v12.2))) ∧ iv_Y t n (p + 1) e (h + 1) d c2 m2 ∧ iv_wC c c2 ∧ iv_wM m m2 ∧ (∀ E, iv_old E h c m c2 m2) ∧ m2.1 9 h = nI (1048576 * o) := by
  obtain ⟨⟨r1, r2, r3, r4, r5, r6, r7⟩, y1, y2, y3, y4, y5⟩ := hY
  have ex : (1048576 : Int32) * nI o = nI (1048576 * o) := po_mulN 1048576 o
  obtain ⟨C, hC⟩ : ∃ C, C = wk_si c 34 3 (nI (p + 1)) := ⟨_, rfl⟩
  obtain ⟨M, hM⟩ : ∃ M, M = wk_si (wk_si (wk_si m 9 h (nI (1048576 * o))) 0 16 (nI (h + 1))) 0 10 (nI (p + 1)) := ⟨_, rfl⟩
  have oC : ∀ a, a ≠ 34 → C.1 a = c.1 a := fun a h => by rw [hC]; exact funext (fun b => po_si_c h)
  have oM : ∀ a, a ≠ 0 → a ≠ 9 → M.1 a = m.1 a := fun a h h9 => by rw [hM]; exact funext (fun b => by rw [po_si_c h, po_si_c h, po_si_c h9])
  have oM0 : ∀ b, b ≠ 10 → b ≠ 16 → M.1 0 b = m.1 0 b := fun b h1 h3 => by rw [hM, po_si_ne h1, po_si_ne h3, po_si_c (by decide)]
  refine ⟨C, M, hC, ?_, ⟨⟨r1, by omega, ?_, ?_, ?_, ?_, fun i hi => ⟨(r7 i hi).1, ?_, ?_⟩⟩, by omega, ?_, ?_, ?_, ?_⟩, ⟨by rw [hC]; rfl, fun a h _ _ _ => oC a h, by rw [oC 45 (by decide)]⟩, ⟨by rw [hM]; rfl, fun a h _ h9 => oM a h h9, fun b h1 _ _ _ _ h3 => oM0 b h1 h3⟩, fun E => ⟨fun j _ => ⟨by rw [oC 50 (by decide)], by rw [oC 51 (by decide)], by rw [oM 8 (by decide) (by decide)]⟩, fun j hj => ?_⟩, ?_⟩
  · have u1 : ∀ y, (wk_si m 9 h y).1 0 16 = nI h := fun y => (po_si_c (by decide)).trans y4
    have u2 : ∀ y z, (wk_si (wk_si m 9 h y) 0 16 z).1 0 10 = nI p := fun y z => (po_si_ne (by decide)).trans ((po_si_c (by decide)).trans r5)
    unfold j_X12_readsSum_22_l8
    rw [hcl]
    dsimp only [Option.bind]
    rw [y4, if_pos (po_wkin (by omega) (by decide)), nI_clamp (by omega), u1, nI_1, u2, nI_1, ex, ← hM]
    rfl
  · rw [hC]; exact (po_si_ne (by decide)).trans r3
  · rw [hC]; exact po_si_at
  · rw [hM]; exact po_si_at
  · rw [oM0 11 (by decide) (by decide)]; exact r6
  · rw [oC (34 + 1) (by decide)]; exact (r7 i hi).2.1
  · rw [oM 7 (by decide) (by decide)]; exact (r7 i hi).2.2
  · rw [oC 45 (by decide)]; exact y2
  · rw [oM0 15 (by decide) (by decide)]; exact y3
  · rw [hM, po_si_ne (by decide)]; exact po_si_at
  · rw [oM0 14 (by decide) (by decide)]; exact y5
  · rw [hM, po_si_c (by decide), po_si_c (by decide)]; exact po_si_ne (by omega)
  · rw [hM, po_si_c (by decide), po_si_c (by decide)]; exact po_si_at
theorem po_S8 {b : Int32} {G : Nat} {m1 m2 : wk_St} (h : S_X12_readsSum_8 b m1 = (Option.bind (iv_rF wk_F m2) fun v12 => if v12.1 = true then some (Sum.inr v12.2) else some (Sum.inl (false, v12.2)))) : wk_loop (S_X12_readsSum_8 b) (G + 1) m1 = iv_AS b wk_F G m2 := by
  unfold iv_AS
  cases hv : iv_rF wk_F m2 with
  | none =>
    rw [hv] at h
    conv => lhs; unfold wk_loop
    rw [h]
    rfl
  | some v =>
    rw [hv] at h
    dsimp only [Option.bind] at h ⊢
    by_cases hb : v.1 = true
    · rw [if_pos hb] at h ⊢
      exact wk_loopS h
    · rw [if_neg hb] at h ⊢
      exact wk_loopI h
