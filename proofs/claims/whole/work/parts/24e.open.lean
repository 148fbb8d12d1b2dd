/-! PURE: law: a bracket is opened -/
theorem po_opens {t : Nat → Nat} {n p e h d x : Nat} {c m : wk_St} (hY : iv_Y t n p e h d c m) (hp : p < n) (hd : d < 6) (hx : x ≤ 14) :
    ∃ c2 m2, f_X5_open (nI d) c = (true, c2) ∧ f_X12_opens (nI x) m = some (true, m2) ∧ iv_Y t n (p + 1) e (h + 1) (d + 1) c2 m2 ∧ iv_wC c c2 ∧ iv_wM m m2 ∧ iv_old e h c m c2 m2 ∧ m2.1 9 h = nI (1048576 * x) := by
  obtain ⟨⟨r1, r2, r3, r4, r5, r6, r7⟩, y1, y2, y3, y4, y5⟩ := hY
  have ex : (1048576 : Int32) * nI x = nI (1048576 * x) := po_mulN 1048576 x
  obtain ⟨C, hC⟩ : ∃ C, C = wk_si c 34 3 (nI (p + 1)) := ⟨_, rfl⟩
  obtain ⟨M, hM⟩ : ∃ M, M = wk_si (wk_si (wk_si (wk_si m 0 14 (nI (d + 1))) 9 h (nI (1048576 * x))) 0 16 (nI (h + 1))) 0 10 (nI (p + 1)) := ⟨_, rfl⟩
  have oC : ∀ a, a ≠ 34 → C.1 a = c.1 a := fun a h => by rw [hC]; exact funext (fun b => po_si_c h)
  have oM : ∀ a, a ≠ 0 → a ≠ 9 → M.1 a = m.1 a := fun a h h9 => by rw [hM]; exact funext (fun b => by rw [po_si_c h, po_si_c h, po_si_c h9, po_si_c h])
  have oM0 : ∀ b, b ≠ 10 → b ≠ 14 → b ≠ 16 → M.1 0 b = m.1 0 b := fun b h1 h2 h3 => by rw [hM, po_si_ne h1, po_si_ne h3, po_si_c (by decide), po_si_ne h2]
  refine ⟨C, M, ?_, ?_, ⟨⟨r1, by omega, ?_, ?_, ?_, ?_, fun i hi => ⟨(r7 i hi).1, ?_, ?_⟩⟩, by omega, ?_, ?_, ?_, ?_⟩, ⟨by rw [hC]; rfl, fun a h _ _ _ => oC a h, by rw [oC 45 (by decide)]⟩, ⟨by rw [hM]; rfl, fun a h _ h9 => oM a h h9, fun b h1 _ _ h2 _ h3 => oM0 b h1 h2 h3⟩, ⟨fun j _ => ⟨by rw [oC 50 (by decide)], by rw [oC 51 (by decide)], by rw [oM 8 (by decide) (by decide)]⟩, fun j hj => ?_⟩, ?_⟩
  · unfold f_X5_open
    rw [if_pos (show nI d < 6 from nI_lt (b := 6) hd (by decide)), r4, nI_1, hC]
  · have u1 : (wk_si m 0 14 (nI (d + 1))).1 0 16 = nI h := (po_si_ne (by decide)).trans y4
    have u2 : ∀ y, (wk_si (wk_si m 0 14 (nI (d + 1))) 9 h y).1 0 16 = nI h := fun y => (po_si_c (by decide)).trans u1
    have u3 : ∀ y z, (wk_si (wk_si (wk_si m 0 14 (nI (d + 1))) 9 h y) 0 16 z).1 0 10 = nI p := fun y z => (po_si_ne (by decide)).trans ((po_si_c (by decide)).trans ((po_si_ne (by decide)).trans r5))
    unfold f_X12_opens
    rw [y5, if_pos (show ¬ nI d = 6 from fun k => by have := (nI_eq (b := 6) (by omega) (by decide)).mp k; omega), nI_1, u1, if_pos (po_wkin (by omega) (by decide)), nI_clamp (by omega), u2, nI_1, u3, nI_1, ex, hM]
  · rw [hC]; exact (po_si_ne (by decide)).trans r3
  · rw [hC]; exact po_si_at
  · rw [hM]; exact po_si_at
  · rw [oM0 11 (by decide) (by decide) (by decide)]; exact r6
  · rw [oC (34 + 1) (by decide)]; exact (r7 i hi).2.1
  · rw [oM 7 (by decide) (by decide)]; exact (r7 i hi).2.2
  · rw [oC 45 (by decide)]; exact y2
  · rw [oM0 15 (by decide) (by decide) (by decide)]; exact y3
  · rw [hM, po_si_ne (by decide)]; exact po_si_at
  · rw [hM, po_si_ne (by decide), po_si_ne (by decide), po_si_c (by decide)]; exact po_si_at
  · rw [hM, po_si_c (by decide), po_si_c (by decide), po_si_ne (by omega), po_si_c (by decide)]
  · rw [hM, po_si_c (by decide), po_si_c (by decide)]; exact po_si_at
theorem po_opensN {t : Nat → Nat} {n p e h d x : Nat} {c m : wk_St} (hY : iv_Y t n p e h d c m) (hd : d = 6) :
    ∃ c2 m2, f_X5_open (nI d) c = (false, c2) ∧ f_X12_opens (nI x) m = some (false, m2) ∧ iv_wC c c2 ∧ iv_wM m m2 ∧ (∀ e h, iv_old e h c m c2 m2) ∧ iv_flL c2 m2 ∧ c2.1 45 8 = nI e := by
  have hpn : p ≤ n := hY.1.2.1
  have hn : n ≤ 240 := hY.1.1
  obtain ⟨c2, m2, q1, q2, q3, q4, q5, q6⟩ := po_blameL (c := c) (m := m) 5 p (by decide) (by decide) (by omega)
  have q1' : f_X6_blame 34 5 (nI p) c = _ := q1
  have q2' : f_X12_wrongAt 5 (nI p) m = _ := q2
  refine ⟨c2, m2, ?_, ?_, q4, q5, q6, q3, ?_⟩
  · unfold f_X5_open wk_let
    rw [hd, if_neg (show ¬ nI 6 < 6 by decide), hY.1.2.2.2.1, q1']
  · unfold f_X12_opens wk_let
    rw [hY.2.2.2.2.2, hd, if_neg (fun k => k (show nI 6 = 6 from rfl)), hY.1.2.2.2.2.1, q2']
  · have : c2 = wk_si c 34 2 (f_X11_faultOf (nI 5) (nI p)) := by
      have := congrArg Prod.snd q1
      exact this.symm
    rw [this, po_si_c (by decide)]
    exact hY.2.2.1
theorem po_hasO {m : wk_St} {H i0 : Nat} (hH : m.1 0 16 = nI H) (hH2 : H ≤ 240) (hi0 : i0 < H) (hm : m.1 9 i0 = nI (1048576 * 14)) : ∀ k b F, b + k = i0 → k < F → wk_loop (S_X12_hasOpenSum_2 m) F (nI b) = some (Sum.inl true) := by
  have step : ∀ b, b < H → S_X12_hasOpenSum_2 m (nI b) = if ¬ m.1 9 b / 1048576 = 14 then some (Sum.inr (nI (b + 1))) else some (Sum.inl (Sum.inl true)) := fun b hb => by
    unfold S_X12_hasOpenSum_2
    rw [hH, if_neg (nI_ge hb (by omega)), if_pos (po_wkin (by omega) (by decide)), nI_clamp (by omega), nI_1]
  intro k
  induction k with
  | zero =>
    intro b F hb hF
    obtain ⟨F, rfl⟩ : ∃ z, F = z + 1 := ⟨F - 1, by omega⟩
    refine wk_loopI ?_
    rw [step b (by omega), show b = i0 by omega, hm, if_neg (fun k => k (by decide))]
  | succ k ih =>
    intro b F hb hF
    obtain ⟨F, rfl⟩ : ∃ z, F = z + 1 := ⟨F - 1, by omega⟩
    by_cases h14 : m.1 9 b / 1048576 = 14
    · refine wk_loopI ?_
      rw [step b (by omega), if_neg (fun k => k h14)]
    · have e := step b (by omega)
      rw [if_pos h14] at e
      exact (wk_loopS e).trans (ih (b + 1) F (by omega) (by omega))
theorem po_hasOpen {m : wk_St} {H i0 b0 : Nat} (hH : m.1 0 16 = nI H) (hH2 : H ≤ 240) (hi0 : i0 < H) (hb : b0 ≤ i0) (hm : m.1 9 i0 = nI (1048576 * 14)) : f_X12_hasOpenSum (nI b0) m = some true := by
  unfold f_X12_hasOpenSum
  rw [po_hasO hH hH2 hi0 hm (i0 - b0) b0 wk_F (by omega) (show i0 - b0 < 4096 by omega)]
  rfl
theorem po_hasNo {m : wk_St} {H b0 : Nat} (hH : m.1 0 16 = nI H) (hH2 : H ≤ 240) (hb : b0 ≤ H) (hm : ∀ i, b0 ≤ i → i < H → ∃ o, 2 ≤ o ∧ o ≤ 6 ∧ m.1 9 i = nI (1048576 * o)) : f_X12_hasOpenSum (nI b0) m = some false := by
  have key : ∀ k b F, b0 ≤ b → b + k = H → k < F → wk_loop (S_X12_hasOpenSum_2 m) F (nI b) = some (Sum.inr ()) := by
    intro k
    induction k with
    | zero =>
      intro b F hb hk hF
      obtain ⟨F, rfl⟩ : ∃ z, F = z + 1 := ⟨F - 1, by omega⟩
      refine wk_loopI ?_
      unfold S_X12_hasOpenSum_2
      rw [hH, if_pos (nI_le (by omega) (by omega))]
    | succ k ih =>
      intro b F hb hk hF
      obtain ⟨F, rfl⟩ : ∃ z, F = z + 1 := ⟨F - 1, by omega⟩
      obtain ⟨o, o1, o2, o3⟩ := hm b hb (by omega)
      have e : S_X12_hasOpenSum_2 m (nI b) = some (Sum.inr (nI (b + 1))) := by
        have ed : nI (1048576 * o) / 1048576 = nI o := by
          show nI (1048576 * o) / nI 1048576 = nI o
          rw [pk_div (by omega) (by decide) (by decide)]
          congr 1; omega
        unfold S_X12_hasOpenSum_2
        rw [hH, if_neg (nI_ge (by omega) (by omega)), if_pos (po_wkin (by omega) (by decide)), nI_clamp (by omega), nI_1, o3, ed, if_pos (show ¬ nI o = 14 from fun k => by have := (nI_eq (b := 14) (by omega) (by decide)).mp k; omega)]
      exact (wk_loopS e).trans (ih (b + 1) F (by omega) (by omega) (by omega))
  unfold f_X12_hasOpenSum
  rw [key (H - b0) b0 wk_F (Nat.le_refl _) (by omega) (show H - b0 < 4096 by omega)]
  rfl
