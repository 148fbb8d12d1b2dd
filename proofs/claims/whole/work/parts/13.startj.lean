/-! THE LAW, start, piece 9 -/
theorem lw_injM : ∀ i, i < 32 → ∀ j, j < 32 → ([53, 54, 55, 56, 57, 58, 59, 60, 61, 62, 63, 64, 65, 66, 67, 68, 69, 70, 71, 72, 73, 74, 75, 76, 77, 78, 79, 80, 81, 82, 83, 84] : List Nat).getD i 0 = ([53, 54, 55, 56, 57, 58, 59, 60, 61, 62, 63, 64, 65, 66, 67, 68, 69, 70, 71, 72, 73, 74, 75, 76, 77, 78, 79, 80, 81, 82, 83, 84] : List Nat).getD j 0 → i = j := by decide +kernel
theorem lw_dis : ∀ i, i < 53 → ∀ j, j < 32 → ([0, 1, 2, 3, 4, 5, 6, 7, 8, 9, 10, 11, 12, 13, 14, 15, 16, 17, 18, 19, 20, 21, 22, 23, 24, 25, 26, 27, 28, 29, 30, 31, 32, 33, 34, 35, 36, 37, 38, 39, 40, 41, 42, 43, 44, 45, 46, 47, 48, 49, 50, 51, 52] : List Nat).getD i 0 ≠ ([53, 54, 55, 56, 57, 58, 59, 60, 61, 62, 63, 64, 65, 66, 67, 68, 69, 70, 71, 72, 73, 74, 75, 76, 77, 78, 79, 80, 81, 82, 83, 84] : List Nat).getD j 0 := by decide +kernel
theorem lw_DD {A0 : Nat → Prop} {ws : va_W} (hD : va_D A0 ws) {sh : Nat → Option wk_De} {N : Nat} {ad : Nat → Nat} {cA : Nat → ClassId} {pl : Nat → Nat} (h1 : ∀ k, k < N → ∃ e, ws[pl k]? = some (ad k, e)) (h2 : ∀ i, i < N → ∀ j, j < N → pl i = pl j → i = j) (σ : wk_St) : va_D (fun q => ∃ k, k < N ∧ q = ad k) (wk_w sh N ad cA σ) := by
  have key : ∀ (i : Nat) (q : Nat × va_E), (wk_w sh N ad cA σ)[i]? = some q → i < N ∧ q.1 = ad i := by
    intro i q hq
    have hi : i < N := by
      have := (List.getElem?_eq_some_iff.mp hq).1
      simpa [wk_w] using this
    rw [wk_w_get hi] at hq
    cases hq
    exact ⟨hi, rfl⟩
  refine ⟨fun i j p q hp hq e => ?_, fun k q hq => ?_⟩
  · obtain ⟨a1, a2⟩ := key i p hp
    obtain ⟨b1, b2⟩ := key j q hq
    obtain ⟨e1, g1⟩ := h1 i a1
    obtain ⟨e2, g2⟩ := h1 j b1
    exact h2 i a1 j b1 (hD.1 _ _ _ _ g1 g2 (by show ad i = ad j; rw [← a2, ← b2]; exact e))
  · obtain ⟨a1, a2⟩ := key k q hq
    exact ⟨k, a1, a2⟩
/-- the table of the months' lengths, at the start -/
theorem lw_stat {s : State} {b : Nat} (hts : ∀ w ∈ lw_tbl, w.before #[Value.ref b] s = true) (hgv : (Jvm.Cond.and given_1 narrow_1).before #[Value.ref b] s = true) : ∃ t0, wk_ST (fun q : Nat => s.heap.size ≤ q) t0 s s.heap := by
  have hs := flat_of_before _ hgv
  have hA : ∀ a : Nat, a < s.heap.size → ¬ s.heap.size ≤ a := fun a h => Nat.not_le.mpr h
  have hl := hts (.laysStatic "WolfKnight$Tables" "MONTH_LENGTHS" "[I") (List.mem_append_right _ (List.mem_of_getElem? (i := 938) (by decide +kernel)))
  have hini := hts (.initialized "WolfKnight$Tables") (List.mem_append_right _ (List.mem_of_getElem? (i := 15) (by decide +kernel)))
  refine (va_Tof (tm := .static "WolfKnight$Tables" "MONTH_LENGTHS" "[I") (ty := .int) (N := 12) (f := fun j => .int (wk_ml j)) (A := fun q : Nat => s.heap.size ≤ q) (by decide) (hs _ (by decide +kernel)) (va_eqt (z := 12) (hs _ (by decide +kernel))) ?_ hA).elim (fun t q => ⟨t, va_Zref hl hini q.1 hA, q.2⟩)
  · intro j hj
    match j, hj with
    | 0, _ => exact va_eqt (hs (Cond.eq (.elem (.static "WolfKnight$Tables" "MONTH_LENGTHS" "[I") (.int 0)) (.int 31)) (by decide +kernel))
    | 1, _ => exact va_eqt (hs (Cond.eq (.elem (.static "WolfKnight$Tables" "MONTH_LENGTHS" "[I") (.int 1)) (.int 28)) (by decide +kernel))
    | 2, _ => exact va_eqt (hs (Cond.eq (.elem (.static "WolfKnight$Tables" "MONTH_LENGTHS" "[I") (.int 2)) (.int 31)) (by decide +kernel))
    | 3, _ => exact va_eqt (hs (Cond.eq (.elem (.static "WolfKnight$Tables" "MONTH_LENGTHS" "[I") (.int 3)) (.int 30)) (by decide +kernel))
    | 4, _ => exact va_eqt (hs (Cond.eq (.elem (.static "WolfKnight$Tables" "MONTH_LENGTHS" "[I") (.int 4)) (.int 31)) (by decide +kernel))
    | 5, _ => exact va_eqt (hs (Cond.eq (.elem (.static "WolfKnight$Tables" "MONTH_LENGTHS" "[I") (.int 5)) (.int 30)) (by decide +kernel))
    | 6, _ => exact va_eqt (hs (Cond.eq (.elem (.static "WolfKnight$Tables" "MONTH_LENGTHS" "[I") (.int 6)) (.int 31)) (by decide +kernel))
    | 7, _ => exact va_eqt (hs (Cond.eq (.elem (.static "WolfKnight$Tables" "MONTH_LENGTHS" "[I") (.int 7)) (.int 31)) (by decide +kernel))
    | 8, _ => exact va_eqt (hs (Cond.eq (.elem (.static "WolfKnight$Tables" "MONTH_LENGTHS" "[I") (.int 8)) (.int 30)) (by decide +kernel))
    | 9, _ => exact va_eqt (hs (Cond.eq (.elem (.static "WolfKnight$Tables" "MONTH_LENGTHS" "[I") (.int 9)) (.int 31)) (by decide +kernel))
    | 10, _ => exact va_eqt (hs (Cond.eq (.elem (.static "WolfKnight$Tables" "MONTH_LENGTHS" "[I") (.int 10)) (.int 30)) (by decide +kernel))
    | 11, _ => exact va_eqt (hs (Cond.eq (.elem (.static "WolfKnight$Tables" "MONTH_LENGTHS" "[I") (.int 11)) (.int 31)) (by decide +kernel))
    | j + 12, hj => exact absurd hj (by omega)
set_option maxRecDepth 100000 in
theorem lw_s0 : (Jvm.Cond.instantiable "WolfKnight$Band" (7 : Nat)) ∈ wk_gt := wk_tbl (List.mem_append_left _ (List.mem_of_getElem? (i := 67) (by decide +kernel))) rfl
set_option maxRecDepth 100000 in
theorem lw_s1 : (Jvm.Cond.instantiable "WolfKnight$DiaryReader" (4 : Nat)) ∈ wk_gt := wk_tbl (List.mem_append_left _ (List.mem_of_getElem? (i := 184) (by decide +kernel))) rfl
set_option maxRecDepth 100000 in
theorem lw_s2 : (Jvm.Cond.instantiable "WolfKnight$Forest" (6 : Nat)) ∈ wk_gt := wk_tbl (List.mem_append_left _ (List.mem_of_getElem? (i := 40) (by decide +kernel))) rfl
set_option maxRecDepth 100000 in
theorem lw_s3 : (Jvm.Cond.instantiable "WolfKnight$HuntsReader" (6 : Nat)) ∈ wk_gt := wk_tbl (List.mem_append_left _ (List.mem_of_getElem? (i := 149) (by decide +kernel))) rfl
set_option maxRecDepth 100000 in
theorem lw_s4 : (Jvm.Cond.instantiable "WolfKnight$Law" (11 : Nat)) ∈ wk_gt := wk_tbl (List.mem_append_left _ (List.mem_of_getElem? (i := 206) (by decide +kernel))) rfl
set_option maxRecDepth 100000 in
theorem lw_s5 : (Jvm.Cond.instantiable "WolfKnight$LawReader" (4 : Nat)) ∈ wk_gt := wk_tbl (List.mem_append_left _ (List.mem_of_getElem? (i := 195) (by decide +kernel))) rfl
set_option maxRecDepth 100000 in
theorem lw_s6 : (Jvm.Cond.instantiable "WolfKnight$Tape" (2 : Nat)) ∈ wk_gt := wk_tbl (List.mem_append_left _ (List.mem_of_getElem? (i := 25) (by decide +kernel))) rfl
set_option maxRecDepth 100000 in
theorem lw_s7 : (Jvm.Cond.instantiable "WolfKnight$Trails" (4 : Nat)) ∈ wk_gt := wk_tbl (List.mem_append_left _ (List.mem_of_getElem? (i := 130) (by decide +kernel))) rfl
set_option maxRecDepth 100000 in
theorem lw_s8 : (Jvm.Cond.instantiable "WolfKnight$Walk" (6 : Nat)) ∈ wk_gt := wk_tbl (List.mem_append_left _ (List.mem_of_getElem? (i := 100) (by decide +kernel))) rfl
set_option maxRecDepth 100000 in
theorem lw_s9 : (Jvm.Cond.instantiable "WolfKnight" (14 : Nat)) ∈ wk_gt := wk_tbl (List.mem_append_left _ (List.mem_of_getElem? (i := 17) (by decide +kernel))) rfl
set_option maxRecDepth 100000 in
theorem lw_s10 : (Jvm.Cond.instantiable "WolfKnightModel" (58 : Nat)) ∈ wk_gt := wk_tbl (List.mem_append_right _ (List.mem_append_right _ (List.mem_append_right _ (List.mem_append_right _ (List.mem_append_left _ (List.mem_of_getElem? (i := 43) (by decide +kernel))))))) rfl
set_option maxRecDepth 100000 in
theorem lw_s11 : (Jvm.Cond.classLink "WolfKnightLaw" (7 : Nat) "WolfKnight") ∈ wk_gt := wk_tbl (List.mem_append_left _ (List.mem_of_getElem? (i := 16) (by decide +kernel))) rfl
set_option maxRecDepth 100000 in
theorem lw_s12 : (Jvm.Cond.initialized "WolfKnight") ∈ wk_gt := wk_tbl (List.mem_append_left _ (List.mem_of_getElem? (i := 1) (by decide +kernel))) rfl
set_option maxRecDepth 100000 in
theorem lw_s13 : (Jvm.Cond.methodLink "WolfKnightLaw" (9 : Nat) ({ cls := "WolfKnight", name := "<init>", desc := "()V" } : Jvm.MethodName)) ∈ wk_gt := wk_tbl (List.mem_append_left _ (List.mem_of_getElem? (i := 18) (by decide +kernel))) rfl
set_option maxRecDepth 100000 in
theorem lw_s14 : (Jvm.Cond.instanceMethod ({ cls := "WolfKnight", name := "<init>", desc := "()V" } : Jvm.MethodName)) ∈ wk_gt := wk_tbl (List.mem_append_left _ (List.mem_of_getElem? (i := 19) (by decide +kernel))) rfl
set_option maxRecDepth 100000 in
theorem lw_s15 : (Jvm.Cond.classLink "WolfKnightLaw" (10 : Nat) "WolfKnightModel") ∈ wk_gt := wk_tbl (List.mem_append_right _ (List.mem_append_right _ (List.mem_append_right _ (List.mem_append_right _ (List.mem_append_left _ (List.mem_of_getElem? (i := 42) (by decide +kernel))))))) rfl
set_option maxRecDepth 100000 in
theorem lw_s16 : (Jvm.Cond.initialized "WolfKnightModel") ∈ wk_gt := wk_tbl (List.mem_append_left _ (List.mem_of_getElem? (i := 12) (by decide +kernel))) rfl
set_option maxRecDepth 100000 in
theorem lw_s17 : (Jvm.Cond.methodLink "WolfKnightLaw" (12 : Nat) ({ cls := "WolfKnightModel", name := "<init>", desc := "()V" } : Jvm.MethodName)) ∈ wk_gt := wk_tbl (List.mem_append_right _ (List.mem_append_right _ (List.mem_append_right _ (List.mem_append_right _ (List.mem_append_left _ (List.mem_of_getElem? (i := 44) (by decide +kernel))))))) rfl
set_option maxRecDepth 100000 in
theorem lw_s18 : (Jvm.Cond.instanceMethod ({ cls := "WolfKnightModel", name := "<init>", desc := "()V" } : Jvm.MethodName)) ∈ wk_gt := wk_tbl (List.mem_append_right _ (List.mem_append_right _ (List.mem_append_right _ (List.mem_append_right _ (List.mem_append_left _ (List.mem_of_getElem? (i := 45) (by decide +kernel))))))) rfl
