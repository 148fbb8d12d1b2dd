/-! PURE: the model's codes run -/
/-- what a step of the model does; none: refused -/
def iv_mS (m : wk_St) (o v k n : Nat) (L : Nat → Int32) : Option (Int32 × Int32 × wk_St) :=
  if o = 0 then some (nI (n + 1), nI (k + 1), iv_set m 19 (fun b => if b = n then nI v else L b))
  else if o = 1 then some (nI (n + 1), nI (k + 1), iv_set m 19 (fun b => if b = n then m.1 20 v else L b))
  else if o = 10 then some (nI n, nI (k + 1), iv_set m 19 (fun b => if b = n - 1 then 1 - L (n - 1) else L b))
  else if o = 11 then (if L (n - 1) = 0 then some (nI n, nI v, iv_set m 19 L) else some (nI (n - 1), nI (k + 1), iv_set m 19 L))
  else if o = 12 then (if L (n - 1) = 1 then some (nI n, nI v, iv_set m 19 L) else some (nI (n - 1), nI (k + 1), iv_set m 19 L))
  else if (o = 5 ∨ o = 6) ∧ L (n - 1) = 0 then none
  else some (nI (n - 1), nI (k + 1), iv_set m 19 (fun b => if b = n - 2 then iv_rk o (L (n - 2)) (L (n - 1)) else L b))
theorem po_runM {m : wk_St} {o v k n e : Nat} {L : Nat → Int32} (hk : k < e) (he : e ≤ 240) (ho : o < 13) (hco : m.1 14 k = nI (1048576 * o + v)) (hv8 : o = 1 → v < 8) (hv : v < 1048576) (hn : n ≤ 30) (hn1 : 2 ≤ o → 1 ≤ n) (hn2 : 2 ≤ o → o ≤ 9 → 2 ≤ n) :
    S_X12_comesTo_10 (nI e) 0 (nI n, nI k, iv_set m 19 L) = match iv_mS m o v k n L with
      | some q => some (Sum.inr q)
      | none => some (Sum.inl (Sum.inl (0, iv_set m 19 L))) := by
  have e14 : (iv_set m 19 L).1 14 k = nI (1048576 * o + v) := (iv_set_off (by decide)).trans hco
  have e20 : (iv_set m 19 L).1 20 = m.1 20 := by
    funext b
    exact iv_set_off (by decide)
  have ed : nI (1048576 * o + v) / 1048576 = nI o := by
    have h := pk_div (a := 1048576 * o + v) (d := 1048576) (by omega) (by decide) (by decide)
    rw [show (1048576 * o + v) / 1048576 = o by omega] at h
    exact h
  have er : wk_rem (nI (1048576 * o + v)) 1048576 = nI v := by
    have h := po_rem (a := 1048576 * o + v) (d := 1048576) (by omega) (by decide) (by decide)
    rw [show (1048576 * o + v) % 1048576 = v by omega] at h
    exact h
  have e0v : (0 : Int32) + nI v = nI v := po_e0
  unfold S_X12_comesTo_10 wk_let
  dsimp only
  rw [if_neg (nI_ge hk (by omega)), if_pos (po_wkin (by omega) (by decide)), if_pos (po_wkin (by omega) (by decide)), nI_clamp (by omega), e14, ed, er, nI_1]
  unfold iv_mS
  by_cases h29 : 2 ≤ o ∧ o ≤ 9
  · obtain ⟨n, rfl⟩ : ∃ z, n = z + 2 := ⟨n - 2, by have := hn2 h29.1 h29.2; omega⟩
    have c1 : ¬ nI o = 0 ∧ ¬ nI o = 1 ∧ ¬ nI o = 10 ∧ ¬ nI o = 11 ∧ ¬ nI o = 12 := by
      rcases (show o = 2 ∨ o = 3 ∨ o = 4 ∨ o = 5 ∨ o = 6 ∨ o = 7 ∨ o = 8 ∨ o = 9 by omega) with rfl | rfl | rfl | rfl | rfl | rfl | rfl | rfl
      all_goals decide
    have es1 : nI (n + 2) - 1 = nI (n + 1) := pk_sub (a := n + 2) (b := 1) (by omega)
    have es2 : nI (n + 1) - 1 = nI n := pk_sub (a := n + 1) (b := 1) (by omega)
    have e19 : ∀ j, (iv_set m 19 L).1 19 j = L j := fun _ => iv_set_at
    have j117 : ¬ ((o = 5 ∨ o = 6) ∧ L (n + 1) = 0) → j_X12_comesTo_117_l10 (nI e) (nI (n + 1)) 0 (nI (k + 1)) (nI o) (iv_set m 19 L) = some (Sum.inr (nI (n + 1), nI (k + 1), iv_set m 19 (fun b => if b = n then iv_rk o (L n) (L (n + 1)) else L b))) := by
      intro hz
      unfold j_X12_comesTo_117_l10
      rw [es2, if_pos (po_wkin (by omega) (by decide)), if_pos (po_wkin (by omega) (by decide)), nI_clamp (by omega), nI_clamp (by omega), e19, e19, po_rkM h29.1 h29.2 hz]
      dsimp only [Option.bind]
      rw [if_pos (po_wkin (by omega) (by decide)), iv_set_si]
    rw [if_neg c1.1, if_pos c1.2.1, if_pos c1.2.2.1, if_neg c1.2.2.2.1, if_pos c1.2.2.2.2, es1, if_neg (show ¬ o = 0 by omega), if_neg (show ¬ o = 1 by omega), if_neg (show ¬ o = 10 by omega), if_neg (show ¬ o = 11 by omega), if_neg (show ¬ o = 12 by omega), show n + 2 - 1 = n + 1 by omega, show n + 2 - 2 = n by omega, nI_clamp (by omega), e19]
    by_cases h5 : o = 5
    · subst h5
      rw [if_pos (show nI 5 = 5 by decide), if_pos (po_wkin (by omega) (by decide))]
      by_cases hz : L (n + 1) = 0
      · rw [if_neg (not_not_intro hz), if_pos ⟨Or.inl rfl, hz⟩]
      · rw [if_pos hz, j117 (fun h => hz h.2), if_neg (fun h => hz h.2)]
    · rw [if_neg (show ¬ nI o = 5 from po_nIne (b := 5) (by omega) (by decide) h5)]
      by_cases h6 : o = 6
      · subst h6
        rw [if_neg (show ¬ ¬ nI 6 = 6 by decide), if_pos (po_wkin (by omega) (by decide))]
        by_cases hz : L (n + 1) = 0
        · rw [if_neg (not_not_intro hz), if_pos ⟨Or.inr rfl, hz⟩]
        · rw [if_pos hz, j117 (fun h => hz h.2), if_neg (fun h => hz h.2)]
      · have hno : ¬ ((o = 5 ∨ o = 6) ∧ L (n + 1) = 0) := fun h => h.1.elim h5 h6
        rw [if_pos (show ¬ nI o = 6 from po_nIne (b := 6) (by omega) (by decide) h6), j117 hno, if_neg hno]
  · by_cases h0 : o = 0
    · subst h0
      unfold j_X12_comesTo_36_l10 wk_let
      rw [if_pos (show nI 0 = 0 by decide), if_neg (show ¬ ¬ nI 0 = 0 by decide), if_pos (po_wkin (by omega) (by decide)), nI_clamp (by omega), iv_set_si, nI_1, if_pos rfl]
    · by_cases h1 : o = 1
      · subst h1
        have hv8' := hv8 rfl
        unfold j_X12_comesTo_36_l10 wk_let
        rw [if_neg (show ¬ nI 1 = 0 by decide), if_neg (show ¬ ¬ nI 1 = 1 by decide), if_pos (show ¬ nI 1 = 0 by decide), if_pos (po_wkin hv8' (by decide)), if_pos (po_wkin (by omega) (by decide)), nI_clamp (by omega), nI_clamp (by omega), e20, iv_set_si, nI_1, if_neg (show ¬ 1 = 0 by decide), if_pos rfl]
      · obtain ⟨n, rfl⟩ : ∃ z, n = z + 1 := ⟨n - 1, by have := hn1 (by omega); omega⟩
        have es1 : nI (n + 1) - 1 = nI n := pk_sub (a := n + 1) (b := 1) (by omega)
        rw [if_neg (show ¬ nI o = 0 from po_nIne (b := 0) (by omega) (by decide) h0), if_pos (show ¬ nI o = 1 from po_nIne (b := 1) (by omega) (by decide) h1), if_neg h0, if_neg h1, show n + 1 - 1 = n by omega]
        rcases (show o = 10 ∨ o = 11 ∨ o = 12 by omega) with rfl | rfl | rfl
        · rw [if_neg (show ¬ ¬ nI 10 = 10 by decide), es1, if_pos (po_wkin (by omega) (by decide)), if_pos (po_wkin (by omega) (by decide)), nI_clamp (by omega), iv_set_at, iv_set_si, if_pos rfl]
        · unfold j_X12_comesTo_77_l10 j_X12_comesTo_89_l10 wk_let
          rw [if_pos (show ¬ nI 11 = 10 by decide), if_pos (show nI 11 = 11 by decide), es1, if_pos (po_wkin (by omega) (by decide)), if_pos (show ¬ nI 11 = 12 by decide), nI_clamp (by omega), iv_set_at, e0v, if_neg (show ¬ 11 = 10 by decide), if_pos rfl]
          by_cases hz : L n = 0
          · rw [if_neg (not_not_intro hz), if_pos hz]
          · rw [if_pos hz, if_neg hz]
        · unfold j_X12_comesTo_77_l10 j_X12_comesTo_89_l10 wk_let
          rw [if_pos (show ¬ nI 12 = 10 by decide), if_neg (show ¬ nI 12 = 11 by decide), if_neg (show ¬ ¬ nI 12 = 12 by decide), es1, if_pos (po_wkin (by omega) (by decide)), if_neg (show ¬ ¬ nI 12 = 12 by decide), nI_clamp (by omega), iv_set_at, e0v, if_neg (show ¬ 12 = 10 by decide), if_neg (show ¬ 12 = 11 by decide), if_pos rfl]
          by_cases hz : L n = 1
          · rw [if_neg (not_not_intro hz), if_pos hz]
          · rw [if_pos hz, if_neg hz]
/-- the stack is of these kinds: true for 0 or 1 -/
def iv_tys : List Bool → (Nat → Int32) → Prop
  | [], _ => True
  | b :: t, K => (b = true → K t.length = 0 ∨ K t.length = 1) ∧ iv_tys t K
theorem iv_tys_congr {K K2 : Nat → Int32} : ∀ l : List Bool, (∀ i, i < l.length → K2 i = K i) → iv_tys l K → iv_tys l K2 := by
  intro l
  induction l with
  | nil => intro _ _; trivial
  | cons b t ih =>
    intro h hk
    refine ⟨fun hb => ?_, ih (fun i hi => h i (by rw [List.length_cons]; omega)) hk.2⟩
    rw [h t.length (by rw [List.length_cons]; omega)]
    exact hk.1 hb
theorem po_runL {c m : wk_St} {e : Nat} {b : Bool} {ty : Nat → List Bool} {f : Nat} (hte : ty e = [b]) (hci : ∀ i, f ≤ i → i < e → iv_ci (c.1 42 i) (c.1 43 i) (m.1 14 i) ty i e) (he : e ≤ 240) (hlet : ∀ v, v < 8 → c.1 24 v = m.1 20 v) :
    ∀ d k i n K L F G, f ≤ k → k + d = e → i + f ≤ k → (ty k).length = n → (∀ i, i < n → K i = L i) → iv_tys (ty k) K → d + 1 < F → d < G →
      ∃ a r, wk_loop (S_X4_run_10 (nI e)) F (nI k, nI i, iv_rs c (nI n) 0 K) = some a ∧ wk_loop (S_X12_comesTo_10 (nI e) 0) G (nI n, nI k, iv_set m 19 L) = some r ∧
        ((∃ n2 K2 L2, n2 ≤ 30 ∧ a = iv_rs c (nI (n2 + 1)) 1 K2 ∧ r = Sum.inl (0, iv_set m 19 L2)) ∨ (∃ K2 L2, a = iv_rs c (nI 1) 0 K2 ∧ r = Sum.inr (iv_set m 19 L2) ∧ K2 0 = L2 0 ∧ (b = true → K2 0 = 0 ∨ K2 0 = 1))) := by
  intro d
  induction d using Nat.strongRecOn with
  | _ d ih =>
    intro k i n K L F G hfk hkd hik hn hKL hty hF hG
    obtain ⟨F, rfl⟩ : ∃ z, F = z + 2 := ⟨F - 2, by omega⟩
    obtain ⟨G, rfl⟩ : ∃ z, G = z + 1 := ⟨G - 1, by omega⟩
    by_cases hd : d = 0
    · have e1 : k = e := by omega
      subst e1
      have hn1 : n = 1 := by rw [← hn, hte]; rfl
      subst hn1
      refine ⟨iv_rs c (nI 1) 0 K, Sum.inr (iv_set m 19 L), wk_loopI ?_, wk_loopI ?_, Or.inr ⟨K, L, rfl, rfl, hKL 0 (by omega), ?_⟩⟩
      · unfold S_X4_run_10
        dsimp only
        by_cases h240 : nI i ≥ 240
        · rw [if_pos h240]
        · rw [if_neg h240, iv_rs_f, if_neg (show ¬ ¬ (0 : Int32) = 0 by decide), if_neg (nI_pos (by omega)), if_pos (nI_le (Nat.le_refl k) (by omega))]
      · unfold S_X12_comesTo_10
        dsimp only
        rw [if_pos (nI_le (Nat.le_refl k) (by omega))]
      · rw [hte] at hty
        exact hty.1
    · obtain ⟨o, v, hv, ho, hsg, har, hco, hlen, hcase⟩ := hci k hfk (by omega)
      have hn30 : n ≤ 30 := by rw [← hn]; exact hlen
      have hv8 : o = 1 → v < 8 := by
        intro h1
        rcases hcase with h | h | h | h | h | h <;> omega
      have hn1 : 2 ≤ o → 1 ≤ n := by
        intro h2
        rcases hcase with h | h | ⟨_, _, a, b', t, h, _⟩ | ⟨_, _, a, b', t, h, _⟩ | ⟨_, t, h, _⟩ | ⟨_, t, h, _⟩
        · omega
        · omega
        all_goals (rw [h] at hn; simp only [List.length_cons] at hn; omega)
      have hn2 : 2 ≤ o → o ≤ 9 → 2 ≤ n := by
        intro h2 h9
        rcases hcase with h | h | ⟨_, _, a, b', t, h, _⟩ | ⟨_, _, a, b', t, h, _⟩ | ⟨h, _⟩ | ⟨h, _⟩
        · omega
        · omega
        · rw [h] at hn; simp only [List.length_cons] at hn; omega
        · rw [h] at hn; simp only [List.length_cons] at hn; omega
        · omega
        · omega
      have sC := po_runC (c := c) (o := o) (v := v) (k := k) (i := i) (n := n) (e := e) (K := K) (by omega) he (by omega) ho hsg har hv8 hv hn30 hn1 hn2
      have sM := po_runM (m := m) (o := o) (v := v) (k := k) (n := n) (e := e) (L := L) (by omega) he ho hco hv8 hv hn30 hn1 hn2
      unfold iv_cS at sC
      unfold iv_mS at sM
      -- going on at k2 with a new stack
      have next : ∀ k2 n2 K2 L2, S_X4_run_10 (nI e) (nI k, nI i, iv_rs c (nI n) 0 K) = some (Sum.inr (nI k2, nI (i + 1), iv_rs c (nI n2) 0 K2)) → S_X12_comesTo_10 (nI e) 0 (nI n, nI k, iv_set m 19 L) = some (Sum.inr (nI n2, nI k2, iv_set m 19 L2)) → k < k2 → k2 ≤ e → (ty k2).length = n2 → (∀ i, i < n2 → K2 i = L2 i) → iv_tys (ty k2) K2 →
          ∃ a r, wk_loop (S_X4_run_10 (nI e)) (F + 2) (nI k, nI i, iv_rs c (nI n) 0 K) = some a ∧ wk_loop (S_X12_comesTo_10 (nI e) 0) (G + 1) (nI n, nI k, iv_set m 19 L) = some r ∧
        ((∃ n2 K2 L2, n2 ≤ 30 ∧ a = iv_rs c (nI (n2 + 1)) 1 K2 ∧ r = Sum.inl (0, iv_set m 19 L2)) ∨ (∃ K2 L2, a = iv_rs c (nI 1) 0 K2 ∧ r = Sum.inr (iv_set m 19 L2) ∧ K2 0 = L2 0 ∧ (b = true → K2 0 = 0 ∨ K2 0 = 1))) := by
        intro k2 n2 K2 L2 e1 e2 hk2 hke hl2 hKL2 hty2
        obtain ⟨a, r, q1, q2, q3⟩ := ih (e - k2) (by omega) k2 (i + 1) n2 K2 L2 (F + 1) G (by omega) (by omega) (by omega) hl2 hKL2 hty2 (by omega) (by omega)
        exact ⟨a, r, (wk_loopS e1).trans q1, (wk_loopS e2).trans q2, q3⟩
      rcases hcase with ⟨rfl, h⟩ | ⟨rfl, h8, h⟩ | ⟨h2, h6, a, b', t, h, h1⟩ | ⟨h7, h9, a, b', t, h, h1⟩ | ⟨rfl, t, h, h1⟩ | ⟨h11, t, h, h1, hkv, hve, hv1⟩
      · rw [if_pos rfl] at sC sM
        refine next _ _ _ _ sC sM (by omega) (by omega) (by rw [h, List.length_cons, hn]) ?_ ?_
        · intro j hj
          by_cases hjn : j = n
          · rw [if_pos hjn, if_pos hjn]
          · rw [if_neg hjn, if_neg hjn]; exact hKL j (by omega)
        · rw [h]
          refine ⟨(fun x => by cases x), iv_tys_congr _ (fun j hj => ?_) hty⟩
          exact if_neg (by omega)
      · rw [if_neg (by decide), if_pos rfl] at sC sM
        refine next _ _ _ _ sC sM (by omega) (by omega) (by rw [h, List.length_cons, hn]) ?_ ?_
        · intro j hj
          by_cases hjn : j = n
          · rw [if_pos hjn, if_pos hjn]; exact hlet v h8
          · rw [if_neg hjn, if_neg hjn]; exact hKL j (by omega)
        · rw [h]
          refine ⟨(fun x => by cases x), iv_tys_congr _ (fun j hj => ?_) hty⟩
          exact if_neg (by omega)
      · rw [h] at hn
        simp only [List.length_cons] at hn
        have hx := hKL (n - 2) (by omega)
        have hy := hKL (n - 1) (by omega)
        rw [if_neg (by omega), if_neg (by omega), if_neg (by omega), if_neg (by omega), if_neg (by omega)] at sC sM
        rw [← hx, ← hy] at sM
        by_cases hz : (o = 5 ∨ o = 6) ∧ K (n - 1) = 0
        · rw [if_pos hz] at sC sM
          refine ⟨iv_rs c (nI (n - 2 + 1)) 1 (fun b => if b = n - 2 then 0 else K b), _, (wk_loopS sC).trans (wk_loopI ?_), wk_loopI sM, Or.inl ⟨n - 2, _, L, by omega, rfl, rfl⟩⟩
          unfold S_X4_run_10
          dsimp only
          by_cases h240 : nI (i + 1) ≥ 240
          · rw [if_pos h240, show n - 2 + 1 = n - 1 by omega]
          · rw [if_neg h240, iv_rs_f, if_pos (show ¬ (1 : Int32) = 0 by decide), show n - 2 + 1 = n - 1 by omega]
        · rw [if_neg hz] at sC sM
          refine next _ _ _ _ sC sM (by omega) (by omega) (by rw [h1, List.length_cons]; omega) ?_ ?_
          · intro j hj
            by_cases hjn : j = n - 2
            · rw [if_pos hjn, if_pos hjn]
            · rw [if_neg hjn, if_neg hjn]; exact hKL j (by omega)
          · rw [h1]
            rw [h] at hty
            refine ⟨(fun x => by cases x), iv_tys_congr _ (fun j hj => ?_) hty.2.2⟩
            exact if_neg (by omega)
      · rw [h] at hn
        simp only [List.length_cons] at hn
        have hx := hKL (n - 2) (by omega)
        have hy := hKL (n - 1) (by omega)
        have hz : ¬ ((o = 5 ∨ o = 6) ∧ K (n - 1) = 0) := by omega
        rw [if_neg (by omega), if_neg (by omega), if_neg (by omega), if_neg (by omega), if_neg (by omega)] at sC sM
        rw [← hx, ← hy] at sM
        rw [if_neg hz] at sC sM
        refine next _ _ _ _ sC sM (by omega) (by omega) (by rw [h1, List.length_cons]; omega) ?_ ?_
        · intro j hj
          by_cases hjn : j = n - 2
          · rw [if_pos hjn, if_pos hjn]
          · rw [if_neg hjn, if_neg hjn]; exact hKL j (by omega)
        · rw [h1]
          rw [h] at hty
          refine ⟨fun _ => ?_, iv_tys_congr _ (fun j hj => ?_) hty.2.2⟩
          · dsimp only
            rw [if_pos (by omega)]; exact iv_rk_01 h7
          · exact if_neg (by omega)
      · rw [h] at hn
        simp only [List.length_cons] at hn
        have hx := hKL (n - 1) (by omega)
        rw [if_neg (by decide), if_neg (by decide), if_pos rfl] at sC sM
        refine next _ _ _ _ sC sM (by omega) (by omega) (by rw [h1, List.length_cons]; omega) ?_ ?_
        · intro j hj
          by_cases hjn : j = n - 1
          · rw [if_pos hjn, if_pos hjn, hx]
          · rw [if_neg hjn, if_neg hjn]; exact hKL j (by omega)
        · rw [h1]
          rw [h] at hty
          refine ⟨fun _ => ?_, iv_tys_congr _ (fun j hj => ?_) hty.2⟩
          · have h01 := hty.1 rfl
            rw [show t.length = n - 1 by omega] at h01 ⊢
            dsimp only
            rw [if_pos rfl]
            rcases h01 with h01 | h01
            · right; rw [h01]; decide
            · left; rw [h01]; decide
          · exact if_neg (by omega)
      · rw [h] at hn
        simp only [List.length_cons] at hn
        have hx := hKL (n - 1) (by omega)
        rw [h] at hty
        have h01 := hty.1 rfl
        rw [show t.length = n - 1 by omega] at h01
        rcases (show o = 11 ∨ o = 12 by omega) with rfl | rfl
        · rw [if_neg (by decide), if_neg (by decide), if_neg (by decide), if_pos rfl] at sC sM
          rw [← hx] at sM
          by_cases hz : K (n - 1) = 0
          · rw [if_pos hz] at sC sM
            refine next _ _ _ _ sC sM hkv hve (by rw [hv1, List.length_cons]; omega) ?_ ?_
            · intro j hj
              by_cases hjn : j = n - 1
              · rw [if_pos hjn, hjn]; exact hx
              · rw [if_neg hjn]; exact hKL j hj
            · rw [hv1]
              refine iv_tys_congr _ (fun j hj => ?_) hty
              by_cases hjn : j = n - 1
              · rw [if_pos hjn, hjn]
              · rw [if_neg hjn]
          · rw [if_neg hz] at sC sM
            refine next _ _ _ _ sC sM (by omega) (by omega) (by rw [h1]; omega) (fun j hj => hKL j (by omega)) ?_
            rw [h1]; exact hty.2
        · rw [if_neg (by decide), if_neg (by decide), if_neg (by decide), if_neg (by decide), if_pos rfl] at sC sM
          rw [← hx] at sM
          by_cases hz : K (n - 1) = 0
          · rw [if_pos hz] at sC
            rw [if_neg (by rw [hz]; decide)] at sM
            refine next _ _ _ _ sC sM (by omega) (by omega) (by rw [h1]; omega) (fun j hj => hKL j (by omega)) ?_
            rw [h1]; exact hty.2
          · have hz1 : K (n - 1) = 1 := h01.resolve_left hz
            rw [if_neg hz] at sC
            rw [if_pos hz1] at sM
            refine next _ _ _ _ sC sM hkv hve (by rw [hv1, List.length_cons]; omega) ?_ ?_
            · intro j hj
              by_cases hjn : j = n - 1
              · rw [if_pos hjn, hjn]; exact hx
              · rw [if_neg hjn]; exact hKL j hj
            · rw [hv1]
              refine iv_tys_congr _ (fun j hj => ?_) hty
              by_cases hjn : j = n - 1
              · rw [if_pos hjn, hjn]
              · rw [if_neg hjn]
theorem po_run {c m : wk_St} {f e : Nat} {b : Bool} (hseg : iv_seg (c.1 42) (c.1 43) (m.1 14) b f e) (hfe : f ≤ e) (he : e ≤ 240) (hlet : ∀ v, v < 8 → c.1 24 v = m.1 20 v) (h rf : Int32) (K L : Nat → Int32) :
    ∃ r h2 rf2 K2 L2, f_X4_run (nI f) (nI e) (iv_rs c h rf K) = some (r, iv_rs c h2 rf2 K2) ∧ f_X12_comesTo (nI f) (nI e) (iv_set m 19 L) = some (r, iv_set m 19 L2) ∧ (b = true → r = 0 ∨ r = 1) := by
  obtain ⟨ty, ht0, hte, hci⟩ := hseg
  obtain ⟨a, r, e1, e2, h3⟩ := po_runL hte hci he hlet (e - f) f 0 0 K L wk_F wk_F (Nat.le_refl _) (by omega) (by omega) (by rw [ht0]; rfl) (fun i hi => by omega) (by rw [ht0]; trivial) (show e - f + 1 < 4096 by omega) (show e - f < 4096 by omega)
  have e0 : (260 : Int32) * (nI f / 260) = 0 := by
    have h1 := pk_div (a := f) (d := 260) (by omega) (by decide) (by decide)
    rw [show f / 260 = 0 by omega] at h1
    have h2 : nI f / 260 = nI 0 := h1
    rw [h2]; decide
  have eC : f_X4_run (nI f) (nI e) (iv_rs c h rf K) = j_X4_run_109 a := by
    unfold f_X4_run
    rw [iv_rs_10, iv_rs_9]
    have e1' : wk_loop (S_X4_run_10 (nI e)) wk_F (nI f, (0 : Int32), iv_rs c 0 0 K) = some a := e1
    rw [e1']
    rfl
  rcases h3 with ⟨n2, K2, L2, hn2, rfl, hr⟩ | ⟨K2, L2, rfl, hr, h01, hb⟩
  · subst hr
    refine ⟨0, nI n2, 1, K2, L2, ?_, ?_, fun _ => Or.inl rfl⟩
    · rw [eC]
      unfold j_X4_run_109
      rw [po_pop (by omega)]
      dsimp only [Option.bind]
      rw [iv_rs_f, if_neg (by decide)]
    · unfold f_X12_comesTo wk_let
      dsimp only
      rw [e0]
      have e2' : wk_loop (S_X12_comesTo_10 (nI e) 0) wk_F ((0 : Int32), nI f, iv_set m 19 L) = _ := e2
      rw [e2']
      rfl
  · subst hr
    refine ⟨K2 0, nI 0, 0, K2, L2, ?_, ?_, hb⟩
    · rw [eC]
      unfold j_X4_run_109
      rw [po_pop (n := 0) (by omega)]
      dsimp only [Option.bind]
      rw [iv_rs_f, if_pos rfl]
    · unfold f_X12_comesTo wk_let
      dsimp only
      rw [e0]
      have e2' : wk_loop (S_X12_comesTo_10 (nI e) 0) wk_F ((0 : Int32), nI f, iv_set m 19 L) = _ := e2
      rw [e2', h01]
      rfl
