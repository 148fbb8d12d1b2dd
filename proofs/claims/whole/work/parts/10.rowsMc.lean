set_option maxHeartbeats 4000000 in
set_option maxRecDepth 20000 in
theorem tl_S_X12_calm_18 {x1 : Int32} {x2 : Int32} {s : wk_St} {z : wk_R} (n : Nat) : ∀ {x3 : Int32} {x4 : Int32} {x5 : Int32} {w6 : Value} {w7 : Value} {a : Int32 × Int32} (h : wk_loop (S_X12_calm_18 x1 x2 s) n (x3, x4, x5) = some a) (hk : ∀ (u5 u6 u7 : Value), wk_H wk_shM 3 mc_X12_calm 65 [.ref 0, .int x1, .int x2, .int a.1, .int a.2, u5, u6, u7] [] s z), wk_H wk_shM 3 mc_X12_calm 18 [.ref 0, .int x1, .int x2, .int x3, .int x4, .int x5, w6, w7] [] s z := by
  induction n with
  | zero =>
    intros
    rename_i h _
    exact nomatch (show (none : Option _) = some _ from h)
  | succ n ih =>
    intros
    rename_i h hk
    obtain ⟨o, ho, h⟩ := wk_bindE (show Option.bind _ _ = some _ from h)
    refine ts_S_X12_calm_18 ho ?_
    cases o with
    | inl a1 =>
      cases h
      exact hk
    | inr p =>
      obtain ⟨p0, p1, p2⟩ := p
      exact fun _ _ => ih h hk
set_option maxHeartbeats 4000000 in
set_option maxRecDepth 20000 in
theorem t_X12_calm {x1 : Int32} {x2 : Int32} {s : wk_St} {r : Int32} (h : f_X12_calm x1 x2 s = some r) : wk_T wk_shM 3 117 [.ref 0, .int x1, .int x2] s (some (.int r), s) := by
  suffices H : ∀ z, z = (some (.int r), s) → wk_H wk_shM 3 mc_X12_calm 0 [.ref 0, .int x1, .int x2, wk_U, wk_U, wk_U, wk_U, wk_U] [] s z from H _ rfl
  intro z hk
  dsimp only [f_X12_calm] at h
  refine wk_Hs 3 3 ⟨rfl, rfl⟩ (ls' := [.ref 0, .int x1, .int x2, wk_U, wk_U, wk_U, wk_U, wk_U]) (st' := [.int (240 : Int32), .int (1 : Int32), .int x1]) (σ' := s) rfl ?_
  refine wk_Hcall (i2 := 4) (args := [.int x1, .int (1 : Int32), .int (240 : Int32)]) (rest := []) (r := some (.int (b2i (f_X12_in x1 (1 : Int32) (240 : Int32))))) (σ1 := s) rfl rfl ⟨rfl, rfl, rfl, rfl, rfl⟩ rfl ((t_X12_in rfl).up (by decide)) ?_
  rcases wk_ife h with ⟨hc, h⟩ | ⟨hc, h⟩
  · refine wk_H0t 10 rfl (wk_zeq.2 hc) ?_
    refine wk_Hs 1 11 ⟨rfl, rfl⟩ (ls' := [.ref 0, .int x1, .int x2, wk_U, wk_U, wk_U, wk_U, wk_U]) (st' := [.int (-1 : Int32)]) (σ' := s) rfl ?_
    cases h
    exact wk_eqz hk (wk_Hret rfl)
  · refine wk_H0f 10 5 rfl rfl (wk_nf wk_zeq hc) ?_
    refine wk_Hs 3 8 ⟨rfl, rfl⟩ (ls' := [.ref 0, .int x1, .int x2, wk_U, wk_U, wk_U, wk_U, wk_U]) (st' := [.int (1 : Int32), .int (0 : Int32), .int x2]) (σ' := s) rfl ?_
    refine wk_Hcall (i2 := 9) (args := [.int x2, .int (0 : Int32), .int (1 : Int32)]) (rest := []) (r := some (.int (b2i (f_X12_in x2 (0 : Int32) (1 : Int32))))) (σ1 := s) rfl rfl ⟨rfl, rfl, rfl, rfl, rfl⟩ rfl ((t_X12_in rfl).up (by decide)) ?_
    rcases wk_ife h with ⟨hc, h⟩ | ⟨hc, h⟩
    · refine wk_H0t 12 rfl (wk_zne.2 hc) ?_
      refine wk_Hs 6 18 ⟨rfl, rfl⟩ (ls' := [.ref 0, .int x1, .int x2, .int (0 : Int32), .int (-2 : Int32), .int (0 : Int32), wk_U, wk_U]) (st' := []) (σ' := s) rfl ?_
      obtain ⟨v9, hv9, h⟩ := wk_bindE h
      refine tl_S_X12_calm_18 wk_F hv9 ?_
      intro g10 g11 g12
      refine wk_Hs 1 66 ⟨rfl, rfl⟩ (ls' := [.ref 0, .int x1, .int x2, .int v9.1, .int v9.2, g10, g11, g12]) (st' := [.int x2]) (σ' := s) rfl ?_
      rcases wk_ife h with ⟨hc, h⟩ | ⟨hc, h⟩
      · refine wk_H0t 69 rfl (wk_cne.2 hc) ?_
        refine wk_Hs 1 70 ⟨rfl, rfl⟩ (ls' := [.ref 0, .int x1, .int x2, .int v9.1, .int v9.2, g10, g11, g12]) (st' := [.int v9.2]) (σ' := s) rfl ?_
        cases h
        exact wk_eqz hk (wk_Hret rfl)
      · refine wk_H0f 69 67 rfl rfl (wk_nf wk_cne hc) ?_
        refine wk_Hs 1 68 ⟨rfl, rfl⟩ (ls' := [.ref 0, .int x1, .int x2, .int v9.1, .int v9.2, g10, g11, g12]) (st' := [.int v9.1]) (σ' := s) rfl ?_
        refine wk_Hgoto (t := 70) rfl ?_
        cases h
        exact wk_eqz hk (wk_Hret rfl)
    · refine wk_H0f 12 10 rfl rfl (wk_nf wk_zne hc) ?_
      refine wk_Hs 1 11 ⟨rfl, rfl⟩ (ls' := [.ref 0, .int x1, .int x2, wk_U, wk_U, wk_U, wk_U, wk_U]) (st' := [.int (-1 : Int32)]) (σ' := s) rfl ?_
      cases h
      exact wk_eqz hk (wk_Hret rfl)
set_option maxHeartbeats 4000000 in
set_option maxRecDepth 20000 in
theorem ts_S_X12_farthest_4 {x1 : Int32} {x2 : Int32} {s : wk_St} {z : wk_R} {o : (Int32) ⊕ (Int32 × Int32)} (h : S_X12_farthest_4 s (x1, x2) = some o) (hk : match (generalizing := false) o with | Sum.inl a => (∀ (u2 : Value), wk_H wk_shM 0 mc_X12_farthest 29 [.ref 0, .int a, u2] [] s z) | Sum.inr y => wk_H wk_shM 0 mc_X12_farthest 4 [.ref 0, .int y.1, .int y.2] [] s z) : wk_H wk_shM 0 mc_X12_farthest 4 [.ref 0, .int x1, .int x2] [] s z := by
  dsimp only [S_X12_farthest_4] at h
  refine wk_Hs 2 6 ⟨rfl, rfl⟩ (ls' := [.ref 0, .int x1, .int x2]) (st' := [.int (12 : Int32), .int x2]) (σ' := s) rfl ?_
  rcases wk_ife h with ⟨hc, h⟩ | ⟨hc, h⟩
  · refine wk_Hbt 29 rfl (wk_cge.2 hc) ?_
    cases h
    exact hk _
  · refine wk_Hbf 29 7 rfl rfl (wk_nf wk_cge hc) ?_
    refine wk_Hs 3 10 ⟨rfl, rfl⟩ (ls' := [.ref 0, .int x1, .int x2]) (st' := [.int x2, .ref 5]) (σ' := s) rfl ?_
    obtain ⟨hg, h⟩ := wk_gdE h
    refine wk_Hia 11 rfl rfl rfl hg rfl ?_
    refine wk_Hs 1 12 ⟨rfl, rfl⟩ (ls' := [.ref 0, .int x1, .int x2]) (st' := [.int (-1 : Int32), .int (s.1 5 (x2.toNatClampNeg))]) (σ' := s) rfl ?_
    rcases wk_ife h with ⟨hc, h⟩ | ⟨hc, h⟩
    · refine wk_Hbt 27 rfl (wk_ceq.2 hc) ?_
      refine wk_Hs 1 28 ⟨rfl, rfl⟩ (ls' := [.ref 0, .int x1, .int (x2 + (1 : Int32))]) (st' := []) (σ' := s) rfl ?_
      refine wk_Hgoto (t := 4) rfl ?_
      cases h
      exact hk
    · refine wk_Hbf 27 13 rfl rfl (wk_nf wk_ceq hc) ?_
      refine wk_Hs 2 15 ⟨rfl, rfl⟩ (ls' := [.ref 0, .int x1, .int x2]) (st' := [.int (-1 : Int32), .int x1]) (σ' := s) rfl ?_
      rcases wk_ife h with ⟨hc, h⟩ | ⟨hc, h⟩
      · refine wk_Hbt 25 rfl (wk_ceq.2 hc) ?_
        refine wk_Hs 3 28 ⟨rfl, rfl⟩ (ls' := [.ref 0, .int x2, .int (x2 + (1 : Int32))]) (st' := []) (σ' := s) rfl ?_
        refine wk_Hgoto (t := 4) rfl ?_
        cases h
        exact hk
      · refine wk_Hbf 25 16 rfl rfl (wk_nf wk_ceq hc) ?_
        refine wk_Hs 3 19 ⟨rfl, rfl⟩ (ls' := [.ref 0, .int x1, .int x2]) (st' := [.int x2, .ref 5]) (σ' := s) rfl ?_
        obtain ⟨hg, h⟩ := wk_gdE h
        refine wk_Hia 20 rfl rfl rfl hg rfl ?_
        refine wk_Hs 3 23 ⟨rfl, rfl⟩ (ls' := [.ref 0, .int x1, .int x2]) (st' := [.int x1, .ref 5, .int (s.1 5 (x2.toNatClampNeg))]) (σ' := s) rfl ?_
        obtain ⟨hg, h⟩ := wk_gdE h
        refine wk_Hia 24 rfl rfl rfl hg rfl ?_
        rcases wk_ife h with ⟨hc, h⟩ | ⟨hc, h⟩
        · refine wk_Hbt 27 rfl (wk_cle.2 hc) ?_
          refine wk_Hs 1 28 ⟨rfl, rfl⟩ (ls' := [.ref 0, .int x1, .int (x2 + (1 : Int32))]) (st' := []) (σ' := s) rfl ?_
          refine wk_Hgoto (t := 4) rfl ?_
          cases h
          exact hk
        · refine wk_Hbf 27 25 rfl rfl (wk_nf wk_cle hc) ?_
          refine wk_Hs 3 28 ⟨rfl, rfl⟩ (ls' := [.ref 0, .int x2, .int (x2 + (1 : Int32))]) (st' := []) (σ' := s) rfl ?_
          refine wk_Hgoto (t := 4) rfl ?_
          cases h
          exact hk
set_option maxHeartbeats 4000000 in
set_option maxRecDepth 20000 in
theorem tl_S_X12_farthest_4 {s : wk_St} {z : wk_R} (n : Nat) : ∀ {x1 : Int32} {x2 : Int32} {a : Int32} (h : wk_loop (S_X12_farthest_4 s) n (x1, x2) = some a) (hk : ∀ (u2 : Value), wk_H wk_shM 0 mc_X12_farthest 29 [.ref 0, .int a, u2] [] s z), wk_H wk_shM 0 mc_X12_farthest 4 [.ref 0, .int x1, .int x2] [] s z := by
  induction n with
  | zero =>
    intros
    rename_i h _
    exact nomatch (show (none : Option _) = some _ from h)
  | succ n ih =>
    intros
    rename_i h hk
    obtain ⟨o, ho, h⟩ := wk_bindE (show Option.bind _ _ = some _ from h)
    refine ts_S_X12_farthest_4 ho ?_
    cases o with
    | inl a1 =>
      cases h
      exact hk
    | inr p =>
      obtain ⟨p0, p1⟩ := p
      exact ih h hk
set_option maxHeartbeats 4000000 in
set_option maxRecDepth 20000 in
theorem t_X12_farthest {s : wk_St} {r : Int32} (h : f_X12_farthest s = some r) : wk_T wk_shM 0 118 [.ref 0] s (some (.int r), s) := by
  suffices H : ∀ z, z = (some (.int r), s) → wk_H wk_shM 0 mc_X12_farthest 0 [.ref 0, wk_U, wk_U] [] s z from H _ rfl
  intro z hk
  dsimp only [f_X12_farthest] at h
  refine wk_Hs 4 4 ⟨rfl, rfl⟩ (ls' := [.ref 0, .int (-1 : Int32), .int (0 : Int32)]) (st' := []) (σ' := s) rfl ?_
  obtain ⟨v1, hv1, h⟩ := wk_bindE h
  refine tl_S_X12_farthest_4 wk_F hv1 ?_
  intro g2
  refine wk_Hs 1 30 ⟨rfl, rfl⟩ (ls' := [.ref 0, .int v1, g2]) (st' := [.int v1]) (σ' := s) rfl ?_
  cases h
  exact wk_eqz hk (wk_Hret rfl)
set_option maxHeartbeats 4000000 in
set_option maxRecDepth 20000 in
theorem t_X12_rumour {x1 : Int32} {x2 : Int32} {s : wk_St} {r : Int32 × wk_St} (h : f_X12_rumour x1 x2 s = some r) : wk_T wk_shM 2 119 [.ref 0, .int x1, .int x2] s (some (.int r.1), r.2) := by
  suffices H : ∀ z, z = (some (.int r.1), r.2) → wk_H wk_shM 2 mc_X12_rumour 0 [.ref 0, .int x1, .int x2, wk_U, wk_U] [] s z from H _ rfl
  intro z hk
  dsimp only [f_X12_rumour] at h
  refine wk_Hs 2 2 ⟨rfl, rfl⟩ (ls' := [.ref 0, .int x1, .int x2, wk_U, wk_U]) (st' := [.int x1, .ref 0]) (σ' := s) rfl ?_
  refine wk_Hcall (i2 := 3) (args := [.ref 0, .int x1]) (rest := []) (r := some (.int (b2i (f_X12_isPlace x1 s)))) (σ1 := s) rfl rfl ⟨rfl, rfl, rfl, rfl, rfl⟩ rfl ((t_X12_isPlace rfl).up (by decide)) ?_
  rcases wk_ife h with ⟨hc, h⟩ | ⟨hc, h⟩
  · refine wk_H0t 9 rfl (wk_zeq.2 hc) ?_
    refine wk_Hs 1 10 ⟨rfl, rfl⟩ (ls' := [.ref 0, .int x1, .int x2, wk_U, wk_U]) (st' := [.int (-1 : Int32)]) (σ' := s) rfl ?_
    cases h
    exact wk_eqz hk (wk_Hret rfl)
  · refine wk_H0f 9 4 rfl rfl (wk_nf wk_zeq hc) ?_
    refine wk_Hs 3 7 ⟨rfl, rfl⟩ (ls' := [.ref 0, .int x1, .int x2, wk_U, wk_U]) (st' := [.int (2 : Int32), .int (0 : Int32), .int x2]) (σ' := s) rfl ?_
    refine wk_Hcall (i2 := 8) (args := [.int x2, .int (0 : Int32), .int (2 : Int32)]) (rest := []) (r := some (.int (b2i (f_X12_in x2 (0 : Int32) (2 : Int32))))) (σ1 := s) rfl rfl ⟨rfl, rfl, rfl, rfl, rfl⟩ rfl ((t_X12_in rfl).up (by decide)) ?_
    rcases wk_ife h with ⟨hc, h⟩ | ⟨hc, h⟩
    · refine wk_H0t 11 rfl (wk_zne.2 hc) ?_
      refine wk_Hs 2 13 ⟨rfl, rfl⟩ (ls' := [.ref 0, .int x1, .int x2, wk_U, wk_U]) (st' := [.int x1, .ref 0]) (σ' := s) rfl ?_
      obtain ⟨v3, hv3, h⟩ := wk_bindE h
      refine wk_Hcall (i2 := 14) (args := [.ref 0, .int x1]) (rest := []) (r := some (.int v3.1)) (σ1 := v3.2) rfl rfl ⟨rfl, rfl, rfl, rfl, rfl⟩ rfl ((t_X12_laysSteps hv3).up (by decide)) ?_
      refine wk_Hs 2 16 ⟨rfl, rfl⟩ (ls' := [.ref 0, .int x1, .int x2, .int v3.1, wk_U]) (st' := [.ref 0]) (σ' := v3.2) rfl ?_
      obtain ⟨v4, hv4, h⟩ := wk_bindE h
      refine wk_Hcall (i2 := 17) (args := [.ref 0]) (rest := []) (r := some (.int v4)) (σ1 := v3.2) rfl rfl ⟨rfl, rfl, rfl, rfl, rfl⟩ rfl ((t_X12_farthest hv4).up (by decide)) ?_
      refine wk_Hs 2 19 ⟨rfl, rfl⟩ (ls' := [.ref 0, .int x1, .int x2, .int v3.1, .int v4]) (st' := [.int x2]) (σ' := v3.2) rfl ?_
      rcases wk_ife h with ⟨hc, h⟩ | ⟨hc, h⟩
      · refine wk_H0t 25 rfl (wk_cne.2 hc) ?_
        refine wk_Hs 2 27 ⟨rfl, rfl⟩ (ls' := [.ref 0, .int x1, .int x2, .int v3.1, .int v4]) (st' := [.int (1 : Int32), .int x2]) (σ' := v3.2) rfl ?_
        rcases wk_ife h with ⟨hc, h⟩ | ⟨hc, h⟩
        · refine wk_Hbt 30 rfl (wk_cne.2 hc) ?_
          refine wk_Hs 2 32 ⟨rfl, rfl⟩ (ls' := [.ref 0, .int x1, .int x2, .int v3.1, .int v4]) (st' := [.int (v3.2.1 0 4)]) (σ' := v3.2) rfl ?_
          obtain ⟨v5, hv5, h⟩ := wk_bindE h
          refine wk_Hcall (i2 := 33) (args := [.int (v3.2.1 0 4)]) (rest := []) (r := some (.int v5)) (σ1 := v3.2) rfl rfl ⟨rfl, rfl, rfl, rfl, rfl⟩ rfl ((t_X12_bits hv5).up (by decide)) ?_
          refine wk_Hs 2 35 ⟨rfl, rfl⟩ (ls' := [.ref 0, .int x1, .int x2, .int v3.1, .int v4]) (st' := [.int (v5 - v3.1)]) (σ' := v3.2) rfl ?_
          cases h
          exact wk_eqz hk (wk_Hret rfl)
        · refine wk_Hbf 30 28 rfl rfl (wk_nf wk_cne hc) ?_
          refine wk_Hs 1 29 ⟨rfl, rfl⟩ (ls' := [.ref 0, .int x1, .int x2, .int v3.1, .int v4]) (st' := [.int v4]) (σ' := v3.2) rfl ?_
          refine wk_Hgoto (t := 35) rfl ?_
          cases h
          exact wk_eqz hk (wk_Hret rfl)
      · refine wk_H0f 25 20 rfl rfl (wk_nf wk_cne hc) ?_
        refine wk_Hs 3 23 ⟨rfl, rfl⟩ (ls' := [.ref 0, .int x1, .int x2, .int v3.1, .int v4]) (st' := [.int v4, .ref 5]) (σ' := v3.2) rfl ?_
        obtain ⟨hg, h⟩ := wk_gdE h
        refine wk_Hia 24 rfl rfl rfl hg rfl ?_
        refine wk_Hgoto (t := 35) rfl ?_
        cases h
        exact wk_eqz hk (wk_Hret rfl)
    · refine wk_H0f 11 9 rfl rfl (wk_nf wk_zne hc) ?_
      refine wk_Hs 1 10 ⟨rfl, rfl⟩ (ls' := [.ref 0, .int x1, .int x2, wk_U, wk_U]) (st' := [.int (-1 : Int32)]) (σ' := s) rfl ?_
      cases h
      exact wk_eqz hk (wk_Hret rfl)
set_option maxHeartbeats 4000000 in
set_option maxRecDepth 20000 in
theorem ts_S_X12_middle_8 {x1 : Int32} {x2 : Int32} {x3 : Int32} {x4 : Int32} {w5 : Value} {w6 : Value} {s : wk_St} {z : wk_R} {o : (Int32 × wk_St) ⊕ (Int32 × Int32 × Int32 × Int32 × wk_St)} (h : S_X12_middle_8 (x1, x2, x3, x4, s) = some o) (hk : match (generalizing := false) o with | Sum.inl a => (∀ (u2 u3 u4 u5 u6 : Value), wk_H wk_shM 2 mc_X12_middle 44 [.ref 0, .int a.1, u2, u3, u4, u5, u6] [] a.2 z) | Sum.inr y => ∀ (u5 u6 : Value), wk_H wk_shM 2 mc_X12_middle 8 [.ref 0, .int y.1, .int y.2.1, .int y.2.2.1, .int y.2.2.2.1, u5, u6] [] y.2.2.2.2 z) : wk_H wk_shM 2 mc_X12_middle 8 [.ref 0, .int x1, .int x2, .int x3, .int x4, w5, w6] [] s z := by
  dsimp only [S_X12_middle_8] at h
  refine wk_Hs 2 10 ⟨rfl, rfl⟩ (ls' := [.ref 0, .int x1, .int x2, .int x3, .int x4, w5, w6]) (st' := [.int (12 : Int32), .int x4]) (σ' := s) rfl ?_
  rcases wk_ife h with ⟨hc, h⟩ | ⟨hc, h⟩
  · refine wk_Hbt 44 rfl (wk_cge.2 hc) ?_
    cases h
    exact hk _ _ _ _ _
  · refine wk_Hbf 44 11 rfl rfl (wk_nf wk_cge hc) ?_
    refine wk_Hs 2 13 ⟨rfl, rfl⟩ (ls' := [.ref 0, .int x1, .int x2, .int x3, .int x4, w5, w6]) (st' := [.int x4, .ref 0]) (σ' := s) rfl ?_
    refine wk_Hcall (i2 := 14) (args := [.ref 0, .int x4]) (rest := []) (r := some (.int (b2i (f_X12_isPlace x4 s)))) (σ1 := s) rfl rfl ⟨rfl, rfl, rfl, rfl, rfl⟩ rfl ((t_X12_isPlace rfl).up (by decide)) ?_
    rcases wk_ife h with ⟨hc, h⟩ | ⟨hc, h⟩
    · refine wk_H0t 16 rfl (wk_zne.2 hc) ?_
      refine wk_Hs 2 18 ⟨rfl, rfl⟩ (ls' := [.ref 0, .int x1, .int x2, .int x3, .int x4, w5, w6]) (st' := [.int x4, .ref 0]) (σ' := s) rfl ?_
      obtain ⟨v2, hv2, h⟩ := wk_bindE h
      refine wk_Hcall (i2 := 19) (args := [.ref 0, .int x4]) (rest := []) (r := some (.int v2.1)) (σ1 := v2.2) rfl rfl ⟨rfl, rfl, rfl, rfl, rfl⟩ rfl ((t_X12_laysSteps hv2).up (by decide)) ?_
      refine wk_Hs 4 23 ⟨rfl, rfl⟩ (ls' := [.ref 0, .int x1, .int x2, .int x3, .int x4, .int v2.1, w6]) (st' := [.ref 0, .ref 5]) (σ' := v2.2) rfl ?_
      obtain ⟨v3, hv3, h⟩ := wk_bindE h
      refine wk_Hcall (i2 := 24) (args := [.ref 0]) (rest := [.ref 5]) (r := some (.int v3)) (σ1 := v2.2) rfl rfl ⟨rfl, rfl, rfl, rfl, rfl⟩ rfl ((t_X12_farthest hv3).up (by decide)) ?_
      obtain ⟨hg, h⟩ := wk_gdE h
      refine wk_Hia 25 rfl rfl rfl hg rfl ?_
      replace h := wk_letE h
      refine wk_Hs 3 28 ⟨rfl, rfl⟩ (ls' := [.ref 0, .int x1, .int x2, .int x3, .int x4, .int v2.1, .int (v2.2.1 5 (v3.toNatClampNeg))]) (st' := [.int x2, .int v2.1]) (σ' := v2.2) rfl ?_
      rcases wk_ife h with ⟨hc, h⟩ | ⟨hc, h⟩
      · refine wk_Hbt 42 rfl (wk_clt.2 hc) ?_
        refine wk_Hs 1 43 ⟨rfl, rfl⟩ (ls' := [.ref 0, .int x1, .int x2, .int x3, .int (x4 + (1 : Int32)), .int v2.1, .int (v2.2.1 5 (v3.toNatClampNeg))]) (st' := []) (σ' := v2.2) rfl ?_
        refine wk_Hgoto (t := 8) rfl ?_
        cases h
        exact hk _ _
      · refine wk_Hbf 42 29 rfl rfl (wk_nf wk_clt hc) ?_
        refine wk_Hs 2 31 ⟨rfl, rfl⟩ (ls' := [.ref 0, .int x1, .int x2, .int x3, .int x4, .int v2.1, .int (v2.2.1 5 (v3.toNatClampNeg))]) (st' := [.int x2, .int v2.1]) (σ' := v2.2) rfl ?_
        rcases wk_ife h with ⟨hc, h⟩ | ⟨hc, h⟩
        · refine wk_Hbt 36 rfl (wk_cne.2 hc) ?_
          refine wk_Hs 5 41 ⟨rfl, rfl⟩ (ls' := [.ref 0, .int x4, .int v2.1, .int x3, .int x4, .int v2.1, .int (v2.2.1 5 (v3.toNatClampNeg))]) (st' := [.int (v2.2.1 5 (v3.toNatClampNeg))]) (σ' := v2.2) rfl ?_
          replace h := wk_letE h
          refine wk_Hs 2 43 ⟨rfl, rfl⟩ (ls' := [.ref 0, .int x4, .int v2.1, .int (v2.2.1 5 (v3.toNatClampNeg)), .int (x4 + (1 : Int32)), .int v2.1, .int (v2.2.1 5 (v3.toNatClampNeg))]) (st' := []) (σ' := v2.2) rfl ?_
          refine wk_Hgoto (t := 8) rfl ?_
          cases h
          exact hk _ _
        · refine wk_Hbf 36 32 rfl rfl (wk_nf wk_cne hc) ?_
          refine wk_Hs 2 34 ⟨rfl, rfl⟩ (ls' := [.ref 0, .int x1, .int x2, .int x3, .int x4, .int v2.1, .int (v2.2.1 5 (v3.toNatClampNeg))]) (st' := [.int x3, .int (v2.2.1 5 (v3.toNatClampNeg))]) (σ' := v2.2) rfl ?_
          rcases wk_ife h with ⟨hc, h⟩ | ⟨hc, h⟩
          · refine wk_Hbt 36 rfl (wk_clt.2 hc) ?_
            refine wk_Hs 5 41 ⟨rfl, rfl⟩ (ls' := [.ref 0, .int x4, .int v2.1, .int x3, .int x4, .int v2.1, .int (v2.2.1 5 (v3.toNatClampNeg))]) (st' := [.int (v2.2.1 5 (v3.toNatClampNeg))]) (σ' := v2.2) rfl ?_
            replace h := wk_letE h
            refine wk_Hs 2 43 ⟨rfl, rfl⟩ (ls' := [.ref 0, .int x4, .int v2.1, .int (v2.2.1 5 (v3.toNatClampNeg)), .int (x4 + (1 : Int32)), .int v2.1, .int (v2.2.1 5 (v3.toNatClampNeg))]) (st' := []) (σ' := v2.2) rfl ?_
            refine wk_Hgoto (t := 8) rfl ?_
            cases h
            exact hk _ _
          · refine wk_Hbf 36 35 rfl rfl (wk_nf wk_clt hc) ?_
            refine wk_Hgoto (t := 42) rfl ?_
            refine wk_Hs 1 43 ⟨rfl, rfl⟩ (ls' := [.ref 0, .int x1, .int x2, .int x3, .int (x4 + (1 : Int32)), .int v2.1, .int (v2.2.1 5 (v3.toNatClampNeg))]) (st' := []) (σ' := v2.2) rfl ?_
            refine wk_Hgoto (t := 8) rfl ?_
            cases h
            exact hk _ _
    · refine wk_H0f 16 15 rfl rfl (wk_nf wk_zne hc) ?_
      refine wk_Hgoto (t := 42) rfl ?_
      refine wk_Hs 1 43 ⟨rfl, rfl⟩ (ls' := [.ref 0, .int x1, .int x2, .int x3, .int (x4 + (1 : Int32)), w5, w6]) (st' := []) (σ' := s) rfl ?_
      refine wk_Hgoto (t := 8) rfl ?_
      cases h
      exact hk _ _
set_option maxHeartbeats 4000000 in
set_option maxRecDepth 20000 in
theorem tl_S_X12_middle_8 {z : wk_R} (n : Nat) : ∀ {x1 : Int32} {x2 : Int32} {x3 : Int32} {x4 : Int32} {w5 : Value} {w6 : Value} {s : wk_St} {a : Int32 × wk_St} (h : wk_loop S_X12_middle_8 n (x1, x2, x3, x4, s) = some a) (hk : ∀ (u2 u3 u4 u5 u6 : Value), wk_H wk_shM 2 mc_X12_middle 44 [.ref 0, .int a.1, u2, u3, u4, u5, u6] [] a.2 z), wk_H wk_shM 2 mc_X12_middle 8 [.ref 0, .int x1, .int x2, .int x3, .int x4, w5, w6] [] s z := by
  induction n with
  | zero =>
    intros
    rename_i h _
    exact nomatch (show (none : Option _) = some _ from h)
  | succ n ih =>
    intros
    rename_i h hk
    obtain ⟨o, ho, h⟩ := wk_bindE (show Option.bind _ _ = some _ from h)
    refine ts_S_X12_middle_8 ho ?_
    cases o with
    | inl a1 =>
      cases h
      exact hk
    | inr p =>
      obtain ⟨p0, p1, p2, p3, p4⟩ := p
      exact fun _ _ => ih h hk
set_option maxHeartbeats 4000000 in
set_option maxRecDepth 20000 in
theorem t_X12_middle {s : wk_St} {r : Int32 × wk_St} (h : f_X12_middle s = some r) : wk_T wk_shM 2 120 [.ref 0] s (some (.int r.1), r.2) := by
  suffices H : ∀ z, z = (some (.int r.1), r.2) → wk_H wk_shM 2 mc_X12_middle 0 [.ref 0, wk_U, wk_U, wk_U, wk_U, wk_U, wk_U] [] s z from H _ rfl
  intro z hk
  dsimp only [f_X12_middle] at h
  refine wk_Hs 8 8 ⟨rfl, rfl⟩ (ls' := [.ref 0, .int (-2 : Int32), .int (0 : Int32), .int (0 : Int32), .int (0 : Int32), wk_U, wk_U]) (st' := []) (σ' := s) rfl ?_
  obtain ⟨v7, hv7, h⟩ := wk_bindE h
  refine tl_S_X12_middle_8 wk_F hv7 ?_
  intro g8 g9 g10 g11 g12
  refine wk_Hs 1 45 ⟨rfl, rfl⟩ (ls' := [.ref 0, .int v7.1, g8, g9, g10, g11, g12]) (st' := [.int v7.1]) (σ' := v7.2) rfl ?_
  cases h
  exact wk_eqz hk (wk_Hret rfl)
set_option maxHeartbeats 4000000 in
set_option maxRecDepth 20000 in
theorem ts_S_X12_between_16 {x1 : Int32} {x2 : Int32} {x3 : Int32} {w4 : Value} {s : wk_St} {z : wk_R} {o : (wk_St) ⊕ (Int32 × wk_St)} (h : S_X12_between_16 x1 x2 (x3, s) = some o) (hk : match (generalizing := false) o with | Sum.inl a => (∀ (u3 : Value), wk_H wk_shM 2 mc_X12_between 29 [.ref 0, .int x1, .int x2, u3, w4] [] a z) | Sum.inr y => wk_H wk_shM 2 mc_X12_between 16 [.ref 0, .int x1, .int x2, .int y.1, w4] [] y.2 z) : wk_H wk_shM 2 mc_X12_between 16 [.ref 0, .int x1, .int x2, .int x3, w4] [] s z := by
  dsimp only [S_X12_between_16] at h
  refine wk_Hs 2 18 ⟨rfl, rfl⟩ (ls' := [.ref 0, .int x1, .int x2, .int x3, w4]) (st' := [.int (12 : Int32), .int x3]) (σ' := s) rfl ?_
  rcases wk_ife h with ⟨hc, h⟩ | ⟨hc, h⟩
  · refine wk_Hbt 29 rfl (wk_cge.2 hc) ?_
    cases h
    exact hk _
  · refine wk_Hbf 29 19 rfl rfl (wk_nf wk_cge hc) ?_
    refine wk_Hs 6 25 ⟨rfl, rfl⟩ (ls' := [.ref 0, .int x1, .int x2, .int x3, w4]) (st' := [.int x3, .ref 5, .int x3, .ref 28]) (σ' := s) rfl ?_
    obtain ⟨hg, h⟩ := wk_gdE h
    refine wk_Hia 26 rfl rfl rfl hg rfl ?_
    obtain ⟨hg, h⟩ := wk_gdE h
    refine wk_Hias 27 rfl rfl rfl hg rfl ?_
    refine wk_Hs 1 28 ⟨rfl, rfl⟩ (ls' := [.ref 0, .int x1, .int x2, .int (x3 + (1 : Int32)), w4]) (st' := []) (σ' := (wk_si s 28 (x3.toNatClampNeg) (s.1 5 (x3.toNatClampNeg)))) rfl ?_
    refine wk_Hgoto (t := 16) rfl ?_
    cases h
    exact hk
set_option maxHeartbeats 4000000 in
set_option maxRecDepth 20000 in
theorem tl_S_X12_between_16 {x1 : Int32} {x2 : Int32} {w4 : Value} {z : wk_R} (n : Nat) : ∀ {x3 : Int32} {s : wk_St} {a : wk_St} (h : wk_loop (S_X12_between_16 x1 x2) n (x3, s) = some a) (hk : ∀ (u3 : Value), wk_H wk_shM 2 mc_X12_between 29 [.ref 0, .int x1, .int x2, u3, w4] [] a z), wk_H wk_shM 2 mc_X12_between 16 [.ref 0, .int x1, .int x2, .int x3, w4] [] s z := by
  induction n with
  | zero =>
    intros
    rename_i h _
    exact nomatch (show (none : Option _) = some _ from h)
  | succ n ih =>
    intros
    rename_i h hk
    obtain ⟨o, ho, h⟩ := wk_bindE (show Option.bind _ _ = some _ from h)
    refine ts_S_X12_between_16 ho ?_
    cases o with
    | inl a1 =>
      cases h
      exact hk
    | inr p =>
      obtain ⟨p0, p1⟩ := p
      exact ih h hk
set_option maxHeartbeats 4000000 in
set_option maxRecDepth 20000 in
theorem ts_S_X12_between_37 {x2 : Int32} {x3 : Int32} {x4 : Int32} {w1 : Value} {s : wk_St} {z : wk_R} {o : (Int32 × wk_St) ⊕ (Int32 × Int32 × wk_St)} (h : S_X12_between_37 x2 (x3, x4, s) = some o) (hk : match (generalizing := false) o with | Sum.inl a => (∀ (u4 : Value), wk_H wk_shM 2 mc_X12_between 75 [.ref 0, w1, .int x2, .int a.1, u4] [] a.2 z) | Sum.inr y => wk_H wk_shM 2 mc_X12_between 37 [.ref 0, w1, .int x2, .int y.1, .int y.2.1] [] y.2.2 z) : wk_H wk_shM 2 mc_X12_between 37 [.ref 0, w1, .int x2, .int x3, .int x4] [] s z := by
  dsimp only [S_X12_between_37] at h
  refine wk_Hs 2 39 ⟨rfl, rfl⟩ (ls' := [.ref 0, w1, .int x2, .int x3, .int x4]) (st' := [.int (12 : Int32), .int x4]) (σ' := s) rfl ?_
  rcases wk_ife h with ⟨hc, h⟩ | ⟨hc, h⟩
  · refine wk_Hbt 75 rfl (wk_cge.2 hc) ?_
    cases h
    exact hk _
  · refine wk_Hbf 75 40 rfl rfl (wk_nf wk_cge hc) ?_
    refine wk_Hs 3 43 ⟨rfl, rfl⟩ (ls' := [.ref 0, w1, .int x2, .int x3, .int x4]) (st' := [.int x4, .ref 5]) (σ' := s) rfl ?_
    obtain ⟨hg, h⟩ := wk_gdE h
    refine wk_Hia 44 rfl rfl rfl hg rfl ?_
    refine wk_Hs 1 45 ⟨rfl, rfl⟩ (ls' := [.ref 0, w1, .int x2, .int x3, .int x4]) (st' := [.int (-1 : Int32), .int (s.1 5 (x4.toNatClampNeg))]) (σ' := s) rfl ?_
    rcases wk_ife h with ⟨hc, h⟩ | ⟨hc, h⟩
    · refine wk_Hbt 73 rfl (wk_ceq.2 hc) ?_
      refine wk_Hs 1 74 ⟨rfl, rfl⟩ (ls' := [.ref 0, w1, .int x2, .int x3, .int (x4 + (1 : Int32))]) (st' := []) (σ' := s) rfl ?_
      refine wk_Hgoto (t := 37) rfl ?_
      cases h
      exact hk
    · refine wk_Hbf 73 46 rfl rfl (wk_nf wk_ceq hc) ?_
      refine wk_Hs 3 49 ⟨rfl, rfl⟩ (ls' := [.ref 0, w1, .int x2, .int x3, .int x4]) (st' := [.int x4, .ref 28]) (σ' := s) rfl ?_
      obtain ⟨hg, h⟩ := wk_gdE h
      refine wk_Hia 50 rfl rfl rfl hg rfl ?_
      refine wk_Hs 1 51 ⟨rfl, rfl⟩ (ls' := [.ref 0, w1, .int x2, .int x3, .int x4]) (st' := [.int (-1 : Int32), .int (s.1 28 (x4.toNatClampNeg))]) (σ' := s) rfl ?_
      rcases wk_ife h with ⟨hc, h⟩ | ⟨hc, h⟩
      · refine wk_Hbt 53 rfl (wk_cne.2 hc) ?_
        refine wk_Hs 3 56 ⟨rfl, rfl⟩ (ls' := [.ref 0, w1, .int x2, .int x3, .int x4]) (st' := [.int x4, .ref 5]) (σ' := s) rfl ?_
        obtain ⟨hg, h⟩ := wk_gdE h
        refine wk_Hia 57 rfl rfl rfl hg rfl ?_
        refine wk_Hs 3 60 ⟨rfl, rfl⟩ (ls' := [.ref 0, w1, .int x2, .int x3, .int x4]) (st' := [.int x4, .ref 28, .int (s.1 5 (x4.toNatClampNeg))]) (σ' := s) rfl ?_
        obtain ⟨hg, h⟩ := wk_gdE h
        refine wk_Hia 61 rfl rfl rfl hg rfl ?_
        refine wk_Hs 4 65 ⟨rfl, rfl⟩ (ls' := [.ref 0, w1, .int x2, .int x3, .int x4]) (st' := [.int x2, .ref 5, .int ((s.1 5 (x4.toNatClampNeg)) + (s.1 28 (x4.toNatClampNeg)))]) (σ' := s) rfl ?_
        obtain ⟨hg, h⟩ := wk_gdE h
        refine wk_Hia 66 rfl rfl rfl hg rfl ?_
        rcases wk_ife h with ⟨hc, h⟩ | ⟨hc, h⟩
        · refine wk_Hbt 73 rfl (wk_cne.2 hc) ?_
          refine wk_Hs 1 74 ⟨rfl, rfl⟩ (ls' := [.ref 0, w1, .int x2, .int x3, .int (x4 + (1 : Int32))]) (st' := []) (σ' := s) rfl ?_
          refine wk_Hgoto (t := 37) rfl ?_
          cases h
          exact hk
        · refine wk_Hbf 73 67 rfl rfl (wk_nf wk_cne hc) ?_
          refine wk_Hs 5 72 ⟨rfl, rfl⟩ (ls' := [.ref 0, w1, .int x2, .int x3, .int x4]) (st' := [.int (x3 ||| ((1 : Int32) <<< (x4 &&& 31)))]) (σ' := s) rfl ?_
          replace h := wk_letE h
          refine wk_Hs 2 74 ⟨rfl, rfl⟩ (ls' := [.ref 0, w1, .int x2, .int (x3 ||| ((1 : Int32) <<< (x4 &&& 31))), .int (x4 + (1 : Int32))]) (st' := []) (σ' := s) rfl ?_
          refine wk_Hgoto (t := 37) rfl ?_
          cases h
          exact hk
      · refine wk_Hbf 53 52 rfl rfl (wk_nf wk_cne hc) ?_
        refine wk_Hgoto (t := 73) rfl ?_
        refine wk_Hs 1 74 ⟨rfl, rfl⟩ (ls' := [.ref 0, w1, .int x2, .int x3, .int (x4 + (1 : Int32))]) (st' := []) (σ' := s) rfl ?_
        refine wk_Hgoto (t := 37) rfl ?_
        cases h
        exact hk
set_option maxHeartbeats 4000000 in
set_option maxRecDepth 20000 in
theorem tl_S_X12_between_37 {x2 : Int32} {w1 : Value} {z : wk_R} (n : Nat) : ∀ {x3 : Int32} {x4 : Int32} {s : wk_St} {a : Int32 × wk_St} (h : wk_loop (S_X12_between_37 x2) n (x3, x4, s) = some a) (hk : ∀ (u4 : Value), wk_H wk_shM 2 mc_X12_between 75 [.ref 0, w1, .int x2, .int a.1, u4] [] a.2 z), wk_H wk_shM 2 mc_X12_between 37 [.ref 0, w1, .int x2, .int x3, .int x4] [] s z := by
  induction n with
  | zero =>
    intros
    rename_i h _
    exact nomatch (show (none : Option _) = some _ from h)
  | succ n ih =>
    intros
    rename_i h hk
    obtain ⟨o, ho, h⟩ := wk_bindE (show Option.bind _ _ = some _ from h)
    refine ts_S_X12_between_37 ho ?_
    cases o with
    | inl a1 =>
      cases h
      exact hk
    | inr p =>
      obtain ⟨p0, p1, p2⟩ := p
      exact ih h hk
set_option maxHeartbeats 4000000 in
set_option maxRecDepth 20000 in
theorem t_X12_between {x1 : Int32} {x2 : Int32} {s : wk_St} {r : Int32 × wk_St} (h : f_X12_between x1 x2 s = some r) : wk_T wk_shM 2 121 [.ref 0, .int x1, .int x2] s (some (.int r.1), r.2) := by
  suffices H : ∀ z, z = (some (.int r.1), r.2) → wk_H wk_shM 2 mc_X12_between 0 [.ref 0, .int x1, .int x2, wk_U, wk_U] [] s z from H _ rfl
  intro z hk
  dsimp only [f_X12_between] at h
  refine wk_Hs 2 2 ⟨rfl, rfl⟩ (ls' := [.ref 0, .int x1, .int x2, wk_U, wk_U]) (st' := [.int x1, .ref 0]) (σ' := s) rfl ?_
  refine wk_Hcall (i2 := 3) (args := [.ref 0, .int x1]) (rest := []) (r := some (.int (b2i (f_X12_isPlace x1 s)))) (σ1 := s) rfl rfl ⟨rfl, rfl, rfl, rfl, rfl⟩ rfl ((t_X12_isPlace rfl).up (by decide)) ?_
  rcases wk_ife h with ⟨hc, h⟩ | ⟨hc, h⟩
  · refine wk_H0t 8 rfl (wk_zeq.2 hc) ?_
    refine wk_Hs 1 9 ⟨rfl, rfl⟩ (ls' := [.ref 0, .int x1, .int x2, wk_U, wk_U]) (st' := [.int (-1 : Int32)]) (σ' := s) rfl ?_
    cases h
    exact wk_eqz hk (wk_Hret rfl)
  · refine wk_H0f 8 4 rfl rfl (wk_nf wk_zeq hc) ?_
    refine wk_Hs 2 6 ⟨rfl, rfl⟩ (ls' := [.ref 0, .int x1, .int x2, wk_U, wk_U]) (st' := [.int x2, .ref 0]) (σ' := s) rfl ?_
    refine wk_Hcall (i2 := 7) (args := [.ref 0, .int x2]) (rest := []) (r := some (.int (b2i (f_X12_isPlace x2 s)))) (σ1 := s) rfl rfl ⟨rfl, rfl, rfl, rfl, rfl⟩ rfl ((t_X12_isPlace rfl).up (by decide)) ?_
    rcases wk_ife h with ⟨hc, h⟩ | ⟨hc, h⟩
    · refine wk_H0t 10 rfl (wk_zne.2 hc) ?_
      refine wk_Hs 2 12 ⟨rfl, rfl⟩ (ls' := [.ref 0, .int x1, .int x2, wk_U, wk_U]) (st' := [.int x2, .ref 0]) (σ' := s) rfl ?_
      obtain ⟨v3, hv3, h⟩ := wk_bindE h
      refine wk_Hcall (i2 := 13) (args := [.ref 0, .int x2]) (rest := []) (r := some (.int v3.1)) (σ1 := v3.2) rfl rfl ⟨rfl, rfl, rfl, rfl, rfl⟩ rfl ((t_X12_laysSteps hv3).up (by decide)) ?_
      refine wk_Hs 3 16 ⟨rfl, rfl⟩ (ls' := [.ref 0, .int x1, .int x2, .int (0 : Int32), wk_U]) (st' := []) (σ' := v3.2) rfl ?_
      obtain ⟨v4, hv4, h⟩ := wk_bindE h
      refine tl_S_X12_between_16 wk_F hv4 ?_
      intro g5
      refine wk_Hs 2 31 ⟨rfl, rfl⟩ (ls' := [.ref 0, .int x1, .int x2, g5, wk_U]) (st' := [.int x1, .ref 0]) (σ' := v4) rfl ?_
      obtain ⟨v6, hv6, h⟩ := wk_bindE h
      refine wk_Hcall (i2 := 32) (args := [.ref 0, .int x1]) (rest := []) (r := some (.int v6.1)) (σ1 := v6.2) rfl rfl ⟨rfl, rfl, rfl, rfl, rfl⟩ rfl ((t_X12_laysSteps hv6).up (by decide)) ?_
      refine wk_Hs 5 37 ⟨rfl, rfl⟩ (ls' := [.ref 0, .int x1, .int x2, .int (0 : Int32), .int (0 : Int32)]) (st' := []) (σ' := v6.2) rfl ?_
      obtain ⟨v8, hv8, h⟩ := wk_bindE h
      refine tl_S_X12_between_37 wk_F hv8 ?_
      intro g9
      refine wk_Hs 1 76 ⟨rfl, rfl⟩ (ls' := [.ref 0, .int x1, .int x2, .int v8.1, g9]) (st' := [.int v8.1]) (σ' := v8.2) rfl ?_
      cases h
      exact wk_eqz hk (wk_Hret rfl)
    · refine wk_H0f 10 8 rfl rfl (wk_nf wk_zne hc) ?_
      refine wk_Hs 1 9 ⟨rfl, rfl⟩ (ls' := [.ref 0, .int x1, .int x2, wk_U, wk_U]) (st' := [.int (-1 : Int32)]) (σ' := s) rfl ?_
      cases h
      exact wk_eqz hk (wk_Hret rfl)
set_option maxHeartbeats 4000000 in
set_option maxRecDepth 20000 in
theorem tj_j_X12_readsSeen_45_l6 {x1 : Int32} {x2 : Int32} {x3 : Int32} {s : wk_St} {z : wk_R} {o : ((Bool × wk_St) ⊕ (wk_St)) ⊕ (wk_St)} (h : j_X12_readsSeen_45_l6 x1 x2 x3 s = some o) (hk : match (generalizing := false) o with | Sum.inl a => (match (generalizing := false) a with | Sum.inl r => z = (some (.int (b2i r.1)), r.2) | Sum.inr y => ∀ (u2 u3 : Value), wk_H wk_shM 2 mc_X12_readsSeen 65 [.ref 0, .int x1, u2, u3] [] y z) | Sum.inr y => ∀ (u2 u3 : Value), wk_H wk_shM 2 mc_X12_readsSeen 6 [.ref 0, .int x1, u2, u3] [] y z) : wk_H wk_shM 2 mc_X12_readsSeen 45 [.ref 0, .int x1, .int x2, .int x3] [] s z := by
  dsimp only [j_X12_readsSeen_45_l6] at h
  refine wk_Hs 2 47 ⟨rfl, rfl⟩ (ls' := [.ref 0, .int x1, .int x2, .int x3]) (st' := [.int (63 : Int32), .int x2]) (σ' := s) rfl ?_
  rcases wk_ife h with ⟨hc, h⟩ | ⟨hc, h⟩
  · refine wk_Hbt 58 rfl (wk_ceq.2 hc) ?_
    refine wk_Hs 6 64 ⟨rfl, rfl⟩ (ls' := [.ref 0, .int x1, .int x2, .int x3]) (st' := []) (σ' := (wk_si s 0 10 ((s.1 0 10) + (1 : Int32)))) rfl ?_
    refine wk_Hgoto (t := 6) rfl ?_
    cases h
    exact hk _ _
  · refine wk_Hbf 58 48 rfl rfl (wk_nf wk_ceq hc) ?_
    refine wk_Hs 2 50 ⟨rfl, rfl⟩ (ls' := [.ref 0, .int x1, .int x2, .int x3]) (st' := [.int x3, .ref 0]) (σ' := s) rfl ?_
    refine wk_Hcall (i2 := 51) (args := [.ref 0, .int x3]) (rest := []) (r := some (.int (b2i (f_X12_isPlace x3 s)))) (σ1 := s) rfl rfl ⟨rfl, rfl, rfl, rfl, rfl⟩ rfl ((t_X12_isPlace rfl).up (by decide)) ?_
    rcases wk_ife h with ⟨hc, h⟩ | ⟨hc, h⟩
    · refine wk_H0t 58 rfl (wk_zne.2 hc) ?_
      refine wk_Hs 6 64 ⟨rfl, rfl⟩ (ls' := [.ref 0, .int x1, .int x2, .int x3]) (st' := []) (σ' := (wk_si s 0 10 ((s.1 0 10) + (1 : Int32)))) rfl ?_
      refine wk_Hgoto (t := 6) rfl ?_
      cases h
      exact hk _ _
    · refine wk_H0f 58 52 rfl rfl (wk_nf wk_zne hc) ?_
      refine wk_Hs 4 56 ⟨rfl, rfl⟩ (ls' := [.ref 0, .int x1, .int x2, .int x3]) (st' := [.int (s.1 0 10), .int (7 : Int32), .ref 0]) (σ' := s) rfl ?_
      replace h := wk_letE h
      refine wk_Hcall (i2 := 57) (args := [.ref 0, .int (7 : Int32), .int (s.1 0 10)]) (rest := []) (r := some (.int (b2i ((f_X12_wrongAt (7 : Int32) (s.1 0 10) s).1)))) (σ1 := (f_X12_wrongAt (7 : Int32) (s.1 0 10) s).2) rfl rfl ⟨rfl, rfl, rfl, rfl, rfl⟩ rfl ((t_X12_wrongAt rfl).up (by decide)) ?_
      cases h
      exact wk_eqz hk (wk_Hretz rfl (b2i_01 _))
set_option maxHeartbeats 4000000 in
set_option maxRecDepth 20000 in
theorem tj_j_X12_readsSeen_25_l6 {x1 : Int32} {x2 : Int32} {s_0 : Int32} {w3 : Value} {s : wk_St} {z : wk_R} {o : ((Bool × wk_St) ⊕ (wk_St)) ⊕ (wk_St)} (h : j_X12_readsSeen_25_l6 x1 x2 s_0 s = some o) (hk : match (generalizing := false) o with | Sum.inl a => (match (generalizing := false) a with | Sum.inl r => z = (some (.int (b2i r.1)), r.2) | Sum.inr y => ∀ (u2 u3 : Value), wk_H wk_shM 2 mc_X12_readsSeen 65 [.ref 0, .int x1, u2, u3] [] y z) | Sum.inr y => ∀ (u2 u3 : Value), wk_H wk_shM 2 mc_X12_readsSeen 6 [.ref 0, .int x1, u2, u3] [] y z) : wk_H wk_shM 2 mc_X12_readsSeen 25 [.ref 0, .int x1, .int x2, w3] [.int s_0] s z := by
  dsimp only [j_X12_readsSeen_25_l6] at h
  refine wk_Hs 3 28 ⟨rfl, rfl⟩ (ls' := [.ref 0, .int x1, .int x2, .int s_0]) (st' := [.int (63 : Int32), .int x2]) (σ' := s) rfl ?_
  rcases wk_ife h with ⟨hc, h⟩ | ⟨hc, h⟩
  · refine wk_Hbt 45 rfl (wk_ceq.2 hc) ?_
    exact tj_j_X12_readsSeen_45_l6 h hk
  · refine wk_Hbf 45 29 rfl rfl (wk_nf wk_ceq hc) ?_
    refine wk_Hs 3 32 ⟨rfl, rfl⟩ (ls' := [.ref 0, .int x1, .int x2, .int s_0]) (st' := [.int (108 : Int32), .int (97 : Int32), .int x2]) (σ' := s) rfl ?_
    refine wk_Hcall (i2 := 33) (args := [.int x2, .int (97 : Int32), .int (108 : Int32)]) (rest := []) (r := some (.int (b2i (f_X12_in x2 (97 : Int32) (108 : Int32))))) (σ1 := s) rfl rfl ⟨rfl, rfl, rfl, rfl, rfl⟩ rfl ((t_X12_in rfl).up (by decide)) ?_
    rcases wk_ife h with ⟨hc, h⟩ | ⟨hc, h⟩
    · refine wk_H0t 45 rfl (wk_zne.2 hc) ?_
      exact tj_j_X12_readsSeen_45_l6 h hk
    · refine wk_H0f 45 34 rfl rfl (wk_nf wk_zne hc) ?_
      refine wk_Hs 3 37 ⟨rfl, rfl⟩ (ls' := [.ref 0, .int x1, .int x2, .int s_0]) (st' := [.int (76 : Int32), .int (65 : Int32), .int x2]) (σ' := s) rfl ?_
      refine wk_Hcall (i2 := 38) (args := [.int x2, .int (65 : Int32), .int (76 : Int32)]) (rest := []) (r := some (.int (b2i (f_X12_in x2 (65 : Int32) (76 : Int32))))) (σ1 := s) rfl rfl ⟨rfl, rfl, rfl, rfl, rfl⟩ rfl ((t_X12_in rfl).up (by decide)) ?_
      rcases wk_ife h with ⟨hc, h⟩ | ⟨hc, h⟩
      · refine wk_H0t 45 rfl (wk_zne.2 hc) ?_
        exact tj_j_X12_readsSeen_45_l6 h hk
      · refine wk_H0f 45 39 rfl rfl (wk_nf wk_zne hc) ?_
        refine wk_Hs 4 43 ⟨rfl, rfl⟩ (ls' := [.ref 0, .int x1, .int x2, .int s_0]) (st' := [.int (s.1 0 10), .int (1 : Int32), .ref 0]) (σ' := s) rfl ?_
        replace h := wk_letE h
        refine wk_Hcall (i2 := 44) (args := [.ref 0, .int (1 : Int32), .int (s.1 0 10)]) (rest := []) (r := some (.int (b2i ((f_X12_wrongAt (1 : Int32) (s.1 0 10) s).1)))) (σ1 := (f_X12_wrongAt (1 : Int32) (s.1 0 10) s).2) rfl rfl ⟨rfl, rfl, rfl, rfl, rfl⟩ rfl ((t_X12_wrongAt rfl).up (by decide)) ?_
        cases h
        exact wk_eqz hk (wk_Hretz rfl (b2i_01 _))
set_option maxHeartbeats 4000000 in
set_option maxRecDepth 20000 in
theorem ts_S_X12_readsSeen_6 {x1 : Int32} {w2 : Value} {w3 : Value} {s : wk_St} {z : wk_R} {o : ((Bool × wk_St) ⊕ (wk_St)) ⊕ (wk_St)} (h : S_X12_readsSeen_6 x1 s = some o) (hk : match (generalizing := false) o with | Sum.inl a => (match (generalizing := false) a with | Sum.inl r => z = (some (.int (b2i r.1)), r.2) | Sum.inr y => ∀ (u2 u3 : Value), wk_H wk_shM 2 mc_X12_readsSeen 65 [.ref 0, .int x1, u2, u3] [] y z) | Sum.inr y => ∀ (u2 u3 : Value), wk_H wk_shM 2 mc_X12_readsSeen 6 [.ref 0, .int x1, u2, u3] [] y z) : wk_H wk_shM 2 mc_X12_readsSeen 6 [.ref 0, .int x1, w2, w3] [] s z := by
  dsimp only [S_X12_readsSeen_6] at h
  refine wk_Hs 3 9 ⟨rfl, rfl⟩ (ls' := [.ref 0, .int x1, w2, w3]) (st' := [.int x1, .int (s.1 0 10)]) (σ' := s) rfl ?_
  rcases wk_ife h with ⟨hc, h⟩ | ⟨hc, h⟩
  · refine wk_Hbt 65 rfl (wk_cge.2 hc) ?_
    cases h
    exact hk _ _
  · refine wk_Hbf 65 10 rfl rfl (wk_nf wk_cge hc) ?_
    refine wk_Hs 1 11 ⟨rfl, rfl⟩ (ls' := [.ref 0, .int x1, w2, w3]) (st' := [.ref 0]) (σ' := s) rfl ?_
    obtain ⟨v1, hv1, h⟩ := wk_bindE h
    refine wk_Hcall (i2 := 12) (args := [.ref 0]) (rest := []) (r := some (.int v1)) (σ1 := s) rfl rfl ⟨rfl, rfl, rfl, rfl, rfl⟩ rfl ((t_X12_here hv1).up (by decide)) ?_
    refine wk_Hs 4 16 ⟨rfl, rfl⟩ (ls' := [.ref 0, .int x1, .int v1, w3]) (st' := [.int (108 : Int32), .int (97 : Int32), .int v1]) (σ' := s) rfl ?_
    refine wk_Hcall (i2 := 17) (args := [.int v1, .int (97 : Int32), .int (108 : Int32)]) (rest := []) (r := some (.int (b2i (f_X12_in v1 (97 : Int32) (108 : Int32))))) (σ1 := s) rfl rfl ⟨rfl, rfl, rfl, rfl, rfl⟩ rfl ((t_X12_in rfl).up (by decide)) ?_
    rcases wk_ife h with ⟨hc, h⟩ | ⟨hc, h⟩
    · refine wk_H0t 22 rfl (wk_zeq.2 hc) ?_
      refine wk_Hs 3 25 ⟨rfl, rfl⟩ (ls' := [.ref 0, .int x1, .int v1, w3]) (st' := [.int (v1 - (65 : Int32))]) (σ' := s) rfl ?_
      exact tj_j_X12_readsSeen_25_l6 h hk
    · refine wk_H0f 22 18 rfl rfl (wk_nf wk_zeq hc) ?_
      refine wk_Hs 3 21 ⟨rfl, rfl⟩ (ls' := [.ref 0, .int x1, .int v1, w3]) (st' := [.int (v1 - (97 : Int32))]) (σ' := s) rfl ?_
      refine wk_Hgoto (t := 25) rfl ?_
      exact tj_j_X12_readsSeen_25_l6 h hk
set_option maxHeartbeats 4000000 in
set_option maxRecDepth 20000 in
theorem tl_S_X12_readsSeen_6 {x1 : Int32} {z : wk_R} (n : Nat) : ∀ {w2 : Value} {w3 : Value} {s : wk_St} {a : (Bool × wk_St) ⊕ (wk_St)} (h : wk_loop (S_X12_readsSeen_6 x1) n s = some a) (hk : match (generalizing := false) a with | Sum.inl r => z = (some (.int (b2i r.1)), r.2) | Sum.inr y => ∀ (u2 u3 : Value), wk_H wk_shM 2 mc_X12_readsSeen 65 [.ref 0, .int x1, u2, u3] [] y z), wk_H wk_shM 2 mc_X12_readsSeen 6 [.ref 0, .int x1, w2, w3] [] s z := by
  induction n with
  | zero =>
    intros
    rename_i h _
    exact nomatch (show (none : Option _) = some _ from h)
  | succ n ih =>
    intros
    rename_i h hk
    obtain ⟨o, ho, h⟩ := wk_bindE (show Option.bind _ _ = some _ from h)
    refine ts_S_X12_readsSeen_6 ho ?_
    cases o with
    | inl a1 =>
      cases h
      exact hk
    | inr p =>
      exact fun _ _ => ih h hk
set_option maxHeartbeats 4000000 in
set_option maxRecDepth 20000 in
theorem t_X12_readsSeen {x1 : Int32} {s : wk_St} {r : Bool × wk_St} (h : f_X12_readsSeen x1 s = some r) : wk_T wk_shM 2 122 [.ref 0, .int x1] s (some (.int (b2i r.1)), r.2) := by
  suffices H : ∀ z, z = (some (.int (b2i r.1)), r.2) → wk_H wk_shM 2 mc_X12_readsSeen 0 [.ref 0, .int x1, wk_U, wk_U] [] s z from H _ rfl
  intro z hk
  dsimp only [f_X12_readsSeen] at h
  refine wk_Hs 6 6 ⟨rfl, rfl⟩ (ls' := [.ref 0, .int x1, wk_U, wk_U]) (st' := []) (σ' := (wk_si (wk_si s 0 10 (0 : Int32)) 0 11 x1)) rfl ?_
  obtain ⟨v8, hv8, h⟩ := wk_bindE h
  rcases v8 with v8r | v8
  · cases h
    exact tl_S_X12_readsSeen_6 wk_F hv8 hk
  · refine tl_S_X12_readsSeen_6 wk_F hv8 ?_
    intro g9 g10
    dsimp only at h ⊢
    refine wk_Hs 1 66 ⟨rfl, rfl⟩ (ls' := [.ref 0, .int x1, g9, g10]) (st' := [.int (1 : Int32)]) (σ' := v8) rfl ?_
    cases h
    exact wk_eqz hk (wk_Hretz rfl (b2i_01 true))
set_option maxHeartbeats 4000000 in
set_option maxRecDepth 20000 in
theorem t_X12_fitsSeen {x0 : Int32} {x1 : Int32} {s : wk_St} {r : Bool} (h : f_X12_fitsSeen x0 x1 = r) : wk_T wk_shM 1 123 [.int x0, .int x1] s (some (.int (b2i r)), s) := by
  suffices H : ∀ z, z = (some (.int (b2i r)), s) → wk_H wk_shM 1 mc_X12_fitsSeen 0 [.int x0, .int x1] [] s z from H _ rfl
  intro z hk
  dsimp only [f_X12_fitsSeen] at h
  refine wk_Hs 2 2 ⟨rfl, rfl⟩ (ls' := [.int x0, .int x1]) (st' := [.int (63 : Int32), .int x0]) (σ' := s) rfl ?_
  rcases wk_ife h with ⟨hc, h⟩ | ⟨hc, h⟩
  · refine wk_Hbt 5 rfl (wk_cne.2 hc) ?_
    refine wk_Hs 3 8 ⟨rfl, rfl⟩ (ls' := [.int x0, .int x1]) (st' := [.int (108 : Int32), .int (97 : Int32), .int x0]) (σ' := s) rfl ?_
    refine wk_Hcall (i2 := 9) (args := [.int x0, .int (97 : Int32), .int (108 : Int32)]) (rest := []) (r := some (.int (b2i (f_X12_in x0 (97 : Int32) (108 : Int32))))) (σ1 := s) rfl rfl ⟨rfl, rfl, rfl, rfl, rfl⟩ rfl ((t_X12_in rfl).up (by decide)) ?_
    rcases wk_ife h with ⟨hc, h⟩ | ⟨hc, h⟩
    · refine wk_H0t 19 rfl (wk_zeq.2 hc) ?_
      refine wk_Hs 4 23 ⟨rfl, rfl⟩ (ls' := [.int x0, .int x1]) (st' := [.int x1, .int (x0 - (65 : Int32))]) (σ' := s) rfl ?_
      rcases wk_ife h with ⟨hc, h⟩ | ⟨hc, h⟩
      · refine wk_Hbt 26 rfl (wk_ceq.2 hc) ?_
        refine wk_Hs 1 27 ⟨rfl, rfl⟩ (ls' := [.int x0, .int x1]) (st' := [.int (0 : Int32)]) (σ' := s) rfl ?_
        cases h
        exact wk_eqz hk (wk_Hretz rfl (b2i_01 false))
      · refine wk_Hbf 26 24 rfl rfl (wk_nf wk_ceq hc) ?_
        refine wk_Hs 1 25 ⟨rfl, rfl⟩ (ls' := [.int x0, .int x1]) (st' := [.int (1 : Int32)]) (σ' := s) rfl ?_
        refine wk_Hgoto (t := 27) rfl ?_
        cases h
        exact wk_eqz hk (wk_Hretz rfl (b2i_01 true))
    · refine wk_H0f 19 10 rfl rfl (wk_nf wk_zeq hc) ?_
      refine wk_Hs 4 14 ⟨rfl, rfl⟩ (ls' := [.int x0, .int x1]) (st' := [.int x1, .int (x0 - (97 : Int32))]) (σ' := s) rfl ?_
      rcases wk_ife h with ⟨hc, h⟩ | ⟨hc, h⟩
      · refine wk_Hbt 17 rfl (wk_cne.2 hc) ?_
        refine wk_Hs 1 18 ⟨rfl, rfl⟩ (ls' := [.int x0, .int x1]) (st' := [.int (0 : Int32)]) (σ' := s) rfl ?_
        refine wk_Hgoto (t := 27) rfl ?_
        cases h
        exact wk_eqz hk (wk_Hretz rfl (b2i_01 false))
      · refine wk_Hbf 17 15 rfl rfl (wk_nf wk_cne hc) ?_
        refine wk_Hs 1 16 ⟨rfl, rfl⟩ (ls' := [.int x0, .int x1]) (st' := [.int (1 : Int32)]) (σ' := s) rfl ?_
        refine wk_Hgoto (t := 27) rfl ?_
        cases h
        exact wk_eqz hk (wk_Hretz rfl (b2i_01 true))
  · refine wk_Hbf 5 3 rfl rfl (wk_nf wk_cne hc) ?_
    refine wk_Hs 1 4 ⟨rfl, rfl⟩ (ls' := [.int x0, .int x1]) (st' := [.int (1 : Int32)]) (σ' := s) rfl ?_
    cases h
    exact wk_eqz hk (wk_Hretz rfl (b2i_01 true))
set_option maxHeartbeats 4000000 in
set_option maxRecDepth 20000 in
theorem ts_S_X12_boots_34 {x1 : Int32} {x2 : Int32} {x3 : Int32} {x5 : Int32} {w4 : Value} {w6 : Value} {w7 : Value} {s : wk_St} {z : wk_R} {o : (wk_St) ⊕ (Int32 × wk_St)} (h : S_X12_boots_34 x1 x2 x3 (x5, s) = some o) (hk : match (generalizing := false) o with | Sum.inl a => (∀ (u4 u5 : Value), wk_H wk_shM 3 mc_X12_boots 49 [.ref 0, .int x1, .int x2, .int x3, u4, u5, w6, w7] [] a z) | Sum.inr y => ∀ (u4 : Value), wk_H wk_shM 3 mc_X12_boots 34 [.ref 0, .int x1, .int x2, .int x3, u4, .int y.1, w6, w7] [] y.2 z) : wk_H wk_shM 3 mc_X12_boots 34 [.ref 0, .int x1, .int x2, .int x3, w4, .int x5, w6, w7] [] s z := by
  dsimp only [S_X12_boots_34] at h
  refine wk_Hs 2 36 ⟨rfl, rfl⟩ (ls' := [.ref 0, .int x1, .int x2, .int x3, w4, .int x5, w6, w7]) (st' := [.int (12 : Int32), .int x5]) (σ' := s) rfl ?_
  rcases wk_ife h with ⟨hc, h⟩ | ⟨hc, h⟩
  · refine wk_Hbt 49 rfl (wk_cge.2 hc) ?_
    cases h
    exact hk _ _
  · refine wk_Hbf 49 37 rfl rfl (wk_nf wk_cge hc) ?_
    refine wk_Hs 5 42 ⟨rfl, rfl⟩ (ls' := [.ref 0, .int x1, .int x2, .int x3, w4, .int x5, w6, w7]) (st' := [.int x1, .int x5, .int x5, .ref 29]) (σ' := s) rfl ?_
    rcases wk_ife h with ⟨hc, h⟩ | ⟨hc, h⟩
    · refine wk_Hbt 45 rfl (wk_cne.2 hc) ?_
      refine wk_Hs 1 46 ⟨rfl, rfl⟩ (ls' := [.ref 0, .int x1, .int x2, .int x3, w4, .int x5, w6, w7]) (st' := [.int (0 : Int32), .int x5, .ref 29]) (σ' := s) rfl ?_
      obtain ⟨hg, h⟩ := wk_gdE h
      refine wk_Hias 47 rfl rfl rfl hg rfl ?_
      refine wk_Hs 1 48 ⟨rfl, rfl⟩ (ls' := [.ref 0, .int x1, .int x2, .int x3, (wk_cl w4), .int (x5 + (1 : Int32)), w6, w7]) (st' := []) (σ' := (wk_si s 29 (x5.toNatClampNeg) (0 : Int32))) rfl ?_
      refine wk_Hgoto (t := 34) rfl ?_
      cases h
      exact hk _
    · refine wk_Hbf 45 43 rfl rfl (wk_nf wk_cne hc) ?_
      refine wk_Hs 1 44 ⟨rfl, rfl⟩ (ls' := [.ref 0, .int x1, .int x2, .int x3, w4, .int x5, w6, w7]) (st' := [.int (1 : Int32), .int x5, .ref 29]) (σ' := s) rfl ?_
      refine wk_Hgoto (t := 46) rfl ?_
      obtain ⟨hg, h⟩ := wk_gdE h
      refine wk_Hias 47 rfl rfl rfl hg rfl ?_
      refine wk_Hs 1 48 ⟨rfl, rfl⟩ (ls' := [.ref 0, .int x1, .int x2, .int x3, (wk_cl w4), .int (x5 + (1 : Int32)), w6, w7]) (st' := []) (σ' := (wk_si s 29 (x5.toNatClampNeg) (1 : Int32))) rfl ?_
      refine wk_Hgoto (t := 34) rfl ?_
      cases h
      exact hk _
set_option maxHeartbeats 4000000 in
set_option maxRecDepth 20000 in
theorem tl_S_X12_boots_34 {x1 : Int32} {x2 : Int32} {x3 : Int32} {w6 : Value} {w7 : Value} {z : wk_R} (n : Nat) : ∀ {x5 : Int32} {w4 : Value} {s : wk_St} {a : wk_St} (h : wk_loop (S_X12_boots_34 x1 x2 x3) n (x5, s) = some a) (hk : ∀ (u4 u5 : Value), wk_H wk_shM 3 mc_X12_boots 49 [.ref 0, .int x1, .int x2, .int x3, u4, u5, w6, w7] [] a z), wk_H wk_shM 3 mc_X12_boots 34 [.ref 0, .int x1, .int x2, .int x3, w4, .int x5, w6, w7] [] s z := by
  induction n with
  | zero =>
    intros
    rename_i h _
    exact nomatch (show (none : Option _) = some _ from h)
  | succ n ih =>
    intros
    rename_i h hk
    obtain ⟨o, ho, h⟩ := wk_bindE (show Option.bind _ _ = some _ from h)
    refine ts_S_X12_boots_34 ho ?_
    cases o with
    | inl a1 =>
      cases h
      exact hk
    | inr p =>
      obtain ⟨p0, p1⟩ := p
      exact fun _ => ih h hk
set_option maxHeartbeats 4000000 in
set_option maxRecDepth 20000 in
theorem ts_S_X12_boots_66 {x2 : Int32} {x3 : Int32} {x5 : Int32} {x6 : Int32} {x7 : Int32} {w1 : Value} {w4 : Value} {s : wk_St} {z : wk_R} {o : (wk_St) ⊕ (Int32 × wk_St)} (h : S_X12_boots_66 x2 x3 x5 x6 (x7, s) = some o) (hk : match (generalizing := false) o with | Sum.inl a => (∀ (u7 : Value), wk_H wk_shM 3 mc_X12_boots 103 [.ref 0, w1, .int x2, .int x3, w4, .int x5, .int x6, u7] [] a z) | Sum.inr y => wk_H wk_shM 3 mc_X12_boots 66 [.ref 0, w1, .int x2, .int x3, w4, .int x5, .int x6, .int y.1] [] y.2 z) : wk_H wk_shM 3 mc_X12_boots 66 [.ref 0, w1, .int x2, .int x3, w4, .int x5, .int x6, .int x7] [] s z := by
  dsimp only [S_X12_boots_66] at h
  refine wk_Hs 2 68 ⟨rfl, rfl⟩ (ls' := [.ref 0, w1, .int x2, .int x3, w4, .int x5, .int x6, .int x7]) (st' := [.int (12 : Int32), .int x7]) (σ' := s) rfl ?_
  rcases wk_ife h with ⟨hc, h⟩ | ⟨hc, h⟩
  · refine wk_Hbt 103 rfl (wk_cge.2 hc) ?_
    cases h
    exact hk _
  · refine wk_Hbf 103 69 rfl rfl (wk_nf wk_cge hc) ?_
    refine wk_Hs 3 72 ⟨rfl, rfl⟩ (ls' := [.ref 0, w1, .int x2, .int x3, w4, .int x5, .int x6, .int x7]) (st' := [.int x6, .ref 4]) (σ' := s) rfl ?_
    obtain ⟨hg, h⟩ := wk_gdE h
    refine wk_Hia 73 rfl rfl rfl hg rfl ?_
    refine wk_Hs 5 78 ⟨rfl, rfl⟩ (ls' := [.ref 0, w1, .int x2, .int x3, w4, .int x5, .int x6, .int x7]) (st' := [.int x7, .int ((s.1 4 (x6.toNatClampNeg)) ||| ((1 : Int32) <<< (x6 &&& 31)))]) (σ' := s) rfl ?_
    refine wk_Hcall (i2 := 79) (args := [.int ((s.1 4 (x6.toNatClampNeg)) ||| ((1 : Int32) <<< (x6 &&& 31))), .int x7]) (rest := []) (r := some (.int (b2i (f_X12_has ((s.1 4 (x6.toNatClampNeg)) ||| ((1 : Int32) <<< (x6 &&& 31))) x7)))) (σ1 := s) rfl rfl ⟨rfl, rfl, rfl, rfl, rfl⟩ rfl ((t_X12_has rfl).up (by decide)) ?_
    rcases wk_ife h with ⟨hc, h⟩ | ⟨hc, h⟩
    · refine wk_H0t 101 rfl (wk_zeq.2 hc) ?_
      refine wk_Hs 1 102 ⟨rfl, rfl⟩ (ls' := [.ref 0, w1, .int x2, .int x3, w4, .int x5, .int x6, .int (x7 + (1 : Int32))]) (st' := []) (σ' := s) rfl ?_
      refine wk_Hgoto (t := 66) rfl ?_
      cases h
      exact hk
    · refine wk_H0f 101 80 rfl rfl (wk_nf wk_zeq hc) ?_
      refine wk_Hs 2 82 ⟨rfl, rfl⟩ (ls' := [.ref 0, w1, .int x2, .int x3, w4, .int x5, .int x6, .int x7]) (st' := [.int x5, .ref 0]) (σ' := s) rfl ?_
      obtain ⟨v9, hv9, h⟩ := wk_bindE h
      refine wk_Hcall (i2 := 83) (args := [.ref 0, .int x5]) (rest := []) (r := some (.int v9)) (σ1 := s) rfl rfl ⟨rfl, rfl, rfl, rfl, rfl⟩ rfl ((t_X12_octet hv9).up (by decide)) ?_
      refine wk_Hs 1 84 ⟨rfl, rfl⟩ (ls' := [.ref 0, w1, .int x2, .int x3, w4, .int x5, .int x6, .int x7]) (st' := [.int x6, .int v9]) (σ' := s) rfl ?_
      refine wk_Hcall (i2 := 85) (args := [.int v9, .int x6]) (rest := []) (r := some (.int (b2i (f_X12_fitsSeen v9 x6)))) (σ1 := s) rfl rfl ⟨rfl, rfl, rfl, rfl, rfl⟩ rfl ((t_X12_fitsSeen rfl).up (by decide)) ?_
      rcases wk_ife h with ⟨hc, h⟩ | ⟨hc, h⟩
      · refine wk_H0t 101 rfl (wk_zeq.2 hc) ?_
        refine wk_Hs 1 102 ⟨rfl, rfl⟩ (ls' := [.ref 0, w1, .int x2, .int x3, w4, .int x5, .int x6, .int (x7 + (1 : Int32))]) (st' := []) (σ' := s) rfl ?_
        refine wk_Hgoto (t := 66) rfl ?_
        cases h
        exact hk
      · refine wk_H0f 101 86 rfl rfl (wk_nf wk_zeq hc) ?_
        refine wk_Hs 7 93 ⟨rfl, rfl⟩ (ls' := [.ref 0, w1, .int x2, .int x3, w4, .int x5, .int x6, .int x7]) (st' := [.int x6, .ref 30, .int (1000000000 : Int32), .int x6, .ref 30]) (σ' := s) rfl ?_
        obtain ⟨hg, h⟩ := wk_gdE h
        refine wk_Hia 94 rfl rfl rfl hg rfl ?_
        refine wk_Hs 3 97 ⟨rfl, rfl⟩ (ls' := [.ref 0, w1, .int x2, .int x3, w4, .int x5, .int x6, .int x7]) (st' := [.int x7, .ref 29, .int (s.1 30 (x6.toNatClampNeg)), .int (1000000000 : Int32), .int x6, .ref 30]) (σ' := s) rfl ?_
        obtain ⟨hg, h⟩ := wk_gdE h
        refine wk_Hia 98 rfl rfl rfl hg rfl ?_
        refine wk_Hs 1 99 ⟨rfl, rfl⟩ (ls' := [.ref 0, w1, .int x2, .int x3, w4, .int x5, .int x6, .int x7]) (st' := [.int ((s.1 30 (x6.toNatClampNeg)) + (s.1 29 (x7.toNatClampNeg))), .int (1000000000 : Int32), .int x6, .ref 30]) (σ' := s) rfl ?_
        refine wk_Hcall (i2 := 100) (args := [.int (1000000000 : Int32), .int ((s.1 30 (x6.toNatClampNeg)) + (s.1 29 (x7.toNatClampNeg)))]) (rest := [.int x6, .ref 30]) (r := some (.int (f_X12_min (1000000000 : Int32) ((s.1 30 (x6.toNatClampNeg)) + (s.1 29 (x7.toNatClampNeg)))))) (σ1 := s) rfl rfl ⟨rfl, rfl, rfl, rfl, rfl⟩ rfl ((t_X12_min rfl).up (by decide)) ?_
        obtain ⟨hg, h⟩ := wk_gdE h
        refine wk_Hias 101 rfl rfl rfl hg rfl ?_
        refine wk_Hs 1 102 ⟨rfl, rfl⟩ (ls' := [.ref 0, w1, .int x2, .int x3, w4, .int x5, .int x6, .int (x7 + (1 : Int32))]) (st' := []) (σ' := (wk_si s 30 (x6.toNatClampNeg) (f_X12_min (1000000000 : Int32) ((s.1 30 (x6.toNatClampNeg)) + (s.1 29 (x7.toNatClampNeg)))))) rfl ?_
        refine wk_Hgoto (t := 66) rfl ?_
        cases h
        exact hk
set_option maxHeartbeats 4000000 in
set_option maxRecDepth 20000 in
theorem tl_S_X12_boots_66 {x2 : Int32} {x3 : Int32} {x5 : Int32} {x6 : Int32} {w1 : Value} {w4 : Value} {z : wk_R} (n : Nat) : ∀ {x7 : Int32} {s : wk_St} {a : wk_St} (h : wk_loop (S_X12_boots_66 x2 x3 x5 x6) n (x7, s) = some a) (hk : ∀ (u7 : Value), wk_H wk_shM 3 mc_X12_boots 103 [.ref 0, w1, .int x2, .int x3, w4, .int x5, .int x6, u7] [] a z), wk_H wk_shM 3 mc_X12_boots 66 [.ref 0, w1, .int x2, .int x3, w4, .int x5, .int x6, .int x7] [] s z := by
  induction n with
  | zero =>
    intros
    rename_i h _
    exact nomatch (show (none : Option _) = some _ from h)
  | succ n ih =>
    intros
    rename_i h hk
    obtain ⟨o, ho, h⟩ := wk_bindE (show Option.bind _ _ = some _ from h)
    refine ts_S_X12_boots_66 ho ?_
    cases o with
    | inl a1 =>
      cases h
      exact hk
    | inr p =>
      obtain ⟨p0, p1⟩ := p
      exact ih h hk
set_option maxHeartbeats 4000000 in
set_option maxRecDepth 20000 in
theorem ts_S_X12_boots_56 {x2 : Int32} {x3 : Int32} {x5 : Int32} {x6 : Int32} {w1 : Value} {w4 : Value} {w7 : Value} {s : wk_St} {z : wk_R} {o : (wk_St) ⊕ (Int32 × wk_St)} (h : S_X12_boots_56 x2 x3 x5 (x6, s) = some o) (hk : match (generalizing := false) o with | Sum.inl a => (∀ (u6 u7 : Value), wk_H wk_shM 3 mc_X12_boots 105 [.ref 0, w1, .int x2, .int x3, w4, .int x5, u6, u7] [] a z) | Sum.inr y => ∀ (u7 : Value), wk_H wk_shM 3 mc_X12_boots 56 [.ref 0, w1, .int x2, .int x3, w4, .int x5, .int y.1, u7] [] y.2 z) : wk_H wk_shM 3 mc_X12_boots 56 [.ref 0, w1, .int x2, .int x3, w4, .int x5, .int x6, w7] [] s z := by
  dsimp only [S_X12_boots_56] at h
  refine wk_Hs 2 58 ⟨rfl, rfl⟩ (ls' := [.ref 0, w1, .int x2, .int x3, w4, .int x5, .int x6, w7]) (st' := [.int (12 : Int32), .int x6]) (σ' := s) rfl ?_
  rcases wk_ife h with ⟨hc, h⟩ | ⟨hc, h⟩
  · refine wk_Hbt 105 rfl (wk_cge.2 hc) ?_
    cases h
    exact hk _ _
  · refine wk_Hbf 105 59 rfl rfl (wk_nf wk_cge hc) ?_
    refine wk_Hs 4 63 ⟨rfl, rfl⟩ (ls' := [.ref 0, w1, .int x2, .int x3, w4, .int x5, .int x6, w7]) (st' := [.int (0 : Int32), .int x6, .ref 30]) (σ' := s) rfl ?_
    obtain ⟨hg, h⟩ := wk_gdE h
    refine wk_Hias 64 rfl rfl rfl hg rfl ?_
    refine wk_Hs 2 66 ⟨rfl, rfl⟩ (ls' := [.ref 0, w1, .int x2, .int x3, w4, .int x5, .int x6, .int (0 : Int32)]) (st' := []) (σ' := (wk_si s 30 (x6.toNatClampNeg) (0 : Int32))) rfl ?_
    obtain ⟨v12, hv12, h⟩ := wk_bindE h
    refine tl_S_X12_boots_66 wk_F hv12 ?_
    intro g13
    refine wk_Hs 1 104 ⟨rfl, rfl⟩ (ls' := [.ref 0, w1, .int x2, .int x3, w4, .int x5, .int (x6 + (1 : Int32)), g13]) (st' := []) (σ' := v12) rfl ?_
    refine wk_Hgoto (t := 56) rfl ?_
    cases h
    exact hk _
set_option maxHeartbeats 4000000 in
set_option maxRecDepth 20000 in
theorem tl_S_X12_boots_56 {x2 : Int32} {x3 : Int32} {x5 : Int32} {w1 : Value} {w4 : Value} {z : wk_R} (n : Nat) : ∀ {x6 : Int32} {w7 : Value} {s : wk_St} {a : wk_St} (h : wk_loop (S_X12_boots_56 x2 x3 x5) n (x6, s) = some a) (hk : ∀ (u6 u7 : Value), wk_H wk_shM 3 mc_X12_boots 105 [.ref 0, w1, .int x2, .int x3, w4, .int x5, u6, u7] [] a z), wk_H wk_shM 3 mc_X12_boots 56 [.ref 0, w1, .int x2, .int x3, w4, .int x5, .int x6, w7] [] s z := by
  induction n with
  | zero =>
    intros
    rename_i h _
    exact nomatch (show (none : Option _) = some _ from h)
  | succ n ih =>
    intros
    rename_i h hk
    obtain ⟨o, ho, h⟩ := wk_bindE (show Option.bind _ _ = some _ from h)
    refine ts_S_X12_boots_56 ho ?_
    cases o with
    | inl a1 =>
      cases h
      exact hk
    | inr p =>
      obtain ⟨p0, p1⟩ := p
      exact fun _ => ih h hk
set_option maxHeartbeats 4000000 in
set_option maxRecDepth 20000 in
theorem ts_S_X12_boots_107 {x2 : Int32} {x3 : Int32} {x5 : Int32} {x6 : Int32} {w1 : Value} {w4 : Value} {w7 : Value} {s : wk_St} {z : wk_R} {o : (wk_St) ⊕ (Int32 × wk_St)} (h : S_X12_boots_107 x2 x3 x5 (x6, s) = some o) (hk : match (generalizing := false) o with | Sum.inl a => (∀ (u6 : Value), wk_H wk_shM 3 mc_X12_boots 120 [.ref 0, w1, .int x2, .int x3, w4, .int x5, u6, w7] [] a z) | Sum.inr y => wk_H wk_shM 3 mc_X12_boots 107 [.ref 0, w1, .int x2, .int x3, w4, .int x5, .int y.1, w7] [] y.2 z) : wk_H wk_shM 3 mc_X12_boots 107 [.ref 0, w1, .int x2, .int x3, w4, .int x5, .int x6, w7] [] s z := by
  dsimp only [S_X12_boots_107] at h
  refine wk_Hs 2 109 ⟨rfl, rfl⟩ (ls' := [.ref 0, w1, .int x2, .int x3, w4, .int x5, .int x6, w7]) (st' := [.int (12 : Int32), .int x6]) (σ' := s) rfl ?_
  rcases wk_ife h with ⟨hc, h⟩ | ⟨hc, h⟩
  · refine wk_Hbt 120 rfl (wk_cge.2 hc) ?_
    cases h
    exact hk _
  · refine wk_Hbf 120 110 rfl rfl (wk_nf wk_cge hc) ?_
    refine wk_Hs 6 116 ⟨rfl, rfl⟩ (ls' := [.ref 0, w1, .int x2, .int x3, w4, .int x5, .int x6, w7]) (st' := [.int x6, .ref 30, .int x6, .ref 29]) (σ' := s) rfl ?_
    obtain ⟨hg, h⟩ := wk_gdE h
    refine wk_Hia 117 rfl rfl rfl hg rfl ?_
    obtain ⟨hg, h⟩ := wk_gdE h
    refine wk_Hias 118 rfl rfl rfl hg rfl ?_
    refine wk_Hs 1 119 ⟨rfl, rfl⟩ (ls' := [.ref 0, w1, .int x2, .int x3, w4, .int x5, .int (x6 + (1 : Int32)), w7]) (st' := []) (σ' := (wk_si s 29 (x6.toNatClampNeg) (s.1 30 (x6.toNatClampNeg)))) rfl ?_
    refine wk_Hgoto (t := 107) rfl ?_
    cases h
    exact hk
set_option maxHeartbeats 4000000 in
set_option maxRecDepth 20000 in
theorem tl_S_X12_boots_107 {x2 : Int32} {x3 : Int32} {x5 : Int32} {w1 : Value} {w4 : Value} {w7 : Value} {z : wk_R} (n : Nat) : ∀ {x6 : Int32} {s : wk_St} {a : wk_St} (h : wk_loop (S_X12_boots_107 x2 x3 x5) n (x6, s) = some a) (hk : ∀ (u6 : Value), wk_H wk_shM 3 mc_X12_boots 120 [.ref 0, w1, .int x2, .int x3, w4, .int x5, u6, w7] [] a z), wk_H wk_shM 3 mc_X12_boots 107 [.ref 0, w1, .int x2, .int x3, w4, .int x5, .int x6, w7] [] s z := by
  induction n with
  | zero =>
    intros
    rename_i h _
    exact nomatch (show (none : Option _) = some _ from h)
  | succ n ih =>
    intros
    rename_i h hk
    obtain ⟨o, ho, h⟩ := wk_bindE (show Option.bind _ _ = some _ from h)
    refine ts_S_X12_boots_107 ho ?_
    cases o with
    | inl a1 =>
      cases h
      exact hk
    | inr p =>
      obtain ⟨p0, p1⟩ := p
      exact ih h hk
set_option maxHeartbeats 4000000 in
set_option maxRecDepth 20000 in
theorem ts_S_X12_boots_51 {x2 : Int32} {x3 : Int32} {x5 : Int32} {w1 : Value} {w4 : Value} {w6 : Value} {w7 : Value} {s : wk_St} {z : wk_R} {o : (wk_St) ⊕ (Int32 × wk_St)} (h : S_X12_boots_51 x2 x3 (x5, s) = some o) (hk : match (generalizing := false) o with | Sum.inl a => (∀ (u4 u5 u6 u7 : Value), wk_H wk_shM 3 mc_X12_boots 122 [.ref 0, w1, .int x2, .int x3, u4, u5, u6, u7] [] a z) | Sum.inr y => ∀ (u4 u6 u7 : Value), wk_H wk_shM 3 mc_X12_boots 51 [.ref 0, w1, .int x2, .int x3, u4, .int y.1, u6, u7] [] y.2 z) : wk_H wk_shM 3 mc_X12_boots 51 [.ref 0, w1, .int x2, .int x3, w4, .int x5, w6, w7] [] s z := by
  dsimp only [S_X12_boots_51] at h
  refine wk_Hs 2 53 ⟨rfl, rfl⟩ (ls' := [.ref 0, w1, .int x2, .int x3, w4, .int x5, w6, w7]) (st' := [.int x2, .int x5]) (σ' := s) rfl ?_
  rcases wk_ife h with ⟨hc, h⟩ | ⟨hc, h⟩
  · refine wk_Hbt 122 rfl (wk_cge.2 hc) ?_
    cases h
    exact hk _ _ _ _
  · refine wk_Hbf 122 54 rfl rfl (wk_nf wk_cge hc) ?_
    refine wk_Hs 2 56 ⟨rfl, rfl⟩ (ls' := [.ref 0, w1, .int x2, .int x3, w4, .int x5, .int (0 : Int32), w7]) (st' := []) (σ' := s) rfl ?_
    obtain ⟨v14, hv14, h⟩ := wk_bindE h
    refine tl_S_X12_boots_56 wk_F hv14 ?_
    intro g15 g16
    refine wk_Hs 2 107 ⟨rfl, rfl⟩ (ls' := [.ref 0, w1, .int x2, .int x3, w4, .int x5, .int (0 : Int32), g16]) (st' := []) (σ' := v14) rfl ?_
    obtain ⟨v17, hv17, h⟩ := wk_bindE h
    refine tl_S_X12_boots_107 wk_F hv17 ?_
    intro g18
    refine wk_Hs 1 121 ⟨rfl, rfl⟩ (ls' := [.ref 0, w1, .int x2, .int x3, (wk_cl w4), .int (x5 + (1 : Int32)), g18, g16]) (st' := []) (σ' := v17) rfl ?_
    refine wk_Hgoto (t := 51) rfl ?_
    cases h
    exact hk _ _ _
set_option maxHeartbeats 4000000 in
set_option maxRecDepth 20000 in
theorem tl_S_X12_boots_51 {x2 : Int32} {x3 : Int32} {w1 : Value} {z : wk_R} (n : Nat) : ∀ {x5 : Int32} {w4 : Value} {w6 : Value} {w7 : Value} {s : wk_St} {a : wk_St} (h : wk_loop (S_X12_boots_51 x2 x3) n (x5, s) = some a) (hk : ∀ (u4 u5 u6 u7 : Value), wk_H wk_shM 3 mc_X12_boots 122 [.ref 0, w1, .int x2, .int x3, u4, u5, u6, u7] [] a z), wk_H wk_shM 3 mc_X12_boots 51 [.ref 0, w1, .int x2, .int x3, w4, .int x5, w6, w7] [] s z := by
  induction n with
  | zero =>
    intros
    rename_i h _
    exact nomatch (show (none : Option _) = some _ from h)
  | succ n ih =>
    intros
    rename_i h hk
    obtain ⟨o, ho, h⟩ := wk_bindE (show Option.bind _ _ = some _ from h)
    refine ts_S_X12_boots_51 ho ?_
    cases o with
    | inl a1 =>
      cases h
      exact hk
    | inr p =>
      obtain ⟨p0, p1⟩ := p
      exact fun _ _ _ => ih h hk
set_option maxHeartbeats 4000000 in
set_option maxRecDepth 20000 in
theorem tj_j_X12_boots_142_l128 {x3 : Int32} {x6 : Int32} {x7 : Int32} {s_0 : Int32} {s_1 : Int32} {w1 : Value} {w2 : Value} {w4 : Value} {w5 : Value} {s : wk_St} {z : wk_R} {o : (Int32 × Int32 × wk_St) ⊕ (Int32 × Int32 × Int32 × wk_St)} (h : j_X12_boots_142_l128 x3 x6 x7 s_0 s_1 s = some o) (hk : match (generalizing := false) o with | Sum.inl a => (∀ (u4 u7 : Value), wk_H wk_shM 3 mc_X12_boots 155 [.ref 0, w1, w2, .int x3, u4, .int a.1, .int a.2.1, u7] [] a.2.2 z) | Sum.inr y => ∀ (u4 : Value), wk_H wk_shM 3 mc_X12_boots 128 [.ref 0, w1, w2, .int x3, u4, .int y.1, .int y.2.1, .int y.2.2.1] [] y.2.2.2 z) : wk_H wk_shM 3 mc_X12_boots 142 [.ref 0, w1, w2, .int x3, w4, w5, .int x6, .int x7] [.int s_0, .int s_1] s z := by
  dsimp only [j_X12_boots_142_l128] at h
  refine wk_Hs 7 149 ⟨rfl, rfl⟩ (ls' := [.ref 0, w1, w2, .int x3, (wk_cl w4), .int (s_1 ||| s_0), .int x6, .int x7]) (st' := [.int x7, .ref 29, .int x6, .int (1000000000 : Int32)]) (σ' := s) rfl ?_
  obtain ⟨hg, h⟩ := wk_gdE h
  refine wk_Hia 150 rfl rfl rfl hg rfl ?_
  refine wk_Hs 1 151 ⟨rfl, rfl⟩ (ls' := [.ref 0, w1, w2, .int x3, (wk_cl w4), .int (s_1 ||| s_0), .int x6, .int x7]) (st' := [.int (x6 + (s.1 29 (x7.toNatClampNeg))), .int (1000000000 : Int32)]) (σ' := s) rfl ?_
  refine wk_Hcall (i2 := 152) (args := [.int (1000000000 : Int32), .int (x6 + (s.1 29 (x7.toNatClampNeg)))]) (rest := []) (r := some (.int (f_X12_min (1000000000 : Int32) (x6 + (s.1 29 (x7.toNatClampNeg)))))) (σ1 := s) rfl rfl ⟨rfl, rfl, rfl, rfl, rfl⟩ rfl ((t_X12_min rfl).up (by decide)) ?_
  replace h := wk_letE h
  refine wk_Hs 2 154 ⟨rfl, rfl⟩ (ls' := [.ref 0, w1, w2, .int x3, (wk_cl w4), .int (s_1 ||| s_0), .int (f_X12_min (1000000000 : Int32) (x6 + (s.1 29 (x7.toNatClampNeg)))), .int (x7 + (1 : Int32))]) (st' := []) (σ' := s) rfl ?_
  refine wk_Hgoto (t := 128) rfl ?_
  cases h
  exact hk _
set_option maxHeartbeats 4000000 in
set_option maxRecDepth 20000 in
theorem ts_S_X12_boots_128 {x3 : Int32} {x5 : Int32} {x6 : Int32} {x7 : Int32} {w1 : Value} {w2 : Value} {w4 : Value} {s : wk_St} {z : wk_R} {o : (Int32 × Int32 × wk_St) ⊕ (Int32 × Int32 × Int32 × wk_St)} (h : S_X12_boots_128 x3 (x5, x6, x7, s) = some o) (hk : match (generalizing := false) o with | Sum.inl a => (∀ (u4 u7 : Value), wk_H wk_shM 3 mc_X12_boots 155 [.ref 0, w1, w2, .int x3, u4, .int a.1, .int a.2.1, u7] [] a.2.2 z) | Sum.inr y => ∀ (u4 : Value), wk_H wk_shM 3 mc_X12_boots 128 [.ref 0, w1, w2, .int x3, u4, .int y.1, .int y.2.1, .int y.2.2.1] [] y.2.2.2 z) : wk_H wk_shM 3 mc_X12_boots 128 [.ref 0, w1, w2, .int x3, w4, .int x5, .int x6, .int x7] [] s z := by
  dsimp only [S_X12_boots_128] at h
  refine wk_Hs 2 130 ⟨rfl, rfl⟩ (ls' := [.ref 0, w1, w2, .int x3, w4, .int x5, .int x6, .int x7]) (st' := [.int (12 : Int32), .int x7]) (σ' := s) rfl ?_
  rcases wk_ife h with ⟨hc, h⟩ | ⟨hc, h⟩
  · refine wk_Hbt 155 rfl (wk_cge.2 hc) ?_
    cases h
    exact hk _ _
  · refine wk_Hbf 155 131 rfl rfl (wk_nf wk_cge hc) ?_
    refine wk_Hs 4 135 ⟨rfl, rfl⟩ (ls' := [.ref 0, w1, w2, .int x3, w4, .int x5, .int x6, .int x7]) (st' := [.int x7, .ref 29, .int x5]) (σ' := s) rfl ?_
    obtain ⟨hg, h⟩ := wk_gdE h
    refine wk_Hia 136 rfl rfl rfl hg rfl ?_
    rcases wk_ife h with ⟨hc, h⟩ | ⟨hc, h⟩
    · refine wk_H0t 141 rfl (wk_cle.2 hc) ?_
      refine wk_Hs 1 142 ⟨rfl, rfl⟩ (ls' := [.ref 0, w1, w2, .int x3, w4, .int x5, .int x6, .int x7]) (st' := [.int (0 : Int32), .int x5]) (σ' := s) rfl ?_
      exact tj_j_X12_boots_142_l128 h hk
    · refine wk_H0f 141 137 rfl rfl (wk_nf wk_cle hc) ?_
      refine wk_Hs 3 140 ⟨rfl, rfl⟩ (ls' := [.ref 0, w1, w2, .int x3, w4, .int x5, .int x6, .int x7]) (st' := [.int ((1 : Int32) <<< (x7 &&& 31)), .int x5]) (σ' := s) rfl ?_
      refine wk_Hgoto (t := 142) rfl ?_
      exact tj_j_X12_boots_142_l128 h hk
set_option maxHeartbeats 4000000 in
set_option maxRecDepth 20000 in
theorem tl_S_X12_boots_128 {x3 : Int32} {w1 : Value} {w2 : Value} {z : wk_R} (n : Nat) : ∀ {x5 : Int32} {x6 : Int32} {x7 : Int32} {w4 : Value} {s : wk_St} {a : Int32 × Int32 × wk_St} (h : wk_loop (S_X12_boots_128 x3) n (x5, x6, x7, s) = some a) (hk : ∀ (u4 u7 : Value), wk_H wk_shM 3 mc_X12_boots 155 [.ref 0, w1, w2, .int x3, u4, .int a.1, .int a.2.1, u7] [] a.2.2 z), wk_H wk_shM 3 mc_X12_boots 128 [.ref 0, w1, w2, .int x3, w4, .int x5, .int x6, .int x7] [] s z := by
  induction n with
  | zero =>
    intros
    rename_i h _
    exact nomatch (show (none : Option _) = some _ from h)
  | succ n ih =>
    intros
    rename_i h hk
    obtain ⟨o, ho, h⟩ := wk_bindE (show Option.bind _ _ = some _ from h)
    refine ts_S_X12_boots_128 ho ?_
    cases o with
    | inl a1 =>
      cases h
      exact hk
    | inr p =>
      obtain ⟨p0, p1, p2, p3⟩ := p
      exact fun _ => ih h hk
set_option maxHeartbeats 4000000 in
set_option maxRecDepth 20000 in
theorem t_X12_boots {x1 : Int32} {x2 : Int32} {x3 : Int32} {s : wk_St} {r : Int32 × wk_St} (h : f_X12_boots x1 x2 x3 s = some r) : wk_T wk_shM 3 124 [.ref 0, .int x1, .int x2, .int x3] s (some (.int r.1), r.2) := by
  suffices H : ∀ z, z = (some (.int r.1), r.2) → wk_H wk_shM 3 mc_X12_boots 0 [.ref 0, .int x1, .int x2, .int x3, wk_U, wk_U, wk_U, wk_U] [] s z from H _ rfl
  intro z hk
  dsimp only [f_X12_boots] at h
  refine wk_Hs 2 2 ⟨rfl, rfl⟩ (ls' := [.ref 0, .int x1, .int x2, .int x3, wk_U, wk_U, wk_U, wk_U]) (st' := [.int x1, .ref 0]) (σ' := s) rfl ?_
  refine wk_Hcall (i2 := 3) (args := [.ref 0, .int x1]) (rest := []) (r := some (.int (b2i (f_X12_isPlace x1 s)))) (σ1 := s) rfl rfl ⟨rfl, rfl, rfl, rfl, rfl⟩ rfl ((t_X12_isPlace rfl).up (by decide)) ?_
  rcases wk_ife h with ⟨hc, h⟩ | ⟨hc, h⟩
  · refine wk_H0t 18 rfl (wk_zeq.2 hc) ?_
    refine wk_Hs 1 19 ⟨rfl, rfl⟩ (ls' := [.ref 0, .int x1, .int x2, .int x3, wk_U, wk_U, wk_U, wk_U]) (st' := [.int (-1 : Int32)]) (σ' := s) rfl ?_
    cases h
    exact wk_eqz hk (wk_Hret rfl)
  · refine wk_H0f 18 4 rfl rfl (wk_nf wk_zeq hc) ?_
    refine wk_Hs 3 7 ⟨rfl, rfl⟩ (ls' := [.ref 0, .int x1, .int x2, .int x3, wk_U, wk_U, wk_U, wk_U]) (st' := [.int (20 : Int32), .int (1 : Int32), .int x2]) (σ' := s) rfl ?_
    refine wk_Hcall (i2 := 8) (args := [.int x2, .int (1 : Int32), .int (20 : Int32)]) (rest := []) (r := some (.int (b2i (f_X12_in x2 (1 : Int32) (20 : Int32))))) (σ1 := s) rfl rfl ⟨rfl, rfl, rfl, rfl, rfl⟩ rfl ((t_X12_in rfl).up (by decide)) ?_
    rcases wk_ife h with ⟨hc, h⟩ | ⟨hc, h⟩
    · refine wk_H0t 18 rfl (wk_zeq.2 hc) ?_
      refine wk_Hs 1 19 ⟨rfl, rfl⟩ (ls' := [.ref 0, .int x1, .int x2, .int x3, wk_U, wk_U, wk_U, wk_U]) (st' := [.int (-1 : Int32)]) (σ' := s) rfl ?_
      cases h
      exact wk_eqz hk (wk_Hret rfl)
    · refine wk_H0f 18 9 rfl rfl (wk_nf wk_zeq hc) ?_
      refine wk_Hs 3 12 ⟨rfl, rfl⟩ (ls' := [.ref 0, .int x1, .int x2, .int x3, wk_U, wk_U, wk_U, wk_U]) (st' := [.int (1 : Int32), .int (0 : Int32), .int x3]) (σ' := s) rfl ?_
      refine wk_Hcall (i2 := 13) (args := [.int x3, .int (0 : Int32), .int (1 : Int32)]) (rest := []) (r := some (.int (b2i (f_X12_in x3 (0 : Int32) (1 : Int32))))) (σ1 := s) rfl rfl ⟨rfl, rfl, rfl, rfl, rfl⟩ rfl ((t_X12_in rfl).up (by decide)) ?_
      rcases wk_ife h with ⟨hc, h⟩ | ⟨hc, h⟩
      · refine wk_H0t 18 rfl (wk_zeq.2 hc) ?_
        refine wk_Hs 1 19 ⟨rfl, rfl⟩ (ls' := [.ref 0, .int x1, .int x2, .int x3, wk_U, wk_U, wk_U, wk_U]) (st' := [.int (-1 : Int32)]) (σ' := s) rfl ?_
        cases h
        exact wk_eqz hk (wk_Hret rfl)
      · refine wk_H0f 18 14 rfl rfl (wk_nf wk_zeq hc) ?_
        refine wk_Hs 3 17 ⟨rfl, rfl⟩ (ls' := [.ref 0, .int x1, .int x2, .int x3, wk_U, wk_U, wk_U, wk_U]) (st' := [.int (s.1 0 9), .int x2]) (σ' := s) rfl ?_
        rcases wk_ife h with ⟨hc, h⟩ | ⟨hc, h⟩
        · refine wk_Hbt 20 rfl (wk_cle.2 hc) ?_
          refine wk_Hs 2 22 ⟨rfl, rfl⟩ (ls' := [.ref 0, .int x1, .int x2, .int x3, wk_U, wk_U, wk_U, wk_U]) (st' := [.int x2, .ref 0]) (σ' := s) rfl ?_
          obtain ⟨v4, hv4, h⟩ := wk_bindE h
          refine wk_Hcall (i2 := 23) (args := [.ref 0, .int x2]) (rest := []) (r := some (.int (b2i v4.1))) (σ1 := v4.2) rfl rfl ⟨rfl, rfl, rfl, rfl, rfl⟩ rfl ((t_X12_readsSeen hv4).up (by decide)) ?_
          refine wk_Hs 5 28 ⟨rfl, rfl⟩ (ls' := [.ref 0, .int x1, .int x2, .int x3, .int (b2i v4.1), wk_U, wk_U, wk_U]) (st' := [.int (b2i v4.1)]) (σ' := (wk_si v4.2 0 9 (0 : Int32))) rfl ?_
          rcases wk_ife h with ⟨hc, h⟩ | ⟨hc, h⟩
          · refine wk_H0t 32 rfl (wk_zne.2 hc) ?_
            refine wk_Hs 2 34 ⟨rfl, rfl⟩ (ls' := [.ref 0, .int x1, .int x2, .int x3, .int (b2i v4.1), .int (0 : Int32), wk_U, wk_U]) (st' := []) (σ' := (wk_si v4.2 0 9 (0 : Int32))) rfl ?_
            obtain ⟨v5, hv5, h⟩ := wk_bindE h
            refine tl_S_X12_boots_34 wk_F hv5 ?_
            intro g6 g7
            refine wk_Hs 2 51 ⟨rfl, rfl⟩ (ls' := [.ref 0, .int x1, .int x2, .int x3, (wk_cl g6), .int (0 : Int32), wk_U, wk_U]) (st' := []) (σ' := v5) rfl ?_
            obtain ⟨v19, hv19, h⟩ := wk_bindE h
            refine tl_S_X12_boots_51 wk_F hv19 ?_
            intro g20 g21 g22 g23
            refine wk_Hs 6 128 ⟨rfl, rfl⟩ (ls' := [.ref 0, .int x1, .int x2, .int x3, (wk_cl g20), .int (0 : Int32), .int (0 : Int32), .int (0 : Int32)]) (st' := []) (σ' := v19) rfl ?_
            obtain ⟨v26, hv26, h⟩ := wk_bindE h
            refine tl_S_X12_boots_128 wk_F hv26 ?_
            intro g27 g28
            refine wk_Hs 1 156 ⟨rfl, rfl⟩ (ls' := [.ref 0, .int x1, .int x2, .int x3, g27, .int v26.1, .int v26.2.1, g28]) (st' := [.int x3]) (σ' := v26.2.2) rfl ?_
            rcases wk_ife h with ⟨hc, h⟩ | ⟨hc, h⟩
            · refine wk_H0t 159 rfl (wk_cne.2 hc) ?_
              refine wk_Hs 1 160 ⟨rfl, rfl⟩ (ls' := [.ref 0, .int x1, .int x2, .int x3, g27, .int v26.1, .int v26.2.1, g28]) (st' := [.int v26.2.1]) (σ' := v26.2.2) rfl ?_
              cases h
              exact wk_eqz hk (wk_Hret rfl)
            · refine wk_H0f 159 157 rfl rfl (wk_nf wk_cne hc) ?_
              refine wk_Hs 1 158 ⟨rfl, rfl⟩ (ls' := [.ref 0, .int x1, .int x2, .int x3, g27, .int v26.1, .int v26.2.1, g28]) (st' := [.int v26.1]) (σ' := v26.2.2) rfl ?_
              refine wk_Hgoto (t := 160) rfl ?_
              cases h
              exact wk_eqz hk (wk_Hret rfl)
          · refine wk_H0f 32 29 rfl rfl (wk_nf wk_zne hc) ?_
            refine wk_Hs 2 31 ⟨rfl, rfl⟩ (ls' := [.ref 0, .int x1, .int x2, .int x3, .int (b2i v4.1), wk_U, wk_U, wk_U]) (st' := [.int ((wk_si v4.2 0 9 (0 : Int32)).1 0 12)]) (σ' := (wk_si v4.2 0 9 (0 : Int32))) rfl ?_
            cases h
            exact wk_eqz hk (wk_Hret rfl)
        · refine wk_Hbf 20 18 rfl rfl (wk_nf wk_cle hc) ?_
          refine wk_Hs 1 19 ⟨rfl, rfl⟩ (ls' := [.ref 0, .int x1, .int x2, .int x3, wk_U, wk_U, wk_U, wk_U]) (st' := [.int (-1 : Int32)]) (σ' := s) rfl ?_
          cases h
          exact wk_eqz hk (wk_Hret rfl)
set_option maxHeartbeats 4000000 in
set_option maxRecDepth 20000 in
theorem tj_j_X12_readsAbsences_56_l12 {x1 : Int32} {x2 : Int32} {x3 : Int32} {s : wk_St} {z : wk_R} {o : ((Bool × wk_St) ⊕ (wk_St)) ⊕ (wk_St)} (h : j_X12_readsAbsences_56_l12 x1 x2 x3 s = some o) (hk : match (generalizing := false) o with | Sum.inl a => (match (generalizing := false) a with | Sum.inl r => z = (some (.int (b2i r.1)), r.2) | Sum.inr y => ∀ (u2 u3 : Value), wk_H wk_shM 1 mc_X12_readsAbsences 74 [.ref 0, .int x1, u2, u3] [] y z) | Sum.inr y => ∀ (u2 u3 : Value), wk_H wk_shM 1 mc_X12_readsAbsences 12 [.ref 0, .int x1, u2, u3] [] y z) : wk_H wk_shM 1 mc_X12_readsAbsences 56 [.ref 0, .int x1, .int x2, .int x3] [] s z := by
  dsimp only [j_X12_readsAbsences_56_l12] at h
  refine wk_Hs 2 58 ⟨rfl, rfl⟩ (ls' := [.ref 0, .int x1, .int x2, .int x3]) (st' := [.int (97 : Int32), .int x2]) (σ' := s) rfl ?_
  rcases wk_ife h with ⟨hc, h⟩ | ⟨hc, h⟩
  · refine wk_Hbt 67 rfl (wk_cne.2 hc) ?_
    refine wk_Hs 6 73 ⟨rfl, rfl⟩ (ls' := [.ref 0, .int x1, .int x2, .int x3]) (st' := []) (σ' := (wk_si s 0 10 ((s.1 0 10) + (1 : Int32)))) rfl ?_
    refine wk_Hgoto (t := 12) rfl ?_
    cases h
    exact hk _ _
  · refine wk_Hbf 67 59 rfl rfl (wk_nf wk_cne hc) ?_
    refine wk_Hs 14 73 ⟨rfl, rfl⟩ (ls' := [.ref 0, .int x1, .int x2, .int x3]) (st' := []) (σ' := (wk_si (wk_si s 0 55 ((s.1 0 55) ||| ((1 : Int32) <<< (x3 &&& 31)))) 0 10 (((wk_si s 0 55 ((s.1 0 55) ||| ((1 : Int32) <<< (x3 &&& 31)))).1 0 10) + (1 : Int32)))) rfl ?_
    refine wk_Hgoto (t := 12) rfl ?_
    cases h
    exact hk _ _
set_option maxHeartbeats 4000000 in
set_option maxRecDepth 20000 in
theorem tj_j_X12_readsAbsences_34_l12 {x1 : Int32} {x2 : Int32} {w3 : Value} {s : wk_St} {z : wk_R} {o : ((Bool × wk_St) ⊕ (wk_St)) ⊕ (wk_St)} (h : j_X12_readsAbsences_34_l12 x1 x2 s = some o) (hk : match (generalizing := false) o with | Sum.inl a => (match (generalizing := false) a with | Sum.inl r => z = (some (.int (b2i r.1)), r.2) | Sum.inr y => ∀ (u2 u3 : Value), wk_H wk_shM 1 mc_X12_readsAbsences 74 [.ref 0, .int x1, u2, u3] [] y z) | Sum.inr y => ∀ (u2 u3 : Value), wk_H wk_shM 1 mc_X12_readsAbsences 12 [.ref 0, .int x1, u2, u3] [] y z) : wk_H wk_shM 1 mc_X12_readsAbsences 34 [.ref 0, .int x1, .int x2, w3] [] s z := by
  dsimp only [j_X12_readsAbsences_34_l12] at h
  refine wk_Hs 2 36 ⟨rfl, rfl⟩ (ls' := [.ref 0, .int x1, .int x2, w3]) (st' := [.int (0 : Int32), .ref 0]) (σ' := s) rfl ?_
  refine wk_Hcall (i2 := 37) (args := [.ref 0, .int (0 : Int32)]) (rest := []) (r := some (.int (f_X12_weekdayIn (0 : Int32) s))) (σ1 := s) rfl rfl ⟨rfl, rfl, rfl, rfl, rfl⟩ rfl ((t_X12_weekdayIn rfl).up (by decide)) ?_
  refine wk_Hs 6 43 ⟨rfl, rfl⟩ (ls' := [.ref 0, .int x1, .int x2, w3]) (st' := [.int (7 : Int32), .int (((f_X12_weekdayIn (0 : Int32) s) + (336 : Int32)) - (s.1 0 10))]) (σ' := s) rfl ?_
  refine wk_Hrem 44 rfl rfl (by decide) ?_
  replace h := wk_letE h
  refine wk_Hs 3 47 ⟨rfl, rfl⟩ (ls' := [.ref 0, .int x1, .int x2, .int (wk_rem (((f_X12_weekdayIn (0 : Int32) s) + (336 : Int32)) - (s.1 0 10)) (7 : Int32))]) (st' := [.int (112 : Int32), .int x2]) (σ' := s) rfl ?_
  rcases wk_ife h with ⟨hc, h⟩ | ⟨hc, h⟩
  · refine wk_Hbt 56 rfl (wk_cne.2 hc) ?_
    exact tj_j_X12_readsAbsences_56_l12 h hk
  · refine wk_Hbf 56 48 rfl rfl (wk_nf wk_cne hc) ?_
    refine wk_Hs 8 56 ⟨rfl, rfl⟩ (ls' := [.ref 0, .int x1, .int x2, .int (wk_rem (((f_X12_weekdayIn (0 : Int32) s) + (336 : Int32)) - (s.1 0 10)) (7 : Int32))]) (st' := []) (σ' := (wk_si s 0 54 ((s.1 0 54) ||| ((1 : Int32) <<< ((wk_rem (((f_X12_weekdayIn (0 : Int32) s) + (336 : Int32)) - (s.1 0 10)) (7 : Int32)) &&& 31))))) rfl ?_
    exact tj_j_X12_readsAbsences_56_l12 h hk
set_option maxHeartbeats 4000000 in
set_option maxRecDepth 20000 in
theorem ts_S_X12_readsAbsences_12 {x1 : Int32} {w2 : Value} {w3 : Value} {s : wk_St} {z : wk_R} {o : ((Bool × wk_St) ⊕ (wk_St)) ⊕ (wk_St)} (h : S_X12_readsAbsences_12 x1 s = some o) (hk : match (generalizing := false) o with | Sum.inl a => (match (generalizing := false) a with | Sum.inl r => z = (some (.int (b2i r.1)), r.2) | Sum.inr y => ∀ (u2 u3 : Value), wk_H wk_shM 1 mc_X12_readsAbsences 74 [.ref 0, .int x1, u2, u3] [] y z) | Sum.inr y => ∀ (u2 u3 : Value), wk_H wk_shM 1 mc_X12_readsAbsences 12 [.ref 0, .int x1, u2, u3] [] y z) : wk_H wk_shM 1 mc_X12_readsAbsences 12 [.ref 0, .int x1, w2, w3] [] s z := by
  dsimp only [S_X12_readsAbsences_12] at h
  refine wk_Hs 3 15 ⟨rfl, rfl⟩ (ls' := [.ref 0, .int x1, w2, w3]) (st' := [.int x1, .int (s.1 0 10)]) (σ' := s) rfl ?_
  rcases wk_ife h with ⟨hc, h⟩ | ⟨hc, h⟩
  · refine wk_Hbt 74 rfl (wk_cge.2 hc) ?_
    cases h
    exact hk _ _
  · refine wk_Hbf 74 16 rfl rfl (wk_nf wk_cge hc) ?_
    refine wk_Hs 1 17 ⟨rfl, rfl⟩ (ls' := [.ref 0, .int x1, w2, w3]) (st' := [.ref 0]) (σ' := s) rfl ?_
    obtain ⟨v1, hv1, h⟩ := wk_bindE h
    refine wk_Hcall (i2 := 18) (args := [.ref 0]) (rest := []) (r := some (.int v1)) (σ1 := s) rfl rfl ⟨rfl, rfl, rfl, rfl, rfl⟩ rfl ((t_X12_here hv1).up (by decide)) ?_
    refine wk_Hs 3 21 ⟨rfl, rfl⟩ (ls' := [.ref 0, .int x1, .int v1, w3]) (st' := [.int (112 : Int32), .int v1]) (σ' := s) rfl ?_
    rcases wk_ife h with ⟨hc, h⟩ | ⟨hc, h⟩
    · refine wk_Hbt 34 rfl (wk_ceq.2 hc) ?_
      exact tj_j_X12_readsAbsences_34_l12 h hk
    · refine wk_Hbf 34 22 rfl rfl (wk_nf wk_ceq hc) ?_
      refine wk_Hs 2 24 ⟨rfl, rfl⟩ (ls' := [.ref 0, .int x1, .int v1, w3]) (st' := [.int (97 : Int32), .int v1]) (σ' := s) rfl ?_
      rcases wk_ife h with ⟨hc, h⟩ | ⟨hc, h⟩
      · refine wk_Hbt 34 rfl (wk_ceq.2 hc) ?_
        exact tj_j_X12_readsAbsences_34_l12 h hk
      · refine wk_Hbf 34 25 rfl rfl (wk_nf wk_ceq hc) ?_
        refine wk_Hs 2 27 ⟨rfl, rfl⟩ (ls' := [.ref 0, .int x1, .int v1, w3]) (st' := [.int (63 : Int32), .int v1]) (σ' := s) rfl ?_
        rcases wk_ife h with ⟨hc, h⟩ | ⟨hc, h⟩
        · refine wk_Hbt 34 rfl (wk_ceq.2 hc) ?_
          exact tj_j_X12_readsAbsences_34_l12 h hk
        · refine wk_Hbf 34 28 rfl rfl (wk_nf wk_ceq hc) ?_
          refine wk_Hs 4 32 ⟨rfl, rfl⟩ (ls' := [.ref 0, .int x1, .int v1, w3]) (st' := [.int (s.1 0 10), .int (1 : Int32), .ref 0]) (σ' := s) rfl ?_
          replace h := wk_letE h
          refine wk_Hcall (i2 := 33) (args := [.ref 0, .int (1 : Int32), .int (s.1 0 10)]) (rest := []) (r := some (.int (b2i ((f_X12_wrongAt (1 : Int32) (s.1 0 10) s).1)))) (σ1 := (f_X12_wrongAt (1 : Int32) (s.1 0 10) s).2) rfl rfl ⟨rfl, rfl, rfl, rfl, rfl⟩ rfl ((t_X12_wrongAt rfl).up (by decide)) ?_
          cases h
          exact wk_eqz hk (wk_Hretz rfl (b2i_01 _))
set_option maxHeartbeats 4000000 in
set_option maxRecDepth 20000 in
theorem tl_S_X12_readsAbsences_12 {x1 : Int32} {z : wk_R} (n : Nat) : ∀ {w2 : Value} {w3 : Value} {s : wk_St} {a : (Bool × wk_St) ⊕ (wk_St)} (h : wk_loop (S_X12_readsAbsences_12 x1) n s = some a) (hk : match (generalizing := false) a with | Sum.inl r => z = (some (.int (b2i r.1)), r.2) | Sum.inr y => ∀ (u2 u3 : Value), wk_H wk_shM 1 mc_X12_readsAbsences 74 [.ref 0, .int x1, u2, u3] [] y z), wk_H wk_shM 1 mc_X12_readsAbsences 12 [.ref 0, .int x1, w2, w3] [] s z := by
  induction n with
  | zero =>
    intros
    rename_i h _
    exact nomatch (show (none : Option _) = some _ from h)
  | succ n ih =>
    intros
    rename_i h hk
    obtain ⟨o, ho, h⟩ := wk_bindE (show Option.bind _ _ = some _ from h)
    refine ts_S_X12_readsAbsences_12 ho ?_
    cases o with
    | inl a1 =>
      cases h
      exact hk
    | inr p =>
      exact fun _ _ => ih h hk
set_option maxHeartbeats 4000000 in
set_option maxRecDepth 20000 in
theorem t_X12_readsAbsences {x1 : Int32} {s : wk_St} {r : Bool × wk_St} (h : f_X12_readsAbsences x1 s = some r) : wk_T wk_shM 1 125 [.ref 0, .int x1] s (some (.int (b2i r.1)), r.2) := by
  suffices H : ∀ z, z = (some (.int (b2i r.1)), r.2) → wk_H wk_shM 1 mc_X12_readsAbsences 0 [.ref 0, .int x1, wk_U, wk_U] [] s z from H _ rfl
  intro z hk
  dsimp only [f_X12_readsAbsences] at h
  refine wk_Hs 12 12 ⟨rfl, rfl⟩ (ls' := [.ref 0, .int x1, wk_U, wk_U]) (st' := []) (σ' := (wk_si (wk_si (wk_si (wk_si s 0 10 (0 : Int32)) 0 11 x1) 0 54 (0 : Int32)) 0 55 (0 : Int32))) rfl ?_
  obtain ⟨v5, hv5, h⟩ := wk_bindE h
  rcases v5 with v5r | v5
  · cases h
    exact tl_S_X12_readsAbsences_12 wk_F hv5 hk
  · refine tl_S_X12_readsAbsences_12 wk_F hv5 ?_
    intro g6 g7
    dsimp only at h ⊢
    refine wk_Hs 1 75 ⟨rfl, rfl⟩ (ls' := [.ref 0, .int x1, g6, g7]) (st' := [.int (1 : Int32)]) (σ' := v5) rfl ?_
    cases h
    exact wk_eqz hk (wk_Hretz rfl (b2i_01 true))
set_option maxHeartbeats 4000000 in
set_option maxRecDepth 20000 in
theorem ts_S_X12_absences_75 {x2 : Int32} {x4 : Int32} {x5 : Int32} {w1 : Value} {w3 : Value} {w6 : Value} {s : wk_St} {z : wk_R} {o : (Int32 × wk_St) ⊕ (Int32 × Int32 × wk_St)} (h : S_X12_absences_75 x2 (x4, x5, s) = some o) (hk : match (generalizing := false) o with | Sum.inl a => (∀ (u3 u5 : Value), wk_H wk_shM 2 mc_X12_absences 115 [.ref 0, w1, .int x2, u3, .int a.1, u5, w6] [] a.2 z) | Sum.inr y => ∀ (u3 : Value), wk_H wk_shM 2 mc_X12_absences 75 [.ref 0, w1, .int x2, u3, .int y.1, .int y.2.1, w6] [] y.2.2 z) : wk_H wk_shM 2 mc_X12_absences 75 [.ref 0, w1, .int x2, w3, .int x4, .int x5, w6] [] s z := by
  dsimp only [S_X12_absences_75] at h
  refine wk_Hs 2 77 ⟨rfl, rfl⟩ (ls' := [.ref 0, w1, .int x2, w3, .int x4, .int x5, w6]) (st' := [.int (9 : Int32), .int x5]) (σ' := s) rfl ?_
  rcases wk_ife h with ⟨hc, h⟩ | ⟨hc, h⟩
  · refine wk_Hbt 115 rfl (wk_cge.2 hc) ?_
    cases h
    exact hk _ _
  · refine wk_Hbf 115 78 rfl rfl (wk_nf wk_cge hc) ?_
    refine wk_Hs 2 80 ⟨rfl, rfl⟩ (ls' := [.ref 0, w1, .int x2, w3, .int x4, .int x5, w6]) (st' := [.int x5, .ref 0]) (σ' := s) rfl ?_
    obtain ⟨v4, hv4, h⟩ := wk_bindE h
    refine wk_Hcall (i2 := 81) (args := [.ref 0, .int x5]) (rest := []) (r := some (.int (b2i v4))) (σ1 := s) rfl rfl ⟨rfl, rfl, rfl, rfl, rfl⟩ rfl ((t_X12_isKnight hv4).up (by decide)) ?_
    rcases wk_ife h with ⟨hc, h⟩ | ⟨hc, h⟩
    · refine wk_H0t 113 rfl (wk_zeq.2 hc) ?_
      refine wk_Hs 1 114 ⟨rfl, rfl⟩ (ls' := [.ref 0, w1, .int x2, w3, .int x4, .int (x5 + (1 : Int32)), w6]) (st' := []) (σ' := s) rfl ?_
      refine wk_Hgoto (t := 75) rfl ?_
      cases h
      exact hk _
    · refine wk_H0f 113 82 rfl rfl (wk_nf wk_zeq hc) ?_
      refine wk_Hs 5 87 ⟨rfl, rfl⟩ (ls' := [.ref 0, w1, .int x2, w3, .int x4, .int x5, w6]) (st' := [.int ((9 : Int32) + x5), .ref 1]) (σ' := s) rfl ?_
      obtain ⟨hg, h⟩ := wk_gdE h
      refine wk_Hia 88 rfl rfl rfl hg rfl ?_
      refine wk_Hs 3 91 ⟨rfl, rfl⟩ (ls' := [.ref 0, w1, .int x2, w3, .int x4, .int x5, w6]) (st' := [.int ((s.1 1 (((9 : Int32) + x5).toNatClampNeg)) &&& (s.1 0 54))]) (σ' := s) rfl ?_
      rcases wk_ife h with ⟨hc, h⟩ | ⟨hc, h⟩
      · refine wk_H0t 93 rfl (wk_ceq.2 hc) ?_
        refine wk_Hs 1 94 ⟨rfl, rfl⟩ (ls' := [.ref 0, w1, .int x2, w3, .int x4, .int x5, w6]) (st' := [.int x2]) (σ' := s) rfl ?_
        rcases wk_ife h with ⟨hc, h⟩ | ⟨hc, h⟩
        · refine wk_H0t 107 rfl (wk_ceq.2 hc) ?_
          refine wk_Hs 5 112 ⟨rfl, rfl⟩ (ls' := [.ref 0, w1, .int x2, w3, .int x4, .int x5, w6]) (st' := [.int (x4 ||| ((1 : Int32) <<< (x5 &&& 31)))]) (σ' := s) rfl ?_
          replace h := wk_letE h
          refine wk_Hs 2 114 ⟨rfl, rfl⟩ (ls' := [.ref 0, w1, .int x2, (wk_cl w3), .int (x4 ||| ((1 : Int32) <<< (x5 &&& 31))), .int (x5 + (1 : Int32)), w6]) (st' := []) (σ' := s) rfl ?_
          refine wk_Hgoto (t := 75) rfl ?_
          cases h
          exact hk _
        · refine wk_H0f 107 95 rfl rfl (wk_nf wk_ceq hc) ?_
          refine wk_Hs 7 102 ⟨rfl, rfl⟩ (ls' := [.ref 0, w1, .int x2, w3, .int x4, .int x5, w6]) (st' := [.int ((9 : Int32) + x5), .ref 1, .int (s.1 0 55)]) (σ' := s) rfl ?_
          obtain ⟨hg, h⟩ := wk_gdE h
          refine wk_Hia 103 rfl rfl rfl hg rfl ?_
          refine wk_Hs 3 106 ⟨rfl, rfl⟩ (ls' := [.ref 0, w1, .int x2, w3, .int x4, .int x5, w6]) (st' := [.int ((s.1 0 55) &&& ((s.1 1 (((9 : Int32) + x5).toNatClampNeg)) ^^^ (-1 : Int32)))]) (σ' := s) rfl ?_
          rcases wk_ife h with ⟨hc, h⟩ | ⟨hc, h⟩
          · refine wk_H0t 113 rfl (wk_cne.2 hc) ?_
            refine wk_Hs 1 114 ⟨rfl, rfl⟩ (ls' := [.ref 0, w1, .int x2, w3, .int x4, .int (x5 + (1 : Int32)), w6]) (st' := []) (σ' := s) rfl ?_
            refine wk_Hgoto (t := 75) rfl ?_
            cases h
            exact hk _
          · refine wk_H0f 113 107 rfl rfl (wk_nf wk_cne hc) ?_
            refine wk_Hs 5 112 ⟨rfl, rfl⟩ (ls' := [.ref 0, w1, .int x2, w3, .int x4, .int x5, w6]) (st' := [.int (x4 ||| ((1 : Int32) <<< (x5 &&& 31)))]) (σ' := s) rfl ?_
            replace h := wk_letE h
            refine wk_Hs 2 114 ⟨rfl, rfl⟩ (ls' := [.ref 0, w1, .int x2, (wk_cl w3), .int (x4 ||| ((1 : Int32) <<< (x5 &&& 31))), .int (x5 + (1 : Int32)), w6]) (st' := []) (σ' := s) rfl ?_
            refine wk_Hgoto (t := 75) rfl ?_
            cases h
            exact hk _
      · refine wk_H0f 93 92 rfl rfl (wk_nf wk_ceq hc) ?_
        refine wk_Hgoto (t := 113) rfl ?_
        refine wk_Hs 1 114 ⟨rfl, rfl⟩ (ls' := [.ref 0, w1, .int x2, w3, .int x4, .int (x5 + (1 : Int32)), w6]) (st' := []) (σ' := s) rfl ?_
        refine wk_Hgoto (t := 75) rfl ?_
        cases h
        exact hk _
set_option maxHeartbeats 4000000 in
set_option maxRecDepth 20000 in
theorem tl_S_X12_absences_75 {x2 : Int32} {w1 : Value} {w6 : Value} {z : wk_R} (n : Nat) : ∀ {x4 : Int32} {x5 : Int32} {w3 : Value} {s : wk_St} {a : Int32 × wk_St} (h : wk_loop (S_X12_absences_75 x2) n (x4, x5, s) = some a) (hk : ∀ (u3 u5 : Value), wk_H wk_shM 2 mc_X12_absences 115 [.ref 0, w1, .int x2, u3, .int a.1, u5, w6] [] a.2 z), wk_H wk_shM 2 mc_X12_absences 75 [.ref 0, w1, .int x2, w3, .int x4, .int x5, w6] [] s z := by
  induction n with
  | zero =>
    intros
    rename_i h _
    exact nomatch (show (none : Option _) = some _ from h)
  | succ n ih =>
    intros
    rename_i h hk
    obtain ⟨o, ho, h⟩ := wk_bindE (show Option.bind _ _ = some _ from h)
    refine ts_S_X12_absences_75 ho ?_
    cases o with
    | inl a1 =>
      cases h
      exact hk
    | inr p =>
      obtain ⟨p0, p1, p2⟩ := p
      exact fun _ => ih h hk
set_option maxHeartbeats 4000000 in
set_option maxRecDepth 20000 in
theorem ts_S_X12_absences_35 {x4 : Int32} {x5 : Int32} {w1 : Value} {w2 : Value} {w3 : Value} {w6 : Value} {s : wk_St} {z : wk_R} {o : (Int32 × wk_St) ⊕ (Int32 × Int32 × wk_St)} (h : S_X12_absences_35 (x4, x5, s) = some o) (hk : match (generalizing := false) o with | Sum.inl a => (∀ (u3 u5 u6 : Value), wk_H wk_shM 2 mc_X12_absences 71 [.ref 0, w1, w2, u3, .int a.1, u5, u6] [] a.2 z) | Sum.inr y => ∀ (u3 u6 : Value), wk_H wk_shM 2 mc_X12_absences 35 [.ref 0, w1, w2, u3, .int y.1, .int y.2.1, u6] [] y.2.2 z) : wk_H wk_shM 2 mc_X12_absences 35 [.ref 0, w1, w2, w3, .int x4, .int x5, w6] [] s z := by
  dsimp only [S_X12_absences_35] at h
  refine wk_Hs 2 37 ⟨rfl, rfl⟩ (ls' := [.ref 0, w1, w2, w3, .int x4, .int x5, w6]) (st' := [.int (7 : Int32), .int x5]) (σ' := s) rfl ?_
  rcases wk_ife h with ⟨hc, h⟩ | ⟨hc, h⟩
  · refine wk_Hbt 71 rfl (wk_cge.2 hc) ?_
    cases h
    exact hk _ _ _
  · refine wk_Hbf 71 38 rfl rfl (wk_nf wk_cge hc) ?_
    refine wk_Hs 8 46 ⟨rfl, rfl⟩ (ls' := [.ref 0, w1, w2, w3, .int x4, .int x5, w6]) (st' := [.int (7 : Int32), .int (x5 + (1 : Int32)), .int (1 : Int32), .int ((1 : Int32) <<< (x5 &&& 31))]) (σ' := s) rfl ?_
    refine wk_Hrem 47 rfl rfl (by decide) ?_
    refine wk_Hs 7 54 ⟨rfl, rfl⟩ (ls' := [.ref 0, w1, w2, w3, .int x4, .int x5, w6]) (st' := [.int (7 : Int32), .int (x5 + (2 : Int32)), .int (1 : Int32), .int (((1 : Int32) <<< (x5 &&& 31)) ||| ((1 : Int32) <<< ((wk_rem (x5 + (1 : Int32)) (7 : Int32)) &&& 31)))]) (σ' := s) rfl ?_
    refine wk_Hrem 55 rfl rfl (by decide) ?_
    refine wk_Hs 2 57 ⟨rfl, rfl⟩ (ls' := [.ref 0, w1, w2, w3, .int x4, .int x5, w6]) (st' := [.int ((((1 : Int32) <<< (x5 &&& 31)) ||| ((1 : Int32) <<< ((wk_rem (x5 + (1 : Int32)) (7 : Int32)) &&& 31))) ||| ((1 : Int32) <<< ((wk_rem (x5 + (2 : Int32)) (7 : Int32)) &&& 31)))]) (σ' := s) rfl ?_
    replace h := wk_letE h
    refine wk_Hs 5 62 ⟨rfl, rfl⟩ (ls' := [.ref 0, w1, w2, w3, .int x4, .int x5, .int ((((1 : Int32) <<< (x5 &&& 31)) ||| ((1 : Int32) <<< ((wk_rem (x5 + (1 : Int32)) (7 : Int32)) &&& 31))) ||| ((1 : Int32) <<< ((wk_rem (x5 + (2 : Int32)) (7 : Int32)) &&& 31)))]) (st' := [.int (((((1 : Int32) <<< (x5 &&& 31)) ||| ((1 : Int32) <<< ((wk_rem (x5 + (1 : Int32)) (7 : Int32)) &&& 31))) ||| ((1 : Int32) <<< ((wk_rem (x5 + (2 : Int32)) (7 : Int32)) &&& 31))) &&& (s.1 0 54))]) (σ' := s) rfl ?_
    rcases wk_ife h with ⟨hc, h⟩ | ⟨hc, h⟩
    · refine wk_H0t 69 rfl (wk_cne.2 hc) ?_
      refine wk_Hs 1 70 ⟨rfl, rfl⟩ (ls' := [.ref 0, w1, w2, w3, .int x4, .int (x5 + (1 : Int32)), .int ((((1 : Int32) <<< (x5 &&& 31)) ||| ((1 : Int32) <<< ((wk_rem (x5 + (1 : Int32)) (7 : Int32)) &&& 31))) ||| ((1 : Int32) <<< ((wk_rem (x5 + (2 : Int32)) (7 : Int32)) &&& 31)))]) (st' := []) (σ' := s) rfl ?_
      refine wk_Hgoto (t := 35) rfl ?_
      cases h
      exact hk _ _
    · refine wk_H0f 69 63 rfl rfl (wk_nf wk_cne hc) ?_
      refine wk_Hs 5 68 ⟨rfl, rfl⟩ (ls' := [.ref 0, w1, w2, w3, .int x4, .int x5, .int ((((1 : Int32) <<< (x5 &&& 31)) ||| ((1 : Int32) <<< ((wk_rem (x5 + (1 : Int32)) (7 : Int32)) &&& 31))) ||| ((1 : Int32) <<< ((wk_rem (x5 + (2 : Int32)) (7 : Int32)) &&& 31)))]) (st' := [.int (x4 ||| ((1 : Int32) <<< (x5 &&& 31)))]) (σ' := s) rfl ?_
      replace h := wk_letE h
      refine wk_Hs 2 70 ⟨rfl, rfl⟩ (ls' := [.ref 0, w1, w2, (wk_cl w3), .int (x4 ||| ((1 : Int32) <<< (x5 &&& 31))), .int (x5 + (1 : Int32)), .int ((((1 : Int32) <<< (x5 &&& 31)) ||| ((1 : Int32) <<< ((wk_rem (x5 + (1 : Int32)) (7 : Int32)) &&& 31))) ||| ((1 : Int32) <<< ((wk_rem (x5 + (2 : Int32)) (7 : Int32)) &&& 31)))]) (st' := []) (σ' := s) rfl ?_
      refine wk_Hgoto (t := 35) rfl ?_
      cases h
      exact hk _ _
set_option maxHeartbeats 4000000 in
set_option maxRecDepth 20000 in
theorem tl_S_X12_absences_35 {w1 : Value} {w2 : Value} {z : wk_R} (n : Nat) : ∀ {x4 : Int32} {x5 : Int32} {w3 : Value} {w6 : Value} {s : wk_St} {a : Int32 × wk_St} (h : wk_loop S_X12_absences_35 n (x4, x5, s) = some a) (hk : ∀ (u3 u5 u6 : Value), wk_H wk_shM 2 mc_X12_absences 71 [.ref 0, w1, w2, u3, .int a.1, u5, u6] [] a.2 z), wk_H wk_shM 2 mc_X12_absences 35 [.ref 0, w1, w2, w3, .int x4, .int x5, w6] [] s z := by
  induction n with
  | zero =>
    intros
    rename_i h _
    exact nomatch (show (none : Option _) = some _ from h)
  | succ n ih =>
    intros
    rename_i h hk
    obtain ⟨o, ho, h⟩ := wk_bindE (show Option.bind _ _ = some _ from h)
    refine ts_S_X12_absences_35 ho ?_
    cases o with
    | inl a1 =>
      cases h
      exact hk
    | inr p =>
      obtain ⟨p0, p1, p2⟩ := p
      exact fun _ _ => ih h hk
set_option maxHeartbeats 4000000 in
set_option maxRecDepth 20000 in
theorem t_X12_absences {x1 : Int32} {x2 : Int32} {s : wk_St} {r : Int32 × wk_St} (h : f_X12_absences x1 x2 s = some r) : wk_T wk_shM 2 126 [.ref 0, .int x1, .int x2] s (some (.int r.1), r.2) := by
  suffices H : ∀ z, z = (some (.int r.1), r.2) → wk_H wk_shM 2 mc_X12_absences 0 [.ref 0, .int x1, .int x2, wk_U, wk_U, wk_U, wk_U] [] s z from H _ rfl
  intro z hk
  dsimp only [f_X12_absences] at h
  refine wk_Hs 3 3 ⟨rfl, rfl⟩ (ls' := [.ref 0, .int x1, .int x2, wk_U, wk_U, wk_U, wk_U]) (st' := [.int (60 : Int32), .int (1 : Int32), .int x1]) (σ' := s) rfl ?_
  refine wk_Hcall (i2 := 4) (args := [.int x1, .int (1 : Int32), .int (60 : Int32)]) (rest := []) (r := some (.int (b2i (f_X12_in x1 (1 : Int32) (60 : Int32))))) (σ1 := s) rfl rfl ⟨rfl, rfl, rfl, rfl, rfl⟩ rfl ((t_X12_in rfl).up (by decide)) ?_
  rcases wk_ife h with ⟨hc, h⟩ | ⟨hc, h⟩
  · refine wk_H0t 14 rfl (wk_zeq.2 hc) ?_
    refine wk_Hs 1 15 ⟨rfl, rfl⟩ (ls' := [.ref 0, .int x1, .int x2, wk_U, wk_U, wk_U, wk_U]) (st' := [.int (-1 : Int32)]) (σ' := s) rfl ?_
    cases h
    exact wk_eqz hk (wk_Hret rfl)
  · refine wk_H0f 14 5 rfl rfl (wk_nf wk_zeq hc) ?_
    refine wk_Hs 3 8 ⟨rfl, rfl⟩ (ls' := [.ref 0, .int x1, .int x2, wk_U, wk_U, wk_U, wk_U]) (st' := [.int (2 : Int32), .int (0 : Int32), .int x2]) (σ' := s) rfl ?_
    refine wk_Hcall (i2 := 9) (args := [.int x2, .int (0 : Int32), .int (2 : Int32)]) (rest := []) (r := some (.int (b2i (f_X12_in x2 (0 : Int32) (2 : Int32))))) (σ1 := s) rfl rfl ⟨rfl, rfl, rfl, rfl, rfl⟩ rfl ((t_X12_in rfl).up (by decide)) ?_
    rcases wk_ife h with ⟨hc, h⟩ | ⟨hc, h⟩
    · refine wk_H0t 14 rfl (wk_zeq.2 hc) ?_
      refine wk_Hs 1 15 ⟨rfl, rfl⟩ (ls' := [.ref 0, .int x1, .int x2, wk_U, wk_U, wk_U, wk_U]) (st' := [.int (-1 : Int32)]) (σ' := s) rfl ?_
      cases h
      exact wk_eqz hk (wk_Hret rfl)
    · refine wk_H0f 14 10 rfl rfl (wk_nf wk_zeq hc) ?_
      refine wk_Hs 3 13 ⟨rfl, rfl⟩ (ls' := [.ref 0, .int x1, .int x2, wk_U, wk_U, wk_U, wk_U]) (st' := [.int (s.1 0 9), .int x1]) (σ' := s) rfl ?_
      rcases wk_ife h with ⟨hc, h⟩ | ⟨hc, h⟩
      · refine wk_Hbt 16 rfl (wk_cle.2 hc) ?_
        refine wk_Hs 2 18 ⟨rfl, rfl⟩ (ls' := [.ref 0, .int x1, .int x2, wk_U, wk_U, wk_U, wk_U]) (st' := [.int x1, .ref 0]) (σ' := s) rfl ?_
        obtain ⟨v3, hv3, h⟩ := wk_bindE h
        refine wk_Hcall (i2 := 19) (args := [.ref 0, .int x1]) (rest := []) (r := some (.int (b2i v3.1))) (σ1 := v3.2) rfl rfl ⟨rfl, rfl, rfl, rfl, rfl⟩ rfl ((t_X12_readsAbsences hv3).up (by decide)) ?_
        refine wk_Hs 5 24 ⟨rfl, rfl⟩ (ls' := [.ref 0, .int x1, .int x2, .int (b2i v3.1), wk_U, wk_U, wk_U]) (st' := [.int (b2i v3.1)]) (σ' := (wk_si v3.2 0 9 (0 : Int32))) rfl ?_
        rcases wk_ife h with ⟨hc, h⟩ | ⟨hc, h⟩
        · refine wk_H0t 28 rfl (wk_zne.2 hc) ?_
          refine wk_Hs 4 32 ⟨rfl, rfl⟩ (ls' := [.ref 0, .int x1, .int x2, .int (b2i v3.1), .int (0 : Int32), wk_U, wk_U]) (st' := [.int (2 : Int32), .int x2]) (σ' := (wk_si v3.2 0 9 (0 : Int32))) rfl ?_
          rcases wk_ife h with ⟨hc, h⟩ | ⟨hc, h⟩
          · refine wk_Hbt 73 rfl (wk_cne.2 hc) ?_
            refine wk_Hs 2 75 ⟨rfl, rfl⟩ (ls' := [.ref 0, .int x1, .int x2, .int (b2i v3.1), .int (0 : Int32), .int (0 : Int32), wk_U]) (st' := []) (σ' := (wk_si v3.2 0 9 (0 : Int32))) rfl ?_
            obtain ⟨v7, hv7, h⟩ := wk_bindE h
            refine tl_S_X12_absences_75 wk_F hv7 ?_
            intro g8 g9
            refine wk_Hs 1 116 ⟨rfl, rfl⟩ (ls' := [.ref 0, .int x1, .int x2, g8, .int v7.1, g9, wk_U]) (st' := [.int v7.1]) (σ' := v7.2) rfl ?_
            cases h
            exact wk_eqz hk (wk_Hret rfl)
          · refine wk_Hbf 73 33 rfl rfl (wk_nf wk_cne hc) ?_
            refine wk_Hs 2 35 ⟨rfl, rfl⟩ (ls' := [.ref 0, .int x1, .int x2, .int (b2i v3.1), .int (0 : Int32), .int (0 : Int32), wk_U]) (st' := []) (σ' := (wk_si v3.2 0 9 (0 : Int32))) rfl ?_
            obtain ⟨v12, hv12, h⟩ := wk_bindE h
            refine tl_S_X12_absences_35 wk_F hv12 ?_
            intro g13 g14 g15
            refine wk_Hs 1 72 ⟨rfl, rfl⟩ (ls' := [.ref 0, .int x1, .int x2, g13, .int v12.1, g14, g15]) (st' := [.int v12.1]) (σ' := v12.2) rfl ?_
            cases h
            exact wk_eqz hk (wk_Hret rfl)
        · refine wk_H0f 28 25 rfl rfl (wk_nf wk_zne hc) ?_
          refine wk_Hs 2 27 ⟨rfl, rfl⟩ (ls' := [.ref 0, .int x1, .int x2, .int (b2i v3.1), wk_U, wk_U, wk_U]) (st' := [.int ((wk_si v3.2 0 9 (0 : Int32)).1 0 12)]) (σ' := (wk_si v3.2 0 9 (0 : Int32))) rfl ?_
          cases h
          exact wk_eqz hk (wk_Hret rfl)
      · refine wk_Hbf 16 14 rfl rfl (wk_nf wk_cle hc) ?_
        refine wk_Hs 1 15 ⟨rfl, rfl⟩ (ls' := [.ref 0, .int x1, .int x2, wk_U, wk_U, wk_U, wk_U]) (st' := [.int (-1 : Int32)]) (σ' := s) rfl ?_
        cases h
        exact wk_eqz hk (wk_Hret rfl)
set_option maxHeartbeats 4000000 in
set_option maxRecDepth 20000 in
theorem t_X12_twoOctets {x1 : Int32} {s : wk_St} {r : Int32} (h : f_X12_twoOctets x1 s = some r) : wk_T wk_shM 1 127 [.ref 0, .int x1] s (some (.int r), s) := by
  suffices H : ∀ z, z = (some (.int r), s) → wk_H wk_shM 1 mc_X12_twoOctets 0 [.ref 0, .int x1] [] s z from H _ rfl
  intro z hk
  dsimp only [f_X12_twoOctets] at h
  refine wk_Hs 3 3 ⟨rfl, rfl⟩ (ls' := [.ref 0, .int x1]) (st' := [.int x1, .ref 0, .int (256 : Int32)]) (σ' := s) rfl ?_
  obtain ⟨v1, hv1, h⟩ := wk_bindE h
  refine wk_Hcall (i2 := 4) (args := [.ref 0, .int x1]) (rest := [.int (256 : Int32)]) (r := some (.int v1)) (σ1 := s) rfl rfl ⟨rfl, rfl, rfl, rfl, rfl⟩ rfl ((t_X12_octet hv1).up (by decide)) ?_
  refine wk_Hs 5 9 ⟨rfl, rfl⟩ (ls' := [.ref 0, .int x1]) (st' := [.int (x1 + (1 : Int32)), .ref 0, .int ((256 : Int32) * v1)]) (σ' := s) rfl ?_
  obtain ⟨v2, hv2, h⟩ := wk_bindE h
  refine wk_Hcall (i2 := 10) (args := [.ref 0, .int (x1 + (1 : Int32))]) (rest := [.int ((256 : Int32) * v1)]) (r := some (.int v2)) (σ1 := s) rfl rfl ⟨rfl, rfl, rfl, rfl, rfl⟩ rfl ((t_X12_octet hv2).up (by decide)) ?_
  refine wk_Hs 1 11 ⟨rfl, rfl⟩ (ls' := [.ref 0, .int x1]) (st' := [.int (((256 : Int32) * v1) + v2)]) (σ' := s) rfl ?_
  cases h
  exact wk_eqz hk (wk_Hret rfl)
set_option maxHeartbeats 4000000 in
set_option maxRecDepth 20000 in
theorem ts_S_X12_isHated_2 {x1 : Int32} {x2 : Int32} {x3 : Int32} {x4 : Int32} {w5 : Value} {s : wk_St} {z : wk_R} {o : ((Bool) ⊕ (Unit)) ⊕ (Int32)} (h : S_X12_isHated_2 x1 x2 x3 s x4 = some o) (hk : match (generalizing := false) o with | Sum.inl a => (match (generalizing := false) a with | Sum.inl r => z = (some (.int (b2i r)), s) | Sum.inr _ => ∀ (u4 u5 : Value), wk_H wk_shM 2 mc_X12_isHated 30 [.ref 0, .int x1, .int x2, .int x3, u4, u5] [] s z) | Sum.inr y => ∀ (u5 : Value), wk_H wk_shM 2 mc_X12_isHated 2 [.ref 0, .int x1, .int x2, .int x3, .int y, u5] [] s z) : wk_H wk_shM 2 mc_X12_isHated 2 [.ref 0, .int x1, .int x2, .int x3, .int x4, w5] [] s z := by
  dsimp only [S_X12_isHated_2] at h
  refine wk_Hs 2 4 ⟨rfl, rfl⟩ (ls' := [.ref 0, .int x1, .int x2, .int x3, .int x4, w5]) (st' := [.int x1, .int x4]) (σ' := s) rfl ?_
  rcases wk_ife h with ⟨hc, h⟩ | ⟨hc, h⟩
  · refine wk_Hbt 30 rfl (wk_cge.2 hc) ?_
    cases h
    exact hk _ _
  · refine wk_Hbf 30 5 rfl rfl (wk_nf wk_cge hc) ?_
    refine wk_Hs 4 9 ⟨rfl, rfl⟩ (ls' := [.ref 0, .int x1, .int x2, .int x3, .int x4, w5]) (st' := [.int ((2 : Int32) * x4), .ref 0]) (σ' := s) rfl ?_
    obtain ⟨v1, hv1, h⟩ := wk_bindE h
    refine wk_Hcall (i2 := 10) (args := [.ref 0, .int ((2 : Int32) * x4)]) (rest := []) (r := some (.int v1)) (σ1 := s) rfl rfl ⟨rfl, rfl, rfl, rfl, rfl⟩ rfl ((t_X12_twoOctets hv1).up (by decide)) ?_
    refine wk_Hs 3 13 ⟨rfl, rfl⟩ (ls' := [.ref 0, .int x1, .int x2, .int x3, .int x4, .int v1]) (st' := [.int (15 : Int32), .int v1]) (σ' := s) rfl ?_
    refine wk_Hcall (i2 := 14) (args := [.int v1, .int (15 : Int32)]) (rest := []) (r := some (.int (b2i (f_X12_has v1 (15 : Int32))))) (σ1 := s) rfl rfl ⟨rfl, rfl, rfl, rfl, rfl⟩ rfl ((t_X12_has rfl).up (by decide)) ?_
    refine wk_Hs 2 16 ⟨rfl, rfl⟩ (ls' := [.ref 0, .int x1, .int x2, .int x3, .int x4, .int v1]) (st' := [.int x2, .int v1, .int (b2i (f_X12_has v1 (15 : Int32)))]) (σ' := s) rfl ?_
    refine wk_Hcall (i2 := 17) (args := [.int v1, .int x2]) (rest := [.int (b2i (f_X12_has v1 (15 : Int32)))]) (r := some (.int (b2i (f_X12_has v1 x2)))) (σ1 := s) rfl rfl ⟨rfl, rfl, rfl, rfl, rfl⟩ rfl ((t_X12_has rfl).up (by decide)) ?_
    rcases wk_ife h with ⟨hc, h⟩ | ⟨hc, h⟩
    · refine wk_H0t 22 rfl (wk_zne.2 hc) ?_
      refine wk_Hs 1 23 ⟨rfl, rfl⟩ (ls' := [.ref 0, .int x1, .int x2, .int x3, .int x4, .int v1]) (st' := [.int (1 : Int32), .int (b2i (f_X12_has v1 (15 : Int32)))]) (σ' := s) rfl ?_
      refine wk_Hgoto (t := 25) rfl ?_
      rcases wk_ife h with ⟨hc, h⟩ | ⟨hc, h⟩
      · refine wk_Hbt 28 rfl (wk_ceq.2 hc) ?_
        refine wk_Hs 1 29 ⟨rfl, rfl⟩ (ls' := [.ref 0, .int x1, .int x2, .int x3, .int (x4 + (1 : Int32)), .int v1]) (st' := []) (σ' := s) rfl ?_
        refine wk_Hgoto (t := 2) rfl ?_
        cases h
        exact hk _
      · refine wk_Hbf 28 26 rfl rfl (wk_nf wk_ceq hc) ?_
        refine wk_Hs 1 27 ⟨rfl, rfl⟩ (ls' := [.ref 0, .int x1, .int x2, .int x3, .int x4, .int v1]) (st' := [.int (0 : Int32)]) (σ' := s) rfl ?_
        cases h
        exact wk_eqz hk (wk_Hretz rfl (b2i_01 false))
    · refine wk_H0f 22 18 rfl rfl (wk_nf wk_zne hc) ?_
      refine wk_Hs 2 20 ⟨rfl, rfl⟩ (ls' := [.ref 0, .int x1, .int x2, .int x3, .int x4, .int v1]) (st' := [.int x3, .int v1, .int (b2i (f_X12_has v1 (15 : Int32)))]) (σ' := s) rfl ?_
      refine wk_Hcall (i2 := 21) (args := [.int v1, .int x3]) (rest := [.int (b2i (f_X12_has v1 (15 : Int32)))]) (r := some (.int (b2i (f_X12_has v1 x3)))) (σ1 := s) rfl rfl ⟨rfl, rfl, rfl, rfl, rfl⟩ rfl ((t_X12_has rfl).up (by decide)) ?_
      rcases wk_ife h with ⟨hc, h⟩ | ⟨hc, h⟩
      · refine wk_H0t 24 rfl (wk_zeq.2 hc) ?_
        refine wk_Hs 1 25 ⟨rfl, rfl⟩ (ls' := [.ref 0, .int x1, .int x2, .int x3, .int x4, .int v1]) (st' := [.int (0 : Int32), .int (b2i (f_X12_has v1 (15 : Int32)))]) (σ' := s) rfl ?_
        rcases wk_ife h with ⟨hc, h⟩ | ⟨hc, h⟩
        · refine wk_Hbt 28 rfl (wk_ceq.2 hc) ?_
          refine wk_Hs 1 29 ⟨rfl, rfl⟩ (ls' := [.ref 0, .int x1, .int x2, .int x3, .int (x4 + (1 : Int32)), .int v1]) (st' := []) (σ' := s) rfl ?_
          refine wk_Hgoto (t := 2) rfl ?_
          cases h
          exact hk _
        · refine wk_Hbf 28 26 rfl rfl (wk_nf wk_ceq hc) ?_
          refine wk_Hs 1 27 ⟨rfl, rfl⟩ (ls' := [.ref 0, .int x1, .int x2, .int x3, .int x4, .int v1]) (st' := [.int (0 : Int32)]) (σ' := s) rfl ?_
          cases h
          exact wk_eqz hk (wk_Hretz rfl (b2i_01 false))
      · refine wk_H0f 24 22 rfl rfl (wk_nf wk_zeq hc) ?_
        refine wk_Hs 1 23 ⟨rfl, rfl⟩ (ls' := [.ref 0, .int x1, .int x2, .int x3, .int x4, .int v1]) (st' := [.int (1 : Int32), .int (b2i (f_X12_has v1 (15 : Int32)))]) (σ' := s) rfl ?_
        refine wk_Hgoto (t := 25) rfl ?_
        rcases wk_ife h with ⟨hc, h⟩ | ⟨hc, h⟩
        · refine wk_Hbt 28 rfl (wk_ceq.2 hc) ?_
          refine wk_Hs 1 29 ⟨rfl, rfl⟩ (ls' := [.ref 0, .int x1, .int x2, .int x3, .int (x4 + (1 : Int32)), .int v1]) (st' := []) (σ' := s) rfl ?_
          refine wk_Hgoto (t := 2) rfl ?_
          cases h
          exact hk _
        · refine wk_Hbf 28 26 rfl rfl (wk_nf wk_ceq hc) ?_
          refine wk_Hs 1 27 ⟨rfl, rfl⟩ (ls' := [.ref 0, .int x1, .int x2, .int x3, .int x4, .int v1]) (st' := [.int (0 : Int32)]) (σ' := s) rfl ?_
          cases h
          exact wk_eqz hk (wk_Hretz rfl (b2i_01 false))
set_option maxHeartbeats 4000000 in
set_option maxRecDepth 20000 in
theorem tl_S_X12_isHated_2 {x1 : Int32} {x2 : Int32} {x3 : Int32} {s : wk_St} {z : wk_R} (n : Nat) : ∀ {x4 : Int32} {w5 : Value} {a : (Bool) ⊕ (Unit)} (h : wk_loop (S_X12_isHated_2 x1 x2 x3 s) n x4 = some a) (hk : match (generalizing := false) a with | Sum.inl r => z = (some (.int (b2i r)), s) | Sum.inr _ => ∀ (u4 u5 : Value), wk_H wk_shM 2 mc_X12_isHated 30 [.ref 0, .int x1, .int x2, .int x3, u4, u5] [] s z), wk_H wk_shM 2 mc_X12_isHated 2 [.ref 0, .int x1, .int x2, .int x3, .int x4, w5] [] s z := by
  induction n with
  | zero =>
    intros
    rename_i h _
    exact nomatch (show (none : Option _) = some _ from h)
  | succ n ih =>
    intros
    rename_i h hk
    obtain ⟨o, ho, h⟩ := wk_bindE (show Option.bind _ _ = some _ from h)
    refine ts_S_X12_isHated_2 ho ?_
    cases o with
    | inl a1 =>
      cases h
      exact hk
    | inr p =>
      exact fun _ => ih h hk
set_option maxHeartbeats 4000000 in
set_option maxRecDepth 20000 in
theorem t_X12_isHated {x1 : Int32} {x2 : Int32} {x3 : Int32} {s : wk_St} {r : Bool} (h : f_X12_isHated x1 x2 x3 s = some r) : wk_T wk_shM 2 128 [.ref 0, .int x1, .int x2, .int x3] s (some (.int (b2i r)), s) := by
  suffices H : ∀ z, z = (some (.int (b2i r)), s) → wk_H wk_shM 2 mc_X12_isHated 0 [.ref 0, .int x1, .int x2, .int x3, wk_U, wk_U] [] s z from H _ rfl
  intro z hk
  dsimp only [f_X12_isHated] at h
  refine wk_Hs 2 2 ⟨rfl, rfl⟩ (ls' := [.ref 0, .int x1, .int x2, .int x3, .int (0 : Int32), wk_U]) (st' := []) (σ' := s) rfl ?_
  obtain ⟨v5, hv5, h⟩ := wk_bindE h
  rcases v5 with v5r | v5
  · cases h
    exact tl_S_X12_isHated_2 wk_F hv5 hk
  · refine tl_S_X12_isHated_2 wk_F hv5 ?_
    intro g6 g7
    dsimp only at h ⊢
    refine wk_Hs 1 31 ⟨rfl, rfl⟩ (ls' := [.ref 0, .int x1, .int x2, .int x3, g6, g7]) (st' := [.int (1 : Int32)]) (σ' := s) rfl ?_
    cases h
    exact wk_eqz hk (wk_Hretz rfl (b2i_01 true))
set_option maxHeartbeats 4000000 in
set_option maxRecDepth 20000 in
theorem ts_S_X12_hated_36 {x1 : Int32} {x2 : Int32} {x6 : Int32} {x3 : Int32} {x4 : Int32} {x5 : Int32} {x7 : Int32} {s : wk_St} {z : wk_R} {o : (Int32 × Int32 × Int32 × wk_St) ⊕ (Int32 × Int32 × Int32 × Int32 × wk_St)} (h : S_X12_hated_36 x1 x2 x6 (x3, x4, x5, x7, s) = some o) (hk : match (generalizing := false) o with | Sum.inl a => (∀ (u7 : Value), wk_H wk_shM 3 mc_X12_hated 60 [.ref 0, .int x1, .int x2, .int a.1, .int a.2.1, .int a.2.2.1, .int x6, u7] [] a.2.2.2 z) | Sum.inr y => wk_H wk_shM 3 mc_X12_hated 36 [.ref 0, .int x1, .int x2, .int y.1, .int y.2.1, .int y.2.2.1, .int x6, .int y.2.2.2.1] [] y.2.2.2.2 z) : wk_H wk_shM 3 mc_X12_hated 36 [.ref 0, .int x1, .int x2, .int x3, .int x4, .int x5, .int x6, .int x7] [] s z := by
  dsimp only [S_X12_hated_36] at h
  refine wk_Hs 2 38 ⟨rfl, rfl⟩ (ls' := [.ref 0, .int x1, .int x2, .int x3, .int x4, .int x5, .int x6, .int x7]) (st' := [.int (12 : Int32), .int x7]) (σ' := s) rfl ?_
  rcases wk_ife h with ⟨hc, h⟩ | ⟨hc, h⟩
  · refine wk_Hbt 60 rfl (wk_cge.2 hc) ?_
    cases h
    exact hk _
  · refine wk_Hbf 60 39 rfl rfl (wk_nf wk_cge hc) ?_
    refine wk_Hs 4 43 ⟨rfl, rfl⟩ (ls' := [.ref 0, .int x1, .int x2, .int x3, .int x4, .int x5, .int x6, .int x7]) (st' := [.int x7, .int x6, .int x1, .ref 0]) (σ' := s) rfl ?_
    obtain ⟨v4, hv4, h⟩ := wk_bindE h
    refine wk_Hcall (i2 := 44) (args := [.ref 0, .int x1, .int x6, .int x7]) (rest := []) (r := some (.int (b2i v4))) (σ1 := s) rfl rfl ⟨rfl, rfl, rfl, rfl, rfl⟩ rfl ((t_X12_isHated hv4).up (by decide)) ?_
    rcases wk_ife h with ⟨hc, h⟩ | ⟨hc, h⟩
    · refine wk_H0t 46 rfl (wk_zne.2 hc) ?_
      refine wk_Hs 3 49 ⟨rfl, rfl⟩ (ls' := [.ref 0, .int x1, .int x2, .int x3, .int x4, .int x5, .int x6, .int x7]) (st' := [.int (x3 + (1 : Int32))]) (σ' := s) rfl ?_
      replace h := wk_letE h
      refine wk_Hs 3 52 ⟨rfl, rfl⟩ (ls' := [.ref 0, .int x1, .int x2, .int (x3 + (1 : Int32)), .int x4, .int x5, .int x6, .int x7]) (st' := [.int (-2 : Int32), .int x4]) (σ' := s) rfl ?_
      rcases wk_ife h with ⟨hc, h⟩ | ⟨hc, h⟩
      · refine wk_Hbt 54 rfl (wk_ceq.2 hc) ?_
        refine wk_Hs 5 59 ⟨rfl, rfl⟩ (ls' := [.ref 0, .int x1, .int x2, .int (x3 + (1 : Int32)), .int x6, .int x7, .int x6, .int (x7 + (1 : Int32))]) (st' := []) (σ' := s) rfl ?_
        refine wk_Hgoto (t := 36) rfl ?_
        cases h
        exact hk
      · refine wk_Hbf 54 53 rfl rfl (wk_nf wk_ceq hc) ?_
        refine wk_Hgoto (t := 58) rfl ?_
        refine wk_Hs 1 59 ⟨rfl, rfl⟩ (ls' := [.ref 0, .int x1, .int x2, .int (x3 + (1 : Int32)), .int x4, .int x5, .int x6, .int (x7 + (1 : Int32))]) (st' := []) (σ' := s) rfl ?_
        refine wk_Hgoto (t := 36) rfl ?_
        cases h
        exact hk
    · refine wk_H0f 46 45 rfl rfl (wk_nf wk_zne hc) ?_
      refine wk_Hgoto (t := 58) rfl ?_
      refine wk_Hs 1 59 ⟨rfl, rfl⟩ (ls' := [.ref 0, .int x1, .int x2, .int x3, .int x4, .int x5, .int x6, .int (x7 + (1 : Int32))]) (st' := []) (σ' := s) rfl ?_
      refine wk_Hgoto (t := 36) rfl ?_
      cases h
      exact hk
set_option maxHeartbeats 4000000 in
set_option maxRecDepth 20000 in
theorem tl_S_X12_hated_36 {x1 : Int32} {x2 : Int32} {x6 : Int32} {z : wk_R} (n : Nat) : ∀ {x3 : Int32} {x4 : Int32} {x5 : Int32} {x7 : Int32} {s : wk_St} {a : Int32 × Int32 × Int32 × wk_St} (h : wk_loop (S_X12_hated_36 x1 x2 x6) n (x3, x4, x5, x7, s) = some a) (hk : ∀ (u7 : Value), wk_H wk_shM 3 mc_X12_hated 60 [.ref 0, .int x1, .int x2, .int a.1, .int a.2.1, .int a.2.2.1, .int x6, u7] [] a.2.2.2 z), wk_H wk_shM 3 mc_X12_hated 36 [.ref 0, .int x1, .int x2, .int x3, .int x4, .int x5, .int x6, .int x7] [] s z := by
  induction n with
  | zero =>
    intros
    rename_i h _
    exact nomatch (show (none : Option _) = some _ from h)
  | succ n ih =>
    intros
    rename_i h hk
    obtain ⟨o, ho, h⟩ := wk_bindE (show Option.bind _ _ = some _ from h)
    refine ts_S_X12_hated_36 ho ?_
    cases o with
    | inl a1 =>
      cases h
      exact hk
    | inr p =>
      obtain ⟨p0, p1, p2, p3, p4⟩ := p
      exact ih h hk
set_option maxHeartbeats 4000000 in
set_option maxRecDepth 20000 in
theorem ts_S_X12_hated_29 {x1 : Int32} {x2 : Int32} {x3 : Int32} {x4 : Int32} {x5 : Int32} {x6 : Int32} {w7 : Value} {s : wk_St} {z : wk_R} {o : (Int32 × Int32 × Int32 × wk_St) ⊕ (Int32 × Int32 × Int32 × Int32 × wk_St)} (h : S_X12_hated_29 x1 x2 (x3, x4, x5, x6, s) = some o) (hk : match (generalizing := false) o with | Sum.inl a => (∀ (u6 u7 : Value), wk_H wk_shM 3 mc_X12_hated 62 [.ref 0, .int x1, .int x2, .int a.1, .int a.2.1, .int a.2.2.1, u6, u7] [] a.2.2.2 z) | Sum.inr y => ∀ (u7 : Value), wk_H wk_shM 3 mc_X12_hated 29 [.ref 0, .int x1, .int x2, .int y.1, .int y.2.1, .int y.2.2.1, .int y.2.2.2.1, u7] [] y.2.2.2.2 z) : wk_H wk_shM 3 mc_X12_hated 29 [.ref 0, .int x1, .int x2, .int x3, .int x4, .int x5, .int x6, w7] [] s z := by
  dsimp only [S_X12_hated_29] at h
  refine wk_Hs 2 31 ⟨rfl, rfl⟩ (ls' := [.ref 0, .int x1, .int x2, .int x3, .int x4, .int x5, .int x6, w7]) (st' := [.int (12 : Int32), .int x6]) (σ' := s) rfl ?_
  rcases wk_ife h with ⟨hc, h⟩ | ⟨hc, h⟩
  · refine wk_Hbt 62 rfl (wk_cge.2 hc) ?_
    cases h
    exact hk _ _
  · refine wk_Hbf 62 32 rfl rfl (wk_nf wk_cge hc) ?_
    refine wk_Hs 3 35 ⟨rfl, rfl⟩ (ls' := [.ref 0, .int x1, .int x2, .int x3, .int x4, .int x5, .int x6, w7]) (st' := [.int (x6 + (1 : Int32))]) (σ' := s) rfl ?_
    replace h := wk_letE h
    refine wk_Hs 1 36 ⟨rfl, rfl⟩ (ls' := [.ref 0, .int x1, .int x2, .int x3, .int x4, .int x5, .int x6, .int (x6 + (1 : Int32))]) (st' := []) (σ' := s) rfl ?_
    obtain ⟨v6, hv6, h⟩ := wk_bindE h
    refine tl_S_X12_hated_36 wk_F hv6 ?_
    intro g7
    refine wk_Hs 1 61 ⟨rfl, rfl⟩ (ls' := [.ref 0, .int x1, .int x2, .int v6.1, .int v6.2.1, .int v6.2.2.1, .int (x6 + (1 : Int32)), g7]) (st' := []) (σ' := v6.2.2.2) rfl ?_
    refine wk_Hgoto (t := 29) rfl ?_
    cases h
    exact hk _
set_option maxHeartbeats 4000000 in
set_option maxRecDepth 20000 in
theorem tl_S_X12_hated_29 {x1 : Int32} {x2 : Int32} {z : wk_R} (n : Nat) : ∀ {x3 : Int32} {x4 : Int32} {x5 : Int32} {x6 : Int32} {w7 : Value} {s : wk_St} {a : Int32 × Int32 × Int32 × wk_St} (h : wk_loop (S_X12_hated_29 x1 x2) n (x3, x4, x5, x6, s) = some a) (hk : ∀ (u6 u7 : Value), wk_H wk_shM 3 mc_X12_hated 62 [.ref 0, .int x1, .int x2, .int a.1, .int a.2.1, .int a.2.2.1, u6, u7] [] a.2.2.2 z), wk_H wk_shM 3 mc_X12_hated 29 [.ref 0, .int x1, .int x2, .int x3, .int x4, .int x5, .int x6, w7] [] s z := by
  induction n with
  | zero =>
    intros
    rename_i h _
    exact nomatch (show (none : Option _) = some _ from h)
  | succ n ih =>
    intros
    rename_i h hk
    obtain ⟨o, ho, h⟩ := wk_bindE (show Option.bind _ _ = some _ from h)
    refine ts_S_X12_hated_29 ho ?_
    cases o with
    | inl a1 =>
      cases h
      exact hk
    | inr p =>
      obtain ⟨p0, p1, p2, p3, p4⟩ := p
      exact fun _ => ih h hk
set_option maxHeartbeats 4000000 in
set_option maxRecDepth 20000 in
theorem t_X12_hated {x1 : Int32} {x2 : Int32} {s : wk_St} {r : Int32 × wk_St} (h : f_X12_hated x1 x2 s = some r) : wk_T wk_shM 3 129 [.ref 0, .int x1, .int x2] s (some (.int r.1), r.2) := by
  suffices H : ∀ z, z = (some (.int r.1), r.2) → wk_H wk_shM 3 mc_X12_hated 0 [.ref 0, .int x1, .int x2, wk_U, wk_U, wk_U, wk_U, wk_U] [] s z from H _ rfl
  intro z hk
  dsimp only [f_X12_hated] at h
  refine wk_Hs 3 3 ⟨rfl, rfl⟩ (ls' := [.ref 0, .int x1, .int x2, wk_U, wk_U, wk_U, wk_U, wk_U]) (st' := [.int (16 : Int32), .int (1 : Int32), .int x1]) (σ' := s) rfl ?_
  refine wk_Hcall (i2 := 4) (args := [.int x1, .int (1 : Int32), .int (16 : Int32)]) (rest := []) (r := some (.int (b2i (f_X12_in x1 (1 : Int32) (16 : Int32))))) (σ1 := s) rfl rfl ⟨rfl, rfl, rfl, rfl, rfl⟩ rfl ((t_X12_in rfl).up (by decide)) ?_
  rcases wk_ife h with ⟨hc, h⟩ | ⟨hc, h⟩
  · refine wk_H0t 16 rfl (wk_zeq.2 hc) ?_
    refine wk_Hs 1 17 ⟨rfl, rfl⟩ (ls' := [.ref 0, .int x1, .int x2, wk_U, wk_U, wk_U, wk_U, wk_U]) (st' := [.int (-1 : Int32)]) (σ' := s) rfl ?_
    cases h
    exact wk_eqz hk (wk_Hret rfl)
  · refine wk_H0f 16 5 rfl rfl (wk_nf wk_zeq hc) ?_
    refine wk_Hs 3 8 ⟨rfl, rfl⟩ (ls' := [.ref 0, .int x1, .int x2, wk_U, wk_U, wk_U, wk_U, wk_U]) (st' := [.int (2 : Int32), .int (0 : Int32), .int x2]) (σ' := s) rfl ?_
    refine wk_Hcall (i2 := 9) (args := [.int x2, .int (0 : Int32), .int (2 : Int32)]) (rest := []) (r := some (.int (b2i (f_X12_in x2 (0 : Int32) (2 : Int32))))) (σ1 := s) rfl rfl ⟨rfl, rfl, rfl, rfl, rfl⟩ rfl ((t_X12_in rfl).up (by decide)) ?_
    rcases wk_ife h with ⟨hc, h⟩ | ⟨hc, h⟩
    · refine wk_H0t 16 rfl (wk_zeq.2 hc) ?_
      refine wk_Hs 1 17 ⟨rfl, rfl⟩ (ls' := [.ref 0, .int x1, .int x2, wk_U, wk_U, wk_U, wk_U, wk_U]) (st' := [.int (-1 : Int32)]) (σ' := s) rfl ?_
      cases h
      exact wk_eqz hk (wk_Hret rfl)
    · refine wk_H0f 16 10 rfl rfl (wk_nf wk_zeq hc) ?_
      refine wk_Hs 5 15 ⟨rfl, rfl⟩ (ls' := [.ref 0, .int x1, .int x2, wk_U, wk_U, wk_U, wk_U, wk_U]) (st' := [.int (s.1 0 9), .int ((2 : Int32) * x1)]) (σ' := s) rfl ?_
      rcases wk_ife h with ⟨hc, h⟩ | ⟨hc, h⟩
      · refine wk_Hbt 18 rfl (wk_cle.2 hc) ?_
        refine wk_Hs 11 29 ⟨rfl, rfl⟩ (ls' := [.ref 0, .int x1, .int x2, .int (0 : Int32), .int (-2 : Int32), .int (-2 : Int32), .int (0 : Int32), wk_U]) (st' := []) (σ' := (wk_si s 0 9 (0 : Int32))) rfl ?_
        obtain ⟨v8, hv8, h⟩ := wk_bindE h
        refine tl_S_X12_hated_29 wk_F hv8 ?_
        intro g9 g10
        refine wk_Hs 1 63 ⟨rfl, rfl⟩ (ls' := [.ref 0, .int x1, .int x2, .int v8.1, .int v8.2.1, .int v8.2.2.1, g9, g10]) (st' := [.int x2]) (σ' := v8.2.2.2) rfl ?_
        rcases wk_ife h with ⟨hc, h⟩ | ⟨hc, h⟩
        · refine wk_H0t 66 rfl (wk_cne.2 hc) ?_
          refine wk_Hs 2 68 ⟨rfl, rfl⟩ (ls' := [.ref 0, .int x1, .int x2, .int v8.1, .int v8.2.1, .int v8.2.2.1, g9, g10]) (st' := [.int (1 : Int32), .int x2]) (σ' := v8.2.2.2) rfl ?_
          rcases wk_ife h with ⟨hc, h⟩ | ⟨hc, h⟩
          · refine wk_Hbt 71 rfl (wk_cne.2 hc) ?_
            refine wk_Hs 1 72 ⟨rfl, rfl⟩ (ls' := [.ref 0, .int x1, .int x2, .int v8.1, .int v8.2.1, .int v8.2.2.1, g9, g10]) (st' := [.int v8.2.2.1]) (σ' := v8.2.2.2) rfl ?_
            cases h
            exact wk_eqz hk (wk_Hret rfl)
          · refine wk_Hbf 71 69 rfl rfl (wk_nf wk_cne hc) ?_
            refine wk_Hs 1 70 ⟨rfl, rfl⟩ (ls' := [.ref 0, .int x1, .int x2, .int v8.1, .int v8.2.1, .int v8.2.2.1, g9, g10]) (st' := [.int v8.2.1]) (σ' := v8.2.2.2) rfl ?_
            refine wk_Hgoto (t := 72) rfl ?_
            cases h
            exact wk_eqz hk (wk_Hret rfl)
        · refine wk_H0f 66 64 rfl rfl (wk_nf wk_cne hc) ?_
          refine wk_Hs 1 65 ⟨rfl, rfl⟩ (ls' := [.ref 0, .int x1, .int x2, .int v8.1, .int v8.2.1, .int v8.2.2.1, g9, g10]) (st' := [.int v8.1]) (σ' := v8.2.2.2) rfl ?_
          refine wk_Hgoto (t := 72) rfl ?_
          cases h
          exact wk_eqz hk (wk_Hret rfl)
      · refine wk_Hbf 18 16 rfl rfl (wk_nf wk_cle hc) ?_
        refine wk_Hs 1 17 ⟨rfl, rfl⟩ (ls' := [.ref 0, .int x1, .int x2, wk_U, wk_U, wk_U, wk_U, wk_U]) (st' := [.int (-1 : Int32)]) (σ' := s) rfl ?_
        cases h
        exact wk_eqz hk (wk_Hret rfl)
set_option maxHeartbeats 4000000 in
set_option maxRecDepth 20000 in
theorem ts_S_X12_suits_58 {x1 : Int32} {x2 : Int32} {x3 : Int32} {x4 : Int32} {x5 : Int32} {x6 : Int32} {s : wk_St} {z : wk_R} {o : (wk_St) ⊕ (Int32 × wk_St)} (h : S_X12_suits_58 x1 x2 x3 x4 x5 (x6, s) = some o) (hk : match (generalizing := false) o with | Sum.inl a => (∀ (u6 : Value), wk_H wk_shM 2 mc_X12_suits 94 [.ref 0, .int x1, .int x2, .int x3, .int x4, .int x5, u6] [] a z) | Sum.inr y => wk_H wk_shM 2 mc_X12_suits 58 [.ref 0, .int x1, .int x2, .int x3, .int x4, .int x5, .int y.1] [] y.2 z) : wk_H wk_shM 2 mc_X12_suits 58 [.ref 0, .int x1, .int x2, .int x3, .int x4, .int x5, .int x6] [] s z := by
  dsimp only [S_X12_suits_58] at h
  refine wk_Hs 2 60 ⟨rfl, rfl⟩ (ls' := [.ref 0, .int x1, .int x2, .int x3, .int x4, .int x5, .int x6]) (st' := [.int (9 : Int32), .int x6]) (σ' := s) rfl ?_
  rcases wk_ife h with ⟨hc, h⟩ | ⟨hc, h⟩
  · refine wk_Hbt 94 rfl (wk_cge.2 hc) ?_
    cases h
    exact hk _
  · refine wk_Hbf 94 61 rfl rfl (wk_nf wk_cge hc) ?_
    refine wk_Hs 2 63 ⟨rfl, rfl⟩ (ls' := [.ref 0, .int x1, .int x2, .int x3, .int x4, .int x5, .int x6]) (st' := [.int x6, .int x4]) (σ' := s) rfl ?_
    refine wk_Hcall (i2 := 64) (args := [.int x4, .int x6]) (rest := []) (r := some (.int (b2i (f_X12_has x4 x6)))) (σ1 := s) rfl rfl ⟨rfl, rfl, rfl, rfl, rfl⟩ rfl ((t_X12_has rfl).up (by decide)) ?_
    rcases wk_ife h with ⟨hc, h⟩ | ⟨hc, h⟩
    · refine wk_H0t 92 rfl (wk_zeq.2 hc) ?_
      refine wk_Hs 1 93 ⟨rfl, rfl⟩ (ls' := [.ref 0, .int x1, .int x2, .int x3, .int x4, .int x5, .int (x6 + (1 : Int32))]) (st' := []) (σ' := s) rfl ?_
      refine wk_Hgoto (t := 58) rfl ?_
      cases h
      exact hk
    · refine wk_H0f 92 65 rfl rfl (wk_nf wk_zeq hc) ?_
      refine wk_Hs 4 69 ⟨rfl, rfl⟩ (ls' := [.ref 0, .int x1, .int x2, .int x3, .int x4, .int x5, .int x6]) (st' := [.int ((2 : Int32) * x5), .ref 0]) (σ' := s) rfl ?_
      obtain ⟨v6, hv6, h⟩ := wk_bindE h
      refine wk_Hcall (i2 := 70) (args := [.ref 0, .int ((2 : Int32) * x5)]) (rest := []) (r := some (.int v6)) (σ1 := s) rfl rfl ⟨rfl, rfl, rfl, rfl, rfl⟩ rfl ((t_X12_twoOctets hv6).up (by decide)) ?_
      refine wk_Hs 1 71 ⟨rfl, rfl⟩ (ls' := [.ref 0, .int x1, .int x2, .int x3, .int x4, .int x5, .int x6]) (st' := [.int x6, .int v6]) (σ' := s) rfl ?_
      refine wk_Hcall (i2 := 72) (args := [.int v6, .int x6]) (rest := []) (r := some (.int (b2i (f_X12_has v6 x6)))) (σ1 := s) rfl rfl ⟨rfl, rfl, rfl, rfl, rfl⟩ rfl ((t_X12_has rfl).up (by decide)) ?_
      rcases wk_ife h with ⟨hc, h⟩ | ⟨hc, h⟩
      · refine wk_H0t 92 rfl (wk_zeq.2 hc) ?_
        refine wk_Hs 1 93 ⟨rfl, rfl⟩ (ls' := [.ref 0, .int x1, .int x2, .int x3, .int x4, .int x5, .int (x6 + (1 : Int32))]) (st' := []) (σ' := s) rfl ?_
        refine wk_Hgoto (t := 58) rfl ?_
        cases h
        exact hk
      · refine wk_H0f 92 73 rfl rfl (wk_nf wk_zeq hc) ?_
        refine wk_Hs 6 79 ⟨rfl, rfl⟩ (ls' := [.ref 0, .int x1, .int x2, .int x3, .int x4, .int x5, .int x6]) (st' := [.int x4, .ref 31, .int x4, .ref 31]) (σ' := s) rfl ?_
        obtain ⟨hg, h⟩ := wk_gdE h
        refine wk_Hia 80 rfl rfl rfl hg rfl ?_
        refine wk_Hs 9 89 ⟨rfl, rfl⟩ (ls' := [.ref 0, .int x1, .int x2, .int x3, .int x4, .int x5, .int x6]) (st' := [.int (x4 &&& (((1 : Int32) <<< (x6 &&& 31)) ^^^ (-1 : Int32))), .ref 31, .int (s.1 31 (x4.toNatClampNeg)), .int x4, .ref 31]) (σ' := s) rfl ?_
        obtain ⟨hg, h⟩ := wk_gdE h
        refine wk_Hia 90 rfl rfl rfl hg rfl ?_
        refine wk_Hs 1 91 ⟨rfl, rfl⟩ (ls' := [.ref 0, .int x1, .int x2, .int x3, .int x4, .int x5, .int x6]) (st' := [.int ((s.1 31 (x4.toNatClampNeg)) + (s.1 31 ((x4 &&& (((1 : Int32) <<< (x6 &&& 31)) ^^^ (-1 : Int32))).toNatClampNeg))), .int x4, .ref 31]) (σ' := s) rfl ?_
        obtain ⟨hg, h⟩ := wk_gdE h
        refine wk_Hias 92 rfl rfl rfl hg rfl ?_
        refine wk_Hs 1 93 ⟨rfl, rfl⟩ (ls' := [.ref 0, .int x1, .int x2, .int x3, .int x4, .int x5, .int (x6 + (1 : Int32))]) (st' := []) (σ' := (wk_si s 31 (x4.toNatClampNeg) ((s.1 31 (x4.toNatClampNeg)) + (s.1 31 ((x4 &&& (((1 : Int32) <<< (x6 &&& 31)) ^^^ (-1 : Int32))).toNatClampNeg))))) rfl ?_
        refine wk_Hgoto (t := 58) rfl ?_
        cases h
        exact hk
set_option maxHeartbeats 4000000 in
set_option maxRecDepth 20000 in
theorem tl_S_X12_suits_58 {x1 : Int32} {x2 : Int32} {x3 : Int32} {x4 : Int32} {x5 : Int32} {z : wk_R} (n : Nat) : ∀ {x6 : Int32} {s : wk_St} {a : wk_St} (h : wk_loop (S_X12_suits_58 x1 x2 x3 x4 x5) n (x6, s) = some a) (hk : ∀ (u6 : Value), wk_H wk_shM 2 mc_X12_suits 94 [.ref 0, .int x1, .int x2, .int x3, .int x4, .int x5, u6] [] a z), wk_H wk_shM 2 mc_X12_suits 58 [.ref 0, .int x1, .int x2, .int x3, .int x4, .int x5, .int x6] [] s z := by
  induction n with
  | zero =>
    intros
    rename_i h _
    exact nomatch (show (none : Option _) = some _ from h)
  | succ n ih =>
    intros
    rename_i h hk
    obtain ⟨o, ho, h⟩ := wk_bindE (show Option.bind _ _ = some _ from h)
    refine ts_S_X12_suits_58 ho ?_
    cases o with
    | inl a1 =>
      cases h
      exact hk
    | inr p =>
      obtain ⟨p0, p1⟩ := p
      exact ih h hk
set_option maxHeartbeats 4000000 in
set_option maxRecDepth 20000 in
theorem tj_j_X12_suits_56_l32 {x1 : Int32} {x2 : Int32} {x3 : Int32} {x4 : Int32} {x5 : Int32} {w6 : Value} {s : wk_St} {z : wk_R} {o : (Int32 × wk_St) ⊕ (Int32 × Int32 × wk_St)} (h : j_X12_suits_56_l32 x1 x2 x3 x4 x5 s = some o) (hk : match (generalizing := false) o with | Sum.inl a => (∀ (u4 u5 u6 : Value), wk_H wk_shM 2 mc_X12_suits 108 [.ref 0, .int x1, .int x2, .int a.1, u4, u5, u6] [] a.2 z) | Sum.inr y => ∀ (u5 u6 : Value), wk_H wk_shM 2 mc_X12_suits 32 [.ref 0, .int x1, .int x2, .int y.1, .int y.2.1, u5, u6] [] y.2.2 z) : wk_H wk_shM 2 mc_X12_suits 56 [.ref 0, .int x1, .int x2, .int x3, .int x4, .int x5, w6] [] s z := by
  dsimp only [j_X12_suits_56_l32] at h
  refine wk_Hs 2 58 ⟨rfl, rfl⟩ (ls' := [.ref 0, .int x1, .int x2, .int x3, .int x4, .int x5, .int (0 : Int32)]) (st' := []) (σ' := s) rfl ?_
  obtain ⟨v8, hv8, h⟩ := wk_bindE h
  refine tl_S_X12_suits_58 wk_F hv8 ?_
  intro g9
  refine wk_Hs 4 98 ⟨rfl, rfl⟩ (ls' := [.ref 0, .int x1, .int x2, .int x3, .int x4, .int x5, g9]) (st' := [.int (x1 - (1 : Int32)), .int x5]) (σ' := v8) rfl ?_
  rcases wk_ife h with ⟨hc, h⟩ | ⟨hc, h⟩
  · refine wk_Hbt 106 rfl (wk_cne.2 hc) ?_
    refine wk_Hs 1 107 ⟨rfl, rfl⟩ (ls' := [.ref 0, .int x1, .int x2, .int x3, .int (x4 + (1 : Int32)), .int x5, g9]) (st' := []) (σ' := v8) rfl ?_
    refine wk_Hgoto (t := 32) rfl ?_
    cases h
    exact hk _ _
  · refine wk_Hbf 106 99 rfl rfl (wk_nf wk_cne hc) ?_
    refine wk_Hs 4 103 ⟨rfl, rfl⟩ (ls' := [.ref 0, .int x1, .int x2, .int x3, .int x4, .int x5, g9]) (st' := [.int x4, .ref 31, .int x3]) (σ' := v8) rfl ?_
    obtain ⟨hg, h⟩ := wk_gdE h
    refine wk_Hia 104 rfl rfl rfl hg rfl ?_
    refine wk_Hs 1 105 ⟨rfl, rfl⟩ (ls' := [.ref 0, .int x1, .int x2, .int x3, .int x4, .int x5, g9]) (st' := [.int (x3 + (v8.1 31 (x4.toNatClampNeg)))]) (σ' := v8) rfl ?_
    replace h := wk_letE h
    refine wk_Hs 2 107 ⟨rfl, rfl⟩ (ls' := [.ref 0, .int x1, .int x2, .int (x3 + (v8.1 31 (x4.toNatClampNeg))), .int (x4 + (1 : Int32)), .int x5, g9]) (st' := []) (σ' := v8) rfl ?_
    refine wk_Hgoto (t := 32) rfl ?_
    cases h
    exact hk _ _
set_option maxHeartbeats 4000000 in
set_option maxRecDepth 20000 in
theorem ts_S_X12_suits_32 {x1 : Int32} {x2 : Int32} {x3 : Int32} {x4 : Int32} {w5 : Value} {w6 : Value} {s : wk_St} {z : wk_R} {o : (Int32 × wk_St) ⊕ (Int32 × Int32 × wk_St)} (h : S_X12_suits_32 x1 x2 (x3, x4, s) = some o) (hk : match (generalizing := false) o with | Sum.inl a => (∀ (u4 u5 u6 : Value), wk_H wk_shM 2 mc_X12_suits 108 [.ref 0, .int x1, .int x2, .int a.1, u4, u5, u6] [] a.2 z) | Sum.inr y => ∀ (u5 u6 : Value), wk_H wk_shM 2 mc_X12_suits 32 [.ref 0, .int x1, .int x2, .int y.1, .int y.2.1, u5, u6] [] y.2.2 z) : wk_H wk_shM 2 mc_X12_suits 32 [.ref 0, .int x1, .int x2, .int x3, .int x4, w5, w6] [] s z := by
  dsimp only [S_X12_suits_32] at h
  refine wk_Hs 2 34 ⟨rfl, rfl⟩ (ls' := [.ref 0, .int x1, .int x2, .int x3, .int x4, w5, w6]) (st' := [.int (512 : Int32), .int x4]) (σ' := s) rfl ?_
  rcases wk_ife h with ⟨hc, h⟩ | ⟨hc, h⟩
  · refine wk_Hbt 108 rfl (wk_cge.2 hc) ?_
    cases h
    exact hk _ _ _
  · refine wk_Hbf 108 35 rfl rfl (wk_nf wk_cge hc) ?_
    refine wk_Hs 1 36 ⟨rfl, rfl⟩ (ls' := [.ref 0, .int x1, .int x2, .int x3, .int x4, w5, w6]) (st' := [.int x4]) (σ' := s) rfl ?_
    obtain ⟨v3, hv3, h⟩ := wk_bindE h
    refine wk_Hcall (i2 := 37) (args := [.int x4]) (rest := []) (r := some (.int v3)) (σ1 := s) rfl rfl ⟨rfl, rfl, rfl, rfl, rfl⟩ rfl ((t_X12_bits hv3).up (by decide)) ?_
    refine wk_Hs 2 39 ⟨rfl, rfl⟩ (ls' := [.ref 0, .int x1, .int x2, .int x3, .int x4, w5, w6]) (st' := [.int (v3 - (1 : Int32))]) (σ' := s) rfl ?_
    replace h := wk_letE h
    refine wk_Hs 5 44 ⟨rfl, rfl⟩ (ls' := [.ref 0, .int x1, .int x2, .int x3, .int x4, .int (v3 - (1 : Int32)), w6]) (st' := [.int (0 : Int32), .int x4, .ref 31]) (σ' := s) rfl ?_
    obtain ⟨hg, h⟩ := wk_gdE h
    refine wk_Hias 45 rfl rfl rfl hg rfl ?_
    refine wk_Hs 2 47 ⟨rfl, rfl⟩ (ls' := [.ref 0, .int x1, .int x2, .int x3, .int x4, .int (v3 - (1 : Int32)), w6]) (st' := [.int x1, .int (v3 - (1 : Int32))]) (σ' := (wk_si s 31 (x4.toNatClampNeg) (0 : Int32))) rfl ?_
    rcases wk_ife h with ⟨hc, h⟩ | ⟨hc, h⟩
    · refine wk_Hbt 106 rfl (wk_cge.2 hc) ?_
      refine wk_Hs 1 107 ⟨rfl, rfl⟩ (ls' := [.ref 0, .int x1, .int x2, .int x3, .int (x4 + (1 : Int32)), .int (v3 - (1 : Int32)), w6]) (st' := []) (σ' := (wk_si s 31 (x4.toNatClampNeg) (0 : Int32))) rfl ?_
      refine wk_Hgoto (t := 32) rfl ?_
      cases h
      exact hk _ _
    · refine wk_Hbf 106 48 rfl rfl (wk_nf wk_cge hc) ?_
      refine wk_Hs 2 50 ⟨rfl, rfl⟩ (ls' := [.ref 0, .int x1, .int x2, .int x3, .int x4, .int (v3 - (1 : Int32)), w6]) (st' := [.int (-1 : Int32), .int x2]) (σ' := (wk_si s 31 (x4.toNatClampNeg) (0 : Int32))) rfl ?_
      rcases wk_ife h with ⟨hc, h⟩ | ⟨hc, h⟩
      · refine wk_Hbt 56 rfl (wk_ceq.2 hc) ?_
        exact tj_j_X12_suits_56_l32 h hk
      · refine wk_Hbf 56 51 rfl rfl (wk_nf wk_ceq hc) ?_
        refine wk_Hs 2 53 ⟨rfl, rfl⟩ (ls' := [.ref 0, .int x1, .int x2, .int x3, .int x4, .int (v3 - (1 : Int32)), w6]) (st' := [.int x2, .int x4]) (σ' := (wk_si s 31 (x4.toNatClampNeg) (0 : Int32))) rfl ?_
        refine wk_Hcall (i2 := 54) (args := [.int x4, .int x2]) (rest := []) (r := some (.int (b2i (f_X12_has x4 x2)))) (σ1 := (wk_si s 31 (x4.toNatClampNeg) (0 : Int32))) rfl rfl ⟨rfl, rfl, rfl, rfl, rfl⟩ rfl ((t_X12_has rfl).up (by decide)) ?_
        rcases wk_ife h with ⟨hc, h⟩ | ⟨hc, h⟩
        · refine wk_H0t 56 rfl (wk_zeq.2 hc) ?_
          exact tj_j_X12_suits_56_l32 h hk
        · refine wk_H0f 56 55 rfl rfl (wk_nf wk_zeq hc) ?_
          refine wk_Hgoto (t := 106) rfl ?_
          refine wk_Hs 1 107 ⟨rfl, rfl⟩ (ls' := [.ref 0, .int x1, .int x2, .int x3, .int (x4 + (1 : Int32)), .int (v3 - (1 : Int32)), w6]) (st' := []) (σ' := (wk_si s 31 (x4.toNatClampNeg) (0 : Int32))) rfl ?_
          refine wk_Hgoto (t := 32) rfl ?_
          cases h
          exact hk _ _
set_option maxHeartbeats 4000000 in
set_option maxRecDepth 20000 in
theorem tl_S_X12_suits_32 {x1 : Int32} {x2 : Int32} {z : wk_R} (n : Nat) : ∀ {x3 : Int32} {x4 : Int32} {w5 : Value} {w6 : Value} {s : wk_St} {a : Int32 × wk_St} (h : wk_loop (S_X12_suits_32 x1 x2) n (x3, x4, s) = some a) (hk : ∀ (u4 u5 u6 : Value), wk_H wk_shM 2 mc_X12_suits 108 [.ref 0, .int x1, .int x2, .int a.1, u4, u5, u6] [] a.2 z), wk_H wk_shM 2 mc_X12_suits 32 [.ref 0, .int x1, .int x2, .int x3, .int x4, w5, w6] [] s z := by
  induction n with
  | zero =>
    intros
    rename_i h _
    exact nomatch (show (none : Option _) = some _ from h)
  | succ n ih =>
    intros
    rename_i h hk
    obtain ⟨o, ho, h⟩ := wk_bindE (show Option.bind _ _ = some _ from h)
    refine ts_S_X12_suits_32 ho ?_
    cases o with
    | inl a1 =>
      cases h
      exact hk
    | inr p =>
      obtain ⟨p0, p1, p2⟩ := p
      exact fun _ _ => ih h hk
set_option maxHeartbeats 4000000 in
set_option maxRecDepth 20000 in
theorem t_X12_suits {x1 : Int32} {x2 : Int32} {s : wk_St} {r : Int32 × wk_St} (h : f_X12_suits x1 x2 s = some r) : wk_T wk_shM 2 130 [.ref 0, .int x1, .int x2] s (some (.int r.1), r.2) := by
  suffices H : ∀ z, z = (some (.int r.1), r.2) → wk_H wk_shM 2 mc_X12_suits 0 [.ref 0, .int x1, .int x2, wk_U, wk_U, wk_U, wk_U] [] s z from H _ rfl
  intro z hk
  dsimp only [f_X12_suits] at h
  refine wk_Hs 3 3 ⟨rfl, rfl⟩ (ls' := [.ref 0, .int x1, .int x2, wk_U, wk_U, wk_U, wk_U]) (st' := [.int (9 : Int32), .int (1 : Int32), .int x1]) (σ' := s) rfl ?_
  refine wk_Hcall (i2 := 4) (args := [.int x1, .int (1 : Int32), .int (9 : Int32)]) (rest := []) (r := some (.int (b2i (f_X12_in x1 (1 : Int32) (9 : Int32))))) (σ1 := s) rfl rfl ⟨rfl, rfl, rfl, rfl, rfl⟩ rfl ((t_X12_in rfl).up (by decide)) ?_
  rcases wk_ife h with ⟨hc, h⟩ | ⟨hc, h⟩
  · refine wk_H0t 11 rfl (wk_zeq.2 hc) ?_
    refine wk_Hs 1 12 ⟨rfl, rfl⟩ (ls' := [.ref 0, .int x1, .int x2, wk_U, wk_U, wk_U, wk_U]) (st' := [.int (-1 : Int32)]) (σ' := s) rfl ?_
    cases h
    exact wk_eqz hk (wk_Hret rfl)
  · refine wk_H0f 11 5 rfl rfl (wk_nf wk_zeq hc) ?_
    refine wk_Hs 5 10 ⟨rfl, rfl⟩ (ls' := [.ref 0, .int x1, .int x2, wk_U, wk_U, wk_U, wk_U]) (st' := [.int (s.1 0 9), .int ((2 : Int32) * x1)]) (σ' := s) rfl ?_
    rcases wk_ife h with ⟨hc, h⟩ | ⟨hc, h⟩
    · refine wk_Hbt 13 rfl (wk_cle.2 hc) ?_
      refine wk_Hs 6 19 ⟨rfl, rfl⟩ (ls' := [.ref 0, .int x1, .int x2, wk_U, wk_U, wk_U, wk_U]) (st' := [.int (8 : Int32), .int (-1 : Int32), .int x2]) (σ' := (wk_si s 0 9 (0 : Int32))) rfl ?_
      refine wk_Hcall (i2 := 20) (args := [.int x2, .int (-1 : Int32), .int (8 : Int32)]) (rest := []) (r := some (.int (b2i (f_X12_in x2 (-1 : Int32) (8 : Int32))))) (σ1 := (wk_si s 0 9 (0 : Int32))) rfl rfl ⟨rfl, rfl, rfl, rfl, rfl⟩ rfl ((t_X12_in rfl).up (by decide)) ?_
      rcases wk_ife h with ⟨hc, h⟩ | ⟨hc, h⟩
      · refine wk_H0t 23 rfl (wk_zne.2 hc) ?_
        refine wk_Hs 4 27 ⟨rfl, rfl⟩ (ls' := [.ref 0, .int x1, .int x2, wk_U, wk_U, wk_U, wk_U]) (st' := [.int (1 : Int32), .int (0 : Int32), .ref 31]) (σ' := (wk_si s 0 9 (0 : Int32))) rfl ?_
        refine wk_Hias 28 rfl rfl rfl rfl rfl ?_
        refine wk_Hs 4 32 ⟨rfl, rfl⟩ (ls' := [.ref 0, .int x1, .int x2, .int (0 : Int32), .int (1 : Int32), wk_U, wk_U]) (st' := []) (σ' := (wk_si (wk_si s 0 9 (0 : Int32)) 31 0 (1 : Int32))) rfl ?_
        obtain ⟨v12, hv12, h⟩ := wk_bindE h
        refine tl_S_X12_suits_32 wk_F hv12 ?_
        intro g13 g14 g15
        refine wk_Hs 1 109 ⟨rfl, rfl⟩ (ls' := [.ref 0, .int x1, .int x2, .int v12.1, g13, g14, g15]) (st' := [.int v12.1]) (σ' := v12.2) rfl ?_
        cases h
        exact wk_eqz hk (wk_Hret rfl)
      · refine wk_H0f 23 21 rfl rfl (wk_nf wk_zne hc) ?_
        refine wk_Hs 1 22 ⟨rfl, rfl⟩ (ls' := [.ref 0, .int x1, .int x2, wk_U, wk_U, wk_U, wk_U]) (st' := [.int (-2 : Int32)]) (σ' := (wk_si s 0 9 (0 : Int32))) rfl ?_
        cases h
        exact wk_eqz hk (wk_Hret rfl)
    · refine wk_Hbf 13 11 rfl rfl (wk_nf wk_cle hc) ?_
      refine wk_Hs 1 12 ⟨rfl, rfl⟩ (ls' := [.ref 0, .int x1, .int x2, wk_U, wk_U, wk_U, wk_U]) (st' := [.int (-1 : Int32)]) (σ' := s) rfl ?_
      cases h
      exact wk_eqz hk (wk_Hret rfl)
set_option maxHeartbeats 4000000 in
set_option maxRecDepth 20000 in
theorem t_X12_isLeap {x0 : Int32} {s : wk_St} {r : Bool} (h : f_X12_isLeap x0 = r) : wk_T wk_shM 0 131 [.int x0] s (some (.int (b2i r)), s) := by
  suffices H : ∀ z, z = (some (.int (b2i r)), s) → wk_H wk_shM 0 mc_X12_isLeap 0 [.int x0] [] s z from H _ rfl
  intro z hk
  dsimp only [f_X12_isLeap] at h
  refine wk_Hs 2 2 ⟨rfl, rfl⟩ (ls' := [.int x0]) (st' := [.int (4 : Int32), .int x0]) (σ' := s) rfl ?_
  refine wk_Hrem 3 rfl rfl (by decide) ?_
  rcases wk_ife h with ⟨hc, h⟩ | ⟨hc, h⟩
  · refine wk_H0t 14 rfl (wk_cne.2 hc) ?_
    refine wk_Hs 1 15 ⟨rfl, rfl⟩ (ls' := [.int x0]) (st' := [.int (0 : Int32)]) (σ' := s) rfl ?_
    cases h
    exact wk_eqz hk (wk_Hretz rfl (b2i_01 false))
  · refine wk_H0f 14 4 rfl rfl (wk_nf wk_cne hc) ?_
    refine wk_Hs 2 6 ⟨rfl, rfl⟩ (ls' := [.int x0]) (st' := [.int (100 : Int32), .int x0]) (σ' := s) rfl ?_
    refine wk_Hrem 7 rfl rfl (by decide) ?_
    rcases wk_ife h with ⟨hc, h⟩ | ⟨hc, h⟩
    · refine wk_H0t 12 rfl (wk_cne.2 hc) ?_
      refine wk_Hs 1 13 ⟨rfl, rfl⟩ (ls' := [.int x0]) (st' := [.int (1 : Int32)]) (σ' := s) rfl ?_
      refine wk_Hgoto (t := 15) rfl ?_
      cases h
      exact wk_eqz hk (wk_Hretz rfl (b2i_01 true))
    · refine wk_H0f 12 8 rfl rfl (wk_nf wk_cne hc) ?_
      refine wk_Hs 2 10 ⟨rfl, rfl⟩ (ls' := [.int x0]) (st' := [.int (400 : Int32), .int x0]) (σ' := s) rfl ?_
      refine wk_Hrem 11 rfl rfl (by decide) ?_
      rcases wk_ife h with ⟨hc, h⟩ | ⟨hc, h⟩
      · refine wk_H0t 14 rfl (wk_cne.2 hc) ?_
        refine wk_Hs 1 15 ⟨rfl, rfl⟩ (ls' := [.int x0]) (st' := [.int (0 : Int32)]) (σ' := s) rfl ?_
        cases h
        exact wk_eqz hk (wk_Hretz rfl (b2i_01 false))
      · refine wk_H0f 14 12 rfl rfl (wk_nf wk_cne hc) ?_
        refine wk_Hs 1 13 ⟨rfl, rfl⟩ (ls' := [.int x0]) (st' := [.int (1 : Int32)]) (σ' := s) rfl ?_
        refine wk_Hgoto (t := 15) rfl ?_
        cases h
        exact wk_eqz hk (wk_Hretz rfl (b2i_01 true))
set_option maxHeartbeats 4000000 in
set_option maxRecDepth 20000 in
theorem t_X12_daysIn {x0 : Int32} {x1 : Int32} {s : wk_St} {r : Int32} (h : f_X12_daysIn x0 x1 = r) : wk_T wk_shM 1 132 [.int x0, .int x1] s (some (.int r), s) := by
  suffices H : ∀ z, z = (some (.int r), s) → wk_H wk_shM 1 mc_X12_daysIn 0 [.int x0, .int x1] [] s z from H _ rfl
  intro z hk
  dsimp only [f_X12_daysIn] at h
  refine wk_Hs 2 2 ⟨rfl, rfl⟩ (ls' := [.int x0, .int x1]) (st' := [.int (2 : Int32), .int x1]) (σ' := s) rfl ?_
  rcases wk_ife h with ⟨hc, h⟩ | ⟨hc, h⟩
  · refine wk_Hbt 10 rfl (wk_cne.2 hc) ?_
    refine wk_Hs 2 12 ⟨rfl, rfl⟩ (ls' := [.int x0, .int x1]) (st' := [.int (4 : Int32), .int x1]) (σ' := s) rfl ?_
    rcases wk_ife h with ⟨hc, h⟩ | ⟨hc, h⟩
    · refine wk_Hbt 22 rfl (wk_ceq.2 hc) ?_
      refine wk_Hs 1 23 ⟨rfl, rfl⟩ (ls' := [.int x0, .int x1]) (st' := [.int (30 : Int32)]) (σ' := s) rfl ?_
      refine wk_Hgoto (t := 25) rfl ?_
      cases h
      exact wk_eqz hk (wk_Hret rfl)
    · refine wk_Hbf 22 13 rfl rfl (wk_nf wk_ceq hc) ?_
      refine wk_Hs 2 15 ⟨rfl, rfl⟩ (ls' := [.int x0, .int x1]) (st' := [.int (6 : Int32), .int x1]) (σ' := s) rfl ?_
      rcases wk_ife h with ⟨hc, h⟩ | ⟨hc, h⟩
      · refine wk_Hbt 22 rfl (wk_ceq.2 hc) ?_
        refine wk_Hs 1 23 ⟨rfl, rfl⟩ (ls' := [.int x0, .int x1]) (st' := [.int (30 : Int32)]) (σ' := s) rfl ?_
        refine wk_Hgoto (t := 25) rfl ?_
        cases h
        exact wk_eqz hk (wk_Hret rfl)
      · refine wk_Hbf 22 16 rfl rfl (wk_nf wk_ceq hc) ?_
        refine wk_Hs 2 18 ⟨rfl, rfl⟩ (ls' := [.int x0, .int x1]) (st' := [.int (9 : Int32), .int x1]) (σ' := s) rfl ?_
        rcases wk_ife h with ⟨hc, h⟩ | ⟨hc, h⟩
        · refine wk_Hbt 22 rfl (wk_ceq.2 hc) ?_
          refine wk_Hs 1 23 ⟨rfl, rfl⟩ (ls' := [.int x0, .int x1]) (st' := [.int (30 : Int32)]) (σ' := s) rfl ?_
          refine wk_Hgoto (t := 25) rfl ?_
          cases h
          exact wk_eqz hk (wk_Hret rfl)
        · refine wk_Hbf 22 19 rfl rfl (wk_nf wk_ceq hc) ?_
          refine wk_Hs 2 21 ⟨rfl, rfl⟩ (ls' := [.int x0, .int x1]) (st' := [.int (11 : Int32), .int x1]) (σ' := s) rfl ?_
          rcases wk_ife h with ⟨hc, h⟩ | ⟨hc, h⟩
          · refine wk_Hbt 24 rfl (wk_cne.2 hc) ?_
            refine wk_Hs 1 25 ⟨rfl, rfl⟩ (ls' := [.int x0, .int x1]) (st' := [.int (31 : Int32)]) (σ' := s) rfl ?_
            cases h
            exact wk_eqz hk (wk_Hret rfl)
          · refine wk_Hbf 24 22 rfl rfl (wk_nf wk_cne hc) ?_
            refine wk_Hs 1 23 ⟨rfl, rfl⟩ (ls' := [.int x0, .int x1]) (st' := [.int (30 : Int32)]) (σ' := s) rfl ?_
            refine wk_Hgoto (t := 25) rfl ?_
            cases h
            exact wk_eqz hk (wk_Hret rfl)
  · refine wk_Hbf 10 3 rfl rfl (wk_nf wk_cne hc) ?_
    refine wk_Hs 1 4 ⟨rfl, rfl⟩ (ls' := [.int x0, .int x1]) (st' := [.int x0]) (σ' := s) rfl ?_
    refine wk_Hcall (i2 := 5) (args := [.int x0]) (rest := []) (r := some (.int (b2i (f_X12_isLeap x0)))) (σ1 := s) rfl rfl ⟨rfl, rfl, rfl, rfl, rfl⟩ rfl ((t_X12_isLeap rfl).up (by decide)) ?_
    rcases wk_ife h with ⟨hc, h⟩ | ⟨hc, h⟩
    · refine wk_H0t 8 rfl (wk_zeq.2 hc) ?_
      refine wk_Hs 1 9 ⟨rfl, rfl⟩ (ls' := [.int x0, .int x1]) (st' := [.int (28 : Int32)]) (σ' := s) rfl ?_
      cases h
      exact wk_eqz hk (wk_Hret rfl)
    · refine wk_H0f 8 6 rfl rfl (wk_nf wk_zeq hc) ?_
      refine wk_Hs 1 7 ⟨rfl, rfl⟩ (ls' := [.int x0, .int x1]) (st' := [.int (29 : Int32)]) (σ' := s) rfl ?_
      refine wk_Hgoto (t := 9) rfl ?_
      cases h
      exact wk_eqz hk (wk_Hret rfl)
set_option maxHeartbeats 4000000 in
set_option maxRecDepth 20000 in
theorem t_X12_isMonth {x0 : Int32} {x1 : Int32} {s : wk_St} {r : Bool} (h : f_X12_isMonth x0 x1 = r) : wk_T wk_shM 1 133 [.int x0, .int x1] s (some (.int (b2i r)), s) := by
  suffices H : ∀ z, z = (some (.int (b2i r)), s) → wk_H wk_shM 1 mc_X12_isMonth 0 [.int x0, .int x1] [] s z from H _ rfl
  intro z hk
  dsimp only [f_X12_isMonth] at h
  refine wk_Hs 3 3 ⟨rfl, rfl⟩ (ls' := [.int x0, .int x1]) (st' := [.int (9999 : Int32), .int (1 : Int32), .int x0]) (σ' := s) rfl ?_
  refine wk_Hcall (i2 := 4) (args := [.int x0, .int (1 : Int32), .int (9999 : Int32)]) (rest := []) (r := some (.int (b2i (f_X12_in x0 (1 : Int32) (9999 : Int32))))) (σ1 := s) rfl rfl ⟨rfl, rfl, rfl, rfl, rfl⟩ rfl ((t_X12_in rfl).up (by decide)) ?_
  rcases wk_ife h with ⟨hc, h⟩ | ⟨hc, h⟩
  · refine wk_H0t 12 rfl (wk_zeq.2 hc) ?_
    refine wk_Hs 1 13 ⟨rfl, rfl⟩ (ls' := [.int x0, .int x1]) (st' := [.int (0 : Int32)]) (σ' := s) rfl ?_
    cases h
    exact wk_eqz hk (wk_Hretz rfl (b2i_01 false))
  · refine wk_H0f 12 5 rfl rfl (wk_nf wk_zeq hc) ?_
    refine wk_Hs 3 8 ⟨rfl, rfl⟩ (ls' := [.int x0, .int x1]) (st' := [.int (12 : Int32), .int (1 : Int32), .int x1]) (σ' := s) rfl ?_
    refine wk_Hcall (i2 := 9) (args := [.int x1, .int (1 : Int32), .int (12 : Int32)]) (rest := []) (r := some (.int (b2i (f_X12_in x1 (1 : Int32) (12 : Int32))))) (σ1 := s) rfl rfl ⟨rfl, rfl, rfl, rfl, rfl⟩ rfl ((t_X12_in rfl).up (by decide)) ?_
    rcases wk_ife h with ⟨hc, h⟩ | ⟨hc, h⟩
    · refine wk_H0t 12 rfl (wk_zeq.2 hc) ?_
      refine wk_Hs 1 13 ⟨rfl, rfl⟩ (ls' := [.int x0, .int x1]) (st' := [.int (0 : Int32)]) (σ' := s) rfl ?_
      cases h
      exact wk_eqz hk (wk_Hretz rfl (b2i_01 false))
    · refine wk_H0f 12 10 rfl rfl (wk_nf wk_zeq hc) ?_
      refine wk_Hs 1 11 ⟨rfl, rfl⟩ (ls' := [.int x0, .int x1]) (st' := [.int (1 : Int32)]) (σ' := s) rfl ?_
      refine wk_Hgoto (t := 13) rfl ?_
      cases h
      exact wk_eqz hk (wk_Hretz rfl (b2i_01 true))
set_option maxHeartbeats 4000000 in
set_option maxRecDepth 20000 in
theorem t_X12_isDate {x0 : Int32} {x1 : Int32} {x2 : Int32} {s : wk_St} {r : Bool} (h : f_X12_isDate x0 x1 x2 = r) : wk_T wk_shM 2 134 [.int x0, .int x1, .int x2] s (some (.int (b2i r)), s) := by
  suffices H : ∀ z, z = (some (.int (b2i r)), s) → wk_H wk_shM 2 mc_X12_isDate 0 [.int x0, .int x1, .int x2] [] s z from H _ rfl
  intro z hk
  dsimp only [f_X12_isDate] at h
  refine wk_Hs 2 2 ⟨rfl, rfl⟩ (ls' := [.int x0, .int x1, .int x2]) (st' := [.int x1, .int x0]) (σ' := s) rfl ?_
  refine wk_Hcall (i2 := 3) (args := [.int x0, .int x1]) (rest := []) (r := some (.int (b2i (f_X12_isMonth x0 x1)))) (σ1 := s) rfl rfl ⟨rfl, rfl, rfl, rfl, rfl⟩ rfl ((t_X12_isMonth rfl).up (by decide)) ?_
  rcases wk_ife h with ⟨hc, h⟩ | ⟨hc, h⟩
  · refine wk_H0t 13 rfl (wk_zeq.2 hc) ?_
    refine wk_Hs 1 14 ⟨rfl, rfl⟩ (ls' := [.int x0, .int x1, .int x2]) (st' := [.int (0 : Int32)]) (σ' := s) rfl ?_
    cases h
    exact wk_eqz hk (wk_Hretz rfl (b2i_01 false))
  · refine wk_H0f 13 4 rfl rfl (wk_nf wk_zeq hc) ?_
    refine wk_Hs 4 8 ⟨rfl, rfl⟩ (ls' := [.int x0, .int x1, .int x2]) (st' := [.int x1, .int x0, .int (1 : Int32), .int x2]) (σ' := s) rfl ?_
    refine wk_Hcall (i2 := 9) (args := [.int x0, .int x1]) (rest := [.int (1 : Int32), .int x2]) (r := some (.int (f_X12_daysIn x0 x1))) (σ1 := s) rfl rfl ⟨rfl, rfl, rfl, rfl, rfl⟩ rfl ((t_X12_daysIn rfl).up (by decide)) ?_
    refine wk_Hcall (i2 := 10) (args := [.int x2, .int (1 : Int32), .int (f_X12_daysIn x0 x1)]) (rest := []) (r := some (.int (b2i (f_X12_in x2 (1 : Int32) (f_X12_daysIn x0 x1))))) (σ1 := s) rfl rfl ⟨rfl, rfl, rfl, rfl, rfl⟩ rfl ((t_X12_in rfl).up (by decide)) ?_
    rcases wk_ife h with ⟨hc, h⟩ | ⟨hc, h⟩
    · refine wk_H0t 13 rfl (wk_zeq.2 hc) ?_
      refine wk_Hs 1 14 ⟨rfl, rfl⟩ (ls' := [.int x0, .int x1, .int x2]) (st' := [.int (0 : Int32)]) (σ' := s) rfl ?_
      cases h
      exact wk_eqz hk (wk_Hretz rfl (b2i_01 false))
    · refine wk_H0f 13 11 rfl rfl (wk_nf wk_zeq hc) ?_
      refine wk_Hs 1 12 ⟨rfl, rfl⟩ (ls' := [.int x0, .int x1, .int x2]) (st' := [.int (1 : Int32)]) (σ' := s) rfl ?_
      refine wk_Hgoto (t := 14) rfl ?_
      cases h
      exact wk_eqz hk (wk_Hretz rfl (b2i_01 true))
set_option maxHeartbeats 4000000 in
set_option maxRecDepth 20000 in
theorem ts_S_X12_daysTo_26 {x0 : Int32} {x1 : Int32} {x4 : Int32} {x5 : Int32} {w2 : Value} {w3 : Value} {s : wk_St} {z : wk_R} {o : (Int32) ⊕ (Int32 × Int32)} (h : S_X12_daysTo_26 x0 x1 (x4, x5) = some o) (hk : match (generalizing := false) o with | Sum.inl a => (∀ (u3 u5 : Value), wk_H wk_shM 2 mc_X12_daysTo 37 [.int x0, .int x1, w2, u3, .int a, u5] [] s z) | Sum.inr y => ∀ (u3 : Value), wk_H wk_shM 2 mc_X12_daysTo 26 [.int x0, .int x1, w2, u3, .int y.1, .int y.2] [] s z) : wk_H wk_shM 2 mc_X12_daysTo 26 [.int x0, .int x1, w2, w3, .int x4, .int x5] [] s z := by
  dsimp only [S_X12_daysTo_26] at h
  refine wk_Hs 2 28 ⟨rfl, rfl⟩ (ls' := [.int x0, .int x1, w2, w3, .int x4, .int x5]) (st' := [.int x1, .int x5]) (σ' := s) rfl ?_
  rcases wk_ife h with ⟨hc, h⟩ | ⟨hc, h⟩
  · refine wk_Hbt 37 rfl (wk_cge.2 hc) ?_
    cases h
    exact hk _ _
  · refine wk_Hbf 37 29 rfl rfl (wk_nf wk_cge hc) ?_
    refine wk_Hs 3 32 ⟨rfl, rfl⟩ (ls' := [.int x0, .int x1, w2, w3, .int x4, .int x5]) (st' := [.int x5, .int x0, .int x4]) (σ' := s) rfl ?_
    refine wk_Hcall (i2 := 33) (args := [.int x0, .int x5]) (rest := [.int x4]) (r := some (.int (f_X12_daysIn x0 x5))) (σ1 := s) rfl rfl ⟨rfl, rfl, rfl, rfl, rfl⟩ rfl ((t_X12_daysIn rfl).up (by decide)) ?_
    refine wk_Hs 1 34 ⟨rfl, rfl⟩ (ls' := [.int x0, .int x1, w2, w3, .int x4, .int x5]) (st' := [.int (x4 + (f_X12_daysIn x0 x5))]) (σ' := s) rfl ?_
    replace h := wk_letE h
    refine wk_Hs 2 36 ⟨rfl, rfl⟩ (ls' := [.int x0, .int x1, w2, (wk_cl w3), .int (x4 + (f_X12_daysIn x0 x5)), .int (x5 + (1 : Int32))]) (st' := []) (σ' := s) rfl ?_
    refine wk_Hgoto (t := 26) rfl ?_
    cases h
    exact hk _
set_option maxHeartbeats 4000000 in
set_option maxRecDepth 20000 in
theorem tl_S_X12_daysTo_26 {x0 : Int32} {x1 : Int32} {w2 : Value} {s : wk_St} {z : wk_R} (n : Nat) : ∀ {x4 : Int32} {x5 : Int32} {w3 : Value} {a : Int32} (h : wk_loop (S_X12_daysTo_26 x0 x1) n (x4, x5) = some a) (hk : ∀ (u3 u5 : Value), wk_H wk_shM 2 mc_X12_daysTo 37 [.int x0, .int x1, w2, u3, .int a, u5] [] s z), wk_H wk_shM 2 mc_X12_daysTo 26 [.int x0, .int x1, w2, w3, .int x4, .int x5] [] s z := by
  induction n with
  | zero =>
    intros
    rename_i h _
    exact nomatch (show (none : Option _) = some _ from h)
  | succ n ih =>
    intros
    rename_i h hk
    obtain ⟨o, ho, h⟩ := wk_bindE (show Option.bind _ _ = some _ from h)
    refine ts_S_X12_daysTo_26 ho ?_
    cases o with
    | inl a1 =>
      cases h
      exact hk
    | inr p =>
      obtain ⟨p0, p1⟩ := p
      exact fun _ => ih h hk
set_option maxHeartbeats 4000000 in
set_option maxRecDepth 20000 in
theorem t_X12_daysTo {x0 : Int32} {x1 : Int32} {x2 : Int32} {s : wk_St} {r : Int32} (h : f_X12_daysTo x0 x1 x2 = some r) : wk_T wk_shM 2 135 [.int x0, .int x1, .int x2] s (some (.int r), s) := by
  suffices H : ∀ z, z = (some (.int r), s) → wk_H wk_shM 2 mc_X12_daysTo 0 [.int x0, .int x1, .int x2, wk_U, wk_U, wk_U] [] s z from H _ rfl
  intro z hk
  dsimp only [f_X12_daysTo] at h
  refine wk_Hs 3 3 ⟨rfl, rfl⟩ (ls' := [.int x0, .int x1, .int x2, wk_U, wk_U, wk_U]) (st' := [.int (x0 - (1 : Int32))]) (σ' := s) rfl ?_
  replace h := wk_letE h
  refine wk_Hs 6 9 ⟨rfl, rfl⟩ (ls' := [.int x0, .int x1, .int x2, .int (x0 - (1 : Int32)), wk_U, wk_U]) (st' := [.int (4 : Int32), .int (x0 - (1 : Int32)), .int ((365 : Int32) * (x0 - (1 : Int32)))]) (σ' := s) rfl ?_
  refine wk_Hdiv 10 rfl rfl (by decide) ?_
  refine wk_Hs 3 13 ⟨rfl, rfl⟩ (ls' := [.int x0, .int x1, .int x2, .int (x0 - (1 : Int32)), wk_U, wk_U]) (st' := [.int (100 : Int32), .int (x0 - (1 : Int32)), .int (((365 : Int32) * (x0 - (1 : Int32))) + ((x0 - (1 : Int32)) / (4 : Int32)))]) (σ' := s) rfl ?_
  refine wk_Hdiv 14 rfl rfl (by decide) ?_
  refine wk_Hs 3 17 ⟨rfl, rfl⟩ (ls' := [.int x0, .int x1, .int x2, .int (x0 - (1 : Int32)), wk_U, wk_U]) (st' := [.int (400 : Int32), .int (x0 - (1 : Int32)), .int ((((365 : Int32) * (x0 - (1 : Int32))) + ((x0 - (1 : Int32)) / (4 : Int32))) - ((x0 - (1 : Int32)) / (100 : Int32)))]) (σ' := s) rfl ?_
  refine wk_Hdiv 18 rfl rfl (by decide) ?_
  refine wk_Hs 5 23 ⟨rfl, rfl⟩ (ls' := [.int x0, .int x1, .int x2, .int (x0 - (1 : Int32)), wk_U, wk_U]) (st' := [.int (((((((365 : Int32) * (x0 - (1 : Int32))) + ((x0 - (1 : Int32)) / (4 : Int32))) - ((x0 - (1 : Int32)) / (100 : Int32))) + ((x0 - (1 : Int32)) / (400 : Int32))) + x2) - (1 : Int32))]) (σ' := s) rfl ?_
  replace h := wk_letE h
  refine wk_Hs 3 26 ⟨rfl, rfl⟩ (ls' := [.int x0, .int x1, .int x2, .int (x0 - (1 : Int32)), .int (((((((365 : Int32) * (x0 - (1 : Int32))) + ((x0 - (1 : Int32)) / (4 : Int32))) - ((x0 - (1 : Int32)) / (100 : Int32))) + ((x0 - (1 : Int32)) / (400 : Int32))) + x2) - (1 : Int32)), .int (1 : Int32)]) (st' := []) (σ' := s) rfl ?_
  obtain ⟨v5, hv5, h⟩ := wk_bindE h
  refine tl_S_X12_daysTo_26 wk_F hv5 ?_
  intro g6 g7
  refine wk_Hs 1 38 ⟨rfl, rfl⟩ (ls' := [.int x0, .int x1, .int x2, g6, .int v5, g7]) (st' := [.int v5]) (σ' := s) rfl ?_
  cases h
  exact wk_eqz hk (wk_Hret rfl)
set_option maxHeartbeats 4000000 in
set_option maxRecDepth 20000 in
theorem t_X12_weekdayOf {x0 : Int32} {x1 : Int32} {x2 : Int32} {s : wk_St} {r : Int32} (h : f_X12_weekdayOf x0 x1 x2 = some r) : wk_T wk_shM 3 136 [.int x0, .int x1, .int x2] s (some (.int r), s) := by
  suffices H : ∀ z, z = (some (.int r), s) → wk_H wk_shM 3 mc_X12_weekdayOf 0 [.int x0, .int x1, .int x2] [] s z from H _ rfl
  intro z hk
  dsimp only [f_X12_weekdayOf] at h
  refine wk_Hs 3 3 ⟨rfl, rfl⟩ (ls' := [.int x0, .int x1, .int x2]) (st' := [.int x2, .int x1, .int x0]) (σ' := s) rfl ?_
  obtain ⟨v1, hv1, h⟩ := wk_bindE h
  refine wk_Hcall (i2 := 4) (args := [.int x0, .int x1, .int x2]) (rest := []) (r := some (.int v1)) (σ1 := s) rfl rfl ⟨rfl, rfl, rfl, rfl, rfl⟩ rfl ((t_X12_daysTo hv1).up (by decide)) ?_
  refine wk_Hs 3 7 ⟨rfl, rfl⟩ (ls' := [.int x0, .int x1, .int x2]) (st' := [.int (7 : Int32), .int (v1 + (1 : Int32))]) (σ' := s) rfl ?_
  refine wk_Hrem 8 rfl rfl (by decide) ?_
  cases h
  exact wk_eqz hk (wk_Hret rfl)
set_option maxHeartbeats 4000000 in
set_option maxRecDepth 20000 in
theorem t_X12_weekday {x1 : Int32} {x2 : Int32} {x3 : Int32} {s : wk_St} {r : Int32} (h : f_X12_weekday x1 x2 x3 = some r) : wk_T wk_shM 4 137 [.ref 0, .int x1, .int x2, .int x3] s (some (.int r), s) := by
  suffices H : ∀ z, z = (some (.int r), s) → wk_H wk_shM 4 mc_X12_weekday 0 [.ref 0, .int x1, .int x2, .int x3] [] s z from H _ rfl
  intro z hk
  dsimp only [f_X12_weekday] at h
  refine wk_Hs 3 3 ⟨rfl, rfl⟩ (ls' := [.ref 0, .int x1, .int x2, .int x3]) (st' := [.int x3, .int x2, .int x1]) (σ' := s) rfl ?_
  refine wk_Hcall (i2 := 4) (args := [.int x1, .int x2, .int x3]) (rest := []) (r := some (.int (b2i (f_X12_isDate x1 x2 x3)))) (σ1 := s) rfl rfl ⟨rfl, rfl, rfl, rfl, rfl⟩ rfl ((t_X12_isDate rfl).up (by decide)) ?_
  rcases wk_ife h with ⟨hc, h⟩ | ⟨hc, h⟩
  · refine wk_H0t 10 rfl (wk_zeq.2 hc) ?_
    refine wk_Hs 1 11 ⟨rfl, rfl⟩ (ls' := [.ref 0, .int x1, .int x2, .int x3]) (st' := [.int (-1 : Int32)]) (σ' := s) rfl ?_
    cases h
    exact wk_eqz hk (wk_Hret rfl)
  · refine wk_H0f 10 5 rfl rfl (wk_nf wk_zeq hc) ?_
    refine wk_Hs 3 8 ⟨rfl, rfl⟩ (ls' := [.ref 0, .int x1, .int x2, .int x3]) (st' := [.int x3, .int x2, .int x1]) (σ' := s) rfl ?_
    obtain ⟨v2, hv2, h⟩ := wk_bindE h
    refine wk_Hcall (i2 := 9) (args := [.int x1, .int x2, .int x3]) (rest := []) (r := some (.int v2)) (σ1 := s) rfl rfl ⟨rfl, rfl, rfl, rfl, rfl⟩ rfl ((t_X12_weekdayOf hv2).up (by decide)) ?_
    refine wk_Hgoto (t := 11) rfl ?_
    cases h
    exact wk_eqz hk (wk_Hret rfl)
set_option maxHeartbeats 4000000 in
set_option maxRecDepth 20000 in
theorem t_X12_daysBetween {x1 : Int32} {x2 : Int32} {x3 : Int32} {x4 : Int32} {x5 : Int32} {x6 : Int32} {s : wk_St} {r : Int32} (h : f_X12_daysBetween x1 x2 x3 x4 x5 x6 = some r) : wk_T wk_shM 3 138 [.ref 0, .int x1, .int x2, .int x3, .int x4, .int x5, .int x6] s (some (.int r), s) := by
  suffices H : ∀ z, z = (some (.int r), s) → wk_H wk_shM 3 mc_X12_daysBetween 0 [.ref 0, .int x1, .int x2, .int x3, .int x4, .int x5, .int x6] [] s z from H _ rfl
  intro z hk
  dsimp only [f_X12_daysBetween] at h
  refine wk_Hs 3 3 ⟨rfl, rfl⟩ (ls' := [.ref 0, .int x1, .int x2, .int x3, .int x4, .int x5, .int x6]) (st' := [.int x3, .int x2, .int x1]) (σ' := s) rfl ?_
  refine wk_Hcall (i2 := 4) (args := [.int x1, .int x2, .int x3]) (rest := []) (r := some (.int (b2i (f_X12_isDate x1 x2 x3)))) (σ1 := s) rfl rfl ⟨rfl, rfl, rfl, rfl, rfl⟩ rfl ((t_X12_isDate rfl).up (by decide)) ?_
  rcases wk_ife h with ⟨hc, h⟩ | ⟨hc, h⟩
  · refine wk_H0t 10 rfl (wk_zeq.2 hc) ?_
    refine wk_Hs 1 11 ⟨rfl, rfl⟩ (ls' := [.ref 0, .int x1, .int x2, .int x3, .int x4, .int x5, .int x6]) (st' := [.int (-10000000 : Int32)]) (σ' := s) rfl ?_
    cases h
    exact wk_eqz hk (wk_Hret rfl)
  · refine wk_H0f 10 5 rfl rfl (wk_nf wk_zeq hc) ?_
    refine wk_Hs 3 8 ⟨rfl, rfl⟩ (ls' := [.ref 0, .int x1, .int x2, .int x3, .int x4, .int x5, .int x6]) (st' := [.int x6, .int x5, .int x4]) (σ' := s) rfl ?_
    refine wk_Hcall (i2 := 9) (args := [.int x4, .int x5, .int x6]) (rest := []) (r := some (.int (b2i (f_X12_isDate x4 x5 x6)))) (σ1 := s) rfl rfl ⟨rfl, rfl, rfl, rfl, rfl⟩ rfl ((t_X12_isDate rfl).up (by decide)) ?_
    rcases wk_ife h with ⟨hc, h⟩ | ⟨hc, h⟩
    · refine wk_H0t 12 rfl (wk_zne.2 hc) ?_
      refine wk_Hs 3 15 ⟨rfl, rfl⟩ (ls' := [.ref 0, .int x1, .int x2, .int x3, .int x4, .int x5, .int x6]) (st' := [.int x6, .int x5, .int x4]) (σ' := s) rfl ?_
      obtain ⟨v3, hv3, h⟩ := wk_bindE h
      refine wk_Hcall (i2 := 16) (args := [.int x4, .int x5, .int x6]) (rest := []) (r := some (.int v3)) (σ1 := s) rfl rfl ⟨rfl, rfl, rfl, rfl, rfl⟩ rfl ((t_X12_daysTo hv3).up (by decide)) ?_
      refine wk_Hs 3 19 ⟨rfl, rfl⟩ (ls' := [.ref 0, .int x1, .int x2, .int x3, .int x4, .int x5, .int x6]) (st' := [.int x3, .int x2, .int x1, .int v3]) (σ' := s) rfl ?_
      obtain ⟨v4, hv4, h⟩ := wk_bindE h
      refine wk_Hcall (i2 := 20) (args := [.int x1, .int x2, .int x3]) (rest := [.int v3]) (r := some (.int v4)) (σ1 := s) rfl rfl ⟨rfl, rfl, rfl, rfl, rfl⟩ rfl ((t_X12_daysTo hv4).up (by decide)) ?_
      refine wk_Hs 1 21 ⟨rfl, rfl⟩ (ls' := [.ref 0, .int x1, .int x2, .int x3, .int x4, .int x5, .int x6]) (st' := [.int (v3 - v4)]) (σ' := s) rfl ?_
      cases h
      exact wk_eqz hk (wk_Hret rfl)
    · refine wk_H0f 12 10 rfl rfl (wk_nf wk_zne hc) ?_
      refine wk_Hs 1 11 ⟨rfl, rfl⟩ (ls' := [.ref 0, .int x1, .int x2, .int x3, .int x4, .int x5, .int x6]) (st' := [.int (-10000000 : Int32)]) (σ' := s) rfl ?_
      cases h
      exact wk_eqz hk (wk_Hret rfl)
set_option maxHeartbeats 4000000 in
set_option maxRecDepth 20000 in
theorem t_X12_feast {x1 : Int32} {x2 : Int32} {x3 : Int32} {x4 : Int32} {s : wk_St} {r : Int32} (h : f_X12_feast x1 x2 x3 x4 = some r) : wk_T wk_shM 4 139 [.ref 0, .int x1, .int x2, .int x3, .int x4] s (some (.int r), s) := by
  suffices H : ∀ z, z = (some (.int r), s) → wk_H wk_shM 4 mc_X12_feast 0 [.ref 0, .int x1, .int x2, .int x3, .int x4, wk_U] [] s z from H _ rfl
  intro z hk
  dsimp only [f_X12_feast] at h
  refine wk_Hs 2 2 ⟨rfl, rfl⟩ (ls' := [.ref 0, .int x1, .int x2, .int x3, .int x4, wk_U]) (st' := [.int x2, .int x1]) (σ' := s) rfl ?_
  refine wk_Hcall (i2 := 3) (args := [.int x1, .int x2]) (rest := []) (r := some (.int (b2i (f_X12_isMonth x1 x2)))) (σ1 := s) rfl rfl ⟨rfl, rfl, rfl, rfl, rfl⟩ rfl ((t_X12_isMonth rfl).up (by decide)) ?_
  rcases wk_ife h with ⟨hc, h⟩ | ⟨hc, h⟩
  · refine wk_H0t 14 rfl (wk_zeq.2 hc) ?_
    refine wk_Hs 1 15 ⟨rfl, rfl⟩ (ls' := [.ref 0, .int x1, .int x2, .int x3, .int x4, wk_U]) (st' := [.int (-1 : Int32)]) (σ' := s) rfl ?_
    cases h
    exact wk_eqz hk (wk_Hret rfl)
  · refine wk_H0f 14 4 rfl rfl (wk_nf wk_zeq hc) ?_
    refine wk_Hs 3 7 ⟨rfl, rfl⟩ (ls' := [.ref 0, .int x1, .int x2, .int x3, .int x4, wk_U]) (st' := [.int (5 : Int32), .int (1 : Int32), .int x3]) (σ' := s) rfl ?_
    refine wk_Hcall (i2 := 8) (args := [.int x3, .int (1 : Int32), .int (5 : Int32)]) (rest := []) (r := some (.int (b2i (f_X12_in x3 (1 : Int32) (5 : Int32))))) (σ1 := s) rfl rfl ⟨rfl, rfl, rfl, rfl, rfl⟩ rfl ((t_X12_in rfl).up (by decide)) ?_
    rcases wk_ife h with ⟨hc, h⟩ | ⟨hc, h⟩
    · refine wk_H0t 14 rfl (wk_zeq.2 hc) ?_
      refine wk_Hs 1 15 ⟨rfl, rfl⟩ (ls' := [.ref 0, .int x1, .int x2, .int x3, .int x4, wk_U]) (st' := [.int (-1 : Int32)]) (σ' := s) rfl ?_
      cases h
      exact wk_eqz hk (wk_Hret rfl)
    · refine wk_H0f 14 9 rfl rfl (wk_nf wk_zeq hc) ?_
      refine wk_Hs 3 12 ⟨rfl, rfl⟩ (ls' := [.ref 0, .int x1, .int x2, .int x3, .int x4, wk_U]) (st' := [.int (6 : Int32), .int (0 : Int32), .int x4]) (σ' := s) rfl ?_
      refine wk_Hcall (i2 := 13) (args := [.int x4, .int (0 : Int32), .int (6 : Int32)]) (rest := []) (r := some (.int (b2i (f_X12_in x4 (0 : Int32) (6 : Int32))))) (σ1 := s) rfl rfl ⟨rfl, rfl, rfl, rfl, rfl⟩ rfl ((t_X12_in rfl).up (by decide)) ?_
      rcases wk_ife h with ⟨hc, h⟩ | ⟨hc, h⟩
      · refine wk_H0t 16 rfl (wk_zne.2 hc) ?_
        refine wk_Hs 7 23 ⟨rfl, rfl⟩ (ls' := [.ref 0, .int x1, .int x2, .int x3, .int x4, wk_U]) (st' := [.int (1 : Int32), .int x2, .int x1, .int (x4 + (7 : Int32)), .int (1 : Int32)]) (σ' := s) rfl ?_
        obtain ⟨v4, hv4, h⟩ := wk_bindE h
        refine wk_Hcall (i2 := 24) (args := [.int x1, .int x2, .int (1 : Int32)]) (rest := [.int (x4 + (7 : Int32)), .int (1 : Int32)]) (r := some (.int v4)) (σ1 := s) rfl rfl ⟨rfl, rfl, rfl, rfl, rfl⟩ rfl ((t_X12_weekdayOf hv4).up (by decide)) ?_
        refine wk_Hs 2 26 ⟨rfl, rfl⟩ (ls' := [.ref 0, .int x1, .int x2, .int x3, .int x4, wk_U]) (st' := [.int (7 : Int32), .int ((x4 + (7 : Int32)) - v4), .int (1 : Int32)]) (σ' := s) rfl ?_
        refine wk_Hrem 27 rfl rfl (by decide) ?_
        refine wk_Hs 7 34 ⟨rfl, rfl⟩ (ls' := [.ref 0, .int x1, .int x2, .int x3, .int x4, wk_U]) (st' := [.int (((1 : Int32) + (wk_rem ((x4 + (7 : Int32)) - v4) (7 : Int32))) + ((7 : Int32) * (x3 - (1 : Int32))))]) (σ' := s) rfl ?_
        replace h := wk_letE h
        refine wk_Hs 4 38 ⟨rfl, rfl⟩ (ls' := [.ref 0, .int x1, .int x2, .int x3, .int x4, .int (((1 : Int32) + (wk_rem ((x4 + (7 : Int32)) - v4) (7 : Int32))) + ((7 : Int32) * (x3 - (1 : Int32))))]) (st' := [.int x2, .int x1, .int (((1 : Int32) + (wk_rem ((x4 + (7 : Int32)) - v4) (7 : Int32))) + ((7 : Int32) * (x3 - (1 : Int32))))]) (σ' := s) rfl ?_
        refine wk_Hcall (i2 := 39) (args := [.int x1, .int x2]) (rest := [.int (((1 : Int32) + (wk_rem ((x4 + (7 : Int32)) - v4) (7 : Int32))) + ((7 : Int32) * (x3 - (1 : Int32))))]) (r := some (.int (f_X12_daysIn x1 x2))) (σ1 := s) rfl rfl ⟨rfl, rfl, rfl, rfl, rfl⟩ rfl ((t_X12_daysIn rfl).up (by decide)) ?_
        rcases wk_ife h with ⟨hc, h⟩ | ⟨hc, h⟩
        · refine wk_Hbt 42 rfl (wk_cgt.2 hc) ?_
          refine wk_Hs 1 43 ⟨rfl, rfl⟩ (ls' := [.ref 0, .int x1, .int x2, .int x3, .int x4, .int (((1 : Int32) + (wk_rem ((x4 + (7 : Int32)) - v4) (7 : Int32))) + ((7 : Int32) * (x3 - (1 : Int32))))]) (st' := [.int (-2 : Int32)]) (σ' := s) rfl ?_
          cases h
          exact wk_eqz hk (wk_Hret rfl)
        · refine wk_Hbf 42 40 rfl rfl (wk_nf wk_cgt hc) ?_
          refine wk_Hs 1 41 ⟨rfl, rfl⟩ (ls' := [.ref 0, .int x1, .int x2, .int x3, .int x4, .int (((1 : Int32) + (wk_rem ((x4 + (7 : Int32)) - v4) (7 : Int32))) + ((7 : Int32) * (x3 - (1 : Int32))))]) (st' := [.int (((1 : Int32) + (wk_rem ((x4 + (7 : Int32)) - v4) (7 : Int32))) + ((7 : Int32) * (x3 - (1 : Int32))))]) (σ' := s) rfl ?_
          refine wk_Hgoto (t := 43) rfl ?_
          cases h
          exact wk_eqz hk (wk_Hret rfl)
      · refine wk_H0f 16 14 rfl rfl (wk_nf wk_zne hc) ?_
        refine wk_Hs 1 15 ⟨rfl, rfl⟩ (ls' := [.ref 0, .int x1, .int x2, .int x3, .int x4, wk_U]) (st' := [.int (-1 : Int32)]) (σ' := s) rfl ?_
        cases h
        exact wk_eqz hk (wk_Hret rfl)
set_option maxHeartbeats 4000000 in
set_option maxRecDepth 20000 in
theorem t_X12_easter {x1 : Int32} {s : wk_St} {r : Int32} (h : f_X12_easter x1 = r) : wk_T wk_shM 1 140 [.ref 0, .int x1] s (some (.int r), s) := by
  suffices H : ∀ z, z = (some (.int r), s) → wk_H wk_shM 1 mc_X12_easter 0 [.ref 0, .int x1, wk_U, wk_U, wk_U, wk_U, wk_U, wk_U, wk_U] [] s z from H _ rfl
  intro z hk
  dsimp only [f_X12_easter] at h
  refine wk_Hs 3 3 ⟨rfl, rfl⟩ (ls' := [.ref 0, .int x1, wk_U, wk_U, wk_U, wk_U, wk_U, wk_U, wk_U]) (st' := [.int (9999 : Int32), .int (1 : Int32), .int x1]) (σ' := s) rfl ?_
  refine wk_Hcall (i2 := 4) (args := [.int x1, .int (1 : Int32), .int (9999 : Int32)]) (rest := []) (r := some (.int (b2i (f_X12_in x1 (1 : Int32) (9999 : Int32))))) (σ1 := s) rfl rfl ⟨rfl, rfl, rfl, rfl, rfl⟩ rfl ((t_X12_in rfl).up (by decide)) ?_
  rcases wk_ife h with ⟨hc, h⟩ | ⟨hc, h⟩
  · refine wk_H0t 7 rfl (wk_zne.2 hc) ?_
    refine wk_Hs 2 9 ⟨rfl, rfl⟩ (ls' := [.ref 0, .int x1, wk_U, wk_U, wk_U, wk_U, wk_U, wk_U, wk_U]) (st' := [.int (19 : Int32), .int x1]) (σ' := s) rfl ?_
    refine wk_Hrem 10 rfl rfl (by decide) ?_
    replace h := wk_letE h
    refine wk_Hs 3 13 ⟨rfl, rfl⟩ (ls' := [.ref 0, .int x1, .int (wk_rem x1 (19 : Int32)), wk_U, wk_U, wk_U, wk_U, wk_U, wk_U]) (st' := [.int (100 : Int32), .int x1]) (σ' := s) rfl ?_
    refine wk_Hdiv 14 rfl rfl (by decide) ?_
    replace h := wk_letE h
    refine wk_Hs 3 17 ⟨rfl, rfl⟩ (ls' := [.ref 0, .int x1, .int (wk_rem x1 (19 : Int32)), .int (x1 / (100 : Int32)), wk_U, wk_U, wk_U, wk_U, wk_U]) (st' := [.int (100 : Int32), .int x1]) (σ' := s) rfl ?_
    refine wk_Hrem 18 rfl rfl (by decide) ?_
    replace h := wk_letE h
    refine wk_Hs 8 26 ⟨rfl, rfl⟩ (ls' := [.ref 0, .int x1, .int (wk_rem x1 (19 : Int32)), .int (x1 / (100 : Int32)), .int (wk_rem x1 (100 : Int32)), wk_U, wk_U, wk_U, wk_U]) (st' := [.int (4 : Int32), .int (x1 / (100 : Int32)), .int (((19 : Int32) * (wk_rem x1 (19 : Int32))) + (x1 / (100 : Int32)))]) (σ' := s) rfl ?_
    refine wk_Hdiv 27 rfl rfl (by decide) ?_
    refine wk_Hs 6 33 ⟨rfl, rfl⟩ (ls' := [.ref 0, .int x1, .int (wk_rem x1 (19 : Int32)), .int (x1 / (100 : Int32)), .int (wk_rem x1 (100 : Int32)), wk_U, wk_U, wk_U, wk_U]) (st' := [.int (25 : Int32), .int ((x1 / (100 : Int32)) + (8 : Int32)), .int (x1 / (100 : Int32)), .int ((((19 : Int32) * (wk_rem x1 (19 : Int32))) + (x1 / (100 : Int32))) - ((x1 / (100 : Int32)) / (4 : Int32)))]) (σ' := s) rfl ?_
    refine wk_Hdiv 34 rfl rfl (by decide) ?_
    refine wk_Hs 4 38 ⟨rfl, rfl⟩ (ls' := [.ref 0, .int x1, .int (wk_rem x1 (19 : Int32)), .int (x1 / (100 : Int32)), .int (wk_rem x1 (100 : Int32)), wk_U, wk_U, wk_U, wk_U]) (st' := [.int (3 : Int32), .int (((x1 / (100 : Int32)) - (((x1 / (100 : Int32)) + (8 : Int32)) / (25 : Int32))) + (1 : Int32)), .int ((((19 : Int32) * (wk_rem x1 (19 : Int32))) + (x1 / (100 : Int32))) - ((x1 / (100 : Int32)) / (4 : Int32)))]) (σ' := s) rfl ?_
    refine wk_Hdiv 39 rfl rfl (by decide) ?_
    refine wk_Hs 4 43 ⟨rfl, rfl⟩ (ls' := [.ref 0, .int x1, .int (wk_rem x1 (19 : Int32)), .int (x1 / (100 : Int32)), .int (wk_rem x1 (100 : Int32)), wk_U, wk_U, wk_U, wk_U]) (st' := [.int (30 : Int32), .int ((((((19 : Int32) * (wk_rem x1 (19 : Int32))) + (x1 / (100 : Int32))) - ((x1 / (100 : Int32)) / (4 : Int32))) - ((((x1 / (100 : Int32)) - (((x1 / (100 : Int32)) + (8 : Int32)) / (25 : Int32))) + (1 : Int32)) / (3 : Int32))) + (15 : Int32))]) (σ' := s) rfl ?_
    refine wk_Hrem 44 rfl rfl (by decide) ?_
    replace h := wk_letE h
    refine wk_Hs 5 49 ⟨rfl, rfl⟩ (ls' := [.ref 0, .int x1, .int (wk_rem x1 (19 : Int32)), .int (x1 / (100 : Int32)), .int (wk_rem x1 (100 : Int32)), .int (wk_rem ((((((19 : Int32) * (wk_rem x1 (19 : Int32))) + (x1 / (100 : Int32))) - ((x1 / (100 : Int32)) / (4 : Int32))) - ((((x1 / (100 : Int32)) - (((x1 / (100 : Int32)) + (8 : Int32)) / (25 : Int32))) + (1 : Int32)) / (3 : Int32))) + (15 : Int32)) (30 : Int32)), wk_U, wk_U, wk_U]) (st' := [.int (4 : Int32), .int (x1 / (100 : Int32)), .int (2 : Int32), .int (32 : Int32)]) (σ' := s) rfl ?_
    refine wk_Hrem 50 rfl rfl (by decide) ?_
    refine wk_Hs 5 55 ⟨rfl, rfl⟩ (ls' := [.ref 0, .int x1, .int (wk_rem x1 (19 : Int32)), .int (x1 / (100 : Int32)), .int (wk_rem x1 (100 : Int32)), .int (wk_rem ((((((19 : Int32) * (wk_rem x1 (19 : Int32))) + (x1 / (100 : Int32))) - ((x1 / (100 : Int32)) / (4 : Int32))) - ((((x1 / (100 : Int32)) - (((x1 / (100 : Int32)) + (8 : Int32)) / (25 : Int32))) + (1 : Int32)) / (3 : Int32))) + (15 : Int32)) (30 : Int32)), wk_U, wk_U, wk_U]) (st' := [.int (4 : Int32), .int (wk_rem x1 (100 : Int32)), .int (2 : Int32), .int ((32 : Int32) + ((2 : Int32) * (wk_rem (x1 / (100 : Int32)) (4 : Int32))))]) (σ' := s) rfl ?_
    refine wk_Hdiv 56 rfl rfl (by decide) ?_
    refine wk_Hs 6 62 ⟨rfl, rfl⟩ (ls' := [.ref 0, .int x1, .int (wk_rem x1 (19 : Int32)), .int (x1 / (100 : Int32)), .int (wk_rem x1 (100 : Int32)), .int (wk_rem ((((((19 : Int32) * (wk_rem x1 (19 : Int32))) + (x1 / (100 : Int32))) - ((x1 / (100 : Int32)) / (4 : Int32))) - ((((x1 / (100 : Int32)) - (((x1 / (100 : Int32)) + (8 : Int32)) / (25 : Int32))) + (1 : Int32)) / (3 : Int32))) + (15 : Int32)) (30 : Int32)), wk_U, wk_U, wk_U]) (st' := [.int (4 : Int32), .int (wk_rem x1 (100 : Int32)), .int ((((32 : Int32) + ((2 : Int32) * (wk_rem (x1 / (100 : Int32)) (4 : Int32)))) + ((2 : Int32) * ((wk_rem x1 (100 : Int32)) / (4 : Int32)))) - (wk_rem ((((((19 : Int32) * (wk_rem x1 (19 : Int32))) + (x1 / (100 : Int32))) - ((x1 / (100 : Int32)) / (4 : Int32))) - ((((x1 / (100 : Int32)) - (((x1 / (100 : Int32)) + (8 : Int32)) / (25 : Int32))) + (1 : Int32)) / (3 : Int32))) + (15 : Int32)) (30 : Int32)))]) (σ' := s) rfl ?_
    refine wk_Hrem 63 rfl rfl (by decide) ?_
    refine wk_Hs 2 65 ⟨rfl, rfl⟩ (ls' := [.ref 0, .int x1, .int (wk_rem x1 (19 : Int32)), .int (x1 / (100 : Int32)), .int (wk_rem x1 (100 : Int32)), .int (wk_rem ((((((19 : Int32) * (wk_rem x1 (19 : Int32))) + (x1 / (100 : Int32))) - ((x1 / (100 : Int32)) / (4 : Int32))) - ((((x1 / (100 : Int32)) - (((x1 / (100 : Int32)) + (8 : Int32)) / (25 : Int32))) + (1 : Int32)) / (3 : Int32))) + (15 : Int32)) (30 : Int32)), wk_U, wk_U, wk_U]) (st' := [.int (7 : Int32), .int (((((32 : Int32) + ((2 : Int32) * (wk_rem (x1 / (100 : Int32)) (4 : Int32)))) + ((2 : Int32) * ((wk_rem x1 (100 : Int32)) / (4 : Int32)))) - (wk_rem ((((((19 : Int32) * (wk_rem x1 (19 : Int32))) + (x1 / (100 : Int32))) - ((x1 / (100 : Int32)) / (4 : Int32))) - ((((x1 / (100 : Int32)) - (((x1 / (100 : Int32)) + (8 : Int32)) / (25 : Int32))) + (1 : Int32)) / (3 : Int32))) + (15 : Int32)) (30 : Int32))) - (wk_rem (wk_rem x1 (100 : Int32)) (4 : Int32)))]) (σ' := s) rfl ?_
    refine wk_Hrem 66 rfl rfl (by decide) ?_
    replace h := wk_letE h
    refine wk_Hs 11 77 ⟨rfl, rfl⟩ (ls' := [.ref 0, .int x1, .int (wk_rem x1 (19 : Int32)), .int (x1 / (100 : Int32)), .int (wk_rem x1 (100 : Int32)), .int (wk_rem ((((((19 : Int32) * (wk_rem x1 (19 : Int32))) + (x1 / (100 : Int32))) - ((x1 / (100 : Int32)) / (4 : Int32))) - ((((x1 / (100 : Int32)) - (((x1 / (100 : Int32)) + (8 : Int32)) / (25 : Int32))) + (1 : Int32)) / (3 : Int32))) + (15 : Int32)) (30 : Int32)), .int (wk_rem (((((32 : Int32) + ((2 : Int32) * (wk_rem (x1 / (100 : Int32)) (4 : Int32)))) + ((2 : Int32) * ((wk_rem x1 (100 : Int32)) / (4 : Int32)))) - (wk_rem ((((((19 : Int32) * (wk_rem x1 (19 : Int32))) + (x1 / (100 : Int32))) - ((x1 / (100 : Int32)) / (4 : Int32))) - ((((x1 / (100 : Int32)) - (((x1 / (100 : Int32)) + (8 : Int32)) / (25 : Int32))) + (1 : Int32)) / (3 : Int32))) + (15 : Int32)) (30 : Int32))) - (wk_rem (wk_rem x1 (100 : Int32)) (4 : Int32))) (7 : Int32)), wk_U, wk_U]) (st' := [.int (451 : Int32), .int (((wk_rem x1 (19 : Int32)) + ((11 : Int32) * (wk_rem ((((((19 : Int32) * (wk_rem x1 (19 : Int32))) + (x1 / (100 : Int32))) - ((x1 / (100 : Int32)) / (4 : Int32))) - ((((x1 / (100 : Int32)) - (((x1 / (100 : Int32)) + (8 : Int32)) / (25 : Int32))) + (1 : Int32)) / (3 : Int32))) + (15 : Int32)) (30 : Int32)))) + ((22 : Int32) * (wk_rem (((((32 : Int32) + ((2 : Int32) * (wk_rem (x1 / (100 : Int32)) (4 : Int32)))) + ((2 : Int32) * ((wk_rem x1 (100 : Int32)) / (4 : Int32)))) - (wk_rem ((((((19 : Int32) * (wk_rem x1 (19 : Int32))) + (x1 / (100 : Int32))) - ((x1 / (100 : Int32)) / (4 : Int32))) - ((((x1 / (100 : Int32)) - (((x1 / (100 : Int32)) + (8 : Int32)) / (25 : Int32))) + (1 : Int32)) / (3 : Int32))) + (15 : Int32)) (30 : Int32))) - (wk_rem (wk_rem x1 (100 : Int32)) (4 : Int32))) (7 : Int32))))]) (σ' := s) rfl ?_
    refine wk_Hdiv 78 rfl rfl (by decide) ?_
    replace h := wk_letE h
    refine wk_Hs 10 88 ⟨rfl, rfl⟩ (ls' := [.ref 0, .int x1, .int (wk_rem x1 (19 : Int32)), .int (x1 / (100 : Int32)), .int (wk_rem x1 (100 : Int32)), .int (wk_rem ((((((19 : Int32) * (wk_rem x1 (19 : Int32))) + (x1 / (100 : Int32))) - ((x1 / (100 : Int32)) / (4 : Int32))) - ((((x1 / (100 : Int32)) - (((x1 / (100 : Int32)) + (8 : Int32)) / (25 : Int32))) + (1 : Int32)) / (3 : Int32))) + (15 : Int32)) (30 : Int32)), .int (wk_rem (((((32 : Int32) + ((2 : Int32) * (wk_rem (x1 / (100 : Int32)) (4 : Int32)))) + ((2 : Int32) * ((wk_rem x1 (100 : Int32)) / (4 : Int32)))) - (wk_rem ((((((19 : Int32) * (wk_rem x1 (19 : Int32))) + (x1 / (100 : Int32))) - ((x1 / (100 : Int32)) / (4 : Int32))) - ((((x1 / (100 : Int32)) - (((x1 / (100 : Int32)) + (8 : Int32)) / (25 : Int32))) + (1 : Int32)) / (3 : Int32))) + (15 : Int32)) (30 : Int32))) - (wk_rem (wk_rem x1 (100 : Int32)) (4 : Int32))) (7 : Int32)), .int ((((wk_rem x1 (19 : Int32)) + ((11 : Int32) * (wk_rem ((((((19 : Int32) * (wk_rem x1 (19 : Int32))) + (x1 / (100 : Int32))) - ((x1 / (100 : Int32)) / (4 : Int32))) - ((((x1 / (100 : Int32)) - (((x1 / (100 : Int32)) + (8 : Int32)) / (25 : Int32))) + (1 : Int32)) / (3 : Int32))) + (15 : Int32)) (30 : Int32)))) + ((22 : Int32) * (wk_rem (((((32 : Int32) + ((2 : Int32) * (wk_rem (x1 / (100 : Int32)) (4 : Int32)))) + ((2 : Int32) * ((wk_rem x1 (100 : Int32)) / (4 : Int32)))) - (wk_rem ((((((19 : Int32) * (wk_rem x1 (19 : Int32))) + (x1 / (100 : Int32))) - ((x1 / (100 : Int32)) / (4 : Int32))) - ((((x1 / (100 : Int32)) - (((x1 / (100 : Int32)) + (8 : Int32)) / (25 : Int32))) + (1 : Int32)) / (3 : Int32))) + (15 : Int32)) (30 : Int32))) - (wk_rem (wk_rem x1 (100 : Int32)) (4 : Int32))) (7 : Int32)))) / (451 : Int32)), wk_U]) (st' := [.int ((((wk_rem ((((((19 : Int32) * (wk_rem x1 (19 : Int32))) + (x1 / (100 : Int32))) - ((x1 / (100 : Int32)) / (4 : Int32))) - ((((x1 / (100 : Int32)) - (((x1 / (100 : Int32)) + (8 : Int32)) / (25 : Int32))) + (1 : Int32)) / (3 : Int32))) + (15 : Int32)) (30 : Int32)) + (wk_rem (((((32 : Int32) + ((2 : Int32) * (wk_rem (x1 / (100 : Int32)) (4 : Int32)))) + ((2 : Int32) * ((wk_rem x1 (100 : Int32)) / (4 : Int32)))) - (wk_rem ((((((19 : Int32) * (wk_rem x1 (19 : Int32))) + (x1 / (100 : Int32))) - ((x1 / (100 : Int32)) / (4 : Int32))) - ((((x1 / (100 : Int32)) - (((x1 / (100 : Int32)) + (8 : Int32)) / (25 : Int32))) + (1 : Int32)) / (3 : Int32))) + (15 : Int32)) (30 : Int32))) - (wk_rem (wk_rem x1 (100 : Int32)) (4 : Int32))) (7 : Int32))) - ((7 : Int32) * ((((wk_rem x1 (19 : Int32)) + ((11 : Int32) * (wk_rem ((((((19 : Int32) * (wk_rem x1 (19 : Int32))) + (x1 / (100 : Int32))) - ((x1 / (100 : Int32)) / (4 : Int32))) - ((((x1 / (100 : Int32)) - (((x1 / (100 : Int32)) + (8 : Int32)) / (25 : Int32))) + (1 : Int32)) / (3 : Int32))) + (15 : Int32)) (30 : Int32)))) + ((22 : Int32) * (wk_rem (((((32 : Int32) + ((2 : Int32) * (wk_rem (x1 / (100 : Int32)) (4 : Int32)))) + ((2 : Int32) * ((wk_rem x1 (100 : Int32)) / (4 : Int32)))) - (wk_rem ((((((19 : Int32) * (wk_rem x1 (19 : Int32))) + (x1 / (100 : Int32))) - ((x1 / (100 : Int32)) / (4 : Int32))) - ((((x1 / (100 : Int32)) - (((x1 / (100 : Int32)) + (8 : Int32)) / (25 : Int32))) + (1 : Int32)) / (3 : Int32))) + (15 : Int32)) (30 : Int32))) - (wk_rem (wk_rem x1 (100 : Int32)) (4 : Int32))) (7 : Int32)))) / (451 : Int32)))) + (114 : Int32))]) (σ' := s) rfl ?_
    replace h := wk_letE h
    refine wk_Hs 4 92 ⟨rfl, rfl⟩ (ls' := [.ref 0, .int x1, .int (wk_rem x1 (19 : Int32)), .int (x1 / (100 : Int32)), .int (wk_rem x1 (100 : Int32)), .int (wk_rem ((((((19 : Int32) * (wk_rem x1 (19 : Int32))) + (x1 / (100 : Int32))) - ((x1 / (100 : Int32)) / (4 : Int32))) - ((((x1 / (100 : Int32)) - (((x1 / (100 : Int32)) + (8 : Int32)) / (25 : Int32))) + (1 : Int32)) / (3 : Int32))) + (15 : Int32)) (30 : Int32)), .int (wk_rem (((((32 : Int32) + ((2 : Int32) * (wk_rem (x1 / (100 : Int32)) (4 : Int32)))) + ((2 : Int32) * ((wk_rem x1 (100 : Int32)) / (4 : Int32)))) - (wk_rem ((((((19 : Int32) * (wk_rem x1 (19 : Int32))) + (x1 / (100 : Int32))) - ((x1 / (100 : Int32)) / (4 : Int32))) - ((((x1 / (100 : Int32)) - (((x1 / (100 : Int32)) + (8 : Int32)) / (25 : Int32))) + (1 : Int32)) / (3 : Int32))) + (15 : Int32)) (30 : Int32))) - (wk_rem (wk_rem x1 (100 : Int32)) (4 : Int32))) (7 : Int32)), .int ((((wk_rem x1 (19 : Int32)) + ((11 : Int32) * (wk_rem ((((((19 : Int32) * (wk_rem x1 (19 : Int32))) + (x1 / (100 : Int32))) - ((x1 / (100 : Int32)) / (4 : Int32))) - ((((x1 / (100 : Int32)) - (((x1 / (100 : Int32)) + (8 : Int32)) / (25 : Int32))) + (1 : Int32)) / (3 : Int32))) + (15 : Int32)) (30 : Int32)))) + ((22 : Int32) * (wk_rem (((((32 : Int32) + ((2 : Int32) * (wk_rem (x1 / (100 : Int32)) (4 : Int32)))) + ((2 : Int32) * ((wk_rem x1 (100 : Int32)) / (4 : Int32)))) - (wk_rem ((((((19 : Int32) * (wk_rem x1 (19 : Int32))) + (x1 / (100 : Int32))) - ((x1 / (100 : Int32)) / (4 : Int32))) - ((((x1 / (100 : Int32)) - (((x1 / (100 : Int32)) + (8 : Int32)) / (25 : Int32))) + (1 : Int32)) / (3 : Int32))) + (15 : Int32)) (30 : Int32))) - (wk_rem (wk_rem x1 (100 : Int32)) (4 : Int32))) (7 : Int32)))) / (451 : Int32)), .int ((((wk_rem ((((((19 : Int32) * (wk_rem x1 (19 : Int32))) + (x1 / (100 : Int32))) - ((x1 / (100 : Int32)) / (4 : Int32))) - ((((x1 / (100 : Int32)) - (((x1 / (100 : Int32)) + (8 : Int32)) / (25 : Int32))) + (1 : Int32)) / (3 : Int32))) + (15 : Int32)) (30 : Int32)) + (wk_rem (((((32 : Int32) + ((2 : Int32) * (wk_rem (x1 / (100 : Int32)) (4 : Int32)))) + ((2 : Int32) * ((wk_rem x1 (100 : Int32)) / (4 : Int32)))) - (wk_rem ((((((19 : Int32) * (wk_rem x1 (19 : Int32))) + (x1 / (100 : Int32))) - ((x1 / (100 : Int32)) / (4 : Int32))) - ((((x1 / (100 : Int32)) - (((x1 / (100 : Int32)) + (8 : Int32)) / (25 : Int32))) + (1 : Int32)) / (3 : Int32))) + (15 : Int32)) (30 : Int32))) - (wk_rem (wk_rem x1 (100 : Int32)) (4 : Int32))) (7 : Int32))) - ((7 : Int32) * ((((wk_rem x1 (19 : Int32)) + ((11 : Int32) * (wk_rem ((((((19 : Int32) * (wk_rem x1 (19 : Int32))) + (x1 / (100 : Int32))) - ((x1 / (100 : Int32)) / (4 : Int32))) - ((((x1 / (100 : Int32)) - (((x1 / (100 : Int32)) + (8 : Int32)) / (25 : Int32))) + (1 : Int32)) / (3 : Int32))) + (15 : Int32)) (30 : Int32)))) + ((22 : Int32) * (wk_rem (((((32 : Int32) + ((2 : Int32) * (wk_rem (x1 / (100 : Int32)) (4 : Int32)))) + ((2 : Int32) * ((wk_rem x1 (100 : Int32)) / (4 : Int32)))) - (wk_rem ((((((19 : Int32) * (wk_rem x1 (19 : Int32))) + (x1 / (100 : Int32))) - ((x1 / (100 : Int32)) / (4 : Int32))) - ((((x1 / (100 : Int32)) - (((x1 / (100 : Int32)) + (8 : Int32)) / (25 : Int32))) + (1 : Int32)) / (3 : Int32))) + (15 : Int32)) (30 : Int32))) - (wk_rem (wk_rem x1 (100 : Int32)) (4 : Int32))) (7 : Int32)))) / (451 : Int32)))) + (114 : Int32))]) (st' := [.int (31 : Int32), .int ((((wk_rem ((((((19 : Int32) * (wk_rem x1 (19 : Int32))) + (x1 / (100 : Int32))) - ((x1 / (100 : Int32)) / (4 : Int32))) - ((((x1 / (100 : Int32)) - (((x1 / (100 : Int32)) + (8 : Int32)) / (25 : Int32))) + (1 : Int32)) / (3 : Int32))) + (15 : Int32)) (30 : Int32)) + (wk_rem (((((32 : Int32) + ((2 : Int32) * (wk_rem (x1 / (100 : Int32)) (4 : Int32)))) + ((2 : Int32) * ((wk_rem x1 (100 : Int32)) / (4 : Int32)))) - (wk_rem ((((((19 : Int32) * (wk_rem x1 (19 : Int32))) + (x1 / (100 : Int32))) - ((x1 / (100 : Int32)) / (4 : Int32))) - ((((x1 / (100 : Int32)) - (((x1 / (100 : Int32)) + (8 : Int32)) / (25 : Int32))) + (1 : Int32)) / (3 : Int32))) + (15 : Int32)) (30 : Int32))) - (wk_rem (wk_rem x1 (100 : Int32)) (4 : Int32))) (7 : Int32))) - ((7 : Int32) * ((((wk_rem x1 (19 : Int32)) + ((11 : Int32) * (wk_rem ((((((19 : Int32) * (wk_rem x1 (19 : Int32))) + (x1 / (100 : Int32))) - ((x1 / (100 : Int32)) / (4 : Int32))) - ((((x1 / (100 : Int32)) - (((x1 / (100 : Int32)) + (8 : Int32)) / (25 : Int32))) + (1 : Int32)) / (3 : Int32))) + (15 : Int32)) (30 : Int32)))) + ((22 : Int32) * (wk_rem (((((32 : Int32) + ((2 : Int32) * (wk_rem (x1 / (100 : Int32)) (4 : Int32)))) + ((2 : Int32) * ((wk_rem x1 (100 : Int32)) / (4 : Int32)))) - (wk_rem ((((((19 : Int32) * (wk_rem x1 (19 : Int32))) + (x1 / (100 : Int32))) - ((x1 / (100 : Int32)) / (4 : Int32))) - ((((x1 / (100 : Int32)) - (((x1 / (100 : Int32)) + (8 : Int32)) / (25 : Int32))) + (1 : Int32)) / (3 : Int32))) + (15 : Int32)) (30 : Int32))) - (wk_rem (wk_rem x1 (100 : Int32)) (4 : Int32))) (7 : Int32)))) / (451 : Int32)))) + (114 : Int32)), .int (100 : Int32)]) (σ' := s) rfl ?_
    refine wk_Hdiv 93 rfl rfl (by decide) ?_
    refine wk_Hs 3 96 ⟨rfl, rfl⟩ (ls' := [.ref 0, .int x1, .int (wk_rem x1 (19 : Int32)), .int (x1 / (100 : Int32)), .int (wk_rem x1 (100 : Int32)), .int (wk_rem ((((((19 : Int32) * (wk_rem x1 (19 : Int32))) + (x1 / (100 : Int32))) - ((x1 / (100 : Int32)) / (4 : Int32))) - ((((x1 / (100 : Int32)) - (((x1 / (100 : Int32)) + (8 : Int32)) / (25 : Int32))) + (1 : Int32)) / (3 : Int32))) + (15 : Int32)) (30 : Int32)), .int (wk_rem (((((32 : Int32) + ((2 : Int32) * (wk_rem (x1 / (100 : Int32)) (4 : Int32)))) + ((2 : Int32) * ((wk_rem x1 (100 : Int32)) / (4 : Int32)))) - (wk_rem ((((((19 : Int32) * (wk_rem x1 (19 : Int32))) + (x1 / (100 : Int32))) - ((x1 / (100 : Int32)) / (4 : Int32))) - ((((x1 / (100 : Int32)) - (((x1 / (100 : Int32)) + (8 : Int32)) / (25 : Int32))) + (1 : Int32)) / (3 : Int32))) + (15 : Int32)) (30 : Int32))) - (wk_rem (wk_rem x1 (100 : Int32)) (4 : Int32))) (7 : Int32)), .int ((((wk_rem x1 (19 : Int32)) + ((11 : Int32) * (wk_rem ((((((19 : Int32) * (wk_rem x1 (19 : Int32))) + (x1 / (100 : Int32))) - ((x1 / (100 : Int32)) / (4 : Int32))) - ((((x1 / (100 : Int32)) - (((x1 / (100 : Int32)) + (8 : Int32)) / (25 : Int32))) + (1 : Int32)) / (3 : Int32))) + (15 : Int32)) (30 : Int32)))) + ((22 : Int32) * (wk_rem (((((32 : Int32) + ((2 : Int32) * (wk_rem (x1 / (100 : Int32)) (4 : Int32)))) + ((2 : Int32) * ((wk_rem x1 (100 : Int32)) / (4 : Int32)))) - (wk_rem ((((((19 : Int32) * (wk_rem x1 (19 : Int32))) + (x1 / (100 : Int32))) - ((x1 / (100 : Int32)) / (4 : Int32))) - ((((x1 / (100 : Int32)) - (((x1 / (100 : Int32)) + (8 : Int32)) / (25 : Int32))) + (1 : Int32)) / (3 : Int32))) + (15 : Int32)) (30 : Int32))) - (wk_rem (wk_rem x1 (100 : Int32)) (4 : Int32))) (7 : Int32)))) / (451 : Int32)), .int ((((wk_rem ((((((19 : Int32) * (wk_rem x1 (19 : Int32))) + (x1 / (100 : Int32))) - ((x1 / (100 : Int32)) / (4 : Int32))) - ((((x1 / (100 : Int32)) - (((x1 / (100 : Int32)) + (8 : Int32)) / (25 : Int32))) + (1 : Int32)) / (3 : Int32))) + (15 : Int32)) (30 : Int32)) + (wk_rem (((((32 : Int32) + ((2 : Int32) * (wk_rem (x1 / (100 : Int32)) (4 : Int32)))) + ((2 : Int32) * ((wk_rem x1 (100 : Int32)) / (4 : Int32)))) - (wk_rem ((((((19 : Int32) * (wk_rem x1 (19 : Int32))) + (x1 / (100 : Int32))) - ((x1 / (100 : Int32)) / (4 : Int32))) - ((((x1 / (100 : Int32)) - (((x1 / (100 : Int32)) + (8 : Int32)) / (25 : Int32))) + (1 : Int32)) / (3 : Int32))) + (15 : Int32)) (30 : Int32))) - (wk_rem (wk_rem x1 (100 : Int32)) (4 : Int32))) (7 : Int32))) - ((7 : Int32) * ((((wk_rem x1 (19 : Int32)) + ((11 : Int32) * (wk_rem ((((((19 : Int32) * (wk_rem x1 (19 : Int32))) + (x1 / (100 : Int32))) - ((x1 / (100 : Int32)) / (4 : Int32))) - ((((x1 / (100 : Int32)) - (((x1 / (100 : Int32)) + (8 : Int32)) / (25 : Int32))) + (1 : Int32)) / (3 : Int32))) + (15 : Int32)) (30 : Int32)))) + ((22 : Int32) * (wk_rem (((((32 : Int32) + ((2 : Int32) * (wk_rem (x1 / (100 : Int32)) (4 : Int32)))) + ((2 : Int32) * ((wk_rem x1 (100 : Int32)) / (4 : Int32)))) - (wk_rem ((((((19 : Int32) * (wk_rem x1 (19 : Int32))) + (x1 / (100 : Int32))) - ((x1 / (100 : Int32)) / (4 : Int32))) - ((((x1 / (100 : Int32)) - (((x1 / (100 : Int32)) + (8 : Int32)) / (25 : Int32))) + (1 : Int32)) / (3 : Int32))) + (15 : Int32)) (30 : Int32))) - (wk_rem (wk_rem x1 (100 : Int32)) (4 : Int32))) (7 : Int32)))) / (451 : Int32)))) + (114 : Int32))]) (st' := [.int (31 : Int32), .int ((((wk_rem ((((((19 : Int32) * (wk_rem x1 (19 : Int32))) + (x1 / (100 : Int32))) - ((x1 / (100 : Int32)) / (4 : Int32))) - ((((x1 / (100 : Int32)) - (((x1 / (100 : Int32)) + (8 : Int32)) / (25 : Int32))) + (1 : Int32)) / (3 : Int32))) + (15 : Int32)) (30 : Int32)) + (wk_rem (((((32 : Int32) + ((2 : Int32) * (wk_rem (x1 / (100 : Int32)) (4 : Int32)))) + ((2 : Int32) * ((wk_rem x1 (100 : Int32)) / (4 : Int32)))) - (wk_rem ((((((19 : Int32) * (wk_rem x1 (19 : Int32))) + (x1 / (100 : Int32))) - ((x1 / (100 : Int32)) / (4 : Int32))) - ((((x1 / (100 : Int32)) - (((x1 / (100 : Int32)) + (8 : Int32)) / (25 : Int32))) + (1 : Int32)) / (3 : Int32))) + (15 : Int32)) (30 : Int32))) - (wk_rem (wk_rem x1 (100 : Int32)) (4 : Int32))) (7 : Int32))) - ((7 : Int32) * ((((wk_rem x1 (19 : Int32)) + ((11 : Int32) * (wk_rem ((((((19 : Int32) * (wk_rem x1 (19 : Int32))) + (x1 / (100 : Int32))) - ((x1 / (100 : Int32)) / (4 : Int32))) - ((((x1 / (100 : Int32)) - (((x1 / (100 : Int32)) + (8 : Int32)) / (25 : Int32))) + (1 : Int32)) / (3 : Int32))) + (15 : Int32)) (30 : Int32)))) + ((22 : Int32) * (wk_rem (((((32 : Int32) + ((2 : Int32) * (wk_rem (x1 / (100 : Int32)) (4 : Int32)))) + ((2 : Int32) * ((wk_rem x1 (100 : Int32)) / (4 : Int32)))) - (wk_rem ((((((19 : Int32) * (wk_rem x1 (19 : Int32))) + (x1 / (100 : Int32))) - ((x1 / (100 : Int32)) / (4 : Int32))) - ((((x1 / (100 : Int32)) - (((x1 / (100 : Int32)) + (8 : Int32)) / (25 : Int32))) + (1 : Int32)) / (3 : Int32))) + (15 : Int32)) (30 : Int32))) - (wk_rem (wk_rem x1 (100 : Int32)) (4 : Int32))) (7 : Int32)))) / (451 : Int32)))) + (114 : Int32)), .int ((100 : Int32) * (((((wk_rem ((((((19 : Int32) * (wk_rem x1 (19 : Int32))) + (x1 / (100 : Int32))) - ((x1 / (100 : Int32)) / (4 : Int32))) - ((((x1 / (100 : Int32)) - (((x1 / (100 : Int32)) + (8 : Int32)) / (25 : Int32))) + (1 : Int32)) / (3 : Int32))) + (15 : Int32)) (30 : Int32)) + (wk_rem (((((32 : Int32) + ((2 : Int32) * (wk_rem (x1 / (100 : Int32)) (4 : Int32)))) + ((2 : Int32) * ((wk_rem x1 (100 : Int32)) / (4 : Int32)))) - (wk_rem ((((((19 : Int32) * (wk_rem x1 (19 : Int32))) + (x1 / (100 : Int32))) - ((x1 / (100 : Int32)) / (4 : Int32))) - ((((x1 / (100 : Int32)) - (((x1 / (100 : Int32)) + (8 : Int32)) / (25 : Int32))) + (1 : Int32)) / (3 : Int32))) + (15 : Int32)) (30 : Int32))) - (wk_rem (wk_rem x1 (100 : Int32)) (4 : Int32))) (7 : Int32))) - ((7 : Int32) * ((((wk_rem x1 (19 : Int32)) + ((11 : Int32) * (wk_rem ((((((19 : Int32) * (wk_rem x1 (19 : Int32))) + (x1 / (100 : Int32))) - ((x1 / (100 : Int32)) / (4 : Int32))) - ((((x1 / (100 : Int32)) - (((x1 / (100 : Int32)) + (8 : Int32)) / (25 : Int32))) + (1 : Int32)) / (3 : Int32))) + (15 : Int32)) (30 : Int32)))) + ((22 : Int32) * (wk_rem (((((32 : Int32) + ((2 : Int32) * (wk_rem (x1 / (100 : Int32)) (4 : Int32)))) + ((2 : Int32) * ((wk_rem x1 (100 : Int32)) / (4 : Int32)))) - (wk_rem ((((((19 : Int32) * (wk_rem x1 (19 : Int32))) + (x1 / (100 : Int32))) - ((x1 / (100 : Int32)) / (4 : Int32))) - ((((x1 / (100 : Int32)) - (((x1 / (100 : Int32)) + (8 : Int32)) / (25 : Int32))) + (1 : Int32)) / (3 : Int32))) + (15 : Int32)) (30 : Int32))) - (wk_rem (wk_rem x1 (100 : Int32)) (4 : Int32))) (7 : Int32)))) / (451 : Int32)))) + (114 : Int32)) / (31 : Int32)))]) (σ' := s) rfl ?_
    refine wk_Hrem 97 rfl rfl (by decide) ?_
    refine wk_Hs 3 100 ⟨rfl, rfl⟩ (ls' := [.ref 0, .int x1, .int (wk_rem x1 (19 : Int32)), .int (x1 / (100 : Int32)), .int (wk_rem x1 (100 : Int32)), .int (wk_rem ((((((19 : Int32) * (wk_rem x1 (19 : Int32))) + (x1 / (100 : Int32))) - ((x1 / (100 : Int32)) / (4 : Int32))) - ((((x1 / (100 : Int32)) - (((x1 / (100 : Int32)) + (8 : Int32)) / (25 : Int32))) + (1 : Int32)) / (3 : Int32))) + (15 : Int32)) (30 : Int32)), .int (wk_rem (((((32 : Int32) + ((2 : Int32) * (wk_rem (x1 / (100 : Int32)) (4 : Int32)))) + ((2 : Int32) * ((wk_rem x1 (100 : Int32)) / (4 : Int32)))) - (wk_rem ((((((19 : Int32) * (wk_rem x1 (19 : Int32))) + (x1 / (100 : Int32))) - ((x1 / (100 : Int32)) / (4 : Int32))) - ((((x1 / (100 : Int32)) - (((x1 / (100 : Int32)) + (8 : Int32)) / (25 : Int32))) + (1 : Int32)) / (3 : Int32))) + (15 : Int32)) (30 : Int32))) - (wk_rem (wk_rem x1 (100 : Int32)) (4 : Int32))) (7 : Int32)), .int ((((wk_rem x1 (19 : Int32)) + ((11 : Int32) * (wk_rem ((((((19 : Int32) * (wk_rem x1 (19 : Int32))) + (x1 / (100 : Int32))) - ((x1 / (100 : Int32)) / (4 : Int32))) - ((((x1 / (100 : Int32)) - (((x1 / (100 : Int32)) + (8 : Int32)) / (25 : Int32))) + (1 : Int32)) / (3 : Int32))) + (15 : Int32)) (30 : Int32)))) + ((22 : Int32) * (wk_rem (((((32 : Int32) + ((2 : Int32) * (wk_rem (x1 / (100 : Int32)) (4 : Int32)))) + ((2 : Int32) * ((wk_rem x1 (100 : Int32)) / (4 : Int32)))) - (wk_rem ((((((19 : Int32) * (wk_rem x1 (19 : Int32))) + (x1 / (100 : Int32))) - ((x1 / (100 : Int32)) / (4 : Int32))) - ((((x1 / (100 : Int32)) - (((x1 / (100 : Int32)) + (8 : Int32)) / (25 : Int32))) + (1 : Int32)) / (3 : Int32))) + (15 : Int32)) (30 : Int32))) - (wk_rem (wk_rem x1 (100 : Int32)) (4 : Int32))) (7 : Int32)))) / (451 : Int32)), .int ((((wk_rem ((((((19 : Int32) * (wk_rem x1 (19 : Int32))) + (x1 / (100 : Int32))) - ((x1 / (100 : Int32)) / (4 : Int32))) - ((((x1 / (100 : Int32)) - (((x1 / (100 : Int32)) + (8 : Int32)) / (25 : Int32))) + (1 : Int32)) / (3 : Int32))) + (15 : Int32)) (30 : Int32)) + (wk_rem (((((32 : Int32) + ((2 : Int32) * (wk_rem (x1 / (100 : Int32)) (4 : Int32)))) + ((2 : Int32) * ((wk_rem x1 (100 : Int32)) / (4 : Int32)))) - (wk_rem ((((((19 : Int32) * (wk_rem x1 (19 : Int32))) + (x1 / (100 : Int32))) - ((x1 / (100 : Int32)) / (4 : Int32))) - ((((x1 / (100 : Int32)) - (((x1 / (100 : Int32)) + (8 : Int32)) / (25 : Int32))) + (1 : Int32)) / (3 : Int32))) + (15 : Int32)) (30 : Int32))) - (wk_rem (wk_rem x1 (100 : Int32)) (4 : Int32))) (7 : Int32))) - ((7 : Int32) * ((((wk_rem x1 (19 : Int32)) + ((11 : Int32) * (wk_rem ((((((19 : Int32) * (wk_rem x1 (19 : Int32))) + (x1 / (100 : Int32))) - ((x1 / (100 : Int32)) / (4 : Int32))) - ((((x1 / (100 : Int32)) - (((x1 / (100 : Int32)) + (8 : Int32)) / (25 : Int32))) + (1 : Int32)) / (3 : Int32))) + (15 : Int32)) (30 : Int32)))) + ((22 : Int32) * (wk_rem (((((32 : Int32) + ((2 : Int32) * (wk_rem (x1 / (100 : Int32)) (4 : Int32)))) + ((2 : Int32) * ((wk_rem x1 (100 : Int32)) / (4 : Int32)))) - (wk_rem ((((((19 : Int32) * (wk_rem x1 (19 : Int32))) + (x1 / (100 : Int32))) - ((x1 / (100 : Int32)) / (4 : Int32))) - ((((x1 / (100 : Int32)) - (((x1 / (100 : Int32)) + (8 : Int32)) / (25 : Int32))) + (1 : Int32)) / (3 : Int32))) + (15 : Int32)) (30 : Int32))) - (wk_rem (wk_rem x1 (100 : Int32)) (4 : Int32))) (7 : Int32)))) / (451 : Int32)))) + (114 : Int32))]) (st' := [.int ((((100 : Int32) * (((((wk_rem ((((((19 : Int32) * (wk_rem x1 (19 : Int32))) + (x1 / (100 : Int32))) - ((x1 / (100 : Int32)) / (4 : Int32))) - ((((x1 / (100 : Int32)) - (((x1 / (100 : Int32)) + (8 : Int32)) / (25 : Int32))) + (1 : Int32)) / (3 : Int32))) + (15 : Int32)) (30 : Int32)) + (wk_rem (((((32 : Int32) + ((2 : Int32) * (wk_rem (x1 / (100 : Int32)) (4 : Int32)))) + ((2 : Int32) * ((wk_rem x1 (100 : Int32)) / (4 : Int32)))) - (wk_rem ((((((19 : Int32) * (wk_rem x1 (19 : Int32))) + (x1 / (100 : Int32))) - ((x1 / (100 : Int32)) / (4 : Int32))) - ((((x1 / (100 : Int32)) - (((x1 / (100 : Int32)) + (8 : Int32)) / (25 : Int32))) + (1 : Int32)) / (3 : Int32))) + (15 : Int32)) (30 : Int32))) - (wk_rem (wk_rem x1 (100 : Int32)) (4 : Int32))) (7 : Int32))) - ((7 : Int32) * ((((wk_rem x1 (19 : Int32)) + ((11 : Int32) * (wk_rem ((((((19 : Int32) * (wk_rem x1 (19 : Int32))) + (x1 / (100 : Int32))) - ((x1 / (100 : Int32)) / (4 : Int32))) - ((((x1 / (100 : Int32)) - (((x1 / (100 : Int32)) + (8 : Int32)) / (25 : Int32))) + (1 : Int32)) / (3 : Int32))) + (15 : Int32)) (30 : Int32)))) + ((22 : Int32) * (wk_rem (((((32 : Int32) + ((2 : Int32) * (wk_rem (x1 / (100 : Int32)) (4 : Int32)))) + ((2 : Int32) * ((wk_rem x1 (100 : Int32)) / (4 : Int32)))) - (wk_rem ((((((19 : Int32) * (wk_rem x1 (19 : Int32))) + (x1 / (100 : Int32))) - ((x1 / (100 : Int32)) / (4 : Int32))) - ((((x1 / (100 : Int32)) - (((x1 / (100 : Int32)) + (8 : Int32)) / (25 : Int32))) + (1 : Int32)) / (3 : Int32))) + (15 : Int32)) (30 : Int32))) - (wk_rem (wk_rem x1 (100 : Int32)) (4 : Int32))) (7 : Int32)))) / (451 : Int32)))) + (114 : Int32)) / (31 : Int32))) + (wk_rem ((((wk_rem ((((((19 : Int32) * (wk_rem x1 (19 : Int32))) + (x1 / (100 : Int32))) - ((x1 / (100 : Int32)) / (4 : Int32))) - ((((x1 / (100 : Int32)) - (((x1 / (100 : Int32)) + (8 : Int32)) / (25 : Int32))) + (1 : Int32)) / (3 : Int32))) + (15 : Int32)) (30 : Int32)) + (wk_rem (((((32 : Int32) + ((2 : Int32) * (wk_rem (x1 / (100 : Int32)) (4 : Int32)))) + ((2 : Int32) * ((wk_rem x1 (100 : Int32)) / (4 : Int32)))) - (wk_rem ((((((19 : Int32) * (wk_rem x1 (19 : Int32))) + (x1 / (100 : Int32))) - ((x1 / (100 : Int32)) / (4 : Int32))) - ((((x1 / (100 : Int32)) - (((x1 / (100 : Int32)) + (8 : Int32)) / (25 : Int32))) + (1 : Int32)) / (3 : Int32))) + (15 : Int32)) (30 : Int32))) - (wk_rem (wk_rem x1 (100 : Int32)) (4 : Int32))) (7 : Int32))) - ((7 : Int32) * ((((wk_rem x1 (19 : Int32)) + ((11 : Int32) * (wk_rem ((((((19 : Int32) * (wk_rem x1 (19 : Int32))) + (x1 / (100 : Int32))) - ((x1 / (100 : Int32)) / (4 : Int32))) - ((((x1 / (100 : Int32)) - (((x1 / (100 : Int32)) + (8 : Int32)) / (25 : Int32))) + (1 : Int32)) / (3 : Int32))) + (15 : Int32)) (30 : Int32)))) + ((22 : Int32) * (wk_rem (((((32 : Int32) + ((2 : Int32) * (wk_rem (x1 / (100 : Int32)) (4 : Int32)))) + ((2 : Int32) * ((wk_rem x1 (100 : Int32)) / (4 : Int32)))) - (wk_rem ((((((19 : Int32) * (wk_rem x1 (19 : Int32))) + (x1 / (100 : Int32))) - ((x1 / (100 : Int32)) / (4 : Int32))) - ((((x1 / (100 : Int32)) - (((x1 / (100 : Int32)) + (8 : Int32)) / (25 : Int32))) + (1 : Int32)) / (3 : Int32))) + (15 : Int32)) (30 : Int32))) - (wk_rem (wk_rem x1 (100 : Int32)) (4 : Int32))) (7 : Int32)))) / (451 : Int32)))) + (114 : Int32)) (31 : Int32))) + (1 : Int32))]) (σ' := s) rfl ?_
    cases h
    exact wk_eqz hk (wk_Hret rfl)
  · refine wk_H0f 7 5 rfl rfl (wk_nf wk_zne hc) ?_
    refine wk_Hs 1 6 ⟨rfl, rfl⟩ (ls' := [.ref 0, .int x1, wk_U, wk_U, wk_U, wk_U, wk_U, wk_U, wk_U]) (st' := [.int (-1 : Int32)]) (σ' := s) rfl ?_
    cases h
    exact wk_eqz hk (wk_Hret rfl)
set_option maxHeartbeats 4000000 in
set_option maxRecDepth 20000 in
theorem ts_S_X12_date_21 {x1 : Int32} {x3 : Int32} {x4 : Int32} {w0 : Value} {w2 : Value} {s : wk_St} {z : wk_R} {o : (Int32 × Int32) ⊕ (Int32 × Int32)} (h : S_X12_date_21 x1 (x3, x4) = some o) (hk : match (generalizing := false) o with | Sum.inl a => (∀ (u2 : Value), wk_H wk_shM 2 mc_X12_date 37 [w0, .int x1, u2, .int a.1, .int a.2] [] s z) | Sum.inr y => ∀ (u2 : Value), wk_H wk_shM 2 mc_X12_date 21 [w0, .int x1, u2, .int y.1, .int y.2] [] s z) : wk_H wk_shM 2 mc_X12_date 21 [w0, .int x1, w2, .int x3, .int x4] [] s z := by
  dsimp only [S_X12_date_21] at h
  refine wk_Hs 3 24 ⟨rfl, rfl⟩ (ls' := [w0, .int x1, w2, .int x3, .int x4]) (st' := [.int x3, .int x1, .int x4]) (σ' := s) rfl ?_
  refine wk_Hcall (i2 := 25) (args := [.int x1, .int x3]) (rest := [.int x4]) (r := some (.int (f_X12_daysIn x1 x3))) (σ1 := s) rfl rfl ⟨rfl, rfl, rfl, rfl, rfl⟩ rfl ((t_X12_daysIn rfl).up (by decide)) ?_
  rcases wk_ife h with ⟨hc, h⟩ | ⟨hc, h⟩
  · refine wk_Hbt 37 rfl (wk_clt.2 hc) ?_
    cases h
    exact hk _
  · refine wk_Hbf 37 26 rfl rfl (wk_nf wk_clt hc) ?_
    refine wk_Hs 3 29 ⟨rfl, rfl⟩ (ls' := [w0, .int x1, w2, .int x3, .int x4]) (st' := [.int x3, .int x1, .int x4]) (σ' := s) rfl ?_
    refine wk_Hcall (i2 := 30) (args := [.int x1, .int x3]) (rest := [.int x4]) (r := some (.int (f_X12_daysIn x1 x3))) (σ1 := s) rfl rfl ⟨rfl, rfl, rfl, rfl, rfl⟩ rfl ((t_X12_daysIn rfl).up (by decide)) ?_
    refine wk_Hs 1 31 ⟨rfl, rfl⟩ (ls' := [w0, .int x1, w2, .int x3, .int x4]) (st' := [.int (x4 - (f_X12_daysIn x1 x3))]) (σ' := s) rfl ?_
    replace h := wk_letE h
    refine wk_Hs 4 35 ⟨rfl, rfl⟩ (ls' := [w0, .int x1, w2, .int x3, .int (x4 - (f_X12_daysIn x1 x3))]) (st' := [.int (x3 + (1 : Int32))]) (σ' := s) rfl ?_
    replace h := wk_letE h
    refine wk_Hs 1 36 ⟨rfl, rfl⟩ (ls' := [w0, .int x1, (wk_cl w2), .int (x3 + (1 : Int32)), .int (x4 - (f_X12_daysIn x1 x3))]) (st' := []) (σ' := s) rfl ?_
    refine wk_Hgoto (t := 21) rfl ?_
    cases h
    exact hk _
set_option maxHeartbeats 4000000 in
set_option maxRecDepth 20000 in
theorem tl_S_X12_date_21 {x1 : Int32} {w0 : Value} {s : wk_St} {z : wk_R} (n : Nat) : ∀ {x3 : Int32} {x4 : Int32} {w2 : Value} {a : Int32 × Int32} (h : wk_loop (S_X12_date_21 x1) n (x3, x4) = some a) (hk : ∀ (u2 : Value), wk_H wk_shM 2 mc_X12_date 37 [w0, .int x1, u2, .int a.1, .int a.2] [] s z), wk_H wk_shM 2 mc_X12_date 21 [w0, .int x1, w2, .int x3, .int x4] [] s z := by
  induction n with
  | zero =>
    intros
    rename_i h _
    exact nomatch (show (none : Option _) = some _ from h)
  | succ n ih =>
    intros
    rename_i h hk
    obtain ⟨o, ho, h⟩ := wk_bindE (show Option.bind _ _ = some _ from h)
    refine ts_S_X12_date_21 ho ?_
    cases o with
    | inl a1 =>
      cases h
      exact hk
    | inr p =>
      obtain ⟨p0, p1⟩ := p
      exact fun _ => ih h hk
set_option maxHeartbeats 4000000 in
set_option maxRecDepth 20000 in
theorem tj_j_X12_date_13 {x1 : Int32} {x2 : Int32} {s_0 : Int32} {s_1 : Int32} {s_2 : Int32} {w0 : Value} {w3 : Value} {w4 : Value} {s : wk_St} {z : wk_R} {o : Int32} (h : j_X12_date_13 x1 x2 s_0 s_1 s_2 = some o) (hk : z = (some (.int o), s)) : wk_H wk_shM 2 mc_X12_date 13 [w0, .int x1, .int x2, w3, w4] [.int s_0, .int s_1, .int s_2] s z := by
  dsimp only [j_X12_date_13] at h
  refine wk_Hcall (i2 := 14) (args := [.int s_2, .int s_1, .int s_0]) (rest := []) (r := some (.int (b2i (f_X12_in s_2 s_1 s_0)))) (σ1 := s) rfl rfl ⟨rfl, rfl, rfl, rfl, rfl⟩ rfl ((t_X12_in rfl).up (by decide)) ?_
  rcases wk_ife h with ⟨hc, h⟩ | ⟨hc, h⟩
  · refine wk_H0t 17 rfl (wk_zne.2 hc) ?_
    refine wk_Hs 4 21 ⟨rfl, rfl⟩ (ls' := [w0, .int x1, .int x2, .int (1 : Int32), .int x2]) (st' := []) (σ' := s) rfl ?_
    obtain ⟨v8, hv8, h⟩ := wk_bindE h
    refine tl_S_X12_date_21 wk_F hv8 ?_
    intro g9
    refine wk_Hs 7 44 ⟨rfl, rfl⟩ (ls' := [w0, .int x1, g9, .int v8.1, .int v8.2]) (st' := [.int ((((100 : Int32) * v8.1) + v8.2) + (1 : Int32))]) (σ' := s) rfl ?_
    cases h
    exact wk_eqz hk (wk_Hret rfl)
  · refine wk_H0f 17 15 rfl rfl (wk_nf wk_zne hc) ?_
    refine wk_Hs 1 16 ⟨rfl, rfl⟩ (ls' := [w0, .int x1, .int x2, w3, w4]) (st' := [.int (-1 : Int32)]) (σ' := s) rfl ?_
    cases h
    exact wk_eqz hk (wk_Hret rfl)
set_option maxHeartbeats 4000000 in
set_option maxRecDepth 20000 in
theorem t_X12_date {x1 : Int32} {x2 : Int32} {s : wk_St} {r : Int32} (h : f_X12_date x1 x2 = some r) : wk_T wk_shM 2 141 [.ref 0, .int x1, .int x2] s (some (.int r), s) := by
  suffices H : ∀ z, z = (some (.int r), s) → wk_H wk_shM 2 mc_X12_date 0 [.ref 0, .int x1, .int x2, wk_U, wk_U] [] s z from H _ rfl
  intro z hk
  dsimp only [f_X12_date] at h
  refine wk_Hs 3 3 ⟨rfl, rfl⟩ (ls' := [.ref 0, .int x1, .int x2, wk_U, wk_U]) (st' := [.int (9999 : Int32), .int (1 : Int32), .int x1]) (σ' := s) rfl ?_
  refine wk_Hcall (i2 := 4) (args := [.int x1, .int (1 : Int32), .int (9999 : Int32)]) (rest := []) (r := some (.int (b2i (f_X12_in x1 (1 : Int32) (9999 : Int32))))) (σ1 := s) rfl rfl ⟨rfl, rfl, rfl, rfl, rfl⟩ rfl ((t_X12_in rfl).up (by decide)) ?_
  rcases wk_ife h with ⟨hc, h⟩ | ⟨hc, h⟩
  · refine wk_H0t 15 rfl (wk_zeq.2 hc) ?_
    refine wk_Hs 1 16 ⟨rfl, rfl⟩ (ls' := [.ref 0, .int x1, .int x2, wk_U, wk_U]) (st' := [.int (-1 : Int32)]) (σ' := s) rfl ?_
    cases h
    exact wk_eqz hk (wk_Hret rfl)
  · refine wk_H0f 15 5 rfl rfl (wk_nf wk_zeq hc) ?_
    refine wk_Hs 3 8 ⟨rfl, rfl⟩ (ls' := [.ref 0, .int x1, .int x2, wk_U, wk_U]) (st' := [.int x1, .int (0 : Int32), .int x2]) (σ' := s) rfl ?_
    refine wk_Hcall (i2 := 9) (args := [.int x1]) (rest := [.int (0 : Int32), .int x2]) (r := some (.int (b2i (f_X12_isLeap x1)))) (σ1 := s) rfl rfl ⟨rfl, rfl, rfl, rfl, rfl⟩ rfl ((t_X12_isLeap rfl).up (by decide)) ?_
    rcases wk_ife h with ⟨hc, h⟩ | ⟨hc, h⟩
    · refine wk_H0t 12 rfl (wk_zeq.2 hc) ?_
      refine wk_Hs 1 13 ⟨rfl, rfl⟩ (ls' := [.ref 0, .int x1, .int x2, wk_U, wk_U]) (st' := [.int (364 : Int32), .int (0 : Int32), .int x2]) (σ' := s) rfl ?_
      exact tj_j_X12_date_13 h hk
    · refine wk_H0f 12 10 rfl rfl (wk_nf wk_zeq hc) ?_
      refine wk_Hs 1 11 ⟨rfl, rfl⟩ (ls' := [.ref 0, .int x1, .int x2, wk_U, wk_U]) (st' := [.int (365 : Int32), .int (0 : Int32), .int x2]) (σ' := s) rfl ?_
      refine wk_Hgoto (t := 13) rfl ?_
      exact tj_j_X12_date_13 h hk
set_option maxHeartbeats 4000000 in
set_option maxRecDepth 20000 in
theorem t_X12_seed {x1 : Int32} {s : wk_St} {r : Bool × wk_St} (h : f_X12_seed x1 s = r) : wk_T wk_shM 1 142 [.ref 0, .int x1] s (some (.int (b2i r.1)), r.2) := by
  suffices H : ∀ z, z = (some (.int (b2i r.1)), r.2) → wk_H wk_shM 1 mc_X12_seed 0 [.ref 0, .int x1] [] s z from H _ rfl
  intro z hk
  dsimp only [f_X12_seed] at h
  refine wk_Hs 3 3 ⟨rfl, rfl⟩ (ls' := [.ref 0, .int x1]) (st' := [.int (65535 : Int32), .int (0 : Int32), .int x1]) (σ' := s) rfl ?_
  refine wk_Hcall (i2 := 4) (args := [.int x1, .int (0 : Int32), .int (65535 : Int32)]) (rest := []) (r := some (.int (b2i (f_X12_in x1 (0 : Int32) (65535 : Int32))))) (σ1 := s) rfl rfl ⟨rfl, rfl, rfl, rfl, rfl⟩ rfl ((t_X12_in rfl).up (by decide)) ?_
  rcases wk_ife h with ⟨hc, h⟩ | ⟨hc, h⟩
  · refine wk_H0t 7 rfl (wk_zne.2 hc) ?_
    refine wk_Hs 4 11 ⟨rfl, rfl⟩ (ls' := [.ref 0, .int x1]) (st' := [.int x1, .int (46 : Int32), .ref 1]) (σ' := s) rfl ?_
    refine wk_Hias 12 rfl rfl rfl rfl rfl ?_
    refine wk_Hs 1 13 ⟨rfl, rfl⟩ (ls' := [.ref 0, .int x1]) (st' := [.int (1 : Int32)]) (σ' := (wk_si s 1 46 x1)) rfl ?_
    cases h
    exact wk_eqz hk (wk_Hretz rfl (b2i_01 true))
  · refine wk_H0f 7 5 rfl rfl (wk_nf wk_zne hc) ?_
    refine wk_Hs 1 6 ⟨rfl, rfl⟩ (ls' := [.ref 0, .int x1]) (st' := [.int (0 : Int32)]) (σ' := s) rfl ?_
    cases h
    exact wk_eqz hk (wk_Hretz rfl (b2i_01 false))
set_option maxHeartbeats 4000000 in
set_option maxRecDepth 20000 in
theorem t_X12_keep {s : wk_St} {r : Int32 × wk_St} (h : f_X12_keep s = some r) : wk_T wk_shM 1 143 [.ref 0] s (some (.int r.1), r.2) := by
  suffices H : ∀ z, z = (some (.int r.1), r.2) → wk_H wk_shM 1 mc_X12_keep 0 [.ref 0] [] s z from H _ rfl
  intro z hk
  dsimp only [f_X12_keep] at h
  refine wk_Hs 2 2 ⟨rfl, rfl⟩ (ls' := [.ref 0]) (st' := [.int (1 : Int32), .ref 0]) (σ' := s) rfl ?_
  refine wk_Hpz 3 57 rfl rfl rfl rfl rfl rfl (by decide) ?_
  refine wk_Hs 4 7 ⟨rfl, rfl⟩ (ls' := [.ref 0]) (st' := [.ref 3, .ref 1]) (σ' := (wk_si s 0 57 (1 : Int32))) rfl ?_
  obtain ⟨v1, hv1, h⟩ := wk_bindE h
  refine wk_Hcall (i2 := 8) (args := [.ref 1, .ref 3]) (rest := []) (r := none) (σ1 := v1) rfl rfl ⟨rfl, rfl, rfl, rfl, rfl⟩ rfl ((t_X12_copies_1_3 hv1).up (by decide)) ?_
  refine wk_Hs 3 11 ⟨rfl, rfl⟩ (ls' := [.ref 0]) (st' := [.int (45 : Int32), .ref 1]) (σ' := v1) rfl ?_
  refine wk_Hia 12 rfl rfl rfl rfl rfl ?_
  cases h
  exact wk_eqz hk (wk_Hret rfl)
set_option maxHeartbeats 4000000 in
set_option maxRecDepth 20000 in
theorem t_X12_undo {s : wk_St} {r : Bool × wk_St} (h : f_X12_undo s = some r) : wk_T wk_shM 1 144 [.ref 0] s (some (.int (b2i r.1)), r.2) := by
  suffices H : ∀ z, z = (some (.int (b2i r.1)), r.2) → wk_H wk_shM 1 mc_X12_undo 0 [.ref 0] [] s z from H _ rfl
  intro z hk
  dsimp only [f_X12_undo] at h
  refine wk_Hs 2 2 ⟨rfl, rfl⟩ (ls' := [.ref 0]) (st' := [.int (s.1 0 57)]) (σ' := s) rfl ?_
  rcases wk_ife h with ⟨hc, h⟩ | ⟨hc, h⟩
  · refine wk_H0t 5 rfl (wk_cne.2 hc) ?_
    refine wk_Hs 4 9 ⟨rfl, rfl⟩ (ls' := [.ref 0]) (st' := [.ref 1, .ref 3]) (σ' := s) rfl ?_
    obtain ⟨v1, hv1, h⟩ := wk_bindE h
    refine wk_Hcall (i2 := 10) (args := [.ref 3, .ref 1]) (rest := []) (r := none) (σ1 := v1) rfl rfl ⟨rfl, rfl, rfl, rfl, rfl⟩ rfl ((t_X12_copies_3_1 hv1).up (by decide)) ?_
    refine wk_Hs 1 11 ⟨rfl, rfl⟩ (ls' := [.ref 0]) (st' := [.int (1 : Int32)]) (σ' := v1) rfl ?_
    cases h
    exact wk_eqz hk (wk_Hretz rfl (b2i_01 true))
  · refine wk_H0f 5 3 rfl rfl (wk_nf wk_cne hc) ?_
    refine wk_Hs 1 4 ⟨rfl, rfl⟩ (ls' := [.ref 0]) (st' := [.int (0 : Int32)]) (σ' := s) rfl ?_
    cases h
    exact wk_eqz hk (wk_Hretz rfl (b2i_01 false))
set_option maxHeartbeats 4000000 in
set_option maxRecDepth 20000 in
theorem ts_S_X12_check_16 {x1 : Int32} {x2 : Int32} {s : wk_St} {z : wk_R} {o : ((Int32 × wk_St) ⊕ (wk_St)) ⊕ (Int32 × wk_St)} (h : S_X12_check_16 x1 (x2, s) = some o) (hk : match (generalizing := false) o with | Sum.inl a => (match (generalizing := false) a with | Sum.inl r => z = (some (.int r.1), r.2) | Sum.inr y => ∀ (u2 : Value), wk_H wk_shM 2 mc_X12_check 39 [.ref 0, .int x1, u2] [] y z) | Sum.inr y => wk_H wk_shM 2 mc_X12_check 16 [.ref 0, .int x1, .int y.1] [] y.2 z) : wk_H wk_shM 2 mc_X12_check 16 [.ref 0, .int x1, .int x2] [] s z := by
  dsimp only [S_X12_check_16] at h
  refine wk_Hs 2 18 ⟨rfl, rfl⟩ (ls' := [.ref 0, .int x1, .int x2]) (st' := [.int x1, .int x2]) (σ' := s) rfl ?_
  rcases wk_ife h with ⟨hc, h⟩ | ⟨hc, h⟩
  · refine wk_Hbt 39 rfl (wk_cge.2 hc) ?_
    cases h
    exact hk _
  · refine wk_Hbf 39 19 rfl rfl (wk_nf wk_cge hc) ?_
    refine wk_Hs 2 21 ⟨rfl, rfl⟩ (ls' := [.ref 0, .int x1, .int x2]) (st' := [.int x2, .ref 0]) (σ' := s) rfl ?_
    obtain ⟨v2, hv2, h⟩ := wk_bindE h
    refine wk_Hcall (i2 := 22) (args := [.ref 0, .int x2]) (rest := []) (r := some (.int v2)) (σ1 := s) rfl rfl ⟨rfl, rfl, rfl, rfl, rfl⟩ rfl ((t_X12_octet hv2).up (by decide)) ?_
    refine wk_Hs 2 24 ⟨rfl, rfl⟩ (ls' := [.ref 0, .int x1, .int x2]) (st' := [.int x2, .ref 0, .int v2]) (σ' := s) rfl ?_
    obtain ⟨v3, hv3, h⟩ := wk_bindE h
    refine wk_Hcall (i2 := 25) (args := [.ref 0, .int x2]) (rest := [.int v2]) (r := some (.int (b2i v3))) (σ1 := s) rfl rfl ⟨rfl, rfl, rfl, rfl, rfl⟩ rfl ((t_X12_isKnight hv3).up (by decide)) ?_
    rcases wk_ife h with ⟨hc, h⟩ | ⟨hc, h⟩
    · refine wk_H0t 33 rfl (wk_zeq.2 hc) ?_
      refine wk_Hs 1 34 ⟨rfl, rfl⟩ (ls' := [.ref 0, .int x1, .int x2]) (st' := [.int (255 : Int32), .int v2]) (σ' := s) rfl ?_
      rcases wk_ife h with ⟨hc, h⟩ | ⟨hc, h⟩
      · refine wk_Hbt 37 rfl (wk_ceq.2 hc) ?_
        refine wk_Hs 1 38 ⟨rfl, rfl⟩ (ls' := [.ref 0, .int x1, .int (x2 + (1 : Int32))]) (st' := []) (σ' := s) rfl ?_
        refine wk_Hgoto (t := 16) rfl ?_
        cases h
        exact hk
      · refine wk_Hbf 37 35 rfl rfl (wk_nf wk_ceq hc) ?_
        refine wk_Hs 1 36 ⟨rfl, rfl⟩ (ls' := [.ref 0, .int x1, .int x2]) (st' := [.int x2]) (σ' := s) rfl ?_
        cases h
        exact wk_eqz hk (wk_Hret rfl)
    · refine wk_H0f 33 26 rfl rfl (wk_nf wk_zeq hc) ?_
      refine wk_Hs 5 31 ⟨rfl, rfl⟩ (ls' := [.ref 0, .int x1, .int x2]) (st' := [.int ((18 : Int32) + x2), .ref 1, .int v2]) (σ' := s) rfl ?_
      obtain ⟨hg, h⟩ := wk_gdE h
      refine wk_Hia 32 rfl rfl rfl hg rfl ?_
      refine wk_Hgoto (t := 34) rfl ?_
      rcases wk_ife h with ⟨hc, h⟩ | ⟨hc, h⟩
      · refine wk_Hbt 37 rfl (wk_ceq.2 hc) ?_
        refine wk_Hs 1 38 ⟨rfl, rfl⟩ (ls' := [.ref 0, .int x1, .int (x2 + (1 : Int32))]) (st' := []) (σ' := s) rfl ?_
        refine wk_Hgoto (t := 16) rfl ?_
        cases h
        exact hk
      · refine wk_Hbf 37 35 rfl rfl (wk_nf wk_ceq hc) ?_
        refine wk_Hs 1 36 ⟨rfl, rfl⟩ (ls' := [.ref 0, .int x1, .int x2]) (st' := [.int x2]) (σ' := s) rfl ?_
        cases h
        exact wk_eqz hk (wk_Hret rfl)
set_option maxHeartbeats 4000000 in
set_option maxRecDepth 20000 in
theorem tl_S_X12_check_16 {x1 : Int32} {z : wk_R} (n : Nat) : ∀ {x2 : Int32} {s : wk_St} {a : (Int32 × wk_St) ⊕ (wk_St)} (h : wk_loop (S_X12_check_16 x1) n (x2, s) = some a) (hk : match (generalizing := false) a with | Sum.inl r => z = (some (.int r.1), r.2) | Sum.inr y => ∀ (u2 : Value), wk_H wk_shM 2 mc_X12_check 39 [.ref 0, .int x1, u2] [] y z), wk_H wk_shM 2 mc_X12_check 16 [.ref 0, .int x1, .int x2] [] s z := by
  induction n with
  | zero =>
    intros
    rename_i h _
    exact nomatch (show (none : Option _) = some _ from h)
  | succ n ih =>
    intros
    rename_i h hk
    obtain ⟨o, ho, h⟩ := wk_bindE (show Option.bind _ _ = some _ from h)
    refine ts_S_X12_check_16 ho ?_
    cases o with
    | inl a1 =>
      cases h
      exact hk
    | inr p =>
      obtain ⟨p0, p1⟩ := p
      exact ih h hk
set_option maxHeartbeats 4000000 in
set_option maxRecDepth 20000 in
theorem t_X12_check {x1 : Int32} {s : wk_St} {r : Int32 × wk_St} (h : f_X12_check x1 s = some r) : wk_T wk_shM 2 145 [.ref 0, .int x1] s (some (.int r.1), r.2) := by
  suffices H : ∀ z, z = (some (.int r.1), r.2) → wk_H wk_shM 2 mc_X12_check 0 [.ref 0, .int x1, wk_U] [] s z from H _ rfl
  intro z hk
  dsimp only [f_X12_check] at h
  refine wk_Hs 3 3 ⟨rfl, rfl⟩ (ls' := [.ref 0, .int x1, wk_U]) (st' := [.int (9 : Int32), .int (0 : Int32), .int x1]) (σ' := s) rfl ?_
  refine wk_Hcall (i2 := 4) (args := [.int x1, .int (0 : Int32), .int (9 : Int32)]) (rest := []) (r := some (.int (b2i (f_X12_in x1 (0 : Int32) (9 : Int32))))) (σ1 := s) rfl rfl ⟨rfl, rfl, rfl, rfl, rfl⟩ rfl ((t_X12_in rfl).up (by decide)) ?_
  rcases wk_ife h with ⟨hc, h⟩ | ⟨hc, h⟩
  · refine wk_H0t 9 rfl (wk_zeq.2 hc) ?_
    refine wk_Hs 1 10 ⟨rfl, rfl⟩ (ls' := [.ref 0, .int x1, wk_U]) (st' := [.int (-2 : Int32)]) (σ' := s) rfl ?_
    cases h
    exact wk_eqz hk (wk_Hret rfl)
  · refine wk_H0f 9 5 rfl rfl (wk_nf wk_zeq hc) ?_
    refine wk_Hs 3 8 ⟨rfl, rfl⟩ (ls' := [.ref 0, .int x1, wk_U]) (st' := [.int (s.1 0 9), .int x1]) (σ' := s) rfl ?_
    rcases wk_ife h with ⟨hc, h⟩ | ⟨hc, h⟩
    · refine wk_Hbt 11 rfl (wk_cle.2 hc) ?_
      refine wk_Hs 5 16 ⟨rfl, rfl⟩ (ls' := [.ref 0, .int x1, .int (0 : Int32)]) (st' := []) (σ' := (wk_si s 0 9 (0 : Int32))) rfl ?_
      obtain ⟨v4, hv4, h⟩ := wk_bindE h
      rcases v4 with v4r | v4
      · cases h
        exact tl_S_X12_check_16 wk_F hv4 hk
      · refine tl_S_X12_check_16 wk_F hv4 ?_
        intro g5
        dsimp only at h ⊢
        refine wk_Hs 1 40 ⟨rfl, rfl⟩ (ls' := [.ref 0, .int x1, g5]) (st' := [.int (-1 : Int32)]) (σ' := v4) rfl ?_
        cases h
        exact wk_eqz hk (wk_Hret rfl)
    · refine wk_Hbf 11 9 rfl rfl (wk_nf wk_cle hc) ?_
      refine wk_Hs 1 10 ⟨rfl, rfl⟩ (ls' := [.ref 0, .int x1, wk_U]) (st' := [.int (-2 : Int32)]) (σ' := s) rfl ?_
      cases h
      exact wk_eqz hk (wk_Hret rfl)
set_option maxHeartbeats 4000000 in
set_option maxRecDepth 20000 in
theorem ts_S_X12_setOf_4 {x1 : Int32} {x2 : Int32} {x3 : Int32} {s : wk_St} {z : wk_R} {o : (Int32) ⊕ (Int32 × Int32)} (h : S_X12_setOf_4 x1 s (x2, x3) = some o) (hk : match (generalizing := false) o with | Sum.inl a => (∀ (u3 : Value), wk_H wk_shM 2 mc_X12_setOf 27 [.ref 0, .int x1, .int a, u3] [] s z) | Sum.inr y => wk_H wk_shM 2 mc_X12_setOf 4 [.ref 0, .int x1, .int y.1, .int y.2] [] s z) : wk_H wk_shM 2 mc_X12_setOf 4 [.ref 0, .int x1, .int x2, .int x3] [] s z := by
  dsimp only [S_X12_setOf_4] at h
  refine wk_Hs 2 6 ⟨rfl, rfl⟩ (ls' := [.ref 0, .int x1, .int x2, .int x3]) (st' := [.int (9 : Int32), .int x3]) (σ' := s) rfl ?_
  rcases wk_ife h with ⟨hc, h⟩ | ⟨hc, h⟩
  · refine wk_Hbt 27 rfl (wk_cge.2 hc) ?_
    cases h
    exact hk _
  · refine wk_Hbf 27 7 rfl rfl (wk_nf wk_cge hc) ?_
    refine wk_Hs 2 9 ⟨rfl, rfl⟩ (ls' := [.ref 0, .int x1, .int x2, .int x3]) (st' := [.int x3, .ref 0]) (σ' := s) rfl ?_
    obtain ⟨v1, hv1, h⟩ := wk_bindE h
    refine wk_Hcall (i2 := 10) (args := [.ref 0, .int x3]) (rest := []) (r := some (.int (b2i v1))) (σ1 := s) rfl rfl ⟨rfl, rfl, rfl, rfl, rfl⟩ rfl ((t_X12_isKnight hv1).up (by decide)) ?_
    rcases wk_ife h with ⟨hc, h⟩ | ⟨hc, h⟩
    · refine wk_H0t 25 rfl (wk_zeq.2 hc) ?_
      refine wk_Hs 1 26 ⟨rfl, rfl⟩ (ls' := [.ref 0, .int x1, .int x2, .int (x3 + (1 : Int32))]) (st' := []) (σ' := s) rfl ?_
      refine wk_Hgoto (t := 4) rfl ?_
      cases h
      exact hk
    · refine wk_H0f 25 11 rfl rfl (wk_nf wk_zeq hc) ?_
      refine wk_Hs 5 16 ⟨rfl, rfl⟩ (ls' := [.ref 0, .int x1, .int x2, .int x3]) (st' := [.int ((27 : Int32) + x3), .ref 1]) (σ' := s) rfl ?_
      obtain ⟨hg, h⟩ := wk_gdE h
      refine wk_Hia 17 rfl rfl rfl hg rfl ?_
      refine wk_Hs 1 18 ⟨rfl, rfl⟩ (ls' := [.ref 0, .int x1, .int x2, .int x3]) (st' := [.int x1, .int (s.1 1 (((27 : Int32) + x3).toNatClampNeg))]) (σ' := s) rfl ?_
      rcases wk_ife h with ⟨hc, h⟩ | ⟨hc, h⟩
      · refine wk_Hbt 25 rfl (wk_cne.2 hc) ?_
        refine wk_Hs 1 26 ⟨rfl, rfl⟩ (ls' := [.ref 0, .int x1, .int x2, .int (x3 + (1 : Int32))]) (st' := []) (σ' := s) rfl ?_
        refine wk_Hgoto (t := 4) rfl ?_
        cases h
        exact hk
      · refine wk_Hbf 25 19 rfl rfl (wk_nf wk_cne hc) ?_
        refine wk_Hs 5 24 ⟨rfl, rfl⟩ (ls' := [.ref 0, .int x1, .int x2, .int x3]) (st' := [.int (x2 ||| ((1 : Int32) <<< (x3 &&& 31)))]) (σ' := s) rfl ?_
        replace h := wk_letE h
        refine wk_Hs 2 26 ⟨rfl, rfl⟩ (ls' := [.ref 0, .int x1, .int (x2 ||| ((1 : Int32) <<< (x3 &&& 31))), .int (x3 + (1 : Int32))]) (st' := []) (σ' := s) rfl ?_
        refine wk_Hgoto (t := 4) rfl ?_
        cases h
        exact hk
set_option maxHeartbeats 4000000 in
set_option maxRecDepth 20000 in
theorem tl_S_X12_setOf_4 {x1 : Int32} {s : wk_St} {z : wk_R} (n : Nat) : ∀ {x2 : Int32} {x3 : Int32} {a : Int32} (h : wk_loop (S_X12_setOf_4 x1 s) n (x2, x3) = some a) (hk : ∀ (u3 : Value), wk_H wk_shM 2 mc_X12_setOf 27 [.ref 0, .int x1, .int a, u3] [] s z), wk_H wk_shM 2 mc_X12_setOf 4 [.ref 0, .int x1, .int x2, .int x3] [] s z := by
  induction n with
  | zero =>
    intros
    rename_i h _
    exact nomatch (show (none : Option _) = some _ from h)
  | succ n ih =>
    intros
    rename_i h hk
    obtain ⟨o, ho, h⟩ := wk_bindE (show Option.bind _ _ = some _ from h)
    refine ts_S_X12_setOf_4 ho ?_
    cases o with
    | inl a1 =>
      cases h
      exact hk
    | inr p =>
      obtain ⟨p0, p1⟩ := p
      exact ih h hk
set_option maxHeartbeats 4000000 in
set_option maxRecDepth 20000 in
theorem t_X12_setOf {x1 : Int32} {s : wk_St} {r : Int32} (h : f_X12_setOf x1 s = some r) : wk_T wk_shM 2 146 [.ref 0, .int x1] s (some (.int r), s) := by
  suffices H : ∀ z, z = (some (.int r), s) → wk_H wk_shM 2 mc_X12_setOf 0 [.ref 0, .int x1, wk_U, wk_U] [] s z from H _ rfl
  intro z hk
  dsimp only [f_X12_setOf] at h
  refine wk_Hs 4 4 ⟨rfl, rfl⟩ (ls' := [.ref 0, .int x1, .int (0 : Int32), .int (0 : Int32)]) (st' := []) (σ' := s) rfl ?_
  obtain ⟨v3, hv3, h⟩ := wk_bindE h
  refine tl_S_X12_setOf_4 wk_F hv3 ?_
  intro g4
  refine wk_Hs 1 28 ⟨rfl, rfl⟩ (ls' := [.ref 0, .int x1, .int v3, g4]) (st' := [.int v3]) (σ' := s) rfl ?_
  cases h
  exact wk_eqz hk (wk_Hret rfl)
set_option maxHeartbeats 4000000 in
set_option maxRecDepth 20000 in
theorem t_X12_count {x1 : Int32} {s : wk_St} {r : Int32} (h : f_X12_count x1 s = some r) : wk_T wk_shM 3 147 [.ref 0, .int x1] s (some (.int r), s) := by
  suffices H : ∀ z, z = (some (.int r), s) → wk_H wk_shM 3 mc_X12_count 0 [.ref 0, .int x1] [] s z from H _ rfl
  intro z hk
  dsimp only [f_X12_count] at h
  refine wk_Hs 1 1 ⟨rfl, rfl⟩ (ls' := [.ref 0, .int x1]) (st' := [.int x1]) (σ' := s) rfl ?_
  rcases wk_ife h with ⟨hc0, h⟩ | ⟨hc0, h⟩
  · refine wk_Hts (t := 2) rfl (wk_tswE hc0 (by decide)) ?_
    refine wk_Hs 3 5 ⟨rfl, rfl⟩ (ls' := [.ref 0, .int x1]) (st' := [.int (45 : Int32), .ref 1]) (σ' := s) rfl ?_
    refine wk_Hia 6 rfl rfl rfl rfl rfl ?_
    cases h
    exact wk_eqz hk (wk_Hret rfl)
  rcases wk_ife h with ⟨hc1, h⟩ | ⟨hc1, h⟩
  · refine wk_Hts (t := 7) rfl (wk_tswE hc1 (by decide)) ?_
    refine wk_Hs 2 9 ⟨rfl, rfl⟩ (ls' := [.ref 0, .int x1]) (st' := [.int (0 : Int32), .ref 0]) (σ' := s) rfl ?_
    refine wk_Hcall (i2 := 10) (args := [.ref 0, .int (0 : Int32)]) (rest := []) (r := some (.int (f_X12_weekdayIn (0 : Int32) s))) (σ1 := s) rfl rfl ⟨rfl, rfl, rfl, rfl, rfl⟩ rfl ((t_X12_weekdayIn rfl).up (by decide)) ?_
    cases h
    exact wk_eqz hk (wk_Hret rfl)
  rcases wk_ife h with ⟨hc2, h⟩ | ⟨hc2, h⟩
  · refine wk_Hts (t := 11) rfl (wk_tswE hc2 (by decide)) ?_
    refine wk_Hs 2 13 ⟨rfl, rfl⟩ (ls' := [.ref 0, .int x1]) (st' := [.int (s.1 0 4)]) (σ' := s) rfl ?_
    cases h
    exact wk_eqz hk (wk_Hret rfl)
  rcases wk_ife h with ⟨hc3, h⟩ | ⟨hc3, h⟩
  · refine wk_Hts (t := 14) rfl (wk_tswE hc3 (by decide)) ?_
    refine wk_Hs 2 16 ⟨rfl, rfl⟩ (ls' := [.ref 0, .int x1]) (st' := [.int (0 : Int32), .ref 0]) (σ' := s) rfl ?_
    obtain ⟨v2, hv2, h⟩ := wk_bindE h
    refine wk_Hcall (i2 := 17) (args := [.ref 0, .int (0 : Int32)]) (rest := []) (r := some (.int v2)) (σ1 := s) rfl rfl ⟨rfl, rfl, rfl, rfl, rfl⟩ rfl ((t_X12_setOf hv2).up (by decide)) ?_
    refine wk_Hs 2 19 ⟨rfl, rfl⟩ (ls' := [.ref 0, .int x1]) (st' := [.int (1 : Int32), .ref 0, .int v2]) (σ' := s) rfl ?_
    obtain ⟨v3, hv3, h⟩ := wk_bindE h
    refine wk_Hcall (i2 := 20) (args := [.ref 0, .int (1 : Int32)]) (rest := [.int v2]) (r := some (.int v3)) (σ1 := s) rfl rfl ⟨rfl, rfl, rfl, rfl, rfl⟩ rfl ((t_X12_setOf hv3).up (by decide)) ?_
    refine wk_Hs 3 23 ⟨rfl, rfl⟩ (ls' := [.ref 0, .int x1]) (st' := [.int (2 : Int32), .ref 0, .int (v2 ||| v3)]) (σ' := s) rfl ?_
    obtain ⟨v4, hv4, h⟩ := wk_bindE h
    refine wk_Hcall (i2 := 24) (args := [.ref 0, .int (2 : Int32)]) (rest := [.int (v2 ||| v3)]) (r := some (.int v4)) (σ1 := s) rfl rfl ⟨rfl, rfl, rfl, rfl, rfl⟩ rfl ((t_X12_setOf hv4).up (by decide)) ?_
    refine wk_Hs 1 25 ⟨rfl, rfl⟩ (ls' := [.ref 0, .int x1]) (st' := [.int ((v2 ||| v3) ||| v4)]) (σ' := s) rfl ?_
    cases h
    exact wk_eqz hk (wk_Hret rfl)
  rcases wk_ife h with ⟨hc4, h⟩ | ⟨hc4, h⟩
  · refine wk_Hts (t := 26) rfl (wk_tswE hc4 (by decide)) ?_
    refine wk_Hs 2 28 ⟨rfl, rfl⟩ (ls' := [.ref 0, .int x1]) (st' := [.int (1 : Int32), .ref 0]) (σ' := s) rfl ?_
    obtain ⟨v5, hv5, h⟩ := wk_bindE h
    refine wk_Hcall (i2 := 29) (args := [.ref 0, .int (1 : Int32)]) (rest := []) (r := some (.int v5)) (σ1 := s) rfl rfl ⟨rfl, rfl, rfl, rfl, rfl⟩ rfl ((t_X12_setOf hv5).up (by decide)) ?_
    cases h
    exact wk_eqz hk (wk_Hret rfl)
  rcases wk_ife h with ⟨hc5, h⟩ | ⟨hc5, h⟩
  · refine wk_Hts (t := 30) rfl (wk_tswE hc5 (by decide)) ?_
    refine wk_Hs 2 32 ⟨rfl, rfl⟩ (ls' := [.ref 0, .int x1]) (st' := [.int (2 : Int32), .ref 0]) (σ' := s) rfl ?_
    obtain ⟨v6, hv6, h⟩ := wk_bindE h
    refine wk_Hcall (i2 := 33) (args := [.ref 0, .int (2 : Int32)]) (rest := []) (r := some (.int v6)) (σ1 := s) rfl rfl ⟨rfl, rfl, rfl, rfl, rfl⟩ rfl ((t_X12_setOf hv6).up (by decide)) ?_
    cases h
    exact wk_eqz hk (wk_Hret rfl)
  rcases wk_ife h with ⟨hc6, h⟩ | ⟨hc6, h⟩
  · refine wk_Hts (t := 34) rfl (wk_tswE hc6 (by decide)) ?_
    refine wk_Hs 2 36 ⟨rfl, rfl⟩ (ls' := [.ref 0, .int x1]) (st' := [.int (s.1 0 18)]) (σ' := s) rfl ?_
    cases h
    exact wk_eqz hk (wk_Hret rfl)
  rcases wk_ife h with ⟨hc7, h⟩ | ⟨hc7, h⟩
  · refine wk_Hts (t := 37) rfl (wk_tswE hc7 (by decide)) ?_
    refine wk_Hs 2 39 ⟨rfl, rfl⟩ (ls' := [.ref 0, .int x1]) (st' := [.int (s.1 0 9)]) (σ' := s) rfl ?_
    cases h
    exact wk_eqz hk (wk_Hret rfl)
  rcases wk_ife h with ⟨hc8, h⟩ | ⟨hc8, h⟩
  · refine wk_Hts (t := 40) rfl (wk_tswE hc8 (by decide)) ?_
    refine wk_Hs 3 43 ⟨rfl, rfl⟩ (ls' := [.ref 0, .int x1]) (st' := [.int (46 : Int32), .ref 1]) (σ' := s) rfl ?_
    refine wk_Hia 44 rfl rfl rfl rfl rfl ?_
    cases h
    exact wk_eqz hk (wk_Hret rfl)
  refine wk_Hts (t := 45) rfl (wk_tswD (L := [0, 1, 2, 3, 4, 5, 6, 7, 8]) (by decide) (List.forall_mem_cons.2 ⟨wk_nt hc0 (by decide), (List.forall_mem_cons.2 ⟨wk_nt hc1 (by decide), (List.forall_mem_cons.2 ⟨wk_nt hc2 (by decide), (List.forall_mem_cons.2 ⟨wk_nt hc3 (by decide), (List.forall_mem_cons.2 ⟨wk_nt hc4 (by decide), (List.forall_mem_cons.2 ⟨wk_nt hc5 (by decide), (List.forall_mem_cons.2 ⟨wk_nt hc6 (by decide), (List.forall_mem_cons.2 ⟨wk_nt hc7 (by decide), (List.forall_mem_cons.2 ⟨wk_nt hc8 (by decide), (fun _ hq => absurd hq List.not_mem_nil)⟩)⟩)⟩)⟩)⟩)⟩)⟩)⟩)⟩)) ?_
  refine wk_Hs 4 49 ⟨rfl, rfl⟩ (ls' := [.ref 0, .int x1]) (st' := [.int (x1 - (20 : Int32)), .ref 0]) (σ' := s) rfl ?_
  refine wk_Hcall (i2 := 50) (args := [.ref 0, .int (x1 - (20 : Int32))]) (rest := []) (r := some (.int (b2i (f_X12_isPlace (x1 - (20 : Int32)) s)))) (σ1 := s) rfl rfl ⟨rfl, rfl, rfl, rfl, rfl⟩ rfl ((t_X12_isPlace rfl).up (by decide)) ?_
  rcases wk_ife h with ⟨hc, h⟩ | ⟨hc, h⟩
  · refine wk_H0t 58 rfl (wk_zeq.2 hc) ?_
    refine wk_Hs 3 61 ⟨rfl, rfl⟩ (ls' := [.ref 0, .int x1]) (st' := [.int (51 : Int32), .int (40 : Int32), .int x1]) (σ' := s) rfl ?_
    refine wk_Hcall (i2 := 62) (args := [.int x1, .int (40 : Int32), .int (51 : Int32)]) (rest := []) (r := some (.int (b2i (f_X12_in x1 (40 : Int32) (51 : Int32))))) (σ1 := s) rfl rfl ⟨rfl, rfl, rfl, rfl, rfl⟩ rfl ((t_X12_in rfl).up (by decide)) ?_
    rcases wk_ife h with ⟨hc, h⟩ | ⟨hc, h⟩
    · refine wk_H0t 70 rfl (wk_zeq.2 hc) ?_
      refine wk_Hs 1 71 ⟨rfl, rfl⟩ (ls' := [.ref 0, .int x1]) (st' := [.int (-1 : Int32)]) (σ' := s) rfl ?_
      cases h
      exact wk_eqz hk (wk_Hret rfl)
    · refine wk_H0f 70 63 rfl rfl (wk_nf wk_zeq hc) ?_
      refine wk_Hs 5 68 ⟨rfl, rfl⟩ (ls' := [.ref 0, .int x1]) (st' := [.int (x1 - (40 : Int32)), .ref 22]) (σ' := s) rfl ?_
      obtain ⟨hg, h⟩ := wk_gdE h
      refine wk_Hia 69 rfl rfl rfl hg rfl ?_
      refine wk_Hgoto (t := 71) rfl ?_
      cases h
      exact wk_eqz hk (wk_Hret rfl)
  · refine wk_H0f 58 51 rfl rfl (wk_nf wk_zeq hc) ?_
    refine wk_Hs 5 56 ⟨rfl, rfl⟩ (ls' := [.ref 0, .int x1]) (st' := [.int (x1 - (20 : Int32)), .ref 4]) (σ' := s) rfl ?_
    obtain ⟨hg, h⟩ := wk_gdE h
    refine wk_Hia 57 rfl rfl rfl hg rfl ?_
    cases h
    exact wk_eqz hk (wk_Hret rfl)
