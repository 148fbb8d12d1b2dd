set_option maxHeartbeats 4000000 in
set_option maxRecDepth 20000 in
theorem t_X11_isWithin {x0 : Int32} {x1 : Int32} {x2 : Int32} {s : wk_St} {r : Bool} (h : f_X11_isWithin x0 x1 x2 = r) : wk_T wk_shC 0 40 [.int x0, .int x1, .int x2] s (some (.int (b2i r)), s) := by
  suffices H : ∀ z, z = (some (.int (b2i r)), s) → wk_H wk_shC 0 mc_X11_isWithin 0 [.int x0, .int x1, .int x2] [] s z from H _ rfl
  intro z hk
  dsimp only [f_X11_isWithin] at h
  refine wk_Hs 2 2 ⟨rfl, rfl⟩ (ls' := [.int x0, .int x1, .int x2]) (st' := [.int x1, .int x0]) (σ' := s) rfl ?_
  rcases wk_ife h with ⟨hc, h⟩ | ⟨hc, h⟩
  · refine wk_Hbt 8 rfl (wk_clt.2 hc) ?_
    refine wk_Hs 1 9 ⟨rfl, rfl⟩ (ls' := [.int x0, .int x1, .int x2]) (st' := [.int (0 : Int32)]) (σ' := s) rfl ?_
    cases h
    exact wk_eqz hk (wk_Hretz rfl (b2i_01 false))
  · refine wk_Hbf 8 3 rfl rfl (wk_nf wk_clt hc) ?_
    refine wk_Hs 2 5 ⟨rfl, rfl⟩ (ls' := [.int x0, .int x1, .int x2]) (st' := [.int x2, .int x0]) (σ' := s) rfl ?_
    rcases wk_ife h with ⟨hc, h⟩ | ⟨hc, h⟩
    · refine wk_Hbt 8 rfl (wk_cgt.2 hc) ?_
      refine wk_Hs 1 9 ⟨rfl, rfl⟩ (ls' := [.int x0, .int x1, .int x2]) (st' := [.int (0 : Int32)]) (σ' := s) rfl ?_
      cases h
      exact wk_eqz hk (wk_Hretz rfl (b2i_01 false))
    · refine wk_Hbf 8 6 rfl rfl (wk_nf wk_cgt hc) ?_
      refine wk_Hs 1 7 ⟨rfl, rfl⟩ (ls' := [.int x0, .int x1, .int x2]) (st' := [.int (1 : Int32)]) (σ' := s) rfl ?_
      refine wk_Hgoto (t := 9) rfl ?_
      cases h
      exact wk_eqz hk (wk_Hretz rfl (b2i_01 true))
set_option maxHeartbeats 4000000 in
set_option maxRecDepth 20000 in
theorem t_X11_hasBit {x0 : Int32} {x1 : Int32} {s : wk_St} {r : Bool} (h : f_X11_hasBit x0 x1 = r) : wk_T wk_shC 0 41 [.int x0, .int x1] s (some (.int (b2i r)), s) := by
  suffices H : ∀ z, z = (some (.int (b2i r)), s) → wk_H wk_shC 0 mc_X11_hasBit 0 [.int x0, .int x1] [] s z from H _ rfl
  intro z hk
  dsimp only [f_X11_hasBit] at h
  refine wk_Hs 1 1 ⟨rfl, rfl⟩ (ls' := [.int x0, .int x1]) (st' := [.int x1]) (σ' := s) rfl ?_
  rcases wk_ife h with ⟨hc, h⟩ | ⟨hc, h⟩
  · refine wk_H0t 13 rfl (wk_clt.2 hc) ?_
    refine wk_Hs 1 14 ⟨rfl, rfl⟩ (ls' := [.int x0, .int x1]) (st' := [.int (0 : Int32)]) (σ' := s) rfl ?_
    cases h
    exact wk_eqz hk (wk_Hretz rfl (b2i_01 false))
  · refine wk_H0f 13 2 rfl rfl (wk_nf wk_clt hc) ?_
    refine wk_Hs 2 4 ⟨rfl, rfl⟩ (ls' := [.int x0, .int x1]) (st' := [.int (32 : Int32), .int x1]) (σ' := s) rfl ?_
    rcases wk_ife h with ⟨hc, h⟩ | ⟨hc, h⟩
    · refine wk_Hbt 13 rfl (wk_cge.2 hc) ?_
      refine wk_Hs 1 14 ⟨rfl, rfl⟩ (ls' := [.int x0, .int x1]) (st' := [.int (0 : Int32)]) (σ' := s) rfl ?_
      cases h
      exact wk_eqz hk (wk_Hretz rfl (b2i_01 false))
    · refine wk_Hbf 13 5 rfl rfl (wk_nf wk_cge hc) ?_
      refine wk_Hs 5 10 ⟨rfl, rfl⟩ (ls' := [.int x0, .int x1]) (st' := [.int ((wk_ushr x0 x1) &&& (1 : Int32))]) (σ' := s) rfl ?_
      rcases wk_ife h with ⟨hc, h⟩ | ⟨hc, h⟩
      · refine wk_H0t 13 rfl (wk_ceq.2 hc) ?_
        refine wk_Hs 1 14 ⟨rfl, rfl⟩ (ls' := [.int x0, .int x1]) (st' := [.int (0 : Int32)]) (σ' := s) rfl ?_
        cases h
        exact wk_eqz hk (wk_Hretz rfl (b2i_01 false))
      · refine wk_H0f 13 11 rfl rfl (wk_nf wk_ceq hc) ?_
        refine wk_Hs 1 12 ⟨rfl, rfl⟩ (ls' := [.int x0, .int x1]) (st' := [.int (1 : Int32)]) (σ' := s) rfl ?_
        refine wk_Hgoto (t := 14) rfl ?_
        cases h
        exact wk_eqz hk (wk_Hretz rfl (b2i_01 true))
set_option maxHeartbeats 4000000 in
set_option maxRecDepth 20000 in
theorem ts_S_X2_spread_4 {x1 : Int32} {x2 : Int32} {x3 : Int32} {s : wk_St} {z : wk_R} {o : (Int32) ⊕ (Int32 × Int32)} (h : S_X2_spread_4 x1 s (x2, x3) = some o) (hk : match (generalizing := false) o with | Sum.inl a => (∀ (u3 : Value), wk_H wk_shC 1 mc_X2_spread 20 [.ref 3, .int x1, .int a, u3] [] s z) | Sum.inr y => wk_H wk_shC 1 mc_X2_spread 4 [.ref 3, .int x1, .int y.1, .int y.2] [] s z) : wk_H wk_shC 1 mc_X2_spread 4 [.ref 3, .int x1, .int x2, .int x3] [] s z := by
  dsimp only [S_X2_spread_4] at h
  refine wk_Hs 2 6 ⟨rfl, rfl⟩ (ls' := [.ref 3, .int x1, .int x2, .int x3]) (st' := [.int (12 : Int32), .int x3]) (σ' := s) rfl ?_
  rcases wk_ife h with ⟨hc, h⟩ | ⟨hc, h⟩
  · refine wk_Hbt 20 rfl (wk_cge.2 hc) ?_
    cases h
    exact hk _
  · refine wk_Hbf 20 7 rfl rfl (wk_nf wk_cge hc) ?_
    refine wk_Hs 2 9 ⟨rfl, rfl⟩ (ls' := [.ref 3, .int x1, .int x2, .int x3]) (st' := [.int x3, .int x1]) (σ' := s) rfl ?_
    refine wk_Hcall (i2 := 10) (args := [.int x1, .int x3]) (rest := []) (r := some (.int (b2i (f_X11_hasBit x1 x3)))) (σ1 := s) rfl rfl ⟨rfl, rfl, rfl, rfl, rfl⟩ rfl ((t_X11_hasBit rfl).up (by decide)) ?_
    rcases wk_ife h with ⟨hc, h⟩ | ⟨hc, h⟩
    · refine wk_H0t 18 rfl (wk_zeq.2 hc) ?_
      refine wk_Hs 1 19 ⟨rfl, rfl⟩ (ls' := [.ref 3, .int x1, .int x2, .int (x3 + (1 : Int32))]) (st' := []) (σ' := s) rfl ?_
      refine wk_Hgoto (t := 4) rfl ?_
      cases h
      exact hk
    · refine wk_H0f 18 11 rfl rfl (wk_nf wk_zeq hc) ?_
      refine wk_Hs 4 15 ⟨rfl, rfl⟩ (ls' := [.ref 3, .int x1, .int x2, .int x3]) (st' := [.int x3, .ref 4, .int x2]) (σ' := s) rfl ?_
      obtain ⟨hg, h⟩ := wk_gdE h
      refine wk_Hia 16 rfl rfl rfl hg rfl ?_
      refine wk_Hs 1 17 ⟨rfl, rfl⟩ (ls' := [.ref 3, .int x1, .int x2, .int x3]) (st' := [.int (x2 ||| (s.1 4 (x3.toNatClampNeg)))]) (σ' := s) rfl ?_
      replace h := wk_letE h
      refine wk_Hs 2 19 ⟨rfl, rfl⟩ (ls' := [.ref 3, .int x1, .int (x2 ||| (s.1 4 (x3.toNatClampNeg))), .int (x3 + (1 : Int32))]) (st' := []) (σ' := s) rfl ?_
      refine wk_Hgoto (t := 4) rfl ?_
      cases h
      exact hk
set_option maxHeartbeats 4000000 in
set_option maxRecDepth 20000 in
theorem tl_S_X2_spread_4 {x1 : Int32} {s : wk_St} {z : wk_R} (n : Nat) : ∀ {x2 : Int32} {x3 : Int32} {a : Int32} (h : wk_loop (S_X2_spread_4 x1 s) n (x2, x3) = some a) (hk : ∀ (u3 : Value), wk_H wk_shC 1 mc_X2_spread 20 [.ref 3, .int x1, .int a, u3] [] s z), wk_H wk_shC 1 mc_X2_spread 4 [.ref 3, .int x1, .int x2, .int x3] [] s z := by
  induction n with
  | zero =>
    intros
    rename_i h _
    exact nomatch (show (none : Option _) = some _ from h)
  | succ n ih =>
    intros
    rename_i h hk
    obtain ⟨o, ho, h⟩ := wk_bindE (show Option.bind _ _ = some _ from h)
    refine ts_S_X2_spread_4 ho ?_
    cases o with
    | inl a1 =>
      cases h
      exact hk
    | inr p =>
      obtain ⟨p0, p1⟩ := p
      exact ih h hk
set_option maxHeartbeats 4000000 in
set_option maxRecDepth 20000 in
theorem t_X2_spread {x1 : Int32} {s : wk_St} {r : Int32} (h : f_X2_spread x1 s = some r) : wk_T wk_shC 1 174 [.ref 3, .int x1] s (some (.int r), s) := by
  suffices H : ∀ z, z = (some (.int r), s) → wk_H wk_shC 1 mc_X2_spread 0 [.ref 3, .int x1, wk_U, wk_U] [] s z from H _ rfl
  intro z hk
  dsimp only [f_X2_spread] at h
  refine wk_Hs 4 4 ⟨rfl, rfl⟩ (ls' := [.ref 3, .int x1, .int x1, .int (0 : Int32)]) (st' := []) (σ' := s) rfl ?_
  obtain ⟨v3, hv3, h⟩ := wk_bindE h
  refine tl_S_X2_spread_4 wk_F hv3 ?_
  intro g4
  refine wk_Hs 1 21 ⟨rfl, rfl⟩ (ls' := [.ref 3, .int x1, .int v3, g4]) (st' := [.int v3]) (σ' := s) rfl ?_
  cases h
  exact wk_eqz hk (wk_Hret rfl)
set_option maxHeartbeats 4000000 in
set_option maxRecDepth 20000 in
theorem ts_S_X2_noteSteps_2 {x1 : Int32} {x2 : Int32} {x3 : Int32} {x4 : Int32} {w5 : Value} {s : wk_St} {z : wk_R} {o : (wk_St) ⊕ (Int32 × wk_St)} (h : S_X2_noteSteps_2 x1 x2 x3 (x4, s) = some o) (hk : match (generalizing := false) o with | Sum.inl a => (∀ (u4 u5 : Value), wk_H wk_shC 1 mc_X2_noteSteps 29 [.ref 3, .int x1, .int x2, .int x3, u4, u5] [] a z) | Sum.inr y => ∀ (u5 : Value), wk_H wk_shC 1 mc_X2_noteSteps 2 [.ref 3, .int x1, .int x2, .int x3, .int y.1, u5] [] y.2 z) : wk_H wk_shC 1 mc_X2_noteSteps 2 [.ref 3, .int x1, .int x2, .int x3, .int x4, w5] [] s z := by
  dsimp only [S_X2_noteSteps_2] at h
  refine wk_Hs 2 4 ⟨rfl, rfl⟩ (ls' := [.ref 3, .int x1, .int x2, .int x3, .int x4, w5]) (st' := [.int (12 : Int32), .int x4]) (σ' := s) rfl ?_
  rcases wk_ife h with ⟨hc, h⟩ | ⟨hc, h⟩
  · refine wk_Hbt 29 rfl (wk_cge.2 hc) ?_
    cases h
    exact hk _ _
  · refine wk_Hbf 29 5 rfl rfl (wk_nf wk_cge hc) ?_
    refine wk_Hs 5 10 ⟨rfl, rfl⟩ (ls' := [.ref 3, .int x1, .int x2, .int x3, .int x4, w5]) (st' := [.int ((x1 * (12 : Int32)) + x4)]) (σ' := s) rfl ?_
    replace h := wk_letE h
    refine wk_Hs 3 13 ⟨rfl, rfl⟩ (ls' := [.ref 3, .int x1, .int x2, .int x3, .int x4, .int ((x1 * (12 : Int32)) + x4)]) (st' := [.int x4, .int x2]) (σ' := s) rfl ?_
    refine wk_Hcall (i2 := 14) (args := [.int x2, .int x4]) (rest := []) (r := some (.int (b2i (f_X11_hasBit x2 x4)))) (σ1 := s) rfl rfl ⟨rfl, rfl, rfl, rfl, rfl⟩ rfl ((t_X11_hasBit rfl).up (by decide)) ?_
    rcases wk_ife h with ⟨hc, h⟩ | ⟨hc, h⟩
    · refine wk_H0t 27 rfl (wk_zeq.2 hc) ?_
      refine wk_Hs 1 28 ⟨rfl, rfl⟩ (ls' := [.ref 3, .int x1, .int x2, .int x3, .int (x4 + (1 : Int32)), .int ((x1 * (12 : Int32)) + x4)]) (st' := []) (σ' := s) rfl ?_
      refine wk_Hgoto (t := 2) rfl ?_
      cases h
      exact hk _
    · refine wk_H0f 27 15 rfl rfl (wk_nf wk_zeq hc) ?_
      refine wk_Hs 1 16 ⟨rfl, rfl⟩ (ls' := [.ref 3, .int x1, .int x2, .int x3, .int x4, .int ((x1 * (12 : Int32)) + x4)]) (st' := [.int ((x1 * (12 : Int32)) + x4)]) (σ' := s) rfl ?_
      rcases wk_ife h with ⟨hc, h⟩ | ⟨hc, h⟩
      · refine wk_H0t 27 rfl (wk_clt.2 hc) ?_
        refine wk_Hs 1 28 ⟨rfl, rfl⟩ (ls' := [.ref 3, .int x1, .int x2, .int x3, .int (x4 + (1 : Int32)), .int ((x1 * (12 : Int32)) + x4)]) (st' := []) (σ' := s) rfl ?_
        refine wk_Hgoto (t := 2) rfl ?_
        cases h
        exact hk _
      · refine wk_H0f 27 17 rfl rfl (wk_nf wk_clt hc) ?_
        refine wk_Hs 4 21 ⟨rfl, rfl⟩ (ls' := [.ref 3, .int x1, .int x2, .int x3, .int x4, .int ((x1 * (12 : Int32)) + x4)]) (st' := [.int (144 : Int32), .int ((x1 * (12 : Int32)) + x4)]) (σ' := s) rfl ?_
        rcases wk_ife h with ⟨hc, h⟩ | ⟨hc, h⟩
        · refine wk_Hbt 27 rfl (wk_cge.2 hc) ?_
          refine wk_Hs 1 28 ⟨rfl, rfl⟩ (ls' := [.ref 3, .int x1, .int x2, .int x3, .int (x4 + (1 : Int32)), .int ((x1 * (12 : Int32)) + x4)]) (st' := []) (σ' := s) rfl ?_
          refine wk_Hgoto (t := 2) rfl ?_
          cases h
          exact hk _
        · refine wk_Hbf 27 22 rfl rfl (wk_nf wk_cge hc) ?_
          refine wk_Hs 4 26 ⟨rfl, rfl⟩ (ls' := [.ref 3, .int x1, .int x2, .int x3, .int x4, .int ((x1 * (12 : Int32)) + x4)]) (st' := [.int x3, .int ((x1 * (12 : Int32)) + x4), .ref 5]) (σ' := s) rfl ?_
          obtain ⟨hg, h⟩ := wk_gdE h
          refine wk_Hias 27 rfl rfl rfl hg rfl ?_
          refine wk_Hs 1 28 ⟨rfl, rfl⟩ (ls' := [.ref 3, .int x1, .int x2, .int x3, .int (x4 + (1 : Int32)), .int ((x1 * (12 : Int32)) + x4)]) (st' := []) (σ' := (wk_si s 5 (((x1 * (12 : Int32)) + x4).toNatClampNeg) x3)) rfl ?_
          refine wk_Hgoto (t := 2) rfl ?_
          cases h
          exact hk _
set_option maxHeartbeats 4000000 in
set_option maxRecDepth 20000 in
theorem tl_S_X2_noteSteps_2 {x1 : Int32} {x2 : Int32} {x3 : Int32} {z : wk_R} (n : Nat) : ∀ {x4 : Int32} {w5 : Value} {s : wk_St} {a : wk_St} (h : wk_loop (S_X2_noteSteps_2 x1 x2 x3) n (x4, s) = some a) (hk : ∀ (u4 u5 : Value), wk_H wk_shC 1 mc_X2_noteSteps 29 [.ref 3, .int x1, .int x2, .int x3, u4, u5] [] a z), wk_H wk_shC 1 mc_X2_noteSteps 2 [.ref 3, .int x1, .int x2, .int x3, .int x4, w5] [] s z := by
  induction n with
  | zero =>
    intros
    rename_i h _
    exact nomatch (show (none : Option _) = some _ from h)
  | succ n ih =>
    intros
    rename_i h hk
    obtain ⟨o, ho, h⟩ := wk_bindE (show Option.bind _ _ = some _ from h)
    refine ts_S_X2_noteSteps_2 ho ?_
    cases o with
    | inl a1 =>
      cases h
      exact hk
    | inr p =>
      obtain ⟨p0, p1⟩ := p
      exact fun _ => ih h hk
set_option maxHeartbeats 4000000 in
set_option maxRecDepth 20000 in
theorem t_X2_noteSteps {x1 : Int32} {x2 : Int32} {x3 : Int32} {s : wk_St} {r : wk_St} (h : f_X2_noteSteps x1 x2 x3 s = some r) : wk_T wk_shC 1 176 [.ref 3, .int x1, .int x2, .int x3] s (none, r) := by
  suffices H : ∀ z, z = (none, r) → wk_H wk_shC 1 mc_X2_noteSteps 0 [.ref 3, .int x1, .int x2, .int x3, wk_U, wk_U] [] s z from H _ rfl
  intro z hk
  dsimp only [f_X2_noteSteps] at h
  refine wk_Hs 2 2 ⟨rfl, rfl⟩ (ls' := [.ref 3, .int x1, .int x2, .int x3, .int (0 : Int32), wk_U]) (st' := []) (σ' := s) rfl ?_
  obtain ⟨v3, hv3, h⟩ := wk_bindE h
  refine tl_S_X2_noteSteps_2 wk_F hv3 ?_
  intro g4 g5
  cases h
  exact wk_eqz hk (wk_Hretv rfl)
set_option maxHeartbeats 4000000 in
set_option maxRecDepth 20000 in
theorem ts_S_X2_reckonSteps_14 {x1 : Int32} {x2 : Int32} {x3 : Int32} {w4 : Value} {w5 : Value} {s : wk_St} {z : wk_R} {o : (wk_St) ⊕ (Int32 × wk_St)} (h : S_X2_reckonSteps_14 x1 x2 (x3, s) = some o) (hk : match (generalizing := false) o with | Sum.inl a => (∀ (u3 : Value), wk_H wk_shC 2 mc_X2_reckonSteps 34 [.ref 3, .int x1, .int x2, u3, w4, w5] [] a z) | Sum.inr y => wk_H wk_shC 2 mc_X2_reckonSteps 14 [.ref 3, .int x1, .int x2, .int y.1, w4, w5] [] y.2 z) : wk_H wk_shC 2 mc_X2_reckonSteps 14 [.ref 3, .int x1, .int x2, .int x3, w4, w5] [] s z := by
  dsimp only [S_X2_reckonSteps_14] at h
  refine wk_Hs 2 16 ⟨rfl, rfl⟩ (ls' := [.ref 3, .int x1, .int x2, .int x3, w4, w5]) (st' := [.int (12 : Int32), .int x3]) (σ' := s) rfl ?_
  rcases wk_ife h with ⟨hc, h⟩ | ⟨hc, h⟩
  · refine wk_Hbt 34 rfl (wk_cge.2 hc) ?_
    cases h
    exact hk _
  · refine wk_Hbf 34 17 rfl rfl (wk_nf wk_cge hc) ?_
    refine wk_Hs 9 26 ⟨rfl, rfl⟩ (ls' := [.ref 3, .int x1, .int x2, .int x3, w4, w5]) (st' := [.int x3, .int x2, .int ((x1 * (12 : Int32)) + x3), .ref 5]) (σ' := s) rfl ?_
    refine wk_Hcall (i2 := 27) (args := [.int x2, .int x3]) (rest := [.int ((x1 * (12 : Int32)) + x3), .ref 5]) (r := some (.int (b2i (f_X11_hasBit x2 x3)))) (σ1 := s) rfl rfl ⟨rfl, rfl, rfl, rfl, rfl⟩ rfl ((t_X11_hasBit rfl).up (by decide)) ?_
    rcases wk_ife h with ⟨hc, h⟩ | ⟨hc, h⟩
    · refine wk_H0t 30 rfl (wk_zeq.2 hc) ?_
      refine wk_Hs 1 31 ⟨rfl, rfl⟩ (ls' := [.ref 3, .int x1, .int x2, .int x3, w4, w5]) (st' := [.int (99 : Int32), .int ((x1 * (12 : Int32)) + x3), .ref 5]) (σ' := s) rfl ?_
      obtain ⟨hg, h⟩ := wk_gdE h
      refine wk_Hias 32 rfl rfl rfl hg rfl ?_
      refine wk_Hs 1 33 ⟨rfl, rfl⟩ (ls' := [.ref 3, .int x1, .int x2, .int (x3 + (1 : Int32)), w4, w5]) (st' := []) (σ' := (wk_si s 5 (((x1 * (12 : Int32)) + x3).toNatClampNeg) (99 : Int32))) rfl ?_
      refine wk_Hgoto (t := 14) rfl ?_
      cases h
      exact hk
    · refine wk_H0f 30 28 rfl rfl (wk_nf wk_zeq hc) ?_
      refine wk_Hs 1 29 ⟨rfl, rfl⟩ (ls' := [.ref 3, .int x1, .int x2, .int x3, w4, w5]) (st' := [.int (0 : Int32), .int ((x1 * (12 : Int32)) + x3), .ref 5]) (σ' := s) rfl ?_
      refine wk_Hgoto (t := 31) rfl ?_
      obtain ⟨hg, h⟩ := wk_gdE h
      refine wk_Hias 32 rfl rfl rfl hg rfl ?_
      refine wk_Hs 1 33 ⟨rfl, rfl⟩ (ls' := [.ref 3, .int x1, .int x2, .int (x3 + (1 : Int32)), w4, w5]) (st' := []) (σ' := (wk_si s 5 (((x1 * (12 : Int32)) + x3).toNatClampNeg) (0 : Int32))) rfl ?_
      refine wk_Hgoto (t := 14) rfl ?_
      cases h
      exact hk
set_option maxHeartbeats 4000000 in
set_option maxRecDepth 20000 in
theorem tl_S_X2_reckonSteps_14 {x1 : Int32} {x2 : Int32} {w4 : Value} {w5 : Value} {z : wk_R} (n : Nat) : ∀ {x3 : Int32} {s : wk_St} {a : wk_St} (h : wk_loop (S_X2_reckonSteps_14 x1 x2) n (x3, s) = some a) (hk : ∀ (u3 : Value), wk_H wk_shC 2 mc_X2_reckonSteps 34 [.ref 3, .int x1, .int x2, u3, w4, w5] [] a z), wk_H wk_shC 2 mc_X2_reckonSteps 14 [.ref 3, .int x1, .int x2, .int x3, w4, w5] [] s z := by
  induction n with
  | zero =>
    intros
    rename_i h _
    exact nomatch (show (none : Option _) = some _ from h)
  | succ n ih =>
    intros
    rename_i h hk
    obtain ⟨o, ho, h⟩ := wk_bindE (show Option.bind _ _ = some _ from h)
    refine ts_S_X2_reckonSteps_14 ho ?_
    cases o with
    | inl a1 =>
      cases h
      exact hk
    | inr p =>
      obtain ⟨p0, p1⟩ := p
      exact ih h hk
set_option maxHeartbeats 4000000 in
set_option maxRecDepth 20000 in
theorem tj_j_X2_reckonSteps_53_l38 {x1 : Int32} {x2 : Int32} {x4 : Int32} {x5 : Int32} {s_0 : Int32} {w3 : Value} {s : wk_St} {z : wk_R} {o : (wk_St) ⊕ (Int32 × Int32 × Int32 × wk_St)} (h : j_X2_reckonSteps_53_l38 x1 x2 x4 x5 s_0 s = some o) (hk : match (generalizing := false) o with | Sum.inl a => (∀ (u2 u3 u4 u5 : Value), wk_H wk_shC 2 mc_X2_reckonSteps 67 [.ref 3, .int x1, u2, u3, u4, u5] [] a z) | Sum.inr y => ∀ (u5 : Value), wk_H wk_shC 2 mc_X2_reckonSteps 38 [.ref 3, .int x1, .int y.1, .int y.2.1, .int y.2.2.1, u5] [] y.2.2.2 z) : wk_H wk_shC 2 mc_X2_reckonSteps 53 [.ref 3, .int x1, .int x2, w3, .int x4, .int x5] [.int s_0] s z := by
  dsimp only [j_X2_reckonSteps_53_l38] at h
  refine wk_Hs 9 62 ⟨rfl, rfl⟩ (ls' := [.ref 3, .int x1, .int x2, .int s_0, .int x4, .int x5]) (st' := [.int x4, .int (x5 &&& (x2 ^^^ (-1 : Int32))), .int x1, .ref 3]) (σ' := s) rfl ?_
  obtain ⟨v6, hv6, h⟩ := wk_bindE h
  refine wk_Hcall (i2 := 63) (args := [.ref 3, .int x1, .int (x5 &&& (x2 ^^^ (-1 : Int32))), .int x4]) (rest := []) (r := none) (σ1 := v6) rfl rfl ⟨rfl, rfl, rfl, rfl, rfl⟩ rfl ((t_X2_noteSteps hv6).up (by decide)) ?_
  refine wk_Hs 3 66 ⟨rfl, rfl⟩ (ls' := [.ref 3, .int x1, .int x5, .int s_0, .int (x4 + (1 : Int32)), .int x5]) (st' := []) (σ' := v6) rfl ?_
  refine wk_Hgoto (t := 38) rfl ?_
  cases h
  exact hk _
set_option maxHeartbeats 4000000 in
set_option maxRecDepth 20000 in
theorem ts_S_X2_reckonSteps_38 {x1 : Int32} {x2 : Int32} {x3 : Int32} {x4 : Int32} {w5 : Value} {s : wk_St} {z : wk_R} {o : (wk_St) ⊕ (Int32 × Int32 × Int32 × wk_St)} (h : S_X2_reckonSteps_38 x1 (x2, x3, x4, s) = some o) (hk : match (generalizing := false) o with | Sum.inl a => (∀ (u2 u3 u4 u5 : Value), wk_H wk_shC 2 mc_X2_reckonSteps 67 [.ref 3, .int x1, u2, u3, u4, u5] [] a z) | Sum.inr y => ∀ (u5 : Value), wk_H wk_shC 2 mc_X2_reckonSteps 38 [.ref 3, .int x1, .int y.1, .int y.2.1, .int y.2.2.1, u5] [] y.2.2.2 z) : wk_H wk_shC 2 mc_X2_reckonSteps 38 [.ref 3, .int x1, .int x2, .int x3, .int x4, w5] [] s z := by
  dsimp only [S_X2_reckonSteps_38] at h
  refine wk_Hs 2 40 ⟨rfl, rfl⟩ (ls' := [.ref 3, .int x1, .int x2, .int x3, .int x4, w5]) (st' := [.int (12 : Int32), .int x4]) (σ' := s) rfl ?_
  rcases wk_ife h with ⟨hc, h⟩ | ⟨hc, h⟩
  · refine wk_Hbt 67 rfl (wk_cge.2 hc) ?_
    cases h
    exact hk _ _ _ _
  · refine wk_Hbf 67 41 rfl rfl (wk_nf wk_cge hc) ?_
    refine wk_Hs 1 42 ⟨rfl, rfl⟩ (ls' := [.ref 3, .int x1, .int x2, .int x3, .int x4, w5]) (st' := [.int x3]) (σ' := s) rfl ?_
    rcases wk_ife h with ⟨hc, h⟩ | ⟨hc, h⟩
    · refine wk_H0t 67 rfl (wk_cne.2 hc) ?_
      cases h
      exact hk _ _ _ _
    · refine wk_H0f 67 43 rfl rfl (wk_nf wk_cne hc) ?_
      refine wk_Hs 2 45 ⟨rfl, rfl⟩ (ls' := [.ref 3, .int x1, .int x2, .int x3, .int x4, w5]) (st' := [.int x2, .ref 3]) (σ' := s) rfl ?_
      obtain ⟨v5, hv5, h⟩ := wk_bindE h
      refine wk_Hcall (i2 := 46) (args := [.ref 3, .int x2]) (rest := []) (r := some (.int v5)) (σ1 := s) rfl rfl ⟨rfl, rfl, rfl, rfl, rfl⟩ rfl ((t_X2_spread hv5).up (by decide)) ?_
      refine wk_Hs 3 49 ⟨rfl, rfl⟩ (ls' := [.ref 3, .int x1, .int x2, .int x3, .int x4, .int v5]) (st' := [.int x2, .int v5]) (σ' := s) rfl ?_
      rcases wk_ife h with ⟨hc, h⟩ | ⟨hc, h⟩
      · refine wk_Hbt 52 rfl (wk_cne.2 hc) ?_
        refine wk_Hs 1 53 ⟨rfl, rfl⟩ (ls' := [.ref 3, .int x1, .int x2, .int x3, .int x4, .int v5]) (st' := [.int (0 : Int32)]) (σ' := s) rfl ?_
        exact tj_j_X2_reckonSteps_53_l38 h hk
      · refine wk_Hbf 52 50 rfl rfl (wk_nf wk_cne hc) ?_
        refine wk_Hs 1 51 ⟨rfl, rfl⟩ (ls' := [.ref 3, .int x1, .int x2, .int x3, .int x4, .int v5]) (st' := [.int (1 : Int32)]) (σ' := s) rfl ?_
        refine wk_Hgoto (t := 53) rfl ?_
        exact tj_j_X2_reckonSteps_53_l38 h hk
set_option maxHeartbeats 4000000 in
set_option maxRecDepth 20000 in
theorem tl_S_X2_reckonSteps_38 {x1 : Int32} {z : wk_R} (n : Nat) : ∀ {x2 : Int32} {x3 : Int32} {x4 : Int32} {w5 : Value} {s : wk_St} {a : wk_St} (h : wk_loop (S_X2_reckonSteps_38 x1) n (x2, x3, x4, s) = some a) (hk : ∀ (u2 u3 u4 u5 : Value), wk_H wk_shC 2 mc_X2_reckonSteps 67 [.ref 3, .int x1, u2, u3, u4, u5] [] a z), wk_H wk_shC 2 mc_X2_reckonSteps 38 [.ref 3, .int x1, .int x2, .int x3, .int x4, w5] [] s z := by
  induction n with
  | zero =>
    intros
    rename_i h _
    exact nomatch (show (none : Option _) = some _ from h)
  | succ n ih =>
    intros
    rename_i h hk
    obtain ⟨o, ho, h⟩ := wk_bindE (show Option.bind _ _ = some _ from h)
    refine ts_S_X2_reckonSteps_38 ho ?_
    cases o with
    | inl a1 =>
      cases h
      exact hk
    | inr p =>
      obtain ⟨p0, p1, p2, p3⟩ := p
      exact fun _ => ih h hk
set_option maxHeartbeats 4000000 in
set_option maxRecDepth 20000 in
theorem ts_S_X2_reckonSteps_2 {x1 : Int32} {w2 : Value} {w3 : Value} {w4 : Value} {w5 : Value} {s : wk_St} {z : wk_R} {o : (wk_St) ⊕ (Int32 × wk_St)} (h : S_X2_reckonSteps_2 (x1, s) = some o) (hk : match (generalizing := false) o with | Sum.inl a => (∀ (u1 u2 u3 u4 u5 : Value), wk_H wk_shC 2 mc_X2_reckonSteps 69 [.ref 3, u1, u2, u3, u4, u5] [] a z) | Sum.inr y => ∀ (u2 u3 u4 u5 : Value), wk_H wk_shC 2 mc_X2_reckonSteps 2 [.ref 3, .int y.1, u2, u3, u4, u5] [] y.2 z) : wk_H wk_shC 2 mc_X2_reckonSteps 2 [.ref 3, .int x1, w2, w3, w4, w5] [] s z := by
  dsimp only [S_X2_reckonSteps_2] at h
  refine wk_Hs 2 4 ⟨rfl, rfl⟩ (ls' := [.ref 3, .int x1, w2, w3, w4, w5]) (st' := [.int (12 : Int32), .int x1]) (σ' := s) rfl ?_
  rcases wk_ife h with ⟨hc, h⟩ | ⟨hc, h⟩
  · refine wk_Hbt 69 rfl (wk_cge.2 hc) ?_
    cases h
    exact hk _ _ _ _ _
  · refine wk_Hbf 69 5 rfl rfl (wk_nf wk_cge hc) ?_
    refine wk_Hs 6 11 ⟨rfl, rfl⟩ (ls' := [.ref 3, .int x1, w2, w3, w4, w5]) (st' := [.int ((s.1 3 4) &&& ((1 : Int32) <<< (x1 &&& 31)))]) (σ' := s) rfl ?_
    replace h := wk_letE h
    refine wk_Hs 3 14 ⟨rfl, rfl⟩ (ls' := [.ref 3, .int x1, .int ((s.1 3 4) &&& ((1 : Int32) <<< (x1 &&& 31))), .int (0 : Int32), w4, w5]) (st' := []) (σ' := s) rfl ?_
    obtain ⟨v3, hv3, h⟩ := wk_bindE h
    refine tl_S_X2_reckonSteps_14 wk_F hv3 ?_
    intro g4
    refine wk_Hs 4 38 ⟨rfl, rfl⟩ (ls' := [.ref 3, .int x1, .int ((s.1 3 4) &&& ((1 : Int32) <<< (x1 &&& 31))), .int (0 : Int32), .int (1 : Int32), w5]) (st' := []) (σ' := v3) rfl ?_
    obtain ⟨v7, hv7, h⟩ := wk_bindE h
    refine tl_S_X2_reckonSteps_38 wk_F hv7 ?_
    intro g8 g9 g10 g11
    refine wk_Hs 1 68 ⟨rfl, rfl⟩ (ls' := [.ref 3, .int (x1 + (1 : Int32)), g8, g9, g10, g11]) (st' := []) (σ' := v7) rfl ?_
    refine wk_Hgoto (t := 2) rfl ?_
    cases h
    exact hk _ _ _ _
set_option maxHeartbeats 4000000 in
set_option maxRecDepth 20000 in
theorem tl_S_X2_reckonSteps_2 {z : wk_R} (n : Nat) : ∀ {x1 : Int32} {w2 : Value} {w3 : Value} {w4 : Value} {w5 : Value} {s : wk_St} {a : wk_St} (h : wk_loop S_X2_reckonSteps_2 n (x1, s) = some a) (hk : ∀ (u1 u2 u3 u4 u5 : Value), wk_H wk_shC 2 mc_X2_reckonSteps 69 [.ref 3, u1, u2, u3, u4, u5] [] a z), wk_H wk_shC 2 mc_X2_reckonSteps 2 [.ref 3, .int x1, w2, w3, w4, w5] [] s z := by
  induction n with
  | zero =>
    intros
    rename_i h _
    exact nomatch (show (none : Option _) = some _ from h)
  | succ n ih =>
    intros
    rename_i h hk
    obtain ⟨o, ho, h⟩ := wk_bindE (show Option.bind _ _ = some _ from h)
    refine ts_S_X2_reckonSteps_2 ho ?_
    cases o with
    | inl a1 =>
      cases h
      exact hk
    | inr p =>
      obtain ⟨p0, p1⟩ := p
      exact fun _ _ _ _ => ih h hk
set_option maxHeartbeats 4000000 in
set_option maxRecDepth 20000 in
theorem t_X2_reckonSteps {s : wk_St} {r : wk_St} (h : f_X2_reckonSteps s = some r) : wk_T wk_shC 2 175 [.ref 3] s (none, r) := by
  suffices H : ∀ z, z = (none, r) → wk_H wk_shC 2 mc_X2_reckonSteps 0 [.ref 3, wk_U, wk_U, wk_U, wk_U, wk_U] [] s z from H _ rfl
  intro z hk
  dsimp only [f_X2_reckonSteps] at h
  refine wk_Hs 2 2 ⟨rfl, rfl⟩ (ls' := [.ref 3, .int (0 : Int32), wk_U, wk_U, wk_U, wk_U]) (st' := []) (σ' := s) rfl ?_
  obtain ⟨v12, hv12, h⟩ := wk_bindE h
  refine tl_S_X2_reckonSteps_2 wk_F hv12 ?_
  intro g13 g14 g15 g16 g17
  cases h
  exact wk_eqz hk (wk_Hretv rfl)
set_option maxHeartbeats 4000000 in
set_option maxRecDepth 20000 in
theorem t_X2_tell {x1 : Int32} {s : wk_St} {r : Bool × wk_St} (h : f_X2_tell x1 s = some r) : wk_T wk_shC 3 170 [.ref 3, .int x1] s (some (.int (b2i r.1)), r.2) := by
  suffices H : ∀ z, z = (some (.int (b2i r.1)), r.2) → wk_H wk_shC 3 mc_X2_tell 0 [.ref 3, .int x1] [] s z from H _ rfl
  intro z hk
  dsimp only [f_X2_tell] at h
  refine wk_Hs 3 3 ⟨rfl, rfl⟩ (ls' := [.ref 3, .int x1]) (st' := [.int (11 : Int32), .int (0 : Int32), .int x1]) (σ' := s) rfl ?_
  refine wk_Hcall (i2 := 4) (args := [.int x1, .int (0 : Int32), .int (11 : Int32)]) (rest := []) (r := some (.int (b2i (f_X11_isWithin x1 (0 : Int32) (11 : Int32))))) (σ1 := s) rfl rfl ⟨rfl, rfl, rfl, rfl, rfl⟩ rfl ((t_X11_isWithin rfl).up (by decide)) ?_
  rcases wk_ife h with ⟨hc, h⟩ | ⟨hc, h⟩
  · refine wk_H0t 7 rfl (wk_zne.2 hc) ?_
    refine wk_Hs 9 16 ⟨rfl, rfl⟩ (ls' := [.ref 3, .int x1]) (st' := [.ref 3]) (σ' := (wk_si s 3 4 ((s.1 3 4) ||| ((1 : Int32) <<< (x1 &&& 31))))) rfl ?_
    obtain ⟨v2, hv2, h⟩ := wk_bindE h
    refine wk_Hcall (i2 := 17) (args := [.ref 3]) (rest := []) (r := none) (σ1 := v2) rfl rfl ⟨rfl, rfl, rfl, rfl, rfl⟩ rfl ((t_X2_reckonSteps hv2).up (by decide)) ?_
    refine wk_Hs 1 18 ⟨rfl, rfl⟩ (ls' := [.ref 3, .int x1]) (st' := [.int (1 : Int32)]) (σ' := v2) rfl ?_
    cases h
    exact wk_eqz hk (wk_Hretz rfl (b2i_01 true))
  · refine wk_H0f 7 5 rfl rfl (wk_nf wk_zne hc) ?_
    refine wk_Hs 1 6 ⟨rfl, rfl⟩ (ls' := [.ref 3, .int x1]) (st' := [.int (0 : Int32)]) (σ' := s) rfl ?_
    cases h
    exact wk_eqz hk (wk_Hretz rfl (b2i_01 false))
set_option maxHeartbeats 4000000 in
set_option maxRecDepth 20000 in
theorem t_X11_place {x1 : Int32} {s : wk_St} {r : Bool × wk_St} (h : f_X11_place x1 s = some r) : wk_T wk_shC 4 0 [.ref 0, .int x1] s (some (.int (b2i r.1)), r.2) := by
  suffices H : ∀ z, z = (some (.int (b2i r.1)), r.2) → wk_H wk_shC 4 mc_X11_place 0 [.ref 0, .int x1] [] s z from H _ rfl
  intro z hk
  dsimp only [f_X11_place] at h
  refine wk_Hs 3 3 ⟨rfl, rfl⟩ (ls' := [.ref 0, .int x1]) (st' := [.int x1, .ref 3]) (σ' := s) rfl ?_
  obtain ⟨v1, hv1, h⟩ := wk_bindE h
  refine wk_Hcall (i2 := 4) (args := [.ref 3, .int x1]) (rest := []) (r := some (.int (b2i v1.1))) (σ1 := v1.2) rfl rfl ⟨rfl, rfl, rfl, rfl, rfl⟩ rfl ((t_X2_tell hv1).up (by decide)) ?_
  cases h
  exact wk_eqz hk (wk_Hretz rfl (b2i_01 _))
set_option maxHeartbeats 4000000 in
set_option maxRecDepth 20000 in
theorem t_X2_isTold {x1 : Int32} {s : wk_St} {r : Bool} (h : f_X2_isTold x1 s = r) : wk_T wk_shC 1 169 [.ref 3, .int x1] s (some (.int (b2i r)), s) := by
  suffices H : ∀ z, z = (some (.int (b2i r)), s) → wk_H wk_shC 1 mc_X2_isTold 0 [.ref 3, .int x1] [] s z from H _ rfl
  intro z hk
  dsimp only [f_X2_isTold] at h
  refine wk_Hs 2 2 ⟨rfl, rfl⟩ (ls' := [.ref 3, .int x1]) (st' := [.int (12 : Int32), .int x1]) (σ' := s) rfl ?_
  rcases wk_ife h with ⟨hc, h⟩ | ⟨hc, h⟩
  · refine wk_Hbt 10 rfl (wk_cge.2 hc) ?_
    refine wk_Hs 1 11 ⟨rfl, rfl⟩ (ls' := [.ref 3, .int x1]) (st' := [.int (0 : Int32)]) (σ' := s) rfl ?_
    cases h
    exact wk_eqz hk (wk_Hretz rfl (b2i_01 false))
  · refine wk_Hbf 10 3 rfl rfl (wk_nf wk_cge hc) ?_
    refine wk_Hs 3 6 ⟨rfl, rfl⟩ (ls' := [.ref 3, .int x1]) (st' := [.int x1, .int (s.1 3 4)]) (σ' := s) rfl ?_
    refine wk_Hcall (i2 := 7) (args := [.int (s.1 3 4), .int x1]) (rest := []) (r := some (.int (b2i (f_X11_hasBit (s.1 3 4) x1)))) (σ1 := s) rfl rfl ⟨rfl, rfl, rfl, rfl, rfl⟩ rfl ((t_X11_hasBit rfl).up (by decide)) ?_
    rcases wk_ife h with ⟨hc, h⟩ | ⟨hc, h⟩
    · refine wk_H0t 10 rfl (wk_zeq.2 hc) ?_
      refine wk_Hs 1 11 ⟨rfl, rfl⟩ (ls' := [.ref 3, .int x1]) (st' := [.int (0 : Int32)]) (σ' := s) rfl ?_
      cases h
      exact wk_eqz hk (wk_Hretz rfl (b2i_01 false))
    · refine wk_H0f 10 8 rfl rfl (wk_nf wk_zeq hc) ?_
      refine wk_Hs 1 9 ⟨rfl, rfl⟩ (ls' := [.ref 3, .int x1]) (st' := [.int (1 : Int32)]) (σ' := s) rfl ?_
      refine wk_Hgoto (t := 11) rfl ?_
      cases h
      exact wk_eqz hk (wk_Hretz rfl (b2i_01 true))
set_option maxHeartbeats 4000000 in
set_option maxRecDepth 20000 in
theorem t_X2_setNext {x1 : Int32} {x2 : Int32} {x3 : Int32} {s : wk_St} {r : wk_St} (h : f_X2_setNext x1 x2 x3 s = some r) : wk_T wk_shC 1 172 [.ref 3, .int x1, .int x2, .int x3] s (none, r) := by
  suffices H : ∀ z, z = (none, r) → wk_H wk_shC 1 mc_X2_setNext 0 [.ref 3, .int x1, .int x2, .int x3, wk_U] [] s z from H _ rfl
  intro z hk
  dsimp only [f_X2_setNext] at h
  refine wk_Hs 3 3 ⟨rfl, rfl⟩ (ls' := [.ref 3, .int x1, .int x2, .int x3, wk_U]) (st' := [.int (11 : Int32), .int (0 : Int32), .int x1]) (σ' := s) rfl ?_
  refine wk_Hcall (i2 := 4) (args := [.int x1, .int (0 : Int32), .int (11 : Int32)]) (rest := []) (r := some (.int (b2i (f_X11_isWithin x1 (0 : Int32) (11 : Int32))))) (σ1 := s) rfl rfl ⟨rfl, rfl, rfl, rfl, rfl⟩ rfl ((t_X11_isWithin rfl).up (by decide)) ?_
  rcases wk_ife h with ⟨hc, h⟩ | ⟨hc, h⟩
  · refine wk_H0t 35 rfl (wk_zeq.2 hc) ?_
    cases h
    exact wk_eqz hk (wk_Hretv rfl)
  · refine wk_H0f 35 5 rfl rfl (wk_nf wk_zeq hc) ?_
    refine wk_Hs 3 8 ⟨rfl, rfl⟩ (ls' := [.ref 3, .int x1, .int x2, .int x3, wk_U]) (st' := [.int (11 : Int32), .int (0 : Int32), .int x2]) (σ' := s) rfl ?_
    refine wk_Hcall (i2 := 9) (args := [.int x2, .int (0 : Int32), .int (11 : Int32)]) (rest := []) (r := some (.int (b2i (f_X11_isWithin x2 (0 : Int32) (11 : Int32))))) (σ1 := s) rfl rfl ⟨rfl, rfl, rfl, rfl, rfl⟩ rfl ((t_X11_isWithin rfl).up (by decide)) ?_
    rcases wk_ife h with ⟨hc, h⟩ | ⟨hc, h⟩
    · refine wk_H0t 35 rfl (wk_zeq.2 hc) ?_
      cases h
      exact wk_eqz hk (wk_Hretv rfl)
    · refine wk_H0f 35 10 rfl rfl (wk_nf wk_zeq hc) ?_
      refine wk_Hs 3 13 ⟨rfl, rfl⟩ (ls' := [.ref 3, .int x1, .int x2, .int x3, wk_U]) (st' := [.int ((1 : Int32) <<< (x2 &&& 31))]) (σ' := s) rfl ?_
      replace h := wk_letE h
      refine wk_Hs 5 18 ⟨rfl, rfl⟩ (ls' := [.ref 3, .int x1, .int x2, .int x3, .int ((1 : Int32) <<< (x2 &&& 31))]) (st' := [.int x3, .int x1, .ref 4]) (σ' := s) rfl ?_
      rcases wk_ife h with ⟨hc, h⟩ | ⟨hc, h⟩
      · refine wk_H0t 26 rfl (wk_ceq.2 hc) ?_
        refine wk_Hs 3 29 ⟨rfl, rfl⟩ (ls' := [.ref 3, .int x1, .int x2, .int x3, .int ((1 : Int32) <<< (x2 &&& 31))]) (st' := [.int x1, .ref 4, .int x1, .ref 4]) (σ' := s) rfl ?_
        obtain ⟨hg, h⟩ := wk_gdE h
        refine wk_Hia 30 rfl rfl rfl hg rfl ?_
        refine wk_Hs 4 34 ⟨rfl, rfl⟩ (ls' := [.ref 3, .int x1, .int x2, .int x3, .int ((1 : Int32) <<< (x2 &&& 31))]) (st' := [.int ((s.1 4 (x1.toNatClampNeg)) &&& (((1 : Int32) <<< (x2 &&& 31)) ^^^ (-1 : Int32))), .int x1, .ref 4]) (σ' := s) rfl ?_
        obtain ⟨hg, h⟩ := wk_gdE h
        refine wk_Hias 35 rfl rfl rfl hg rfl ?_
        cases h
        exact wk_eqz hk (wk_Hretv rfl)
      · refine wk_H0f 26 19 rfl rfl (wk_nf wk_ceq hc) ?_
        refine wk_Hs 3 22 ⟨rfl, rfl⟩ (ls' := [.ref 3, .int x1, .int x2, .int x3, .int ((1 : Int32) <<< (x2 &&& 31))]) (st' := [.int x1, .ref 4, .int x1, .ref 4]) (σ' := s) rfl ?_
        obtain ⟨hg, h⟩ := wk_gdE h
        refine wk_Hia 23 rfl rfl rfl hg rfl ?_
        refine wk_Hs 2 25 ⟨rfl, rfl⟩ (ls' := [.ref 3, .int x1, .int x2, .int x3, .int ((1 : Int32) <<< (x2 &&& 31))]) (st' := [.int ((s.1 4 (x1.toNatClampNeg)) ||| ((1 : Int32) <<< (x2 &&& 31))), .int x1, .ref 4]) (σ' := s) rfl ?_
        refine wk_Hgoto (t := 34) rfl ?_
        obtain ⟨hg, h⟩ := wk_gdE h
        refine wk_Hias 35 rfl rfl rfl hg rfl ?_
        cases h
        exact wk_eqz hk (wk_Hretv rfl)
set_option maxHeartbeats 4000000 in
set_option maxRecDepth 20000 in
theorem t_X2_join {x1 : Int32} {x2 : Int32} {x3 : Int32} {s : wk_St} {r : Bool × wk_St} (h : f_X2_join x1 x2 x3 s = some r) : wk_T wk_shC 3 171 [.ref 3, .int x1, .int x2, .int x3] s (some (.int (b2i r.1)), r.2) := by
  suffices H : ∀ z, z = (some (.int (b2i r.1)), r.2) → wk_H wk_shC 3 mc_X2_join 0 [.ref 3, .int x1, .int x2, .int x3] [] s z from H _ rfl
  intro z hk
  dsimp only [f_X2_join] at h
  refine wk_Hs 2 2 ⟨rfl, rfl⟩ (ls' := [.ref 3, .int x1, .int x2, .int x3]) (st' := [.int x1, .ref 3]) (σ' := s) rfl ?_
  refine wk_Hcall (i2 := 3) (args := [.ref 3, .int x1]) (rest := []) (r := some (.int (b2i (f_X2_isTold x1 s)))) (σ1 := s) rfl rfl ⟨rfl, rfl, rfl, rfl, rfl⟩ rfl ((t_X2_isTold rfl).up (by decide)) ?_
  rcases wk_ife h with ⟨hc, h⟩ | ⟨hc, h⟩
  · refine wk_H0t 11 rfl (wk_zeq.2 hc) ?_
    refine wk_Hs 1 12 ⟨rfl, rfl⟩ (ls' := [.ref 3, .int x1, .int x2, .int x3]) (st' := [.int (0 : Int32)]) (σ' := s) rfl ?_
    cases h
    exact wk_eqz hk (wk_Hretz rfl (b2i_01 false))
  · refine wk_H0f 11 4 rfl rfl (wk_nf wk_zeq hc) ?_
    refine wk_Hs 2 6 ⟨rfl, rfl⟩ (ls' := [.ref 3, .int x1, .int x2, .int x3]) (st' := [.int x2, .ref 3]) (σ' := s) rfl ?_
    refine wk_Hcall (i2 := 7) (args := [.ref 3, .int x2]) (rest := []) (r := some (.int (b2i (f_X2_isTold x2 s)))) (σ1 := s) rfl rfl ⟨rfl, rfl, rfl, rfl, rfl⟩ rfl ((t_X2_isTold rfl).up (by decide)) ?_
    rcases wk_ife h with ⟨hc, h⟩ | ⟨hc, h⟩
    · refine wk_H0t 11 rfl (wk_zeq.2 hc) ?_
      refine wk_Hs 1 12 ⟨rfl, rfl⟩ (ls' := [.ref 3, .int x1, .int x2, .int x3]) (st' := [.int (0 : Int32)]) (σ' := s) rfl ?_
      cases h
      exact wk_eqz hk (wk_Hretz rfl (b2i_01 false))
    · refine wk_H0f 11 8 rfl rfl (wk_nf wk_zeq hc) ?_
      refine wk_Hs 2 10 ⟨rfl, rfl⟩ (ls' := [.ref 3, .int x1, .int x2, .int x3]) (st' := [.int x2, .int x1]) (σ' := s) rfl ?_
      rcases wk_ife h with ⟨hc, h⟩ | ⟨hc, h⟩
      · refine wk_Hbt 13 rfl (wk_cne.2 hc) ?_
        refine wk_Hs 4 17 ⟨rfl, rfl⟩ (ls' := [.ref 3, .int x1, .int x2, .int x3]) (st' := [.int x3, .int x2, .int x1, .ref 3]) (σ' := s) rfl ?_
        obtain ⟨v3, hv3, h⟩ := wk_bindE h
        refine wk_Hcall (i2 := 18) (args := [.ref 3, .int x1, .int x2, .int x3]) (rest := []) (r := none) (σ1 := v3) rfl rfl ⟨rfl, rfl, rfl, rfl, rfl⟩ rfl ((t_X2_setNext hv3).up (by decide)) ?_
        refine wk_Hs 4 22 ⟨rfl, rfl⟩ (ls' := [.ref 3, .int x1, .int x2, .int x3]) (st' := [.int x3, .int x1, .int x2, .ref 3]) (σ' := v3) rfl ?_
        obtain ⟨v4, hv4, h⟩ := wk_bindE h
        refine wk_Hcall (i2 := 23) (args := [.ref 3, .int x2, .int x1, .int x3]) (rest := []) (r := none) (σ1 := v4) rfl rfl ⟨rfl, rfl, rfl, rfl, rfl⟩ rfl ((t_X2_setNext hv4).up (by decide)) ?_
        refine wk_Hs 1 24 ⟨rfl, rfl⟩ (ls' := [.ref 3, .int x1, .int x2, .int x3]) (st' := [.ref 3]) (σ' := v4) rfl ?_
        obtain ⟨v5, hv5, h⟩ := wk_bindE h
        refine wk_Hcall (i2 := 25) (args := [.ref 3]) (rest := []) (r := none) (σ1 := v5) rfl rfl ⟨rfl, rfl, rfl, rfl, rfl⟩ rfl ((t_X2_reckonSteps hv5).up (by decide)) ?_
        refine wk_Hs 1 26 ⟨rfl, rfl⟩ (ls' := [.ref 3, .int x1, .int x2, .int x3]) (st' := [.int (1 : Int32)]) (σ' := v5) rfl ?_
        cases h
        exact wk_eqz hk (wk_Hretz rfl (b2i_01 true))
      · refine wk_Hbf 13 11 rfl rfl (wk_nf wk_cne hc) ?_
        refine wk_Hs 1 12 ⟨rfl, rfl⟩ (ls' := [.ref 3, .int x1, .int x2, .int x3]) (st' := [.int (0 : Int32)]) (σ' := s) rfl ?_
        cases h
        exact wk_eqz hk (wk_Hretz rfl (b2i_01 false))
set_option maxHeartbeats 4000000 in
set_option maxRecDepth 20000 in
theorem t_X11_next {x1 : Int32} {x2 : Int32} {x3 : Int32} {s : wk_St} {r : Bool × wk_St} (h : f_X11_next x1 x2 x3 s = some r) : wk_T wk_shC 4 1 [.ref 0, .int x1, .int x2, .int x3] s (some (.int (b2i r.1)), r.2) := by
  suffices H : ∀ z, z = (some (.int (b2i r.1)), r.2) → wk_H wk_shC 4 mc_X11_next 0 [.ref 0, .int x1, .int x2, .int x3] [] s z from H _ rfl
  intro z hk
  dsimp only [f_X11_next] at h
  refine wk_Hs 5 5 ⟨rfl, rfl⟩ (ls' := [.ref 0, .int x1, .int x2, .int x3]) (st' := [.int x3, .int x2, .int x1, .ref 3]) (σ' := s) rfl ?_
  obtain ⟨v1, hv1, h⟩ := wk_bindE h
  refine wk_Hcall (i2 := 6) (args := [.ref 3, .int x1, .int x2, .int x3]) (rest := []) (r := some (.int (b2i v1.1))) (σ1 := v1.2) rfl rfl ⟨rfl, rfl, rfl, rfl, rfl⟩ rfl ((t_X2_join hv1).up (by decide)) ?_
  cases h
  exact wk_eqz hk (wk_Hretz rfl (b2i_01 _))
set_option maxHeartbeats 4000000 in
set_option maxRecDepth 20000 in
theorem t_X0_enter {x1 : Int32} {x2 : Int32} {x3 : Int32} {s : wk_St} {r : Bool × wk_St} (h : f_X0_enter x1 x2 x3 s = some r) : wk_T wk_shC 1 149 [.ref 8, .int x1, .int x2, .int x3] s (some (.int (b2i r.1)), r.2) := by
  suffices H : ∀ z, z = (some (.int (b2i r.1)), r.2) → wk_H wk_shC 1 mc_X0_enter 0 [.ref 8, .int x1, .int x2, .int x3] [] s z from H _ rfl
  intro z hk
  dsimp only [f_X0_enter] at h
  refine wk_Hs 3 3 ⟨rfl, rfl⟩ (ls' := [.ref 8, .int x1, .int x2, .int x3]) (st' := [.int (8 : Int32), .int (0 : Int32), .int x1]) (σ' := s) rfl ?_
  refine wk_Hcall (i2 := 4) (args := [.int x1, .int (0 : Int32), .int (8 : Int32)]) (rest := []) (r := some (.int (b2i (f_X11_isWithin x1 (0 : Int32) (8 : Int32))))) (σ1 := s) rfl rfl ⟨rfl, rfl, rfl, rfl, rfl⟩ rfl ((t_X11_isWithin rfl).up (by decide)) ?_
  rcases wk_ife h with ⟨hc, h⟩ | ⟨hc, h⟩
  · refine wk_H0t 7 rfl (wk_zne.2 hc) ?_
    refine wk_Hs 12 19 ⟨rfl, rfl⟩ (ls' := [.ref 8, .int x1, .int x2, .int x3]) (st' := [.int x2, .int x1, .ref 9]) (σ' := (wk_si s 8 4 ((s.1 8 4) ||| ((1 : Int32) <<< (x1 &&& 31))))) rfl ?_
    obtain ⟨hg, h⟩ := wk_gdE h
    refine wk_Hias 20 rfl rfl rfl hg rfl ?_
    refine wk_Hs 4 24 ⟨rfl, rfl⟩ (ls' := [.ref 8, .int x1, .int x2, .int x3]) (st' := [.int x3, .int x1, .ref 10]) (σ' := (wk_si (wk_si s 8 4 ((s.1 8 4) ||| ((1 : Int32) <<< (x1 &&& 31)))) 9 (x1.toNatClampNeg) x2)) rfl ?_
    obtain ⟨hg, h⟩ := wk_gdE h
    refine wk_Hias 25 rfl rfl rfl hg rfl ?_
    refine wk_Hs 4 29 ⟨rfl, rfl⟩ (ls' := [.ref 8, .int x1, .int x2, .int x3]) (st' := [.int (0 : Int32), .int x1, .ref 11]) (σ' := (wk_si (wk_si (wk_si s 8 4 ((s.1 8 4) ||| ((1 : Int32) <<< (x1 &&& 31)))) 9 (x1.toNatClampNeg) x2) 10 (x1.toNatClampNeg) x3)) rfl ?_
    obtain ⟨hg, h⟩ := wk_gdE h
    refine wk_Hias 30 rfl rfl rfl hg rfl ?_
    refine wk_Hs 4 34 ⟨rfl, rfl⟩ (ls' := [.ref 8, .int x1, .int x2, .int x3]) (st' := [.int (-2 : Int32), .int x1, .ref 12]) (σ' := (wk_si (wk_si (wk_si (wk_si s 8 4 ((s.1 8 4) ||| ((1 : Int32) <<< (x1 &&& 31)))) 9 (x1.toNatClampNeg) x2) 10 (x1.toNatClampNeg) x3) 11 (x1.toNatClampNeg) (0 : Int32))) rfl ?_
    obtain ⟨hg, h⟩ := wk_gdE h
    refine wk_Hias 35 rfl rfl rfl hg rfl ?_
    refine wk_Hs 1 36 ⟨rfl, rfl⟩ (ls' := [.ref 8, .int x1, .int x2, .int x3]) (st' := [.int (1 : Int32)]) (σ' := (wk_si (wk_si (wk_si (wk_si (wk_si s 8 4 ((s.1 8 4) ||| ((1 : Int32) <<< (x1 &&& 31)))) 9 (x1.toNatClampNeg) x2) 10 (x1.toNatClampNeg) x3) 11 (x1.toNatClampNeg) (0 : Int32)) 12 (x1.toNatClampNeg) (-2 : Int32))) rfl ?_
    cases h
    exact wk_eqz hk (wk_Hretz rfl (b2i_01 true))
  · refine wk_H0f 7 5 rfl rfl (wk_nf wk_zne hc) ?_
    refine wk_Hs 1 6 ⟨rfl, rfl⟩ (ls' := [.ref 8, .int x1, .int x2, .int x3]) (st' := [.int (0 : Int32)]) (σ' := s) rfl ?_
    cases h
    exact wk_eqz hk (wk_Hretz rfl (b2i_01 false))
set_option maxHeartbeats 4000000 in
set_option maxRecDepth 20000 in
theorem t_X11_knight {x1 : Int32} {x2 : Int32} {x3 : Int32} {s : wk_St} {r : Bool × wk_St} (h : f_X11_knight x1 x2 x3 s = some r) : wk_T wk_shC 2 2 [.ref 0, .int x1, .int x2, .int x3] s (some (.int (b2i r.1)), r.2) := by
  suffices H : ∀ z, z = (some (.int (b2i r.1)), r.2) → wk_H wk_shC 2 mc_X11_knight 0 [.ref 0, .int x1, .int x2, .int x3] [] s z from H _ rfl
  intro z hk
  dsimp only [f_X11_knight] at h
  refine wk_Hs 3 3 ⟨rfl, rfl⟩ (ls' := [.ref 0, .int x1, .int x2, .int x3]) (st' := [.int x2, .ref 3]) (σ' := s) rfl ?_
  refine wk_Hcall (i2 := 4) (args := [.ref 3, .int x2]) (rest := []) (r := some (.int (b2i (f_X2_isTold x2 s)))) (σ1 := s) rfl rfl ⟨rfl, rfl, rfl, rfl, rfl⟩ rfl ((t_X2_isTold rfl).up (by decide)) ?_
  rcases wk_ife h with ⟨hc, h⟩ | ⟨hc, h⟩
  · refine wk_H0t 10 rfl (wk_zeq.2 hc) ?_
    refine wk_Hs 1 11 ⟨rfl, rfl⟩ (ls' := [.ref 0, .int x1, .int x2, .int x3]) (st' := [.int (0 : Int32)]) (σ' := s) rfl ?_
    cases h
    exact wk_eqz hk (wk_Hretz rfl (b2i_01 false))
  · refine wk_H0f 10 5 rfl rfl (wk_nf wk_zeq hc) ?_
    refine wk_Hs 3 8 ⟨rfl, rfl⟩ (ls' := [.ref 0, .int x1, .int x2, .int x3]) (st' := [.int (127 : Int32), .int (0 : Int32), .int x3]) (σ' := s) rfl ?_
    refine wk_Hcall (i2 := 9) (args := [.int x3, .int (0 : Int32), .int (127 : Int32)]) (rest := []) (r := some (.int (b2i (f_X11_isWithin x3 (0 : Int32) (127 : Int32))))) (σ1 := s) rfl rfl ⟨rfl, rfl, rfl, rfl, rfl⟩ rfl ((t_X11_isWithin rfl).up (by decide)) ?_
    rcases wk_ife h with ⟨hc, h⟩ | ⟨hc, h⟩
    · refine wk_H0t 12 rfl (wk_zne.2 hc) ?_
      refine wk_Hs 5 17 ⟨rfl, rfl⟩ (ls' := [.ref 0, .int x1, .int x2, .int x3]) (st' := [.int x3, .int x2, .int x1, .ref 8]) (σ' := s) rfl ?_
      obtain ⟨v3, hv3, h⟩ := wk_bindE h
      refine wk_Hcall (i2 := 18) (args := [.ref 8, .int x1, .int x2, .int x3]) (rest := []) (r := some (.int (b2i v3.1))) (σ1 := v3.2) rfl rfl ⟨rfl, rfl, rfl, rfl, rfl⟩ rfl ((t_X0_enter hv3).up (by decide)) ?_
      cases h
      exact wk_eqz hk (wk_Hretz rfl (b2i_01 _))
    · refine wk_H0f 12 10 rfl rfl (wk_nf wk_zne hc) ?_
      refine wk_Hs 1 11 ⟨rfl, rfl⟩ (ls' := [.ref 0, .int x1, .int x2, .int x3]) (st' := [.int (0 : Int32)]) (σ' := s) rfl ?_
      cases h
      exact wk_eqz hk (wk_Hretz rfl (b2i_01 false))
set_option maxHeartbeats 4000000 in
set_option maxRecDepth 20000 in
theorem t_X2_beginWeekOn {x1 : Int32} {s : wk_St} {r : Bool × wk_St} (h : f_X2_beginWeekOn x1 s = r) : wk_T wk_shC 1 185 [.ref 3, .int x1] s (some (.int (b2i r.1)), r.2) := by
  suffices H : ∀ z, z = (some (.int (b2i r.1)), r.2) → wk_H wk_shC 1 mc_X2_beginWeekOn 0 [.ref 3, .int x1] [] s z from H _ rfl
  intro z hk
  dsimp only [f_X2_beginWeekOn] at h
  refine wk_Hs 3 3 ⟨rfl, rfl⟩ (ls' := [.ref 3, .int x1]) (st' := [.int (6 : Int32), .int (0 : Int32), .int x1]) (σ' := s) rfl ?_
  refine wk_Hcall (i2 := 4) (args := [.int x1, .int (0 : Int32), .int (6 : Int32)]) (rest := []) (r := some (.int (b2i (f_X11_isWithin x1 (0 : Int32) (6 : Int32))))) (σ1 := s) rfl rfl ⟨rfl, rfl, rfl, rfl, rfl⟩ rfl ((t_X11_isWithin rfl).up (by decide)) ?_
  rcases wk_ife h with ⟨hc, h⟩ | ⟨hc, h⟩
  · refine wk_H0t 7 rfl (wk_zne.2 hc) ?_
    refine wk_Hs 4 11 ⟨rfl, rfl⟩ (ls' := [.ref 3, .int x1]) (st' := [.int (1 : Int32)]) (σ' := (wk_si s 3 5 x1)) rfl ?_
    cases h
    exact wk_eqz hk (wk_Hretz rfl (b2i_01 true))
  · refine wk_H0f 7 5 rfl rfl (wk_nf wk_zne hc) ?_
    refine wk_Hs 1 6 ⟨rfl, rfl⟩ (ls' := [.ref 3, .int x1]) (st' := [.int (0 : Int32)]) (σ' := s) rfl ?_
    cases h
    exact wk_eqz hk (wk_Hretz rfl (b2i_01 false))
set_option maxHeartbeats 4000000 in
set_option maxRecDepth 20000 in
theorem t_X11_first {x1 : Int32} {s : wk_St} {r : Bool × wk_St} (h : f_X11_first x1 s = r) : wk_T wk_shC 2 3 [.ref 0, .int x1] s (some (.int (b2i r.1)), r.2) := by
  suffices H : ∀ z, z = (some (.int (b2i r.1)), r.2) → wk_H wk_shC 2 mc_X11_first 0 [.ref 0, .int x1] [] s z from H _ rfl
  intro z hk
  dsimp only [f_X11_first] at h
  refine wk_Hs 3 3 ⟨rfl, rfl⟩ (ls' := [.ref 0, .int x1]) (st' := [.int x1, .ref 3]) (σ' := s) rfl ?_
  replace h := wk_letE h
  refine wk_Hcall (i2 := 4) (args := [.ref 3, .int x1]) (rest := []) (r := some (.int (b2i ((f_X2_beginWeekOn x1 s).1)))) (σ1 := (f_X2_beginWeekOn x1 s).2) rfl rfl ⟨rfl, rfl, rfl, rfl, rfl⟩ rfl ((t_X2_beginWeekOn rfl).up (by decide)) ?_
  cases h
  exact wk_eqz hk (wk_Hretz rfl (b2i_01 _))
set_option maxHeartbeats 4000000 in
set_option maxRecDepth 20000 in
theorem t_X11_seed {x1 : Int32} {s : wk_St} {r : Bool × wk_St} (h : f_X11_seed x1 s = r) : wk_T wk_shC 1 4 [.ref 0, .int x1] s (some (.int (b2i r.1)), r.2) := by
  suffices H : ∀ z, z = (some (.int (b2i r.1)), r.2) → wk_H wk_shC 1 mc_X11_seed 0 [.ref 0, .int x1] [] s z from H _ rfl
  intro z hk
  dsimp only [f_X11_seed] at h
  refine wk_Hs 3 3 ⟨rfl, rfl⟩ (ls' := [.ref 0, .int x1]) (st' := [.int (65535 : Int32), .int (0 : Int32), .int x1]) (σ' := s) rfl ?_
  refine wk_Hcall (i2 := 4) (args := [.int x1, .int (0 : Int32), .int (65535 : Int32)]) (rest := []) (r := some (.int (b2i (f_X11_isWithin x1 (0 : Int32) (65535 : Int32))))) (σ1 := s) rfl rfl ⟨rfl, rfl, rfl, rfl, rfl⟩ rfl ((t_X11_isWithin rfl).up (by decide)) ?_
  rcases wk_ife h with ⟨hc, h⟩ | ⟨hc, h⟩
  · refine wk_H0t 7 rfl (wk_zne.2 hc) ?_
    refine wk_Hs 5 12 ⟨rfl, rfl⟩ (ls' := [.ref 0, .int x1]) (st' := [.int (1 : Int32)]) (σ' := (wk_si s 8 6 x1)) rfl ?_
    cases h
    exact wk_eqz hk (wk_Hretz rfl (b2i_01 true))
  · refine wk_H0f 7 5 rfl rfl (wk_nf wk_zne hc) ?_
    refine wk_Hs 1 6 ⟨rfl, rfl⟩ (ls' := [.ref 0, .int x1]) (st' := [.int (0 : Int32)]) (σ' := s) rfl ?_
    cases h
    exact wk_eqz hk (wk_Hretz rfl (b2i_01 false))
set_option maxHeartbeats 4000000 in
set_option maxRecDepth 20000 in
theorem t_X8_hasRoom {s : wk_St} {r : Bool} (h : f_X8_hasRoom s = r) : wk_T wk_shC 0 231 [.ref 1] s (some (.int (b2i r)), s) := by
  suffices H : ∀ z, z = (some (.int (b2i r)), s) → wk_H wk_shC 0 mc_X8_hasRoom 0 [.ref 1] [] s z from H _ rfl
  intro z hk
  dsimp only [f_X8_hasRoom] at h
  refine wk_Hs 5 5 ⟨rfl, rfl⟩ (ls' := [.ref 1]) (st' := [.int (260 : Int32), .int ((s.1 1 1) + (20 : Int32))]) (σ' := s) rfl ?_
  rcases wk_ife h with ⟨hc, h⟩ | ⟨hc, h⟩
  · refine wk_Hbt 8 rfl (wk_cgt.2 hc) ?_
    refine wk_Hs 1 9 ⟨rfl, rfl⟩ (ls' := [.ref 1]) (st' := [.int (0 : Int32)]) (σ' := s) rfl ?_
    cases h
    exact wk_eqz hk (wk_Hretz rfl (b2i_01 false))
  · refine wk_Hbf 8 6 rfl rfl (wk_nf wk_cgt hc) ?_
    refine wk_Hs 1 7 ⟨rfl, rfl⟩ (ls' := [.ref 1]) (st' := [.int (1 : Int32)]) (σ' := s) rfl ?_
    refine wk_Hgoto (t := 9) rfl ?_
    cases h
    exact wk_eqz hk (wk_Hretz rfl (b2i_01 true))
set_option maxHeartbeats 4000000 in
set_option maxRecDepth 20000 in
theorem ts_S_X8_append_2 {x1 : Int32} {x2 : Int32} {s : wk_St} {z : wk_R} {o : (wk_St) ⊕ (Int32 × wk_St)} (h : S_X8_append_2 x1 (x2, s) = some o) (hk : match (generalizing := false) o with | Sum.inl a => (∀ (u2 : Value), wk_H wk_shC 0 mc_X8_append 31 [.ref 1, .int x1, u2] [] a z) | Sum.inr y => wk_H wk_shC 0 mc_X8_append 2 [.ref 1, .int x1, .int y.1] [] y.2 z) : wk_H wk_shC 0 mc_X8_append 2 [.ref 1, .int x1, .int x2] [] s z := by
  dsimp only [S_X8_append_2] at h
  refine wk_Hs 1 3 ⟨rfl, rfl⟩ (ls' := [.ref 1, .int x1, .int x2]) (st' := [.int x2]) (σ' := s) rfl ?_
  rcases wk_ife h with ⟨hc, h⟩ | ⟨hc, h⟩
  · refine wk_H0t 31 rfl (wk_clt.2 hc) ?_
    cases h
    exact hk _
  · refine wk_H0f 31 4 rfl rfl (wk_nf wk_clt hc) ?_
    refine wk_Hs 2 6 ⟨rfl, rfl⟩ (ls' := [.ref 1, .int x1, .int x2]) (st' := [.int (s.1 1 1)]) (σ' := s) rfl ?_
    rcases wk_ife h with ⟨hc, h⟩ | ⟨hc, h⟩
    · refine wk_H0t 29 rfl (wk_clt.2 hc) ?_
      refine wk_Hs 1 30 ⟨rfl, rfl⟩ (ls' := [.ref 1, .int x1, .int (x2 + (-8 : Int32))]) (st' := []) (σ' := s) rfl ?_
      refine wk_Hgoto (t := 2) rfl ?_
      cases h
      exact hk
    · refine wk_H0f 29 7 rfl rfl (wk_nf wk_clt hc) ?_
      refine wk_Hs 5 12 ⟨rfl, rfl⟩ (ls' := [.ref 1, .int x1, .int x2]) (st' := [.int (260 : Int32), .int (s.1 1 1)]) (σ' := s) rfl ?_
      rcases wk_ife h with ⟨hc, h⟩ | ⟨hc, h⟩
      · refine wk_Hbt 29 rfl (wk_cge.2 hc) ?_
        refine wk_Hs 1 30 ⟨rfl, rfl⟩ (ls' := [.ref 1, .int x1, .int (x2 + (-8 : Int32))]) (st' := []) (σ' := s) rfl ?_
        refine wk_Hgoto (t := 2) rfl ?_
        cases h
        exact hk
      · refine wk_Hbf 29 13 rfl rfl (wk_nf wk_cge hc) ?_
        refine wk_Hs 9 22 ⟨rfl, rfl⟩ (ls' := [.ref 1, .int x1, .int x2]) (st' := [.int ((wk_ushr x1 x2) &&& (255 : Int32)), .int (s.1 1 1), .ref 2]) (σ' := s) rfl ?_
        obtain ⟨hg, h⟩ := wk_gdE h
        refine wk_Hias 23 rfl rfl rfl hg rfl ?_
        refine wk_Hs 7 30 ⟨rfl, rfl⟩ (ls' := [.ref 1, .int x1, .int (x2 + (-8 : Int32))]) (st' := []) (σ' := (wk_si (wk_si s 2 ((s.1 1 1).toNatClampNeg) ((wk_ushr x1 x2) &&& (255 : Int32))) 1 1 (((wk_si s 2 ((s.1 1 1).toNatClampNeg) ((wk_ushr x1 x2) &&& (255 : Int32))).1 1 1) + (1 : Int32)))) rfl ?_
        refine wk_Hgoto (t := 2) rfl ?_
        cases h
        exact hk
set_option maxHeartbeats 4000000 in
set_option maxRecDepth 20000 in
theorem tl_S_X8_append_2 {x1 : Int32} {z : wk_R} (n : Nat) : ∀ {x2 : Int32} {s : wk_St} {a : wk_St} (h : wk_loop (S_X8_append_2 x1) n (x2, s) = some a) (hk : ∀ (u2 : Value), wk_H wk_shC 0 mc_X8_append 31 [.ref 1, .int x1, u2] [] a z), wk_H wk_shC 0 mc_X8_append 2 [.ref 1, .int x1, .int x2] [] s z := by
  induction n with
  | zero =>
    intros
    rename_i h _
    exact nomatch (show (none : Option _) = some _ from h)
  | succ n ih =>
    intros
    rename_i h hk
    obtain ⟨o, ho, h⟩ := wk_bindE (show Option.bind _ _ = some _ from h)
    refine ts_S_X8_append_2 ho ?_
    cases o with
    | inl a1 =>
      cases h
      exact hk
    | inr p =>
      obtain ⟨p0, p1⟩ := p
      exact ih h hk
set_option maxHeartbeats 4000000 in
set_option maxRecDepth 20000 in
theorem t_X8_append {x1 : Int32} {s : wk_St} {r : wk_St} (h : f_X8_append x1 s = some r) : wk_T wk_shC 0 232 [.ref 1, .int x1] s (none, r) := by
  suffices H : ∀ z, z = (none, r) → wk_H wk_shC 0 mc_X8_append 0 [.ref 1, .int x1, wk_U] [] s z from H _ rfl
  intro z hk
  dsimp only [f_X8_append] at h
  refine wk_Hs 2 2 ⟨rfl, rfl⟩ (ls' := [.ref 1, .int x1, .int (24 : Int32)]) (st' := []) (σ' := s) rfl ?_
  obtain ⟨v1, hv1, h⟩ := wk_bindE h
  refine tl_S_X8_append_2 wk_F hv1 ?_
  intro g2
  cases h
  exact wk_eqz hk (wk_Hretv rfl)
set_option maxHeartbeats 4000000 in
set_option maxRecDepth 20000 in
theorem t_X11_feed {x1 : Int32} {x2 : Int32} {x3 : Int32} {x4 : Int32} {x5 : Int32} {s : wk_St} {r : Int32 × wk_St} (h : f_X11_feed x1 x2 x3 x4 x5 s = some r) : wk_T wk_shC 1 5 [.ref 0, .int x1, .int x2, .int x3, .int x4, .int x5] s (some (.int r.1), r.2) := by
  suffices H : ∀ z, z = (some (.int r.1), r.2) → wk_H wk_shC 1 mc_X11_feed 0 [.ref 0, .int x1, .int x2, .int x3, .int x4, .int x5] [] s z from H _ rfl
  intro z hk
  dsimp only [f_X11_feed] at h
  refine wk_Hs 2 2 ⟨rfl, rfl⟩ (ls' := [.ref 0, .int x1, .int x2, .int x3, .int x4, .int x5]) (st' := [.ref 1]) (σ' := s) rfl ?_
  refine wk_Hcall (i2 := 3) (args := [.ref 1]) (rest := []) (r := some (.int (b2i (f_X8_hasRoom s)))) (σ1 := s) rfl rfl ⟨rfl, rfl, rfl, rfl, rfl⟩ rfl ((t_X8_hasRoom rfl).up (by decide)) ?_
  rcases wk_ife h with ⟨hc, h⟩ | ⟨hc, h⟩
  · refine wk_H0t 6 rfl (wk_zne.2 hc) ?_
    refine wk_Hs 3 9 ⟨rfl, rfl⟩ (ls' := [.ref 0, .int x1, .int x2, .int x3, .int x4, .int x5]) (st' := [.int x1, .ref 1]) (σ' := s) rfl ?_
    obtain ⟨v2, hv2, h⟩ := wk_bindE h
    refine wk_Hcall (i2 := 10) (args := [.ref 1, .int x1]) (rest := []) (r := none) (σ1 := v2) rfl rfl ⟨rfl, rfl, rfl, rfl, rfl⟩ rfl ((t_X8_append hv2).up (by decide)) ?_
    refine wk_Hs 3 13 ⟨rfl, rfl⟩ (ls' := [.ref 0, .int x1, .int x2, .int x3, .int x4, .int x5]) (st' := [.int x2, .ref 1]) (σ' := v2) rfl ?_
    obtain ⟨v3, hv3, h⟩ := wk_bindE h
    refine wk_Hcall (i2 := 14) (args := [.ref 1, .int x2]) (rest := []) (r := none) (σ1 := v3) rfl rfl ⟨rfl, rfl, rfl, rfl, rfl⟩ rfl ((t_X8_append hv3).up (by decide)) ?_
    refine wk_Hs 3 17 ⟨rfl, rfl⟩ (ls' := [.ref 0, .int x1, .int x2, .int x3, .int x4, .int x5]) (st' := [.int x3, .ref 1]) (σ' := v3) rfl ?_
    obtain ⟨v4, hv4, h⟩ := wk_bindE h
    refine wk_Hcall (i2 := 18) (args := [.ref 1, .int x3]) (rest := []) (r := none) (σ1 := v4) rfl rfl ⟨rfl, rfl, rfl, rfl, rfl⟩ rfl ((t_X8_append hv4).up (by decide)) ?_
    refine wk_Hs 3 21 ⟨rfl, rfl⟩ (ls' := [.ref 0, .int x1, .int x2, .int x3, .int x4, .int x5]) (st' := [.int x4, .ref 1]) (σ' := v4) rfl ?_
    obtain ⟨v5, hv5, h⟩ := wk_bindE h
    refine wk_Hcall (i2 := 22) (args := [.ref 1, .int x4]) (rest := []) (r := none) (σ1 := v5) rfl rfl ⟨rfl, rfl, rfl, rfl, rfl⟩ rfl ((t_X8_append hv5).up (by decide)) ?_
    refine wk_Hs 3 25 ⟨rfl, rfl⟩ (ls' := [.ref 0, .int x1, .int x2, .int x3, .int x4, .int x5]) (st' := [.int x5, .ref 1]) (σ' := v5) rfl ?_
    obtain ⟨v6, hv6, h⟩ := wk_bindE h
    refine wk_Hcall (i2 := 26) (args := [.ref 1, .int x5]) (rest := []) (r := none) (σ1 := v6) rfl rfl ⟨rfl, rfl, rfl, rfl, rfl⟩ rfl ((t_X8_append hv6).up (by decide)) ?_
    refine wk_Hs 3 29 ⟨rfl, rfl⟩ (ls' := [.ref 0, .int x1, .int x2, .int x3, .int x4, .int x5]) (st' := [.int (v6.1 1 1)]) (σ' := v6) rfl ?_
    cases h
    exact wk_eqz hk (wk_Hret rfl)
  · refine wk_H0f 6 4 rfl rfl (wk_nf wk_zne hc) ?_
    refine wk_Hs 1 5 ⟨rfl, rfl⟩ (ls' := [.ref 0, .int x1, .int x2, .int x3, .int x4, .int x5]) (st' := [.int (-1 : Int32)]) (σ' := s) rfl ?_
    cases h
    exact wk_eqz hk (wk_Hret rfl)
set_option maxHeartbeats 4000000 in
set_option maxRecDepth 20000 in
theorem ts_S_X4_copyFrom_2 {x2 : Int32} {s : wk_St} {z : wk_R} {o : (wk_St) ⊕ (Int32 × wk_St)} (h : S_X4_copyFrom_2 (x2, s) = some o) (hk : match (generalizing := false) o with | Sum.inl a => (∀ (u2 : Value), wk_H wk_shC 0 mc_X4_copyFrom 39 [.ref 37, .ref 45, u2] [] a z) | Sum.inr y => wk_H wk_shC 0 mc_X4_copyFrom 2 [.ref 37, .ref 45, .int y.1] [] y.2 z) : wk_H wk_shC 0 mc_X4_copyFrom 2 [.ref 37, .ref 45, .int x2] [] s z := by
  dsimp only [S_X4_copyFrom_2] at h
  refine wk_Hs 2 4 ⟨rfl, rfl⟩ (ls' := [.ref 37, .ref 45, .int x2]) (st' := [.int (16 : Int32), .int x2]) (σ' := s) rfl ?_
  rcases wk_ife h with ⟨hc, h⟩ | ⟨hc, h⟩
  · refine wk_Hbt 39 rfl (wk_cge.2 hc) ?_
    cases h
    exact hk _
  · refine wk_Hbf 39 5 rfl rfl (wk_nf wk_cge hc) ?_
    refine wk_Hs 6 11 ⟨rfl, rfl⟩ (ls' := [.ref 37, .ref 45, .int x2]) (st' := [.int x2, .ref 46, .int x2, .ref 38]) (σ' := s) rfl ?_
    obtain ⟨hg, h⟩ := wk_gdE h
    refine wk_Hia 12 rfl rfl rfl hg rfl ?_
    obtain ⟨hg, h⟩ := wk_gdE h
    refine wk_Hias 13 rfl rfl rfl hg rfl ?_
    refine wk_Hs 6 19 ⟨rfl, rfl⟩ (ls' := [.ref 37, .ref 45, .int x2]) (st' := [.int x2, .ref 47, .int x2, .ref 39]) (σ' := (wk_si s 38 (x2.toNatClampNeg) (s.1 46 (x2.toNatClampNeg)))) rfl ?_
    obtain ⟨hg, h⟩ := wk_gdE h
    refine wk_Hia 20 rfl rfl rfl hg rfl ?_
    obtain ⟨hg, h⟩ := wk_gdE h
    refine wk_Hias 21 rfl rfl rfl hg rfl ?_
    refine wk_Hs 6 27 ⟨rfl, rfl⟩ (ls' := [.ref 37, .ref 45, .int x2]) (st' := [.int x2, .ref 48, .int x2, .ref 40]) (σ' := (wk_si (wk_si s 38 (x2.toNatClampNeg) (s.1 46 (x2.toNatClampNeg))) 39 (x2.toNatClampNeg) ((wk_si s 38 (x2.toNatClampNeg) (s.1 46 (x2.toNatClampNeg))).1 47 (x2.toNatClampNeg)))) rfl ?_
    obtain ⟨hg, h⟩ := wk_gdE h
    refine wk_Hia 28 rfl rfl rfl hg rfl ?_
    obtain ⟨hg, h⟩ := wk_gdE h
    refine wk_Hias 29 rfl rfl rfl hg rfl ?_
    refine wk_Hs 6 35 ⟨rfl, rfl⟩ (ls' := [.ref 37, .ref 45, .int x2]) (st' := [.int x2, .ref 49, .int x2, .ref 41]) (σ' := (wk_si (wk_si (wk_si s 38 (x2.toNatClampNeg) (s.1 46 (x2.toNatClampNeg))) 39 (x2.toNatClampNeg) ((wk_si s 38 (x2.toNatClampNeg) (s.1 46 (x2.toNatClampNeg))).1 47 (x2.toNatClampNeg))) 40 (x2.toNatClampNeg) ((wk_si (wk_si s 38 (x2.toNatClampNeg) (s.1 46 (x2.toNatClampNeg))) 39 (x2.toNatClampNeg) ((wk_si s 38 (x2.toNatClampNeg) (s.1 46 (x2.toNatClampNeg))).1 47 (x2.toNatClampNeg))).1 48 (x2.toNatClampNeg)))) rfl ?_
    obtain ⟨hg, h⟩ := wk_gdE h
    refine wk_Hia 36 rfl rfl rfl hg rfl ?_
    obtain ⟨hg, h⟩ := wk_gdE h
    refine wk_Hias 37 rfl rfl rfl hg rfl ?_
    refine wk_Hs 1 38 ⟨rfl, rfl⟩ (ls' := [.ref 37, .ref 45, .int (x2 + (1 : Int32))]) (st' := []) (σ' := (wk_si (wk_si (wk_si (wk_si s 38 (x2.toNatClampNeg) (s.1 46 (x2.toNatClampNeg))) 39 (x2.toNatClampNeg) ((wk_si s 38 (x2.toNatClampNeg) (s.1 46 (x2.toNatClampNeg))).1 47 (x2.toNatClampNeg))) 40 (x2.toNatClampNeg) ((wk_si (wk_si s 38 (x2.toNatClampNeg) (s.1 46 (x2.toNatClampNeg))) 39 (x2.toNatClampNeg) ((wk_si s 38 (x2.toNatClampNeg) (s.1 46 (x2.toNatClampNeg))).1 47 (x2.toNatClampNeg))).1 48 (x2.toNatClampNeg))) 41 (x2.toNatClampNeg) ((wk_si (wk_si (wk_si s 38 (x2.toNatClampNeg) (s.1 46 (x2.toNatClampNeg))) 39 (x2.toNatClampNeg) ((wk_si s 38 (x2.toNatClampNeg) (s.1 46 (x2.toNatClampNeg))).1 47 (x2.toNatClampNeg))) 40 (x2.toNatClampNeg) ((wk_si (wk_si s 38 (x2.toNatClampNeg) (s.1 46 (x2.toNatClampNeg))) 39 (x2.toNatClampNeg) ((wk_si s 38 (x2.toNatClampNeg) (s.1 46 (x2.toNatClampNeg))).1 47 (x2.toNatClampNeg))).1 48 (x2.toNatClampNeg))).1 49 (x2.toNatClampNeg)))) rfl ?_
    refine wk_Hgoto (t := 2) rfl ?_
    cases h
    exact hk
set_option maxHeartbeats 4000000 in
set_option maxRecDepth 20000 in
theorem tl_S_X4_copyFrom_2 {z : wk_R} (n : Nat) : ∀ {x2 : Int32} {s : wk_St} {a : wk_St} (h : wk_loop S_X4_copyFrom_2 n (x2, s) = some a) (hk : ∀ (u2 : Value), wk_H wk_shC 0 mc_X4_copyFrom 39 [.ref 37, .ref 45, u2] [] a z), wk_H wk_shC 0 mc_X4_copyFrom 2 [.ref 37, .ref 45, .int x2] [] s z := by
  induction n with
  | zero =>
    intros
    rename_i h _
    exact nomatch (show (none : Option _) = some _ from h)
  | succ n ih =>
    intros
    rename_i h hk
    obtain ⟨o, ho, h⟩ := wk_bindE (show Option.bind _ _ = some _ from h)
    refine ts_S_X4_copyFrom_2 ho ?_
    cases o with
    | inl a1 =>
      cases h
      exact hk
    | inr p =>
      obtain ⟨p0, p1⟩ := p
      exact ih h hk
set_option maxHeartbeats 4000000 in
set_option maxRecDepth 20000 in
theorem ts_S_X4_copyFrom_41 {x2 : Int32} {s : wk_St} {z : wk_R} {o : (wk_St) ⊕ (Int32 × wk_St)} (h : S_X4_copyFrom_41 (x2, s) = some o) (hk : match (generalizing := false) o with | Sum.inl a => (∀ (u2 : Value), wk_H wk_shC 0 mc_X4_copyFrom 62 [.ref 37, .ref 45, u2] [] a z) | Sum.inr y => wk_H wk_shC 0 mc_X4_copyFrom 41 [.ref 37, .ref 45, .int y.1] [] y.2 z) : wk_H wk_shC 0 mc_X4_copyFrom 41 [.ref 37, .ref 45, .int x2] [] s z := by
  dsimp only [S_X4_copyFrom_41] at h
  refine wk_Hs 2 43 ⟨rfl, rfl⟩ (ls' := [.ref 37, .ref 45, .int x2]) (st' := [.int (240 : Int32), .int x2]) (σ' := s) rfl ?_
  rcases wk_ife h with ⟨hc, h⟩ | ⟨hc, h⟩
  · refine wk_Hbt 62 rfl (wk_cge.2 hc) ?_
    cases h
    exact hk _
  · refine wk_Hbf 62 44 rfl rfl (wk_nf wk_cge hc) ?_
    refine wk_Hs 6 50 ⟨rfl, rfl⟩ (ls' := [.ref 37, .ref 45, .int x2]) (st' := [.int x2, .ref 50, .int x2, .ref 42]) (σ' := s) rfl ?_
    obtain ⟨hg, h⟩ := wk_gdE h
    refine wk_Hia 51 rfl rfl rfl hg rfl ?_
    obtain ⟨hg, h⟩ := wk_gdE h
    refine wk_Hias 52 rfl rfl rfl hg rfl ?_
    refine wk_Hs 6 58 ⟨rfl, rfl⟩ (ls' := [.ref 37, .ref 45, .int x2]) (st' := [.int x2, .ref 51, .int x2, .ref 43]) (σ' := (wk_si s 42 (x2.toNatClampNeg) (s.1 50 (x2.toNatClampNeg)))) rfl ?_
    obtain ⟨hg, h⟩ := wk_gdE h
    refine wk_Hia 59 rfl rfl rfl hg rfl ?_
    obtain ⟨hg, h⟩ := wk_gdE h
    refine wk_Hias 60 rfl rfl rfl hg rfl ?_
    refine wk_Hs 1 61 ⟨rfl, rfl⟩ (ls' := [.ref 37, .ref 45, .int (x2 + (1 : Int32))]) (st' := []) (σ' := (wk_si (wk_si s 42 (x2.toNatClampNeg) (s.1 50 (x2.toNatClampNeg))) 43 (x2.toNatClampNeg) ((wk_si s 42 (x2.toNatClampNeg) (s.1 50 (x2.toNatClampNeg))).1 51 (x2.toNatClampNeg)))) rfl ?_
    refine wk_Hgoto (t := 41) rfl ?_
    cases h
    exact hk
set_option maxHeartbeats 4000000 in
set_option maxRecDepth 20000 in
theorem tl_S_X4_copyFrom_41 {z : wk_R} (n : Nat) : ∀ {x2 : Int32} {s : wk_St} {a : wk_St} (h : wk_loop S_X4_copyFrom_41 n (x2, s) = some a) (hk : ∀ (u2 : Value), wk_H wk_shC 0 mc_X4_copyFrom 62 [.ref 37, .ref 45, u2] [] a z), wk_H wk_shC 0 mc_X4_copyFrom 41 [.ref 37, .ref 45, .int x2] [] s z := by
  induction n with
  | zero =>
    intros
    rename_i h _
    exact nomatch (show (none : Option _) = some _ from h)
  | succ n ih =>
    intros
    rename_i h hk
    obtain ⟨o, ho, h⟩ := wk_bindE (show Option.bind _ _ = some _ from h)
    refine ts_S_X4_copyFrom_41 ho ?_
    cases o with
    | inl a1 =>
      cases h
      exact hk
    | inr p =>
      obtain ⟨p0, p1⟩ := p
      exact ih h hk
set_option maxHeartbeats 4000000 in
set_option maxRecDepth 20000 in
theorem t_X4_copyFrom {s : wk_St} {r : wk_St} (h : f_X4_copyFrom s = some r) : wk_T wk_shC 0 194 [.ref 37, .ref 45] s (none, r) := by
  suffices H : ∀ z, z = (none, r) → wk_H wk_shC 0 mc_X4_copyFrom 0 [.ref 37, .ref 45, wk_U] [] s z from H _ rfl
  intro z hk
  dsimp only [f_X4_copyFrom] at h
  refine wk_Hs 2 2 ⟨rfl, rfl⟩ (ls' := [.ref 37, .ref 45, .int (0 : Int32)]) (st' := []) (σ' := s) rfl ?_
  obtain ⟨v1, hv1, h⟩ := wk_bindE h
  refine tl_S_X4_copyFrom_2 wk_F hv1 ?_
  intro g2
  refine wk_Hs 2 41 ⟨rfl, rfl⟩ (ls' := [.ref 37, .ref 45, .int (0 : Int32)]) (st' := []) (σ' := v1) rfl ?_
  obtain ⟨v3, hv3, h⟩ := wk_bindE h
  refine tl_S_X4_copyFrom_41 wk_F hv3 ?_
  intro g4
  refine wk_Hs 8 70 ⟨rfl, rfl⟩ (ls' := [.ref 37, .ref 45, g4]) (st' := []) (σ' := (wk_si (wk_si v3 37 7 (v3.1 45 7)) 37 8 ((wk_si v3 37 7 (v3.1 45 7)).1 45 8))) rfl ?_
  cases h
  exact wk_eqz hk (wk_Hretv rfl)
set_option maxHeartbeats 4000000 in
set_option maxRecDepth 20000 in
theorem t_X4_clear {s : wk_St} {r : wk_St} (h : f_X4_clear s = r) : wk_T wk_shC 0 193 [.ref 45] s (none, r) := by
  suffices H : ∀ z, z = (none, r) → wk_H wk_shC 0 mc_X4_clear 0 [.ref 45] [] s z from H _ rfl
  intro z hk
  dsimp only [f_X4_clear] at h
  refine wk_Hs 6 6 ⟨rfl, rfl⟩ (ls' := [.ref 45]) (st' := []) (σ' := (wk_si (wk_si s 45 7 (0 : Int32)) 45 8 (0 : Int32))) rfl ?_
  cases h
  exact wk_eqz hk (wk_Hretv rfl)
set_option maxHeartbeats 4000000 in
set_option maxRecDepth 20000 in
theorem t_X4_closeRule {s : wk_St} {r : wk_St} (h : f_X4_closeRule s = some r) : wk_T wk_shC 0 198 [.ref 45] s (none, r) := by
  suffices H : ∀ z, z = (none, r) → wk_H wk_shC 0 mc_X4_closeRule 0 [.ref 45] [] s z from H _ rfl
  intro z hk
  dsimp only [f_X4_closeRule] at h
  refine wk_Hs 2 2 ⟨rfl, rfl⟩ (ls' := [.ref 45]) (st' := [.int (s.1 45 7)]) (σ' := s) rfl ?_
  rcases wk_ife h with ⟨hc, h⟩ | ⟨hc, h⟩
  · refine wk_H0t 20 rfl (wk_clt.2 hc) ?_
    cases h
    exact wk_eqz hk (wk_Hretv rfl)
  · refine wk_H0f 20 3 rfl rfl (wk_nf wk_clt hc) ?_
    refine wk_Hs 3 6 ⟨rfl, rfl⟩ (ls' := [.ref 45]) (st' := [.int (16 : Int32), .int (s.1 45 7)]) (σ' := s) rfl ?_
    rcases wk_ife h with ⟨hc, h⟩ | ⟨hc, h⟩
    · refine wk_Hbt 20 rfl (wk_cge.2 hc) ?_
      cases h
      exact wk_eqz hk (wk_Hretv rfl)
    · refine wk_Hbf 20 7 rfl rfl (wk_nf wk_cge hc) ?_
      refine wk_Hs 6 13 ⟨rfl, rfl⟩ (ls' := [.ref 45]) (st' := [.int (s.1 45 8), .int (s.1 45 7), .ref 49]) (σ' := s) rfl ?_
      obtain ⟨hg, h⟩ := wk_gdE h
      refine wk_Hias 14 rfl rfl rfl hg rfl ?_
      refine wk_Hs 6 20 ⟨rfl, rfl⟩ (ls' := [.ref 45]) (st' := []) (σ' := (wk_si (wk_si s 49 ((s.1 45 7).toNatClampNeg) (s.1 45 8)) 45 7 (((wk_si s 49 ((s.1 45 7).toNatClampNeg) (s.1 45 8)).1 45 7) + (1 : Int32)))) rfl ?_
      cases h
      exact wk_eqz hk (wk_Hretv rfl)
set_option maxHeartbeats 4000000 in
set_option maxRecDepth 20000 in
theorem t_X4_isFull {s : wk_St} {r : Bool} (h : f_X4_isFull s = r) : wk_T wk_shC 0 195 [.ref 45] s (some (.int (b2i r)), s) := by
  suffices H : ∀ z, z = (some (.int (b2i r)), s) → wk_H wk_shC 0 mc_X4_isFull 0 [.ref 45] [] s z from H _ rfl
  intro z hk
  dsimp only [f_X4_isFull] at h
  refine wk_Hs 3 3 ⟨rfl, rfl⟩ (ls' := [.ref 45]) (st' := [.int (16 : Int32), .int (s.1 45 7)]) (σ' := s) rfl ?_
  rcases wk_ife h with ⟨hc, h⟩ | ⟨hc, h⟩
  · refine wk_Hbt 6 rfl (wk_clt.2 hc) ?_
    refine wk_Hs 1 7 ⟨rfl, rfl⟩ (ls' := [.ref 45]) (st' := [.int (0 : Int32)]) (σ' := s) rfl ?_
    cases h
    exact wk_eqz hk (wk_Hretz rfl (b2i_01 false))
  · refine wk_Hbf 6 4 rfl rfl (wk_nf wk_clt hc) ?_
    refine wk_Hs 1 5 ⟨rfl, rfl⟩ (ls' := [.ref 45]) (st' := [.int (1 : Int32)]) (σ' := s) rfl ?_
    refine wk_Hgoto (t := 7) rfl ?_
    cases h
    exact wk_eqz hk (wk_Hretz rfl (b2i_01 true))
set_option maxHeartbeats 4000000 in
set_option maxRecDepth 20000 in
theorem t_X4_openRule {x1 : Int32} {s : wk_St} {r : wk_St} (h : f_X4_openRule x1 s = some r) : wk_T wk_shC 0 196 [.ref 45, .int x1] s (none, r) := by
  suffices H : ∀ z, z = (none, r) → wk_H wk_shC 0 mc_X4_openRule 0 [.ref 45, .int x1] [] s z from H _ rfl
  intro z hk
  dsimp only [f_X4_openRule] at h
  refine wk_Hs 2 2 ⟨rfl, rfl⟩ (ls' := [.ref 45, .int x1]) (st' := [.int (s.1 45 7)]) (σ' := s) rfl ?_
  rcases wk_ife h with ⟨hc, h⟩ | ⟨hc, h⟩
  · refine wk_H0t 20 rfl (wk_clt.2 hc) ?_
    cases h
    exact wk_eqz hk (wk_Hretv rfl)
  · refine wk_H0f 20 3 rfl rfl (wk_nf wk_clt hc) ?_
    refine wk_Hs 3 6 ⟨rfl, rfl⟩ (ls' := [.ref 45, .int x1]) (st' := [.int (16 : Int32), .int (s.1 45 7)]) (σ' := s) rfl ?_
    rcases wk_ife h with ⟨hc, h⟩ | ⟨hc, h⟩
    · refine wk_Hbt 20 rfl (wk_cge.2 hc) ?_
      cases h
      exact wk_eqz hk (wk_Hretv rfl)
    · refine wk_Hbf 20 7 rfl rfl (wk_nf wk_cge hc) ?_
      refine wk_Hs 5 12 ⟨rfl, rfl⟩ (ls' := [.ref 45, .int x1]) (st' := [.int x1, .int (s.1 45 7), .ref 46]) (σ' := s) rfl ?_
      obtain ⟨hg, h⟩ := wk_gdE h
      refine wk_Hias 13 rfl rfl rfl hg rfl ?_
      refine wk_Hs 6 19 ⟨rfl, rfl⟩ (ls' := [.ref 45, .int x1]) (st' := [.int ((wk_si s 46 ((s.1 45 7).toNatClampNeg) x1).1 45 8), .int ((wk_si s 46 ((s.1 45 7).toNatClampNeg) x1).1 45 7), .ref 47]) (σ' := (wk_si s 46 ((s.1 45 7).toNatClampNeg) x1)) rfl ?_
      obtain ⟨hg, h⟩ := wk_gdE h
      refine wk_Hias 20 rfl rfl rfl hg rfl ?_
      cases h
      exact wk_eqz hk (wk_Hretv rfl)
set_option maxHeartbeats 4000000 in
set_option maxRecDepth 20000 in
theorem t_X6_blame_30 {x1 : Int32} {x2 : Int32} {s : wk_St} {r : Bool × wk_St} (h : f_X6_blame 30 x1 x2 s = r) : wk_T wk_shC 0 218 [.ref 30, .int x1, .int x2] s (some (.int (b2i r.1)), r.2) := by
  suffices H : ∀ z, z = (some (.int (b2i r.1)), r.2) → wk_H wk_shC 0 mc_X6_blame 0 [.ref 30, .int x1, .int x2] [] s z from H _ rfl
  intro z hk
  dsimp only [f_X6_blame] at h
  refine wk_Hs 8 8 ⟨rfl, rfl⟩ (ls' := [.ref 30, .int x1, .int x2]) (st' := [.int (0 : Int32)]) (σ' := (wk_si s 30 2 (((-1000 : Int32) * x1) - x2))) rfl ?_
  cases h
  exact wk_eqz hk (wk_Hretz rfl (b2i_01 false))
set_option maxHeartbeats 4000000 in
set_option maxRecDepth 20000 in
theorem t_X6_blame_32 {x1 : Int32} {x2 : Int32} {s : wk_St} {r : Bool × wk_St} (h : f_X6_blame 32 x1 x2 s = r) : wk_T wk_shC 0 218 [.ref 32, .int x1, .int x2] s (some (.int (b2i r.1)), r.2) := by
  suffices H : ∀ z, z = (some (.int (b2i r.1)), r.2) → wk_H wk_shC 0 mc_X6_blame 0 [.ref 32, .int x1, .int x2] [] s z from H _ rfl
  intro z hk
  dsimp only [f_X6_blame] at h
  refine wk_Hs 8 8 ⟨rfl, rfl⟩ (ls' := [.ref 32, .int x1, .int x2]) (st' := [.int (0 : Int32)]) (σ' := (wk_si s 32 2 (((-1000 : Int32) * x1) - x2))) rfl ?_
  cases h
  exact wk_eqz hk (wk_Hretz rfl (b2i_01 false))
set_option maxHeartbeats 4000000 in
set_option maxRecDepth 20000 in
theorem t_X6_blame_34 {x1 : Int32} {x2 : Int32} {s : wk_St} {r : Bool × wk_St} (h : f_X6_blame 34 x1 x2 s = r) : wk_T wk_shC 0 218 [.ref 34, .int x1, .int x2] s (some (.int (b2i r.1)), r.2) := by
  suffices H : ∀ z, z = (some (.int (b2i r.1)), r.2) → wk_H wk_shC 0 mc_X6_blame 0 [.ref 34, .int x1, .int x2] [] s z from H _ rfl
  intro z hk
  dsimp only [f_X6_blame] at h
  refine wk_Hs 8 8 ⟨rfl, rfl⟩ (ls' := [.ref 34, .int x1, .int x2]) (st' := [.int (0 : Int32)]) (σ' := (wk_si s 34 2 (((-1000 : Int32) * x1) - x2))) rfl ?_
  cases h
  exact wk_eqz hk (wk_Hretz rfl (b2i_01 false))
set_option maxHeartbeats 4000000 in
set_option maxRecDepth 20000 in
theorem tj_j_X5_readKind_15 {x1 : Int32} {s : wk_St} {z : wk_R} {o : Bool × wk_St} (h : j_X5_readKind_15 x1 s = some o) (hk : z = (some (.int (b2i o.1)), o.2)) : wk_H wk_shC 1 mc_X5_readKind 15 [.ref 34, .int x1, .ref 45] [] s z := by
  dsimp only [j_X5_readKind_15] at h
  refine wk_Hs 1 16 ⟨rfl, rfl⟩ (ls' := [.ref 34, .int x1, .ref 45]) (st' := [.ref 45]) (σ' := s) rfl ?_
  refine wk_Hcall (i2 := 17) (args := [.ref 45]) (rest := []) (r := some (.int (b2i (f_X4_isFull s)))) (σ1 := s) rfl rfl ⟨rfl, rfl, rfl, rfl, rfl⟩ rfl ((t_X4_isFull rfl).up (by decide)) ?_
  rcases wk_ife h with ⟨hc, h⟩ | ⟨hc, h⟩
  · refine wk_H0t 24 rfl (wk_zeq.2 hc) ?_
    refine wk_Hs 8 32 ⟨rfl, rfl⟩ (ls' := [.ref 34, .int x1, .ref 45]) (st' := [.int x1, .ref 45]) (σ' := (wk_si s 34 3 ((s.1 34 3) + (1 : Int32)))) rfl ?_
    obtain ⟨v2, hv2, h⟩ := wk_bindE h
    refine wk_Hcall (i2 := 33) (args := [.ref 45, .int x1]) (rest := []) (r := none) (σ1 := v2) rfl rfl ⟨rfl, rfl, rfl, rfl, rfl⟩ rfl ((t_X4_openRule hv2).up (by decide)) ?_
    refine wk_Hs 1 34 ⟨rfl, rfl⟩ (ls' := [.ref 34, .int x1, .ref 45]) (st' := [.int (1 : Int32)]) (σ' := v2) rfl ?_
    cases h
    exact wk_eqz hk (wk_Hretz rfl (b2i_01 true))
  · refine wk_H0f 24 18 rfl rfl (wk_nf wk_zeq hc) ?_
    refine wk_Hs 4 22 ⟨rfl, rfl⟩ (ls' := [.ref 34, .int x1, .ref 45]) (st' := [.int (s.1 34 3), .int (4 : Int32), .ref 34]) (σ' := s) rfl ?_
    replace h := wk_letE h
    refine wk_Hcall (i2 := 23) (args := [.ref 34, .int (4 : Int32), .int (s.1 34 3)]) (rest := []) (r := some (.int (b2i ((f_X6_blame 34 (4 : Int32) (s.1 34 3) s).1)))) (σ1 := (f_X6_blame 34 (4 : Int32) (s.1 34 3) s).2) rfl rfl ⟨rfl, rfl, rfl, rfl, rfl⟩ rfl ((t_X6_blame_34 rfl).up (by decide)) ?_
    cases h
    exact wk_eqz hk (wk_Hretz rfl (b2i_01 _))
set_option maxHeartbeats 4000000 in
set_option maxRecDepth 20000 in
theorem t_X5_readKind {x1 : Int32} {s : wk_St} {r : Bool × wk_St} (h : f_X5_readKind x1 s = some r) : wk_T wk_shC 1 209 [.ref 34, .int x1, .ref 45] s (some (.int (b2i r.1)), r.2) := by
  suffices H : ∀ z, z = (some (.int (b2i r.1)), r.2) → wk_H wk_shC 1 mc_X5_readKind 0 [.ref 34, .int x1, .ref 45] [] s z from H _ rfl
  intro z hk
  dsimp only [f_X5_readKind] at h
  refine wk_Hs 2 2 ⟨rfl, rfl⟩ (ls' := [.ref 34, .int x1, .ref 45]) (st' := [.int (101 : Int32), .int x1]) (σ' := s) rfl ?_
  rcases wk_ife h with ⟨hc, h⟩ | ⟨hc, h⟩
  · refine wk_Hbt 15 rfl (wk_ceq.2 hc) ?_
    exact tj_j_X5_readKind_15 h hk
  · refine wk_Hbf 15 3 rfl rfl (wk_nf wk_ceq hc) ?_
    refine wk_Hs 2 5 ⟨rfl, rfl⟩ (ls' := [.ref 34, .int x1, .ref 45]) (st' := [.int (104 : Int32), .int x1]) (σ' := s) rfl ?_
    rcases wk_ife h with ⟨hc, h⟩ | ⟨hc, h⟩
    · refine wk_Hbt 15 rfl (wk_ceq.2 hc) ?_
      exact tj_j_X5_readKind_15 h hk
    · refine wk_Hbf 15 6 rfl rfl (wk_nf wk_ceq hc) ?_
      refine wk_Hs 2 8 ⟨rfl, rfl⟩ (ls' := [.ref 34, .int x1, .ref 45]) (st' := [.int (115 : Int32), .int x1]) (σ' := s) rfl ?_
      rcases wk_ife h with ⟨hc, h⟩ | ⟨hc, h⟩
      · refine wk_Hbt 15 rfl (wk_ceq.2 hc) ?_
        exact tj_j_X5_readKind_15 h hk
      · refine wk_Hbf 15 9 rfl rfl (wk_nf wk_ceq hc) ?_
        refine wk_Hs 4 13 ⟨rfl, rfl⟩ (ls' := [.ref 34, .int x1, .ref 45]) (st' := [.int (s.1 34 3), .int (1 : Int32), .ref 34]) (σ' := s) rfl ?_
        replace h := wk_letE h
        refine wk_Hcall (i2 := 14) (args := [.ref 34, .int (1 : Int32), .int (s.1 34 3)]) (rest := []) (r := some (.int (b2i ((f_X6_blame 34 (1 : Int32) (s.1 34 3) s).1)))) (σ1 := (f_X6_blame 34 (1 : Int32) (s.1 34 3) s).2) rfl rfl ⟨rfl, rfl, rfl, rfl, rfl⟩ rfl ((t_X6_blame_34 rfl).up (by decide)) ?_
        cases h
        exact wk_eqz hk (wk_Hretz rfl (b2i_01 _))
set_option maxHeartbeats 4000000 in
set_option maxRecDepth 20000 in
theorem t_X4_openTests {s : wk_St} {r : wk_St} (h : f_X4_openTests s = some r) : wk_T wk_shC 0 197 [.ref 45] s (none, r) := by
  suffices H : ∀ z, z = (none, r) → wk_H wk_shC 0 mc_X4_openTests 0 [.ref 45] [] s z from H _ rfl
  intro z hk
  dsimp only [f_X4_openTests] at h
  refine wk_Hs 2 2 ⟨rfl, rfl⟩ (ls' := [.ref 45]) (st' := [.int (s.1 45 7)]) (σ' := s) rfl ?_
  rcases wk_ife h with ⟨hc, h⟩ | ⟨hc, h⟩
  · refine wk_H0t 14 rfl (wk_clt.2 hc) ?_
    cases h
    exact wk_eqz hk (wk_Hretv rfl)
  · refine wk_H0f 14 3 rfl rfl (wk_nf wk_clt hc) ?_
    refine wk_Hs 3 6 ⟨rfl, rfl⟩ (ls' := [.ref 45]) (st' := [.int (16 : Int32), .int (s.1 45 7)]) (σ' := s) rfl ?_
    rcases wk_ife h with ⟨hc, h⟩ | ⟨hc, h⟩
    · refine wk_Hbt 14 rfl (wk_cge.2 hc) ?_
      cases h
      exact wk_eqz hk (wk_Hretv rfl)
    · refine wk_Hbf 14 7 rfl rfl (wk_nf wk_cge hc) ?_
      refine wk_Hs 6 13 ⟨rfl, rfl⟩ (ls' := [.ref 45]) (st' := [.int (s.1 45 8), .int (s.1 45 7), .ref 48]) (σ' := s) rfl ?_
      obtain ⟨hg, h⟩ := wk_gdE h
      refine wk_Hias 14 rfl rfl rfl hg rfl ?_
      cases h
      exact wk_eqz hk (wk_Hretv rfl)
set_option maxHeartbeats 4000000 in
set_option maxRecDepth 20000 in
theorem t_X6_sign_30 {s : wk_St} {r : Int32} (h : f_X6_sign 30 s = some r) : wk_T wk_shC 0 217 [.ref 30] s (some (.int r), s) := by
  suffices H : ∀ z, z = (some (.int r), s) → wk_H wk_shC 0 mc_X6_sign 0 [.ref 30] [] s z from H _ rfl
  intro z hk
  dsimp only [f_X6_sign] at h
  refine wk_Hs 2 2 ⟨rfl, rfl⟩ (ls' := [.ref 30]) (st' := [.int (s.1 30 3)]) (σ' := s) rfl ?_
  rcases wk_ife h with ⟨hc, h⟩ | ⟨hc, h⟩
  · refine wk_H0t 20 rfl (wk_clt.2 hc) ?_
    refine wk_Hs 1 21 ⟨rfl, rfl⟩ (ls' := [.ref 30]) (st' := [.int (-1 : Int32)]) (σ' := s) rfl ?_
    cases h
    exact wk_eqz hk (wk_Hret rfl)
  · refine wk_H0f 20 3 rfl rfl (wk_nf wk_clt hc) ?_
    refine wk_Hs 4 7 ⟨rfl, rfl⟩ (ls' := [.ref 30]) (st' := [.int (s.1 30 1), .int (s.1 30 3)]) (σ' := s) rfl ?_
    rcases wk_ife h with ⟨hc, h⟩ | ⟨hc, h⟩
    · refine wk_Hbt 20 rfl (wk_cge.2 hc) ?_
      refine wk_Hs 1 21 ⟨rfl, rfl⟩ (ls' := [.ref 30]) (st' := [.int (-1 : Int32)]) (σ' := s) rfl ?_
      cases h
      exact wk_eqz hk (wk_Hret rfl)
    · refine wk_Hbf 20 8 rfl rfl (wk_nf wk_cge hc) ?_
      refine wk_Hs 5 13 ⟨rfl, rfl⟩ (ls' := [.ref 30]) (st' := [.int (240 : Int32), .int (s.1 30 3)]) (σ' := s) rfl ?_
      rcases wk_ife h with ⟨hc, h⟩ | ⟨hc, h⟩
      · refine wk_Hbt 20 rfl (wk_cge.2 hc) ?_
        refine wk_Hs 1 21 ⟨rfl, rfl⟩ (ls' := [.ref 30]) (st' := [.int (-1 : Int32)]) (σ' := s) rfl ?_
        cases h
        exact wk_eqz hk (wk_Hret rfl)
      · refine wk_Hbf 20 14 rfl rfl (wk_nf wk_cge hc) ?_
        refine wk_Hs 4 18 ⟨rfl, rfl⟩ (ls' := [.ref 30]) (st' := [.int (s.1 30 3), .ref 31]) (σ' := s) rfl ?_
        obtain ⟨hg, h⟩ := wk_gdE h
        refine wk_Hia 19 rfl rfl rfl hg rfl ?_
        refine wk_Hgoto (t := 21) rfl ?_
        cases h
        exact wk_eqz hk (wk_Hret rfl)
set_option maxHeartbeats 4000000 in
set_option maxRecDepth 20000 in
theorem t_X6_sign_32 {s : wk_St} {r : Int32} (h : f_X6_sign 32 s = some r) : wk_T wk_shC 0 217 [.ref 32] s (some (.int r), s) := by
  suffices H : ∀ z, z = (some (.int r), s) → wk_H wk_shC 0 mc_X6_sign 0 [.ref 32] [] s z from H _ rfl
  intro z hk
  dsimp only [f_X6_sign] at h
  refine wk_Hs 2 2 ⟨rfl, rfl⟩ (ls' := [.ref 32]) (st' := [.int (s.1 32 3)]) (σ' := s) rfl ?_
  rcases wk_ife h with ⟨hc, h⟩ | ⟨hc, h⟩
  · refine wk_H0t 20 rfl (wk_clt.2 hc) ?_
    refine wk_Hs 1 21 ⟨rfl, rfl⟩ (ls' := [.ref 32]) (st' := [.int (-1 : Int32)]) (σ' := s) rfl ?_
    cases h
    exact wk_eqz hk (wk_Hret rfl)
  · refine wk_H0f 20 3 rfl rfl (wk_nf wk_clt hc) ?_
    refine wk_Hs 4 7 ⟨rfl, rfl⟩ (ls' := [.ref 32]) (st' := [.int (s.1 32 1), .int (s.1 32 3)]) (σ' := s) rfl ?_
    rcases wk_ife h with ⟨hc, h⟩ | ⟨hc, h⟩
    · refine wk_Hbt 20 rfl (wk_cge.2 hc) ?_
      refine wk_Hs 1 21 ⟨rfl, rfl⟩ (ls' := [.ref 32]) (st' := [.int (-1 : Int32)]) (σ' := s) rfl ?_
      cases h
      exact wk_eqz hk (wk_Hret rfl)
    · refine wk_Hbf 20 8 rfl rfl (wk_nf wk_cge hc) ?_
      refine wk_Hs 5 13 ⟨rfl, rfl⟩ (ls' := [.ref 32]) (st' := [.int (240 : Int32), .int (s.1 32 3)]) (σ' := s) rfl ?_
      rcases wk_ife h with ⟨hc, h⟩ | ⟨hc, h⟩
      · refine wk_Hbt 20 rfl (wk_cge.2 hc) ?_
        refine wk_Hs 1 21 ⟨rfl, rfl⟩ (ls' := [.ref 32]) (st' := [.int (-1 : Int32)]) (σ' := s) rfl ?_
        cases h
        exact wk_eqz hk (wk_Hret rfl)
      · refine wk_Hbf 20 14 rfl rfl (wk_nf wk_cge hc) ?_
        refine wk_Hs 4 18 ⟨rfl, rfl⟩ (ls' := [.ref 32]) (st' := [.int (s.1 32 3), .ref 33]) (σ' := s) rfl ?_
        obtain ⟨hg, h⟩ := wk_gdE h
        refine wk_Hia 19 rfl rfl rfl hg rfl ?_
        refine wk_Hgoto (t := 21) rfl ?_
        cases h
        exact wk_eqz hk (wk_Hret rfl)
set_option maxHeartbeats 4000000 in
set_option maxRecDepth 20000 in
theorem t_X6_sign_34 {s : wk_St} {r : Int32} (h : f_X6_sign 34 s = some r) : wk_T wk_shC 0 217 [.ref 34] s (some (.int r), s) := by
  suffices H : ∀ z, z = (some (.int r), s) → wk_H wk_shC 0 mc_X6_sign 0 [.ref 34] [] s z from H _ rfl
  intro z hk
  dsimp only [f_X6_sign] at h
  refine wk_Hs 2 2 ⟨rfl, rfl⟩ (ls' := [.ref 34]) (st' := [.int (s.1 34 3)]) (σ' := s) rfl ?_
  rcases wk_ife h with ⟨hc, h⟩ | ⟨hc, h⟩
  · refine wk_H0t 20 rfl (wk_clt.2 hc) ?_
    refine wk_Hs 1 21 ⟨rfl, rfl⟩ (ls' := [.ref 34]) (st' := [.int (-1 : Int32)]) (σ' := s) rfl ?_
    cases h
    exact wk_eqz hk (wk_Hret rfl)
  · refine wk_H0f 20 3 rfl rfl (wk_nf wk_clt hc) ?_
    refine wk_Hs 4 7 ⟨rfl, rfl⟩ (ls' := [.ref 34]) (st' := [.int (s.1 34 1), .int (s.1 34 3)]) (σ' := s) rfl ?_
    rcases wk_ife h with ⟨hc, h⟩ | ⟨hc, h⟩
    · refine wk_Hbt 20 rfl (wk_cge.2 hc) ?_
      refine wk_Hs 1 21 ⟨rfl, rfl⟩ (ls' := [.ref 34]) (st' := [.int (-1 : Int32)]) (σ' := s) rfl ?_
      cases h
      exact wk_eqz hk (wk_Hret rfl)
    · refine wk_Hbf 20 8 rfl rfl (wk_nf wk_cge hc) ?_
      refine wk_Hs 5 13 ⟨rfl, rfl⟩ (ls' := [.ref 34]) (st' := [.int (240 : Int32), .int (s.1 34 3)]) (σ' := s) rfl ?_
      rcases wk_ife h with ⟨hc, h⟩ | ⟨hc, h⟩
      · refine wk_Hbt 20 rfl (wk_cge.2 hc) ?_
        refine wk_Hs 1 21 ⟨rfl, rfl⟩ (ls' := [.ref 34]) (st' := [.int (-1 : Int32)]) (σ' := s) rfl ?_
        cases h
        exact wk_eqz hk (wk_Hret rfl)
      · refine wk_Hbf 20 14 rfl rfl (wk_nf wk_cge hc) ?_
        refine wk_Hs 4 18 ⟨rfl, rfl⟩ (ls' := [.ref 34]) (st' := [.int (s.1 34 3), .ref 35]) (σ' := s) rfl ?_
        obtain ⟨hg, h⟩ := wk_gdE h
        refine wk_Hia 19 rfl rfl rfl hg rfl ?_
        refine wk_Hgoto (t := 21) rfl ?_
        cases h
        exact wk_eqz hk (wk_Hret rfl)
set_option maxHeartbeats 4000000 in
set_option maxRecDepth 20000 in
theorem t_X6_pass_30 {x1 : Int32} {s : wk_St} {r : Bool × wk_St} (h : f_X6_pass 30 x1 s = some r) : wk_T wk_shC 1 219 [.ref 30, .int x1] s (some (.int (b2i r.1)), r.2) := by
  suffices H : ∀ z, z = (some (.int (b2i r.1)), r.2) → wk_H wk_shC 1 mc_X6_pass 0 [.ref 30, .int x1] [] s z from H _ rfl
  intro z hk
  dsimp only [f_X6_pass] at h
  refine wk_Hs 1 1 ⟨rfl, rfl⟩ (ls' := [.ref 30, .int x1]) (st' := [.ref 30]) (σ' := s) rfl ?_
  obtain ⟨v1, hv1, h⟩ := wk_bindE h
  refine wk_Hcall (i2 := 2) (args := [.ref 30]) (rest := []) (r := some (.int v1)) (σ1 := s) rfl rfl ⟨rfl, rfl, rfl, rfl, rfl⟩ rfl ((t_X6_sign_30 hv1).up (by decide)) ?_
  refine wk_Hs 1 3 ⟨rfl, rfl⟩ (ls' := [.ref 30, .int x1]) (st' := [.int x1, .int v1]) (σ' := s) rfl ?_
  rcases wk_ife h with ⟨hc, h⟩ | ⟨hc, h⟩
  · refine wk_Hbt 10 rfl (wk_ceq.2 hc) ?_
    refine wk_Hs 7 17 ⟨rfl, rfl⟩ (ls' := [.ref 30, .int x1]) (st' := [.int (1 : Int32)]) (σ' := (wk_si s 30 3 ((s.1 30 3) + (1 : Int32)))) rfl ?_
    cases h
    exact wk_eqz hk (wk_Hretz rfl (b2i_01 true))
  · refine wk_Hbf 10 4 rfl rfl (wk_nf wk_ceq hc) ?_
    refine wk_Hs 4 8 ⟨rfl, rfl⟩ (ls' := [.ref 30, .int x1]) (st' := [.int (s.1 30 3), .int (1 : Int32), .ref 30]) (σ' := s) rfl ?_
    replace h := wk_letE h
    refine wk_Hcall (i2 := 9) (args := [.ref 30, .int (1 : Int32), .int (s.1 30 3)]) (rest := []) (r := some (.int (b2i ((f_X6_blame 30 (1 : Int32) (s.1 30 3) s).1)))) (σ1 := (f_X6_blame 30 (1 : Int32) (s.1 30 3) s).2) rfl rfl ⟨rfl, rfl, rfl, rfl, rfl⟩ rfl ((t_X6_blame_30 rfl).up (by decide)) ?_
    cases h
    exact wk_eqz hk (wk_Hretz rfl (b2i_01 _))
set_option maxHeartbeats 4000000 in
set_option maxRecDepth 20000 in
theorem t_X6_pass_32 {x1 : Int32} {s : wk_St} {r : Bool × wk_St} (h : f_X6_pass 32 x1 s = some r) : wk_T wk_shC 1 219 [.ref 32, .int x1] s (some (.int (b2i r.1)), r.2) := by
  suffices H : ∀ z, z = (some (.int (b2i r.1)), r.2) → wk_H wk_shC 1 mc_X6_pass 0 [.ref 32, .int x1] [] s z from H _ rfl
  intro z hk
  dsimp only [f_X6_pass] at h
  refine wk_Hs 1 1 ⟨rfl, rfl⟩ (ls' := [.ref 32, .int x1]) (st' := [.ref 32]) (σ' := s) rfl ?_
  obtain ⟨v1, hv1, h⟩ := wk_bindE h
  refine wk_Hcall (i2 := 2) (args := [.ref 32]) (rest := []) (r := some (.int v1)) (σ1 := s) rfl rfl ⟨rfl, rfl, rfl, rfl, rfl⟩ rfl ((t_X6_sign_32 hv1).up (by decide)) ?_
  refine wk_Hs 1 3 ⟨rfl, rfl⟩ (ls' := [.ref 32, .int x1]) (st' := [.int x1, .int v1]) (σ' := s) rfl ?_
  rcases wk_ife h with ⟨hc, h⟩ | ⟨hc, h⟩
  · refine wk_Hbt 10 rfl (wk_ceq.2 hc) ?_
    refine wk_Hs 7 17 ⟨rfl, rfl⟩ (ls' := [.ref 32, .int x1]) (st' := [.int (1 : Int32)]) (σ' := (wk_si s 32 3 ((s.1 32 3) + (1 : Int32)))) rfl ?_
    cases h
    exact wk_eqz hk (wk_Hretz rfl (b2i_01 true))
  · refine wk_Hbf 10 4 rfl rfl (wk_nf wk_ceq hc) ?_
    refine wk_Hs 4 8 ⟨rfl, rfl⟩ (ls' := [.ref 32, .int x1]) (st' := [.int (s.1 32 3), .int (1 : Int32), .ref 32]) (σ' := s) rfl ?_
    replace h := wk_letE h
    refine wk_Hcall (i2 := 9) (args := [.ref 32, .int (1 : Int32), .int (s.1 32 3)]) (rest := []) (r := some (.int (b2i ((f_X6_blame 32 (1 : Int32) (s.1 32 3) s).1)))) (σ1 := (f_X6_blame 32 (1 : Int32) (s.1 32 3) s).2) rfl rfl ⟨rfl, rfl, rfl, rfl, rfl⟩ rfl ((t_X6_blame_32 rfl).up (by decide)) ?_
    cases h
    exact wk_eqz hk (wk_Hretz rfl (b2i_01 _))
set_option maxHeartbeats 4000000 in
set_option maxRecDepth 20000 in
theorem t_X6_pass_34 {x1 : Int32} {s : wk_St} {r : Bool × wk_St} (h : f_X6_pass 34 x1 s = some r) : wk_T wk_shC 1 219 [.ref 34, .int x1] s (some (.int (b2i r.1)), r.2) := by
  suffices H : ∀ z, z = (some (.int (b2i r.1)), r.2) → wk_H wk_shC 1 mc_X6_pass 0 [.ref 34, .int x1] [] s z from H _ rfl
  intro z hk
  dsimp only [f_X6_pass] at h
  refine wk_Hs 1 1 ⟨rfl, rfl⟩ (ls' := [.ref 34, .int x1]) (st' := [.ref 34]) (σ' := s) rfl ?_
  obtain ⟨v1, hv1, h⟩ := wk_bindE h
  refine wk_Hcall (i2 := 2) (args := [.ref 34]) (rest := []) (r := some (.int v1)) (σ1 := s) rfl rfl ⟨rfl, rfl, rfl, rfl, rfl⟩ rfl ((t_X6_sign_34 hv1).up (by decide)) ?_
  refine wk_Hs 1 3 ⟨rfl, rfl⟩ (ls' := [.ref 34, .int x1]) (st' := [.int x1, .int v1]) (σ' := s) rfl ?_
  rcases wk_ife h with ⟨hc, h⟩ | ⟨hc, h⟩
  · refine wk_Hbt 10 rfl (wk_ceq.2 hc) ?_
    refine wk_Hs 7 17 ⟨rfl, rfl⟩ (ls' := [.ref 34, .int x1]) (st' := [.int (1 : Int32)]) (σ' := (wk_si s 34 3 ((s.1 34 3) + (1 : Int32)))) rfl ?_
    cases h
    exact wk_eqz hk (wk_Hretz rfl (b2i_01 true))
  · refine wk_Hbf 10 4 rfl rfl (wk_nf wk_ceq hc) ?_
    refine wk_Hs 4 8 ⟨rfl, rfl⟩ (ls' := [.ref 34, .int x1]) (st' := [.int (s.1 34 3), .int (1 : Int32), .ref 34]) (σ' := s) rfl ?_
    replace h := wk_letE h
    refine wk_Hcall (i2 := 9) (args := [.ref 34, .int (1 : Int32), .int (s.1 34 3)]) (rest := []) (r := some (.int (b2i ((f_X6_blame 34 (1 : Int32) (s.1 34 3) s).1)))) (σ1 := (f_X6_blame 34 (1 : Int32) (s.1 34 3) s).2) rfl rfl ⟨rfl, rfl, rfl, rfl, rfl⟩ rfl ((t_X6_blame_34 rfl).up (by decide)) ?_
    cases h
    exact wk_eqz hk (wk_Hretz rfl (b2i_01 _))
set_option maxHeartbeats 4000000 in
set_option maxRecDepth 20000 in
theorem t_X5_openTests {s : wk_St} {r : Bool × wk_St} (h : f_X5_openTests s = some r) : wk_T wk_shC 2 210 [.ref 34, .ref 45] s (some (.int (b2i r.1)), r.2) := by
  suffices H : ∀ z, z = (some (.int (b2i r.1)), r.2) → wk_H wk_shC 2 mc_X5_openTests 0 [.ref 34, .ref 45] [] s z from H _ rfl
  intro z hk
  dsimp only [f_X5_openTests] at h
  refine wk_Hs 1 1 ⟨rfl, rfl⟩ (ls' := [.ref 34, .ref 45]) (st' := [.ref 45]) (σ' := s) rfl ?_
  obtain ⟨v1, hv1, h⟩ := wk_bindE h
  refine wk_Hcall (i2 := 2) (args := [.ref 45]) (rest := []) (r := none) (σ1 := v1) rfl rfl ⟨rfl, rfl, rfl, rfl, rfl⟩ rfl ((t_X4_openTests hv1).up (by decide)) ?_
  refine wk_Hs 2 4 ⟨rfl, rfl⟩ (ls' := [.ref 34, .ref 45]) (st' := [.int (40 : Int32), .ref 34]) (σ' := v1) rfl ?_
  obtain ⟨v2, hv2, h⟩ := wk_bindE h
  refine wk_Hcall (i2 := 5) (args := [.ref 34, .int (40 : Int32)]) (rest := []) (r := some (.int (b2i v2.1))) (σ1 := v2.2) rfl rfl ⟨rfl, rfl, rfl, rfl, rfl⟩ rfl ((t_X6_pass_34 hv2).up (by decide)) ?_
  cases h
  exact wk_eqz hk (wk_Hretz rfl (b2i_01 _))
set_option maxHeartbeats 4000000 in
set_option maxRecDepth 20000 in
theorem t_X4_put {x1 : Int32} {x2 : Int32} {s : wk_St} {r : Int32 × wk_St} (h : f_X4_put x1 x2 s = some r) : wk_T wk_shC 0 199 [.ref 45, .int x1, .int x2] s (some (.int r.1), r.2) := by
  suffices H : ∀ z, z = (some (.int r.1), r.2) → wk_H wk_shC 0 mc_X4_put 0 [.ref 45, .int x1, .int x2] [] s z from H _ rfl
  intro z hk
  dsimp only [f_X4_put] at h
  refine wk_Hs 2 2 ⟨rfl, rfl⟩ (ls' := [.ref 45, .int x1, .int x2]) (st' := [.int (s.1 45 8)]) (σ' := s) rfl ?_
  rcases wk_ife h with ⟨hc, h⟩ | ⟨hc, h⟩
  · refine wk_H0t 7 rfl (wk_clt.2 hc) ?_
    refine wk_Hs 1 8 ⟨rfl, rfl⟩ (ls' := [.ref 45, .int x1, .int x2]) (st' := [.int (-1 : Int32)]) (σ' := s) rfl ?_
    cases h
    exact wk_eqz hk (wk_Hret rfl)
  · refine wk_H0f 7 3 rfl rfl (wk_nf wk_clt hc) ?_
    refine wk_Hs 3 6 ⟨rfl, rfl⟩ (ls' := [.ref 45, .int x1, .int x2]) (st' := [.int (240 : Int32), .int (s.1 45 8)]) (σ' := s) rfl ?_
    rcases wk_ife h with ⟨hc, h⟩ | ⟨hc, h⟩
    · refine wk_Hbt 9 rfl (wk_clt.2 hc) ?_
      refine wk_Hs 5 14 ⟨rfl, rfl⟩ (ls' := [.ref 45, .int x1, .int x2]) (st' := [.int x1, .int (s.1 45 8), .ref 50]) (σ' := s) rfl ?_
      obtain ⟨hg, h⟩ := wk_gdE h
      refine wk_Hias 15 rfl rfl rfl hg rfl ?_
      refine wk_Hs 5 20 ⟨rfl, rfl⟩ (ls' := [.ref 45, .int x1, .int x2]) (st' := [.int x2, .int ((wk_si s 50 ((s.1 45 8).toNatClampNeg) x1).1 45 8), .ref 51]) (σ' := (wk_si s 50 ((s.1 45 8).toNatClampNeg) x1)) rfl ?_
      obtain ⟨hg, h⟩ := wk_gdE h
      refine wk_Hias 21 rfl rfl rfl hg rfl ?_
      refine wk_Hs 10 31 ⟨rfl, rfl⟩ (ls' := [.ref 45, .int x1, .int x2]) (st' := [.int (((wk_si (wk_si (wk_si s 50 ((s.1 45 8).toNatClampNeg) x1) 51 (((wk_si s 50 ((s.1 45 8).toNatClampNeg) x1).1 45 8).toNatClampNeg) x2) 45 8 (((wk_si (wk_si s 50 ((s.1 45 8).toNatClampNeg) x1) 51 (((wk_si s 50 ((s.1 45 8).toNatClampNeg) x1).1 45 8).toNatClampNeg) x2).1 45 8) + (1 : Int32))).1 45 8) - (1 : Int32))]) (σ' := (wk_si (wk_si (wk_si s 50 ((s.1 45 8).toNatClampNeg) x1) 51 (((wk_si s 50 ((s.1 45 8).toNatClampNeg) x1).1 45 8).toNatClampNeg) x2) 45 8 (((wk_si (wk_si s 50 ((s.1 45 8).toNatClampNeg) x1) 51 (((wk_si s 50 ((s.1 45 8).toNatClampNeg) x1).1 45 8).toNatClampNeg) x2).1 45 8) + (1 : Int32)))) rfl ?_
      cases h
      exact wk_eqz hk (wk_Hret rfl)
    · refine wk_Hbf 9 7 rfl rfl (wk_nf wk_clt hc) ?_
      refine wk_Hs 1 8 ⟨rfl, rfl⟩ (ls' := [.ref 45, .int x1, .int x2]) (st' := [.int (-1 : Int32)]) (σ' := s) rfl ?_
      cases h
      exact wk_eqz hk (wk_Hret rfl)
set_option maxHeartbeats 4000000 in
set_option maxRecDepth 20000 in
theorem t_X4_skipToHere {x1 : Int32} {s : wk_St} {r : wk_St} (h : f_X4_skipToHere x1 s = some r) : wk_T wk_shC 0 200 [.ref 45, .int x1] s (none, r) := by
  suffices H : ∀ z, z = (none, r) → wk_H wk_shC 0 mc_X4_skipToHere 0 [.ref 45, .int x1] [] s z from H _ rfl
  intro z hk
  dsimp only [f_X4_skipToHere] at h
  refine wk_Hs 1 1 ⟨rfl, rfl⟩ (ls' := [.ref 45, .int x1]) (st' := [.int x1]) (σ' := s) rfl ?_
  rcases wk_ife h with ⟨hc, h⟩ | ⟨hc, h⟩
  · refine wk_H0t 11 rfl (wk_clt.2 hc) ?_
    cases h
    exact wk_eqz hk (wk_Hretv rfl)
  · refine wk_H0f 11 2 rfl rfl (wk_nf wk_clt hc) ?_
    refine wk_Hs 2 4 ⟨rfl, rfl⟩ (ls' := [.ref 45, .int x1]) (st' := [.int (240 : Int32), .int x1]) (σ' := s) rfl ?_
    rcases wk_ife h with ⟨hc, h⟩ | ⟨hc, h⟩
    · refine wk_Hbt 11 rfl (wk_cge.2 hc) ?_
      cases h
      exact wk_eqz hk (wk_Hretv rfl)
    · refine wk_Hbf 11 5 rfl rfl (wk_nf wk_cge hc) ?_
      refine wk_Hs 5 10 ⟨rfl, rfl⟩ (ls' := [.ref 45, .int x1]) (st' := [.int (s.1 45 8), .int x1, .ref 51]) (σ' := s) rfl ?_
      obtain ⟨hg, h⟩ := wk_gdE h
      refine wk_Hias 11 rfl rfl rfl hg rfl ?_
      cases h
      exact wk_eqz hk (wk_Hretv rfl)
set_option maxHeartbeats 4000000 in
set_option maxRecDepth 20000 in
theorem t_X5_open {x1 : Int32} {s : wk_St} {r : Bool × wk_St} (h : f_X5_open x1 s = r) : wk_T wk_shC 1 211 [.ref 34, .int x1] s (some (.int (b2i r.1)), r.2) := by
  suffices H : ∀ z, z = (some (.int (b2i r.1)), r.2) → wk_H wk_shC 1 mc_X5_open 0 [.ref 34, .int x1] [] s z from H _ rfl
  intro z hk
  dsimp only [f_X5_open] at h
  refine wk_Hs 2 2 ⟨rfl, rfl⟩ (ls' := [.ref 34, .int x1]) (st' := [.int (6 : Int32), .int x1]) (σ' := s) rfl ?_
  rcases wk_ife h with ⟨hc, h⟩ | ⟨hc, h⟩
  · refine wk_Hbt 9 rfl (wk_clt.2 hc) ?_
    refine wk_Hs 7 16 ⟨rfl, rfl⟩ (ls' := [.ref 34, .int x1]) (st' := [.int (1 : Int32)]) (σ' := (wk_si s 34 3 ((s.1 34 3) + (1 : Int32)))) rfl ?_
    cases h
    exact wk_eqz hk (wk_Hretz rfl (b2i_01 true))
  · refine wk_Hbf 9 3 rfl rfl (wk_nf wk_clt hc) ?_
    refine wk_Hs 4 7 ⟨rfl, rfl⟩ (ls' := [.ref 34, .int x1]) (st' := [.int (s.1 34 3), .int (5 : Int32), .ref 34]) (σ' := s) rfl ?_
    replace h := wk_letE h
    refine wk_Hcall (i2 := 8) (args := [.ref 34, .int (5 : Int32), .int (s.1 34 3)]) (rest := []) (r := some (.int (b2i ((f_X6_blame 34 (5 : Int32) (s.1 34 3) s).1)))) (σ1 := (f_X6_blame 34 (5 : Int32) (s.1 34 3) s).2) rfl rfl ⟨rfl, rfl, rfl, rfl, rfl⟩ rfl ((t_X6_blame_34 rfl).up (by decide)) ?_
    cases h
    exact wk_eqz hk (wk_Hretz rfl (b2i_01 _))
set_option maxHeartbeats 4000000 in
set_option maxRecDepth 20000 in
theorem tj_j_X4_letterOf_18 {w0 : Value} {s : wk_St} {z : wk_R} {o : Int32} (h : j_X4_letterOf_18 = o) (hk : z = (some (.int o), s)) : wk_H wk_shC 0 mc_X4_letterOf 18 [w0] [] s z := by
  dsimp only [j_X4_letterOf_18] at h
  refine wk_Hs 1 19 ⟨rfl, rfl⟩ (ls' := [w0]) (st' := [.int (-1 : Int32)]) (σ' := s) rfl ?_
  cases h
  exact wk_eqz hk (wk_Hret rfl)
set_option maxHeartbeats 4000000 in
set_option maxRecDepth 20000 in
theorem t_X4_letterOf {x0 : Int32} {s : wk_St} {r : Int32} (h : f_X4_letterOf x0 = r) : wk_T wk_shC 0 201 [.int x0] s (some (.int r), s) := by
  suffices H : ∀ z, z = (some (.int r), s) → wk_H wk_shC 0 mc_X4_letterOf 0 [.int x0] [] s z from H _ rfl
  intro z hk
  dsimp only [f_X4_letterOf] at h
  refine wk_Hs 1 1 ⟨rfl, rfl⟩ (ls' := [.int x0]) (st' := [.int x0]) (σ' := s) rfl ?_
  rcases wk_ife h with ⟨hc0, h⟩ | ⟨hc0, h⟩
  · refine wk_Hts (t := 10) rfl (wk_tswE hc0 (by decide)) ?_
    refine wk_Hs 1 11 ⟨rfl, rfl⟩ (ls' := [.int x0]) (st' := [.int (4 : Int32)]) (σ' := s) rfl ?_
    cases h
    exact wk_eqz hk (wk_Hret rfl)
  rcases wk_ife h with ⟨hc1, h⟩ | ⟨hc1, h⟩
  · refine wk_Hts (t := 8) rfl (wk_tswE hc1 (by decide)) ?_
    refine wk_Hs 1 9 ⟨rfl, rfl⟩ (ls' := [.int x0]) (st' := [.int (3 : Int32)]) (σ' := s) rfl ?_
    cases h
    exact wk_eqz hk (wk_Hret rfl)
  rcases wk_ife h with ⟨hc2, h⟩ | ⟨hc2, h⟩
  · refine wk_Hts (t := 2) rfl (wk_tswE hc2 (by decide)) ?_
    refine wk_Hs 1 3 ⟨rfl, rfl⟩ (ls' := [.int x0]) (st' := [.int (0 : Int32)]) (σ' := s) rfl ?_
    cases h
    exact wk_eqz hk (wk_Hret rfl)
  rcases wk_ife h with ⟨hc3, h⟩ | ⟨hc3, h⟩
  · refine wk_Hts (t := 6) rfl (wk_tswE hc3 (by decide)) ?_
    refine wk_Hs 1 7 ⟨rfl, rfl⟩ (ls' := [.int x0]) (st' := [.int (2 : Int32)]) (σ' := s) rfl ?_
    cases h
    exact wk_eqz hk (wk_Hret rfl)
  rcases wk_ife h with ⟨hc4, h⟩ | ⟨hc4, h⟩
  · refine wk_Hts (t := 12) rfl (wk_tswE hc4 (by decide)) ?_
    refine wk_Hs 1 13 ⟨rfl, rfl⟩ (ls' := [.int x0]) (st' := [.int (5 : Int32)]) (σ' := s) rfl ?_
    cases h
    exact wk_eqz hk (wk_Hret rfl)
  rcases wk_ife h with ⟨hc5, h⟩ | ⟨hc5, h⟩
  · refine wk_Hts (t := 4) rfl (wk_tswE hc5 (by decide)) ?_
    refine wk_Hs 1 5 ⟨rfl, rfl⟩ (ls' := [.int x0]) (st' := [.int (1 : Int32)]) (σ' := s) rfl ?_
    cases h
    exact wk_eqz hk (wk_Hret rfl)
  rcases wk_ife h with ⟨hc6, h⟩ | ⟨hc6, h⟩
  · refine wk_Hts (t := 16) rfl (wk_tswE hc6 (by decide)) ?_
    refine wk_Hs 1 17 ⟨rfl, rfl⟩ (ls' := [.int x0]) (st' := [.int (7 : Int32)]) (σ' := s) rfl ?_
    cases h
    exact wk_eqz hk (wk_Hret rfl)
  rcases wk_ife h with ⟨hc7, h⟩ | ⟨hc7, h⟩
  · refine wk_Hts (t := 14) rfl (wk_tswE hc7 (by decide)) ?_
    refine wk_Hs 1 15 ⟨rfl, rfl⟩ (ls' := [.int x0]) (st' := [.int (6 : Int32)]) (σ' := s) rfl ?_
    cases h
    exact wk_eqz hk (wk_Hret rfl)
  refine wk_Hts (t := 18) rfl (wk_tswD (L := [102, 106, 107, 110, 111, 112, 116, 119]) (by decide) (List.forall_mem_cons.2 ⟨wk_nt hc0 (by decide), (List.forall_mem_cons.2 ⟨wk_nt hc1 (by decide), (List.forall_mem_cons.2 ⟨wk_nt hc2 (by decide), (List.forall_mem_cons.2 ⟨wk_nt hc3 (by decide), (List.forall_mem_cons.2 ⟨wk_nt hc4 (by decide), (List.forall_mem_cons.2 ⟨wk_nt hc5 (by decide), (List.forall_mem_cons.2 ⟨wk_nt hc6 (by decide), (List.forall_mem_cons.2 ⟨wk_nt hc7 (by decide), (fun _ hq => absurd hq List.not_mem_nil)⟩)⟩)⟩)⟩)⟩)⟩)⟩)⟩)) ?_
  exact tj_j_X4_letterOf_18 h hk
set_option maxHeartbeats 4000000 in
set_option maxRecDepth 20000 in
theorem t_X6_isDigit {x0 : Int32} {s : wk_St} {r : Bool} (h : f_X6_isDigit x0 = r) : wk_T wk_shC 0 222 [.int x0] s (some (.int (b2i r)), s) := by
  suffices H : ∀ z, z = (some (.int (b2i r)), s) → wk_H wk_shC 0 mc_X6_isDigit 0 [.int x0] [] s z from H _ rfl
  intro z hk
  dsimp only [f_X6_isDigit] at h
  refine wk_Hs 2 2 ⟨rfl, rfl⟩ (ls' := [.int x0]) (st' := [.int (48 : Int32), .int x0]) (σ' := s) rfl ?_
  rcases wk_ife h with ⟨hc, h⟩ | ⟨hc, h⟩
  · refine wk_Hbt 8 rfl (wk_clt.2 hc) ?_
    refine wk_Hs 1 9 ⟨rfl, rfl⟩ (ls' := [.int x0]) (st' := [.int (0 : Int32)]) (σ' := s) rfl ?_
    cases h
    exact wk_eqz hk (wk_Hretz rfl (b2i_01 false))
  · refine wk_Hbf 8 3 rfl rfl (wk_nf wk_clt hc) ?_
    refine wk_Hs 2 5 ⟨rfl, rfl⟩ (ls' := [.int x0]) (st' := [.int (57 : Int32), .int x0]) (σ' := s) rfl ?_
    rcases wk_ife h with ⟨hc, h⟩ | ⟨hc, h⟩
    · refine wk_Hbt 8 rfl (wk_cgt.2 hc) ?_
      refine wk_Hs 1 9 ⟨rfl, rfl⟩ (ls' := [.int x0]) (st' := [.int (0 : Int32)]) (σ' := s) rfl ?_
      cases h
      exact wk_eqz hk (wk_Hretz rfl (b2i_01 false))
    · refine wk_Hbf 8 6 rfl rfl (wk_nf wk_cgt hc) ?_
      refine wk_Hs 1 7 ⟨rfl, rfl⟩ (ls' := [.int x0]) (st' := [.int (1 : Int32)]) (σ' := s) rfl ?_
      refine wk_Hgoto (t := 9) rfl ?_
      cases h
      exact wk_eqz hk (wk_Hretz rfl (b2i_01 true))
set_option maxHeartbeats 4000000 in
set_option maxRecDepth 20000 in
theorem ts_S_X6_readNumber_4_32 {x1 : Int32} {x2 : Int32} {x3 : Int32} {w4 : Value} {s : wk_St} {z : wk_R} {o : (Int32 × Int32 × wk_St) ⊕ (Int32 × Int32 × wk_St)} (h : S_X6_readNumber_4 32 x1 (x2, x3, s) = some o) (hk : match (generalizing := false) o with | Sum.inl a => (wk_H wk_shC 1 mc_X6_readNumber 28 [.ref 32, .int x1, .int a.1, .int a.2.1, w4] [] a.2.2 z) | Sum.inr y => wk_H wk_shC 1 mc_X6_readNumber 4 [.ref 32, .int x1, .int y.1, .int y.2.1, w4] [] y.2.2 z) : wk_H wk_shC 1 mc_X6_readNumber 4 [.ref 32, .int x1, .int x2, .int x3, w4] [] s z := by
  dsimp only [S_X6_readNumber_4] at h
  refine wk_Hs 2 6 ⟨rfl, rfl⟩ (ls' := [.ref 32, .int x1, .int x2, .int x3, w4]) (st' := [.int x1, .int x3]) (σ' := s) rfl ?_
  rcases wk_ife h with ⟨hc, h⟩ | ⟨hc, h⟩
  · refine wk_Hbt 28 rfl (wk_cge.2 hc) ?_
    cases h
    exact hk
  · refine wk_Hbf 28 7 rfl rfl (wk_nf wk_cge hc) ?_
    refine wk_Hs 1 8 ⟨rfl, rfl⟩ (ls' := [.ref 32, .int x1, .int x2, .int x3, w4]) (st' := [.ref 32]) (σ' := s) rfl ?_
    obtain ⟨v1, hv1, h⟩ := wk_bindE h
    refine wk_Hcall (i2 := 9) (args := [.ref 32]) (rest := []) (r := some (.int v1)) (σ1 := s) rfl rfl ⟨rfl, rfl, rfl, rfl, rfl⟩ rfl ((t_X6_sign_32 hv1).up (by decide)) ?_
    refine wk_Hcall (i2 := 10) (args := [.int v1]) (rest := []) (r := some (.int (b2i (f_X6_isDigit v1)))) (σ1 := s) rfl rfl ⟨rfl, rfl, rfl, rfl, rfl⟩ rfl ((t_X6_isDigit rfl).up (by decide)) ?_
    rcases wk_ife h with ⟨hc, h⟩ | ⟨hc, h⟩
    · refine wk_H0t 28 rfl (wk_zeq.2 hc) ?_
      cases h
      exact hk
    · refine wk_H0f 28 11 rfl rfl (wk_nf wk_zeq hc) ?_
      refine wk_Hs 4 15 ⟨rfl, rfl⟩ (ls' := [.ref 32, .int x1, .int x2, .int x3, w4]) (st' := [.ref 32, .int ((10 : Int32) * x2)]) (σ' := s) rfl ?_
      obtain ⟨v3, hv3, h⟩ := wk_bindE h
      refine wk_Hcall (i2 := 16) (args := [.ref 32]) (rest := [.int ((10 : Int32) * x2)]) (r := some (.int v3)) (σ1 := s) rfl rfl ⟨rfl, rfl, rfl, rfl, rfl⟩ rfl ((t_X6_sign_32 hv3).up (by decide)) ?_
      refine wk_Hs 3 19 ⟨rfl, rfl⟩ (ls' := [.ref 32, .int x1, .int x2, .int x3, w4]) (st' := [.int ((((10 : Int32) * x2) + v3) - (48 : Int32))]) (σ' := s) rfl ?_
      replace h := wk_letE h
      refine wk_Hs 8 27 ⟨rfl, rfl⟩ (ls' := [.ref 32, .int x1, .int ((((10 : Int32) * x2) + v3) - (48 : Int32)), .int (x3 + (1 : Int32)), w4]) (st' := []) (σ' := (wk_si s 32 3 ((s.1 32 3) + (1 : Int32)))) rfl ?_
      refine wk_Hgoto (t := 4) rfl ?_
      cases h
      exact hk
set_option maxHeartbeats 4000000 in
set_option maxRecDepth 20000 in
theorem tl_S_X6_readNumber_4_32 {x1 : Int32} {w4 : Value} {z : wk_R} (n : Nat) : ∀ {x2 : Int32} {x3 : Int32} {s : wk_St} {a : Int32 × Int32 × wk_St} (h : wk_loop (S_X6_readNumber_4 32 x1) n (x2, x3, s) = some a) (hk : wk_H wk_shC 1 mc_X6_readNumber 28 [.ref 32, .int x1, .int a.1, .int a.2.1, w4] [] a.2.2 z), wk_H wk_shC 1 mc_X6_readNumber 4 [.ref 32, .int x1, .int x2, .int x3, w4] [] s z := by
  induction n with
  | zero =>
    intros
    rename_i h _
    exact nomatch (show (none : Option _) = some _ from h)
  | succ n ih =>
    intros
    rename_i h hk
    obtain ⟨o, ho, h⟩ := wk_bindE (show Option.bind _ _ = some _ from h)
    refine ts_S_X6_readNumber_4_32 ho ?_
    cases o with
    | inl a1 =>
      cases h
      exact hk
    | inr p =>
      obtain ⟨p0, p1, p2⟩ := p
      exact ih h hk
set_option maxHeartbeats 4000000 in
set_option maxRecDepth 20000 in
theorem tj_j_X6_readNumber_36_32 {x4 : Int32} {w1 : Value} {w2 : Value} {w3 : Value} {s : wk_St} {z : wk_R} {o : Int32 × wk_St} (h : j_X6_readNumber_36 32 x4 s = some o) (hk : z = (some (.int o.1), o.2)) : wk_H wk_shC 1 mc_X6_readNumber 36 [.ref 32, w1, w2, w3, .int x4] [] s z := by
  dsimp only [j_X6_readNumber_36] at h
  refine wk_Hs 2 38 ⟨rfl, rfl⟩ (ls' := [.ref 32, w1, w2, w3, .int x4]) (st' := [.int x4, .ref 32]) (σ' := s) rfl ?_
  rcases wk_ife h with ⟨hc, h⟩ | ⟨hc, h⟩
  · refine wk_H0t 41 rfl (wk_ceq.2 hc) ?_
    refine wk_Hs 3 44 ⟨rfl, rfl⟩ (ls' := [.ref 32, w1, w2, w3, .int x4]) (st' := [.int (s.1 32 3), .int (1 : Int32), .ref 32]) (σ' := s) rfl ?_
    replace h := wk_letE h
    refine wk_Hcall (i2 := 45) (args := [.ref 32, .int (1 : Int32), .int (s.1 32 3)]) (rest := []) (r := some (.int (b2i ((f_X6_blame 32 (1 : Int32) (s.1 32 3) s).1)))) (σ1 := (f_X6_blame 32 (1 : Int32) (s.1 32 3) s).2) rfl rfl ⟨rfl, rfl, rfl, rfl, rfl⟩ rfl ((t_X6_blame_32 rfl).up (by decide)) ?_
    refine wk_Hs 2 47 ⟨rfl, rfl⟩ (ls' := [.ref 32, w1, w2, w3, .int x4]) (st' := [.int (-1 : Int32)]) (σ' := (f_X6_blame 32 (1 : Int32) (s.1 32 3) s).2) rfl ?_
    cases h
    exact wk_eqz hk (wk_Hret rfl)
  · refine wk_H0f 41 39 rfl rfl (wk_nf wk_ceq hc) ?_
    refine wk_Hs 1 40 ⟨rfl, rfl⟩ (ls' := [.ref 32, w1, w2, w3, .int x4]) (st' := [.int (2 : Int32), .ref 32]) (σ' := s) rfl ?_
    refine wk_Hgoto (t := 42) rfl ?_
    refine wk_Hs 2 44 ⟨rfl, rfl⟩ (ls' := [.ref 32, w1, w2, w3, .int x4]) (st' := [.int (s.1 32 3), .int (2 : Int32), .ref 32]) (σ' := s) rfl ?_
    replace h := wk_letE h
    refine wk_Hcall (i2 := 45) (args := [.ref 32, .int (2 : Int32), .int (s.1 32 3)]) (rest := []) (r := some (.int (b2i ((f_X6_blame 32 (2 : Int32) (s.1 32 3) s).1)))) (σ1 := (f_X6_blame 32 (2 : Int32) (s.1 32 3) s).2) rfl rfl ⟨rfl, rfl, rfl, rfl, rfl⟩ rfl ((t_X6_blame_32 rfl).up (by decide)) ?_
    refine wk_Hs 2 47 ⟨rfl, rfl⟩ (ls' := [.ref 32, w1, w2, w3, .int x4]) (st' := [.int (-1 : Int32)]) (σ' := (f_X6_blame 32 (2 : Int32) (s.1 32 3) s).2) rfl ?_
    cases h
    exact wk_eqz hk (wk_Hret rfl)
set_option maxHeartbeats 4000000 in
set_option maxRecDepth 20000 in
theorem t_X6_readNumber_32 {x1 : Int32} {s : wk_St} {r : Int32 × wk_St} (h : f_X6_readNumber 32 x1 s = some r) : wk_T wk_shC 1 221 [.ref 32, .int x1] s (some (.int r.1), r.2) := by
  suffices H : ∀ z, z = (some (.int r.1), r.2) → wk_H wk_shC 1 mc_X6_readNumber 0 [.ref 32, .int x1, wk_U, wk_U, wk_U] [] s z from H _ rfl
  intro z hk
  dsimp only [f_X6_readNumber] at h
  refine wk_Hs 4 4 ⟨rfl, rfl⟩ (ls' := [.ref 32, .int x1, .int (0 : Int32), .int (0 : Int32), wk_U]) (st' := []) (σ' := s) rfl ?_
  obtain ⟨v5, hv5, h⟩ := wk_bindE h
  refine tl_S_X6_readNumber_4_32 wk_F hv5 ?_
  refine wk_Hs 1 29 ⟨rfl, rfl⟩ (ls' := [.ref 32, .int x1, .int v5.1, .int v5.2.1, wk_U]) (st' := [.ref 32]) (σ' := v5.2.2) rfl ?_
  obtain ⟨v6, hv6, h⟩ := wk_bindE h
  refine wk_Hcall (i2 := 30) (args := [.ref 32]) (rest := []) (r := some (.int v6)) (σ1 := v5.2.2) rfl rfl ⟨rfl, rfl, rfl, rfl, rfl⟩ rfl ((t_X6_sign_32 hv6).up (by decide)) ?_
  refine wk_Hcall (i2 := 31) (args := [.int v6]) (rest := []) (r := some (.int (b2i (f_X6_isDigit v6)))) (σ1 := v5.2.2) rfl rfl ⟨rfl, rfl, rfl, rfl, rfl⟩ rfl ((t_X6_isDigit rfl).up (by decide)) ?_
  refine wk_Hs 2 33 ⟨rfl, rfl⟩ (ls' := [.ref 32, .int x1, .int v5.1, .int v5.2.1, .int (b2i (f_X6_isDigit v6))]) (st' := [.int (b2i (f_X6_isDigit v6))]) (σ' := v5.2.2) rfl ?_
  rcases wk_ife h with ⟨hc, h⟩ | ⟨hc, h⟩
  · refine wk_H0t 36 rfl (wk_zne.2 hc) ?_
    exact tj_j_X6_readNumber_36_32 h hk
  · refine wk_H0f 36 34 rfl rfl (wk_nf wk_zne hc) ?_
    refine wk_Hs 1 35 ⟨rfl, rfl⟩ (ls' := [.ref 32, .int x1, .int v5.1, .int v5.2.1, .int (b2i (f_X6_isDigit v6))]) (st' := [.int v5.2.1]) (σ' := v5.2.2) rfl ?_
    rcases wk_ife h with ⟨hc, h⟩ | ⟨hc, h⟩
    · refine wk_H0t 48 rfl (wk_cne.2 hc) ?_
      refine wk_Hs 1 49 ⟨rfl, rfl⟩ (ls' := [.ref 32, .int x1, .int v5.1, .int v5.2.1, .int (b2i (f_X6_isDigit v6))]) (st' := [.int v5.1]) (σ' := v5.2.2) rfl ?_
      cases h
      exact wk_eqz hk (wk_Hret rfl)
    · refine wk_H0f 48 36 rfl rfl (wk_nf wk_cne hc) ?_
      exact tj_j_X6_readNumber_36_32 h hk
set_option maxHeartbeats 4000000 in
set_option maxRecDepth 20000 in
theorem ts_S_X6_readNumber_4_34 {x1 : Int32} {x2 : Int32} {x3 : Int32} {w4 : Value} {s : wk_St} {z : wk_R} {o : (Int32 × Int32 × wk_St) ⊕ (Int32 × Int32 × wk_St)} (h : S_X6_readNumber_4 34 x1 (x2, x3, s) = some o) (hk : match (generalizing := false) o with | Sum.inl a => (wk_H wk_shC 1 mc_X6_readNumber 28 [.ref 34, .int x1, .int a.1, .int a.2.1, w4] [] a.2.2 z) | Sum.inr y => wk_H wk_shC 1 mc_X6_readNumber 4 [.ref 34, .int x1, .int y.1, .int y.2.1, w4] [] y.2.2 z) : wk_H wk_shC 1 mc_X6_readNumber 4 [.ref 34, .int x1, .int x2, .int x3, w4] [] s z := by
  dsimp only [S_X6_readNumber_4] at h
  refine wk_Hs 2 6 ⟨rfl, rfl⟩ (ls' := [.ref 34, .int x1, .int x2, .int x3, w4]) (st' := [.int x1, .int x3]) (σ' := s) rfl ?_
  rcases wk_ife h with ⟨hc, h⟩ | ⟨hc, h⟩
  · refine wk_Hbt 28 rfl (wk_cge.2 hc) ?_
    cases h
    exact hk
  · refine wk_Hbf 28 7 rfl rfl (wk_nf wk_cge hc) ?_
    refine wk_Hs 1 8 ⟨rfl, rfl⟩ (ls' := [.ref 34, .int x1, .int x2, .int x3, w4]) (st' := [.ref 34]) (σ' := s) rfl ?_
    obtain ⟨v1, hv1, h⟩ := wk_bindE h
    refine wk_Hcall (i2 := 9) (args := [.ref 34]) (rest := []) (r := some (.int v1)) (σ1 := s) rfl rfl ⟨rfl, rfl, rfl, rfl, rfl⟩ rfl ((t_X6_sign_34 hv1).up (by decide)) ?_
    refine wk_Hcall (i2 := 10) (args := [.int v1]) (rest := []) (r := some (.int (b2i (f_X6_isDigit v1)))) (σ1 := s) rfl rfl ⟨rfl, rfl, rfl, rfl, rfl⟩ rfl ((t_X6_isDigit rfl).up (by decide)) ?_
    rcases wk_ife h with ⟨hc, h⟩ | ⟨hc, h⟩
    · refine wk_H0t 28 rfl (wk_zeq.2 hc) ?_
      cases h
      exact hk
    · refine wk_H0f 28 11 rfl rfl (wk_nf wk_zeq hc) ?_
      refine wk_Hs 4 15 ⟨rfl, rfl⟩ (ls' := [.ref 34, .int x1, .int x2, .int x3, w4]) (st' := [.ref 34, .int ((10 : Int32) * x2)]) (σ' := s) rfl ?_
      obtain ⟨v3, hv3, h⟩ := wk_bindE h
      refine wk_Hcall (i2 := 16) (args := [.ref 34]) (rest := [.int ((10 : Int32) * x2)]) (r := some (.int v3)) (σ1 := s) rfl rfl ⟨rfl, rfl, rfl, rfl, rfl⟩ rfl ((t_X6_sign_34 hv3).up (by decide)) ?_
      refine wk_Hs 3 19 ⟨rfl, rfl⟩ (ls' := [.ref 34, .int x1, .int x2, .int x3, w4]) (st' := [.int ((((10 : Int32) * x2) + v3) - (48 : Int32))]) (σ' := s) rfl ?_
      replace h := wk_letE h
      refine wk_Hs 8 27 ⟨rfl, rfl⟩ (ls' := [.ref 34, .int x1, .int ((((10 : Int32) * x2) + v3) - (48 : Int32)), .int (x3 + (1 : Int32)), w4]) (st' := []) (σ' := (wk_si s 34 3 ((s.1 34 3) + (1 : Int32)))) rfl ?_
      refine wk_Hgoto (t := 4) rfl ?_
      cases h
      exact hk
set_option maxHeartbeats 4000000 in
set_option maxRecDepth 20000 in
theorem tl_S_X6_readNumber_4_34 {x1 : Int32} {w4 : Value} {z : wk_R} (n : Nat) : ∀ {x2 : Int32} {x3 : Int32} {s : wk_St} {a : Int32 × Int32 × wk_St} (h : wk_loop (S_X6_readNumber_4 34 x1) n (x2, x3, s) = some a) (hk : wk_H wk_shC 1 mc_X6_readNumber 28 [.ref 34, .int x1, .int a.1, .int a.2.1, w4] [] a.2.2 z), wk_H wk_shC 1 mc_X6_readNumber 4 [.ref 34, .int x1, .int x2, .int x3, w4] [] s z := by
  induction n with
  | zero =>
    intros
    rename_i h _
    exact nomatch (show (none : Option _) = some _ from h)
  | succ n ih =>
    intros
    rename_i h hk
    obtain ⟨o, ho, h⟩ := wk_bindE (show Option.bind _ _ = some _ from h)
    refine ts_S_X6_readNumber_4_34 ho ?_
    cases o with
    | inl a1 =>
      cases h
      exact hk
    | inr p =>
      obtain ⟨p0, p1, p2⟩ := p
      exact ih h hk
set_option maxHeartbeats 4000000 in
set_option maxRecDepth 20000 in
theorem tj_j_X6_readNumber_36_34 {x4 : Int32} {w1 : Value} {w2 : Value} {w3 : Value} {s : wk_St} {z : wk_R} {o : Int32 × wk_St} (h : j_X6_readNumber_36 34 x4 s = some o) (hk : z = (some (.int o.1), o.2)) : wk_H wk_shC 1 mc_X6_readNumber 36 [.ref 34, w1, w2, w3, .int x4] [] s z := by
  dsimp only [j_X6_readNumber_36] at h
  refine wk_Hs 2 38 ⟨rfl, rfl⟩ (ls' := [.ref 34, w1, w2, w3, .int x4]) (st' := [.int x4, .ref 34]) (σ' := s) rfl ?_
  rcases wk_ife h with ⟨hc, h⟩ | ⟨hc, h⟩
  · refine wk_H0t 41 rfl (wk_ceq.2 hc) ?_
    refine wk_Hs 3 44 ⟨rfl, rfl⟩ (ls' := [.ref 34, w1, w2, w3, .int x4]) (st' := [.int (s.1 34 3), .int (1 : Int32), .ref 34]) (σ' := s) rfl ?_
    replace h := wk_letE h
    refine wk_Hcall (i2 := 45) (args := [.ref 34, .int (1 : Int32), .int (s.1 34 3)]) (rest := []) (r := some (.int (b2i ((f_X6_blame 34 (1 : Int32) (s.1 34 3) s).1)))) (σ1 := (f_X6_blame 34 (1 : Int32) (s.1 34 3) s).2) rfl rfl ⟨rfl, rfl, rfl, rfl, rfl⟩ rfl ((t_X6_blame_34 rfl).up (by decide)) ?_
    refine wk_Hs 2 47 ⟨rfl, rfl⟩ (ls' := [.ref 34, w1, w2, w3, .int x4]) (st' := [.int (-1 : Int32)]) (σ' := (f_X6_blame 34 (1 : Int32) (s.1 34 3) s).2) rfl ?_
    cases h
    exact wk_eqz hk (wk_Hret rfl)
  · refine wk_H0f 41 39 rfl rfl (wk_nf wk_ceq hc) ?_
    refine wk_Hs 1 40 ⟨rfl, rfl⟩ (ls' := [.ref 34, w1, w2, w3, .int x4]) (st' := [.int (2 : Int32), .ref 34]) (σ' := s) rfl ?_
    refine wk_Hgoto (t := 42) rfl ?_
    refine wk_Hs 2 44 ⟨rfl, rfl⟩ (ls' := [.ref 34, w1, w2, w3, .int x4]) (st' := [.int (s.1 34 3), .int (2 : Int32), .ref 34]) (σ' := s) rfl ?_
    replace h := wk_letE h
    refine wk_Hcall (i2 := 45) (args := [.ref 34, .int (2 : Int32), .int (s.1 34 3)]) (rest := []) (r := some (.int (b2i ((f_X6_blame 34 (2 : Int32) (s.1 34 3) s).1)))) (σ1 := (f_X6_blame 34 (2 : Int32) (s.1 34 3) s).2) rfl rfl ⟨rfl, rfl, rfl, rfl, rfl⟩ rfl ((t_X6_blame_34 rfl).up (by decide)) ?_
    refine wk_Hs 2 47 ⟨rfl, rfl⟩ (ls' := [.ref 34, w1, w2, w3, .int x4]) (st' := [.int (-1 : Int32)]) (σ' := (f_X6_blame 34 (2 : Int32) (s.1 34 3) s).2) rfl ?_
    cases h
    exact wk_eqz hk (wk_Hret rfl)
set_option maxHeartbeats 4000000 in
set_option maxRecDepth 20000 in
theorem t_X6_readNumber_34 {x1 : Int32} {s : wk_St} {r : Int32 × wk_St} (h : f_X6_readNumber 34 x1 s = some r) : wk_T wk_shC 1 221 [.ref 34, .int x1] s (some (.int r.1), r.2) := by
  suffices H : ∀ z, z = (some (.int r.1), r.2) → wk_H wk_shC 1 mc_X6_readNumber 0 [.ref 34, .int x1, wk_U, wk_U, wk_U] [] s z from H _ rfl
  intro z hk
  dsimp only [f_X6_readNumber] at h
  refine wk_Hs 4 4 ⟨rfl, rfl⟩ (ls' := [.ref 34, .int x1, .int (0 : Int32), .int (0 : Int32), wk_U]) (st' := []) (σ' := s) rfl ?_
  obtain ⟨v5, hv5, h⟩ := wk_bindE h
  refine tl_S_X6_readNumber_4_34 wk_F hv5 ?_
  refine wk_Hs 1 29 ⟨rfl, rfl⟩ (ls' := [.ref 34, .int x1, .int v5.1, .int v5.2.1, wk_U]) (st' := [.ref 34]) (σ' := v5.2.2) rfl ?_
  obtain ⟨v6, hv6, h⟩ := wk_bindE h
  refine wk_Hcall (i2 := 30) (args := [.ref 34]) (rest := []) (r := some (.int v6)) (σ1 := v5.2.2) rfl rfl ⟨rfl, rfl, rfl, rfl, rfl⟩ rfl ((t_X6_sign_34 hv6).up (by decide)) ?_
  refine wk_Hcall (i2 := 31) (args := [.int v6]) (rest := []) (r := some (.int (b2i (f_X6_isDigit v6)))) (σ1 := v5.2.2) rfl rfl ⟨rfl, rfl, rfl, rfl, rfl⟩ rfl ((t_X6_isDigit rfl).up (by decide)) ?_
  refine wk_Hs 2 33 ⟨rfl, rfl⟩ (ls' := [.ref 34, .int x1, .int v5.1, .int v5.2.1, .int (b2i (f_X6_isDigit v6))]) (st' := [.int (b2i (f_X6_isDigit v6))]) (σ' := v5.2.2) rfl ?_
  rcases wk_ife h with ⟨hc, h⟩ | ⟨hc, h⟩
  · refine wk_H0t 36 rfl (wk_zne.2 hc) ?_
    exact tj_j_X6_readNumber_36_34 h hk
  · refine wk_H0f 36 34 rfl rfl (wk_nf wk_zne hc) ?_
    refine wk_Hs 1 35 ⟨rfl, rfl⟩ (ls' := [.ref 34, .int x1, .int v5.1, .int v5.2.1, .int (b2i (f_X6_isDigit v6))]) (st' := [.int v5.2.1]) (σ' := v5.2.2) rfl ?_
    rcases wk_ife h with ⟨hc, h⟩ | ⟨hc, h⟩
    · refine wk_H0t 48 rfl (wk_cne.2 hc) ?_
      refine wk_Hs 1 49 ⟨rfl, rfl⟩ (ls' := [.ref 34, .int x1, .int v5.1, .int v5.2.1, .int (b2i (f_X6_isDigit v6))]) (st' := [.int v5.1]) (σ' := v5.2.2) rfl ?_
      cases h
      exact wk_eqz hk (wk_Hret rfl)
    · refine wk_H0f 48 36 rfl rfl (wk_nf wk_cne hc) ?_
      exact tj_j_X6_readNumber_36_34 h hk
set_option maxHeartbeats 4000000 in
set_option maxRecDepth 20000 in
theorem tb_X5_readFactor {d0 : Nat} (hd : 1 ≤ d0) {F_X5_readSum : Int32 → wk_St → Option (Bool × wk_St)} (HF_X5_readSum : ∀ {a0 : Int32} {s : wk_St} {r : Bool × wk_St}, F_X5_readSum a0 s = some r → wk_T wk_shC d0 214 [.ref 34, .ref 45, .int a0] s (some (.int (b2i r.1)), r.2)) {F_X5_readFactor : Int32 → wk_St → Option (Bool × wk_St)} (HF_X5_readFactor : ∀ {a0 : Int32} {s : wk_St} {r : Bool × wk_St}, F_X5_readFactor a0 s = some r → wk_T wk_shC d0 215 [.ref 34, .ref 45, .int a0] s (some (.int (b2i r.1)), r.2)) {x2 : Int32} {s : wk_St} {r : Bool × wk_St} (h : b_X5_readFactor F_X5_readSum F_X5_readFactor x2 s = some r) : wk_T wk_shC (d0 + 1) 215 [.ref 34, .ref 45, .int x2] s (some (.int (b2i r.1)), r.2) := by
  suffices H : ∀ z, z = (some (.int (b2i r.1)), r.2) → wk_H wk_shC (d0 + 1) mc_X5_readFactor 0 [.ref 34, .ref 45, .int x2, wk_U, wk_U] [] s z from H _ rfl
  intro z hk
  dsimp only [b_X5_readFactor] at h
  refine wk_Hs 1 1 ⟨rfl, rfl⟩ (ls' := [.ref 34, .ref 45, .int x2, wk_U, wk_U]) (st' := [.ref 34]) (σ' := s) rfl ?_
  obtain ⟨v1, hv1, h⟩ := wk_bindE h
  refine wk_Hcall (i2 := 2) (args := [.ref 34]) (rest := []) (r := some (.int v1)) (σ1 := s) rfl rfl ⟨rfl, rfl, rfl, rfl, rfl⟩ rfl ((t_X6_sign_34 hv1).up (by omega)) ?_
  refine wk_Hs 3 5 ⟨rfl, rfl⟩ (ls' := [.ref 34, .ref 45, .int x2, .int v1, wk_U]) (st' := [.int (91 : Int32), .int v1]) (σ' := s) rfl ?_
  rcases wk_ife h with ⟨hc, h⟩ | ⟨hc, h⟩
  · refine wk_Hbt 25 rfl (wk_cne.2 hc) ?_
    refine wk_Hs 1 26 ⟨rfl, rfl⟩ (ls' := [.ref 34, .ref 45, .int x2, .int v1, wk_U]) (st' := [.int v1]) (σ' := s) rfl ?_
    refine wk_Hcall (i2 := 27) (args := [.int v1]) (rest := []) (r := some (.int (b2i (f_X6_isDigit v1)))) (σ1 := s) rfl rfl ⟨rfl, rfl, rfl, rfl, rfl⟩ rfl ((t_X6_isDigit rfl).up (by omega)) ?_
    rcases wk_ife h with ⟨hc, h⟩ | ⟨hc, h⟩
    · refine wk_H0t 44 rfl (wk_zeq.2 hc) ?_
      refine wk_Hs 1 45 ⟨rfl, rfl⟩ (ls' := [.ref 34, .ref 45, .int x2, .int v1, wk_U]) (st' := [.int v1]) (σ' := s) rfl ?_
      refine wk_Hcall (i2 := 46) (args := [.int v1]) (rest := []) (r := some (.int (f_X4_letterOf v1))) (σ1 := s) rfl rfl ⟨rfl, rfl, rfl, rfl, rfl⟩ rfl ((t_X4_letterOf rfl).up (by omega)) ?_
      replace h := wk_letE h
      refine wk_Hs 3 49 ⟨rfl, rfl⟩ (ls' := [.ref 34, .ref 45, .int x2, .int v1, .int (f_X4_letterOf v1)]) (st' := [.int (-1 : Int32), .int (f_X4_letterOf v1)]) (σ' := s) rfl ?_
      rcases wk_ife h with ⟨hc, h⟩ | ⟨hc, h⟩
      · refine wk_Hbt 56 rfl (wk_cne.2 hc) ?_
        refine wk_Hs 3 59 ⟨rfl, rfl⟩ (ls' := [.ref 34, .ref 45, .int x2, .int v1, .int (f_X4_letterOf v1)]) (st' := [.int (f_X4_letterOf v1), .int (97 : Int32), .ref 45]) (σ' := s) rfl ?_
        obtain ⟨v5, hv5, h⟩ := wk_bindE h
        refine wk_Hcall (i2 := 60) (args := [.ref 45, .int (97 : Int32), .int (f_X4_letterOf v1)]) (rest := []) (r := some (.int v5.1)) (σ1 := v5.2) rfl rfl ⟨rfl, rfl, rfl, rfl, rfl⟩ rfl ((t_X4_put hv5).up (by omega)) ?_
        refine wk_Hs 8 68 ⟨rfl, rfl⟩ (ls' := [.ref 34, .ref 45, .int x2, .int v1, .int (f_X4_letterOf v1)]) (st' := [.int (1 : Int32)]) (σ' := (wk_si v5.2 34 3 ((v5.2.1 34 3) + (1 : Int32)))) rfl ?_
        cases h
        exact wk_eqz hk (wk_Hretz rfl (b2i_01 true))
      · refine wk_Hbf 56 50 rfl rfl (wk_nf wk_cne hc) ?_
        refine wk_Hs 4 54 ⟨rfl, rfl⟩ (ls' := [.ref 34, .ref 45, .int x2, .int v1, .int (f_X4_letterOf v1)]) (st' := [.int (s.1 34 3), .int (1 : Int32), .ref 34]) (σ' := s) rfl ?_
        replace h := wk_letE h
        refine wk_Hcall (i2 := 55) (args := [.ref 34, .int (1 : Int32), .int (s.1 34 3)]) (rest := []) (r := some (.int (b2i ((f_X6_blame 34 (1 : Int32) (s.1 34 3) s).1)))) (σ1 := (f_X6_blame 34 (1 : Int32) (s.1 34 3) s).2) rfl rfl ⟨rfl, rfl, rfl, rfl, rfl⟩ rfl ((t_X6_blame_34 rfl).up (by omega)) ?_
        cases h
        exact wk_eqz hk (wk_Hretz rfl (b2i_01 _))
    · refine wk_H0f 44 28 rfl rfl (wk_nf wk_zeq hc) ?_
      refine wk_Hs 2 30 ⟨rfl, rfl⟩ (ls' := [.ref 34, .ref 45, .int x2, .int v1, wk_U]) (st' := [.int (5 : Int32), .ref 34]) (σ' := s) rfl ?_
      obtain ⟨v7, hv7, h⟩ := wk_bindE h
      refine wk_Hcall (i2 := 31) (args := [.ref 34, .int (5 : Int32)]) (rest := []) (r := some (.int v7.1)) (σ1 := v7.2) rfl rfl ⟨rfl, rfl, rfl, rfl, rfl⟩ rfl ((t_X6_readNumber_34 hv7).up (by omega)) ?_
      refine wk_Hs 4 35 ⟨rfl, rfl⟩ (ls' := [.ref 34, .ref 45, .int x2, .int v1, .int v7.1]) (st' := [.int v7.1, .int (48 : Int32), .ref 45]) (σ' := v7.2) rfl ?_
      obtain ⟨v8, hv8, h⟩ := wk_bindE h
      refine wk_Hcall (i2 := 36) (args := [.ref 45, .int (48 : Int32), .int v7.1]) (rest := []) (r := some (.int v8.1)) (σ1 := v8.2) rfl rfl ⟨rfl, rfl, rfl, rfl, rfl⟩ rfl ((t_X4_put hv8).up (by omega)) ?_
      refine wk_Hs 3 39 ⟨rfl, rfl⟩ (ls' := [.ref 34, .ref 45, .int x2, .int v1, .int v7.1]) (st' := [.int (-1 : Int32), .int v7.1]) (σ' := v8.2) rfl ?_
      rcases wk_ife h with ⟨hc, h⟩ | ⟨hc, h⟩
      · refine wk_Hbt 42 rfl (wk_ceq.2 hc) ?_
        refine wk_Hs 1 43 ⟨rfl, rfl⟩ (ls' := [.ref 34, .ref 45, .int x2, .int v1, .int v7.1]) (st' := [.int (0 : Int32)]) (σ' := v8.2) rfl ?_
        cases h
        exact wk_eqz hk (wk_Hretz rfl (b2i_01 false))
      · refine wk_Hbf 42 40 rfl rfl (wk_nf wk_ceq hc) ?_
        refine wk_Hs 1 41 ⟨rfl, rfl⟩ (ls' := [.ref 34, .ref 45, .int x2, .int v1, .int v7.1]) (st' := [.int (1 : Int32)]) (σ' := v8.2) rfl ?_
        refine wk_Hgoto (t := 43) rfl ?_
        cases h
        exact wk_eqz hk (wk_Hretz rfl (b2i_01 true))
  · refine wk_Hbf 25 6 rfl rfl (wk_nf wk_cne hc) ?_
    refine wk_Hs 2 8 ⟨rfl, rfl⟩ (ls' := [.ref 34, .ref 45, .int x2, .int v1, wk_U]) (st' := [.int x2, .ref 34]) (σ' := s) rfl ?_
    replace h := wk_letE h
    refine wk_Hcall (i2 := 9) (args := [.ref 34, .int x2]) (rest := []) (r := some (.int (b2i ((f_X5_open x2 s).1)))) (σ1 := (f_X5_open x2 s).2) rfl rfl ⟨rfl, rfl, rfl, rfl, rfl⟩ rfl ((t_X5_open rfl).up (by omega)) ?_
    rcases wk_ife h with ⟨hc, h⟩ | ⟨hc, h⟩
    · refine wk_H0t 23 rfl (wk_zeq.2 hc) ?_
      refine wk_Hs 1 24 ⟨rfl, rfl⟩ (ls' := [.ref 34, .ref 45, .int x2, .int v1, wk_U]) (st' := [.int (0 : Int32)]) (σ' := (f_X5_open x2 s).2) rfl ?_
      cases h
      exact wk_eqz hk (wk_Hretz rfl (b2i_01 false))
    · refine wk_H0f 23 10 rfl rfl (wk_nf wk_zeq hc) ?_
      refine wk_Hs 5 15 ⟨rfl, rfl⟩ (ls' := [.ref 34, .ref 45, .int x2, .int v1, wk_U]) (st' := [.int (x2 + (1 : Int32)), .ref 45, .ref 34]) (σ' := (f_X5_open x2 s).2) rfl ?_
      obtain ⟨v10, hv10, h⟩ := wk_bindE h
      refine wk_Hcall (i2 := 16) (args := [.ref 34, .ref 45, .int (x2 + (1 : Int32))]) (rest := []) (r := some (.int (b2i v10.1))) (σ1 := v10.2) rfl rfl ⟨rfl, rfl, rfl, rfl, rfl⟩ rfl (HF_X5_readSum hv10) ?_
      rcases wk_ife h with ⟨hc, h⟩ | ⟨hc, h⟩
      · refine wk_H0t 23 rfl (wk_zeq.2 hc) ?_
        refine wk_Hs 1 24 ⟨rfl, rfl⟩ (ls' := [.ref 34, .ref 45, .int x2, .int v1, wk_U]) (st' := [.int (0 : Int32)]) (σ' := v10.2) rfl ?_
        cases h
        exact wk_eqz hk (wk_Hretz rfl (b2i_01 false))
      · refine wk_H0f 23 17 rfl rfl (wk_nf wk_zeq hc) ?_
        refine wk_Hs 2 19 ⟨rfl, rfl⟩ (ls' := [.ref 34, .ref 45, .int x2, .int v1, wk_U]) (st' := [.int (93 : Int32), .ref 34]) (σ' := v10.2) rfl ?_
        obtain ⟨v11, hv11, h⟩ := wk_bindE h
        refine wk_Hcall (i2 := 20) (args := [.ref 34, .int (93 : Int32)]) (rest := []) (r := some (.int (b2i v11.1))) (σ1 := v11.2) rfl rfl ⟨rfl, rfl, rfl, rfl, rfl⟩ rfl ((t_X6_pass_34 hv11).up (by omega)) ?_
        rcases wk_ife h with ⟨hc, h⟩ | ⟨hc, h⟩
        · refine wk_H0t 23 rfl (wk_zeq.2 hc) ?_
          refine wk_Hs 1 24 ⟨rfl, rfl⟩ (ls' := [.ref 34, .ref 45, .int x2, .int v1, wk_U]) (st' := [.int (0 : Int32)]) (σ' := v11.2) rfl ?_
          cases h
          exact wk_eqz hk (wk_Hretz rfl (b2i_01 false))
        · refine wk_H0f 23 21 rfl rfl (wk_nf wk_zeq hc) ?_
          refine wk_Hs 1 22 ⟨rfl, rfl⟩ (ls' := [.ref 34, .ref 45, .int x2, .int v1, wk_U]) (st' := [.int (1 : Int32)]) (σ' := v11.2) rfl ?_
          refine wk_Hgoto (t := 24) rfl ?_
          cases h
          exact wk_eqz hk (wk_Hretz rfl (b2i_01 true))
set_option maxHeartbeats 4000000 in
set_option maxRecDepth 20000 in
theorem tj_j_X5_readSum_48_l6 {d0 : Nat} (hd : 1 ≤ d0) {F_X5_readSum : Int32 → wk_St → Option (Bool × wk_St)} (HF_X5_readSum : ∀ {a0 : Int32} {s : wk_St} {r : Bool × wk_St}, F_X5_readSum a0 s = some r → wk_T wk_shC d0 214 [.ref 34, .ref 45, .int a0] s (some (.int (b2i r.1)), r.2)) {F_X5_readFactor : Int32 → wk_St → Option (Bool × wk_St)} (HF_X5_readFactor : ∀ {a0 : Int32} {s : wk_St} {r : Bool × wk_St}, F_X5_readFactor a0 s = some r → wk_T wk_shC d0 215 [.ref 34, .ref 45, .int a0] s (some (.int (b2i r.1)), r.2)) {x2 : Int32} {x3 : Int32} {x5 : Int32} {x6 : Int32} {w4 : Value} {s : wk_St} {z : wk_R} {o : ((Bool × wk_St) ⊕ (wk_St)) ⊕ (Int32 × Int32 × Int32 × wk_St)} (h : j_X5_readSum_48_l6 F_X5_readSum F_X5_readFactor x2 x3 x5 x6 s = some o) (hk : match (generalizing := false) o with | Sum.inl a => (match (generalizing := false) a with | Sum.inl r => z = (some (.int (b2i r.1)), r.2) | Sum.inr y => ∀ (u3 u4 u5 u6 : Value), wk_H wk_shC (d0 + 1) mc_X5_readSum 66 [.ref 34, .ref 45, .int x2, u3, u4, u5, u6] [] y z) | Sum.inr y => ∀ (u6 : Value), wk_H wk_shC (d0 + 1) mc_X5_readSum 6 [.ref 34, .ref 45, .int x2, .int y.1, .int y.2.1, .int y.2.2.1, u6] [] y.2.2.2 z) : wk_H wk_shC (d0 + 1) mc_X5_readSum 48 [.ref 34, .ref 45, .int x2, .int x3, w4, .int x5, .int x6] [] s z := by
  dsimp only [j_X5_readSum_48_l6] at h
  refine wk_Hs 2 50 ⟨rfl, rfl⟩ (ls' := [.ref 34, .ref 45, .int x2, .int x3, w4, .int x5, .int x6]) (st' := [.int (43 : Int32), .int x6]) (σ' := s) rfl ?_
  rcases wk_ife h with ⟨hc, h⟩ | ⟨hc, h⟩
  · refine wk_Hbt 56 rfl (wk_ceq.2 hc) ?_
    refine wk_Hs 9 65 ⟨rfl, rfl⟩ (ls' := [.ref 34, .ref 45, .int x2, .int x3, .int x6, .int (x5 + (1 : Int32)), .int x6]) (st' := []) (σ' := (wk_si s 34 3 ((s.1 34 3) + (1 : Int32)))) rfl ?_
    refine wk_Hgoto (t := 6) rfl ?_
    cases h
    exact hk _
  · refine wk_Hbf 56 51 rfl rfl (wk_nf wk_ceq hc) ?_
    refine wk_Hs 2 53 ⟨rfl, rfl⟩ (ls' := [.ref 34, .ref 45, .int x2, .int x3, w4, .int x5, .int x6]) (st' := [.int (45 : Int32), .int x6]) (σ' := s) rfl ?_
    rcases wk_ife h with ⟨hc, h⟩ | ⟨hc, h⟩
    · refine wk_Hbt 56 rfl (wk_ceq.2 hc) ?_
      refine wk_Hs 9 65 ⟨rfl, rfl⟩ (ls' := [.ref 34, .ref 45, .int x2, .int x3, .int x6, .int (x5 + (1 : Int32)), .int x6]) (st' := []) (σ' := (wk_si s 34 3 ((s.1 34 3) + (1 : Int32)))) rfl ?_
      refine wk_Hgoto (t := 6) rfl ?_
      cases h
      exact hk _
    · refine wk_Hbf 56 54 rfl rfl (wk_nf wk_ceq hc) ?_
      refine wk_Hs 1 55 ⟨rfl, rfl⟩ (ls' := [.ref 34, .ref 45, .int x2, .int x3, w4, .int x5, .int x6]) (st' := [.int (1 : Int32)]) (σ' := s) rfl ?_
      cases h
      exact wk_eqz hk (wk_Hretz rfl (b2i_01 true))
set_option maxHeartbeats 4000000 in
set_option maxRecDepth 20000 in
theorem tj_j_X5_readSum_38_l6 {d0 : Nat} (hd : 1 ≤ d0) {F_X5_readSum : Int32 → wk_St → Option (Bool × wk_St)} (HF_X5_readSum : ∀ {a0 : Int32} {s : wk_St} {r : Bool × wk_St}, F_X5_readSum a0 s = some r → wk_T wk_shC d0 214 [.ref 34, .ref 45, .int a0] s (some (.int (b2i r.1)), r.2)) {F_X5_readFactor : Int32 → wk_St → Option (Bool × wk_St)} (HF_X5_readFactor : ∀ {a0 : Int32} {s : wk_St} {r : Bool × wk_St}, F_X5_readFactor a0 s = some r → wk_T wk_shC d0 215 [.ref 34, .ref 45, .int a0] s (some (.int (b2i r.1)), r.2)) {x2 : Int32} {x4 : Int32} {x5 : Int32} {x6 : Int32} {s_0 : Int32} {w3 : Value} {s : wk_St} {z : wk_R} {o : ((Bool × wk_St) ⊕ (wk_St)) ⊕ (Int32 × Int32 × Int32 × wk_St)} (h : j_X5_readSum_38_l6 F_X5_readSum F_X5_readFactor x2 x4 x5 x6 s_0 s = some o) (hk : match (generalizing := false) o with | Sum.inl a => (match (generalizing := false) a with | Sum.inl r => z = (some (.int (b2i r.1)), r.2) | Sum.inr y => ∀ (u3 u4 u5 u6 : Value), wk_H wk_shC (d0 + 1) mc_X5_readSum 66 [.ref 34, .ref 45, .int x2, u3, u4, u5, u6] [] y z) | Sum.inr y => ∀ (u6 : Value), wk_H wk_shC (d0 + 1) mc_X5_readSum 6 [.ref 34, .ref 45, .int x2, .int y.1, .int y.2.1, .int y.2.2.1, u6] [] y.2.2.2 z) : wk_H wk_shC (d0 + 1) mc_X5_readSum 38 [.ref 34, .ref 45, .int x2, w3, .int x4, .int x5, .int x6] [.int s_0] s z := by
  dsimp only [j_X5_readSum_38_l6] at h
  refine wk_Hs 2 40 ⟨rfl, rfl⟩ (ls' := [.ref 34, .ref 45, .int x2, .int s_0, .int x4, .int x5, .int x6]) (st' := [.int s_0]) (σ' := s) rfl ?_
  rcases wk_ife h with ⟨hc, h⟩ | ⟨hc, h⟩
  · refine wk_H0t 58 rfl (wk_cne.2 hc) ?_
    refine wk_Hs 7 65 ⟨rfl, rfl⟩ (ls' := [.ref 34, .ref 45, .int x2, .int s_0, .int x4, .int (x5 + (1 : Int32)), .int x6]) (st' := []) (σ' := (wk_si s 34 3 ((s.1 34 3) + (1 : Int32)))) rfl ?_
    refine wk_Hgoto (t := 6) rfl ?_
    cases h
    exact hk _
  · refine wk_H0f 58 41 rfl rfl (wk_nf wk_cne hc) ?_
    refine wk_Hs 1 42 ⟨rfl, rfl⟩ (ls' := [.ref 34, .ref 45, .int x2, .int s_0, .int x4, .int x5, .int x6]) (st' := [.int x4]) (σ' := s) rfl ?_
    rcases wk_ife h with ⟨hc, h⟩ | ⟨hc, h⟩
    · refine wk_H0t 48 rfl (wk_ceq.2 hc) ?_
      exact tj_j_X5_readSum_48_l6 hd HF_X5_readSum HF_X5_readFactor h hk
    · refine wk_H0f 48 43 rfl rfl (wk_nf wk_ceq hc) ?_
      refine wk_Hs 3 46 ⟨rfl, rfl⟩ (ls' := [.ref 34, .ref 45, .int x2, .int s_0, .int x4, .int x5, .int x6]) (st' := [.int (0 : Int32), .int x4, .ref 45]) (σ' := s) rfl ?_
      obtain ⟨v3, hv3, h⟩ := wk_bindE h
      refine wk_Hcall (i2 := 47) (args := [.ref 45, .int x4, .int (0 : Int32)]) (rest := []) (r := some (.int v3.1)) (σ1 := v3.2) rfl rfl ⟨rfl, rfl, rfl, rfl, rfl⟩ rfl ((t_X4_put hv3).up (by omega)) ?_
      refine wk_Hs 1 48 ⟨rfl, rfl⟩ (ls' := [.ref 34, .ref 45, .int x2, .int s_0, .int x4, .int x5, .int x6]) (st' := []) (σ' := v3.2) rfl ?_
      exact tj_j_X5_readSum_48_l6 hd HF_X5_readSum HF_X5_readFactor h hk
set_option maxHeartbeats 4000000 in
set_option maxRecDepth 20000 in
theorem tj_j_X5_readSum_23_l6 {d0 : Nat} (hd : 1 ≤ d0) {F_X5_readSum : Int32 → wk_St → Option (Bool × wk_St)} (HF_X5_readSum : ∀ {a0 : Int32} {s : wk_St} {r : Bool × wk_St}, F_X5_readSum a0 s = some r → wk_T wk_shC d0 214 [.ref 34, .ref 45, .int a0] s (some (.int (b2i r.1)), r.2)) {F_X5_readFactor : Int32 → wk_St → Option (Bool × wk_St)} (HF_X5_readFactor : ∀ {a0 : Int32} {s : wk_St} {r : Bool × wk_St}, F_X5_readFactor a0 s = some r → wk_T wk_shC d0 215 [.ref 34, .ref 45, .int a0] s (some (.int (b2i r.1)), r.2)) {x2 : Int32} {x4 : Int32} {x5 : Int32} {w3 : Value} {w6 : Value} {s : wk_St} {z : wk_R} {o : ((Bool × wk_St) ⊕ (wk_St)) ⊕ (Int32 × Int32 × Int32 × wk_St)} (h : j_X5_readSum_23_l6 F_X5_readSum F_X5_readFactor x2 x4 x5 s = some o) (hk : match (generalizing := false) o with | Sum.inl a => (match (generalizing := false) a with | Sum.inl r => z = (some (.int (b2i r.1)), r.2) | Sum.inr y => ∀ (u3 u4 u5 u6 : Value), wk_H wk_shC (d0 + 1) mc_X5_readSum 66 [.ref 34, .ref 45, .int x2, u3, u4, u5, u6] [] y z) | Sum.inr y => ∀ (u6 : Value), wk_H wk_shC (d0 + 1) mc_X5_readSum 6 [.ref 34, .ref 45, .int x2, .int y.1, .int y.2.1, .int y.2.2.1, u6] [] y.2.2.2 z) : wk_H wk_shC (d0 + 1) mc_X5_readSum 23 [.ref 34, .ref 45, .int x2, w3, .int x4, .int x5, w6] [] s z := by
  dsimp only [j_X5_readSum_23_l6] at h
  refine wk_Hs 1 24 ⟨rfl, rfl⟩ (ls' := [.ref 34, .ref 45, .int x2, w3, .int x4, .int x5, w6]) (st' := [.ref 34]) (σ' := s) rfl ?_
  obtain ⟨v2, hv2, h⟩ := wk_bindE h
  refine wk_Hcall (i2 := 25) (args := [.ref 34]) (rest := []) (r := some (.int v2)) (σ1 := s) rfl rfl ⟨rfl, rfl, rfl, rfl, rfl⟩ rfl ((t_X6_sign_34 hv2).up (by omega)) ?_
  refine wk_Hs 3 28 ⟨rfl, rfl⟩ (ls' := [.ref 34, .ref 45, .int x2, w3, .int x4, .int x5, .int v2]) (st' := [.int (42 : Int32), .int v2]) (σ' := s) rfl ?_
  rcases wk_ife h with ⟨hc, h⟩ | ⟨hc, h⟩
  · refine wk_Hbt 35 rfl (wk_ceq.2 hc) ?_
    refine wk_Hs 1 36 ⟨rfl, rfl⟩ (ls' := [.ref 34, .ref 45, .int x2, w3, .int x4, .int x5, .int v2]) (st' := [.int v2]) (σ' := s) rfl ?_
    refine wk_Hgoto (t := 38) rfl ?_
    exact tj_j_X5_readSum_38_l6 hd HF_X5_readSum HF_X5_readFactor h hk
  · refine wk_Hbf 35 29 rfl rfl (wk_nf wk_ceq hc) ?_
    refine wk_Hs 2 31 ⟨rfl, rfl⟩ (ls' := [.ref 34, .ref 45, .int x2, w3, .int x4, .int x5, .int v2]) (st' := [.int (47 : Int32), .int v2]) (σ' := s) rfl ?_
    rcases wk_ife h with ⟨hc, h⟩ | ⟨hc, h⟩
    · refine wk_Hbt 35 rfl (wk_ceq.2 hc) ?_
      refine wk_Hs 1 36 ⟨rfl, rfl⟩ (ls' := [.ref 34, .ref 45, .int x2, w3, .int x4, .int x5, .int v2]) (st' := [.int v2]) (σ' := s) rfl ?_
      refine wk_Hgoto (t := 38) rfl ?_
      exact tj_j_X5_readSum_38_l6 hd HF_X5_readSum HF_X5_readFactor h hk
    · refine wk_Hbf 35 32 rfl rfl (wk_nf wk_ceq hc) ?_
      refine wk_Hs 2 34 ⟨rfl, rfl⟩ (ls' := [.ref 34, .ref 45, .int x2, w3, .int x4, .int x5, .int v2]) (st' := [.int (37 : Int32), .int v2]) (σ' := s) rfl ?_
      rcases wk_ife h with ⟨hc, h⟩ | ⟨hc, h⟩
      · refine wk_Hbt 37 rfl (wk_cne.2 hc) ?_
        refine wk_Hs 1 38 ⟨rfl, rfl⟩ (ls' := [.ref 34, .ref 45, .int x2, w3, .int x4, .int x5, .int v2]) (st' := [.int (0 : Int32)]) (σ' := s) rfl ?_
        exact tj_j_X5_readSum_38_l6 hd HF_X5_readSum HF_X5_readFactor h hk
      · refine wk_Hbf 37 35 rfl rfl (wk_nf wk_cne hc) ?_
        refine wk_Hs 1 36 ⟨rfl, rfl⟩ (ls' := [.ref 34, .ref 45, .int x2, w3, .int x4, .int x5, .int v2]) (st' := [.int v2]) (σ' := s) rfl ?_
        refine wk_Hgoto (t := 38) rfl ?_
        exact tj_j_X5_readSum_38_l6 hd HF_X5_readSum HF_X5_readFactor h hk
set_option maxHeartbeats 4000000 in
set_option maxRecDepth 20000 in
theorem ts_S_X5_readSum_6 {d0 : Nat} (hd : 1 ≤ d0) {F_X5_readSum : Int32 → wk_St → Option (Bool × wk_St)} (HF_X5_readSum : ∀ {a0 : Int32} {s : wk_St} {r : Bool × wk_St}, F_X5_readSum a0 s = some r → wk_T wk_shC d0 214 [.ref 34, .ref 45, .int a0] s (some (.int (b2i r.1)), r.2)) {F_X5_readFactor : Int32 → wk_St → Option (Bool × wk_St)} (HF_X5_readFactor : ∀ {a0 : Int32} {s : wk_St} {r : Bool × wk_St}, F_X5_readFactor a0 s = some r → wk_T wk_shC d0 215 [.ref 34, .ref 45, .int a0] s (some (.int (b2i r.1)), r.2)) {x2 : Int32} {x3 : Int32} {x4 : Int32} {x5 : Int32} {w6 : Value} {s : wk_St} {z : wk_R} {o : ((Bool × wk_St) ⊕ (wk_St)) ⊕ (Int32 × Int32 × Int32 × wk_St)} (h : S_X5_readSum_6 F_X5_readSum F_X5_readFactor x2 (x3, x4, x5, s) = some o) (hk : match (generalizing := false) o with | Sum.inl a => (match (generalizing := false) a with | Sum.inl r => z = (some (.int (b2i r.1)), r.2) | Sum.inr y => ∀ (u3 u4 u5 u6 : Value), wk_H wk_shC (d0 + 1) mc_X5_readSum 66 [.ref 34, .ref 45, .int x2, u3, u4, u5, u6] [] y z) | Sum.inr y => ∀ (u6 : Value), wk_H wk_shC (d0 + 1) mc_X5_readSum 6 [.ref 34, .ref 45, .int x2, .int y.1, .int y.2.1, .int y.2.2.1, u6] [] y.2.2.2 z) : wk_H wk_shC (d0 + 1) mc_X5_readSum 6 [.ref 34, .ref 45, .int x2, .int x3, .int x4, .int x5, w6] [] s z := by
  dsimp only [S_X5_readSum_6] at h
  refine wk_Hs 2 8 ⟨rfl, rfl⟩ (ls' := [.ref 34, .ref 45, .int x2, .int x3, .int x4, .int x5, w6]) (st' := [.int (240 : Int32), .int x5]) (σ' := s) rfl ?_
  rcases wk_ife h with ⟨hc, h⟩ | ⟨hc, h⟩
  · refine wk_Hbt 66 rfl (wk_cge.2 hc) ?_
    cases h
    exact hk _ _ _ _
  · refine wk_Hbf 66 9 rfl rfl (wk_nf wk_cge hc) ?_
    refine wk_Hs 3 12 ⟨rfl, rfl⟩ (ls' := [.ref 34, .ref 45, .int x2, .int x3, .int x4, .int x5, w6]) (st' := [.int x2, .ref 45, .ref 34]) (σ' := s) rfl ?_
    obtain ⟨v1, hv1, h⟩ := wk_bindE h
    refine wk_Hcall (i2 := 13) (args := [.ref 34, .ref 45, .int x2]) (rest := []) (r := some (.int (b2i v1.1))) (σ1 := v1.2) rfl rfl ⟨rfl, rfl, rfl, rfl, rfl⟩ rfl (HF_X5_readFactor hv1) ?_
    rcases wk_ife h with ⟨hc, h⟩ | ⟨hc, h⟩
    · refine wk_H0t 16 rfl (wk_zne.2 hc) ?_
      refine wk_Hs 1 17 ⟨rfl, rfl⟩ (ls' := [.ref 34, .ref 45, .int x2, .int x3, .int x4, .int x5, w6]) (st' := [.int x3]) (σ' := v1.2) rfl ?_
      rcases wk_ife h with ⟨hc, h⟩ | ⟨hc, h⟩
      · refine wk_H0t 23 rfl (wk_ceq.2 hc) ?_
        exact tj_j_X5_readSum_23_l6 hd HF_X5_readSum HF_X5_readFactor h hk
      · refine wk_H0f 23 18 rfl rfl (wk_nf wk_ceq hc) ?_
        refine wk_Hs 3 21 ⟨rfl, rfl⟩ (ls' := [.ref 34, .ref 45, .int x2, .int x3, .int x4, .int x5, w6]) (st' := [.int (0 : Int32), .int x3, .ref 45]) (σ' := v1.2) rfl ?_
        obtain ⟨v4, hv4, h⟩ := wk_bindE h
        refine wk_Hcall (i2 := 22) (args := [.ref 45, .int x3, .int (0 : Int32)]) (rest := []) (r := some (.int v4.1)) (σ1 := v4.2) rfl rfl ⟨rfl, rfl, rfl, rfl, rfl⟩ rfl ((t_X4_put hv4).up (by omega)) ?_
        refine wk_Hs 1 23 ⟨rfl, rfl⟩ (ls' := [.ref 34, .ref 45, .int x2, .int x3, .int x4, .int x5, w6]) (st' := []) (σ' := v4.2) rfl ?_
        exact tj_j_X5_readSum_23_l6 hd HF_X5_readSum HF_X5_readFactor h hk
    · refine wk_H0f 16 14 rfl rfl (wk_nf wk_zne hc) ?_
      refine wk_Hs 1 15 ⟨rfl, rfl⟩ (ls' := [.ref 34, .ref 45, .int x2, .int x3, .int x4, .int x5, w6]) (st' := [.int (0 : Int32)]) (σ' := v1.2) rfl ?_
      cases h
      exact wk_eqz hk (wk_Hretz rfl (b2i_01 false))
set_option maxHeartbeats 4000000 in
set_option maxRecDepth 20000 in
theorem tl_S_X5_readSum_6 {d0 : Nat} (hd : 1 ≤ d0) {F_X5_readSum : Int32 → wk_St → Option (Bool × wk_St)} (HF_X5_readSum : ∀ {a0 : Int32} {s : wk_St} {r : Bool × wk_St}, F_X5_readSum a0 s = some r → wk_T wk_shC d0 214 [.ref 34, .ref 45, .int a0] s (some (.int (b2i r.1)), r.2)) {F_X5_readFactor : Int32 → wk_St → Option (Bool × wk_St)} (HF_X5_readFactor : ∀ {a0 : Int32} {s : wk_St} {r : Bool × wk_St}, F_X5_readFactor a0 s = some r → wk_T wk_shC d0 215 [.ref 34, .ref 45, .int a0] s (some (.int (b2i r.1)), r.2)) {x2 : Int32} {z : wk_R} (n : Nat) : ∀ {x3 : Int32} {x4 : Int32} {x5 : Int32} {w6 : Value} {s : wk_St} {a : (Bool × wk_St) ⊕ (wk_St)} (h : wk_loop (S_X5_readSum_6 F_X5_readSum F_X5_readFactor x2) n (x3, x4, x5, s) = some a) (hk : match (generalizing := false) a with | Sum.inl r => z = (some (.int (b2i r.1)), r.2) | Sum.inr y => ∀ (u3 u4 u5 u6 : Value), wk_H wk_shC (d0 + 1) mc_X5_readSum 66 [.ref 34, .ref 45, .int x2, u3, u4, u5, u6] [] y z), wk_H wk_shC (d0 + 1) mc_X5_readSum 6 [.ref 34, .ref 45, .int x2, .int x3, .int x4, .int x5, w6] [] s z := by
  induction n with
  | zero =>
    intros
    rename_i h _
    exact nomatch (show (none : Option _) = some _ from h)
  | succ n ih =>
    intros
    rename_i h hk
    obtain ⟨o, ho, h⟩ := wk_bindE (show Option.bind _ _ = some _ from h)
    refine ts_S_X5_readSum_6 hd HF_X5_readSum HF_X5_readFactor ho ?_
    cases o with
    | inl a1 =>
      cases h
      exact hk
    | inr p =>
      obtain ⟨p0, p1, p2, p3⟩ := p
      exact fun _ => ih h hk
set_option maxHeartbeats 4000000 in
set_option maxRecDepth 20000 in
theorem tb_X5_readSum {d0 : Nat} (hd : 1 ≤ d0) {F_X5_readSum : Int32 → wk_St → Option (Bool × wk_St)} (HF_X5_readSum : ∀ {a0 : Int32} {s : wk_St} {r : Bool × wk_St}, F_X5_readSum a0 s = some r → wk_T wk_shC d0 214 [.ref 34, .ref 45, .int a0] s (some (.int (b2i r.1)), r.2)) {F_X5_readFactor : Int32 → wk_St → Option (Bool × wk_St)} (HF_X5_readFactor : ∀ {a0 : Int32} {s : wk_St} {r : Bool × wk_St}, F_X5_readFactor a0 s = some r → wk_T wk_shC d0 215 [.ref 34, .ref 45, .int a0] s (some (.int (b2i r.1)), r.2)) {x2 : Int32} {s : wk_St} {r : Bool × wk_St} (h : b_X5_readSum F_X5_readSum F_X5_readFactor x2 s = some r) : wk_T wk_shC (d0 + 1) 214 [.ref 34, .ref 45, .int x2] s (some (.int (b2i r.1)), r.2) := by
  suffices H : ∀ z, z = (some (.int (b2i r.1)), r.2) → wk_H wk_shC (d0 + 1) mc_X5_readSum 0 [.ref 34, .ref 45, .int x2, wk_U, wk_U, wk_U, wk_U] [] s z from H _ rfl
  intro z hk
  dsimp only [b_X5_readSum] at h
  refine wk_Hs 6 6 ⟨rfl, rfl⟩ (ls' := [.ref 34, .ref 45, .int x2, .int (0 : Int32), .int (0 : Int32), .int (0 : Int32), wk_U]) (st' := []) (σ' := s) rfl ?_
  obtain ⟨v5, hv5, h⟩ := wk_bindE h
  rcases v5 with v5r | v5
  · cases h
    exact tl_S_X5_readSum_6 hd HF_X5_readSum HF_X5_readFactor wk_F hv5 hk
  · refine tl_S_X5_readSum_6 hd HF_X5_readSum HF_X5_readFactor wk_F hv5 ?_
    intro g6 g7 g8 g9
    dsimp only at h ⊢
    refine wk_Hs 1 67 ⟨rfl, rfl⟩ (ls' := [.ref 34, .ref 45, .int x2, g6, g7, g8, g9]) (st' := [.int (1 : Int32)]) (σ' := v5) rfl ?_
    cases h
    exact wk_eqz hk (wk_Hretz rfl (b2i_01 true))
theorem tg_g_X5_readSum : ∀ q : Nat, (∀ {a0 : Int32} {s : wk_St} {r : Bool × wk_St}, (g_X5_readSum q).1 a0 s = some r → wk_T wk_shC (1 + 1 + q) 214 [.ref 34, .ref 45, .int a0] s (some (.int (b2i r.1)), r.2)) ∧ (∀ {a0 : Int32} {s : wk_St} {r : Bool × wk_St}, (g_X5_readSum q).2 a0 s = some r → wk_T wk_shC (1 + 1 + q) 215 [.ref 34, .ref 45, .int a0] s (some (.int (b2i r.1)), r.2))
  | 0 => ⟨(fun h => nomatch h), (fun h => nomatch h)⟩
  | q + 1 => by
    have ih := tg_g_X5_readSum q
    exact ⟨fun h => tb_X5_readSum (d0 := 1 + 1 + q) (by omega) ih.1 ih.2 h, fun h => tb_X5_readFactor (d0 := 1 + 1 + q) (by omega) ih.1 ih.2 h⟩
theorem t_X5_readSum : ∀ {a0 : Int32} {s : wk_St} {r : Bool × wk_St}, f_X5_readSum a0 s = some r → wk_T wk_shC 22 214 [.ref 34, .ref 45, .int a0] s (some (.int (b2i r.1)), r.2) := (tg_g_X5_readSum 20).1
theorem t_X5_readFactor : ∀ {a0 : Int32} {s : wk_St} {r : Bool × wk_St}, f_X5_readFactor a0 s = some r → wk_T wk_shC 22 215 [.ref 34, .ref 45, .int a0] s (some (.int (b2i r.1)), r.2) := (tg_g_X5_readSum 20).2
set_option maxHeartbeats 4000000 in
set_option maxRecDepth 20000 in
theorem tj_j_X5_readTest_74 {d0 : Nat} (hd : 22 ≤ d0) {F_X5_readTests : Int32 → wk_St → Option (Bool × wk_St)} (HF_X5_readTests : ∀ {a0 : Int32} {s : wk_St} {r : Bool × wk_St}, F_X5_readTests a0 s = some r → wk_T wk_shC d0 212 [.ref 34, .ref 45, .int a0] s (some (.int (b2i r.1)), r.2)) {F_X5_readTest : Int32 → wk_St → Option (Bool × wk_St)} (HF_X5_readTest : ∀ {a0 : Int32} {s : wk_St} {r : Bool × wk_St}, F_X5_readTest a0 s = some r → wk_T wk_shC d0 213 [.ref 34, .ref 45, .int a0] s (some (.int (b2i r.1)), r.2)) {x2 : Int32} {x3 : Int32} {w4 : Value} {s : wk_St} {z : wk_R} {o : Bool × wk_St} (h : j_X5_readTest_74 F_X5_readTests F_X5_readTest x2 x3 s = some o) (hk : z = (some (.int (b2i o.1)), o.2)) : wk_H wk_shC (d0 + 1) mc_X5_readTest 74 [.ref 34, .ref 45, .int x2, .int x3, w4] [] s z := by
  dsimp only [j_X5_readTest_74] at h
  refine wk_Hs 9 83 ⟨rfl, rfl⟩ (ls' := [.ref 34, .ref 45, .int x2, .int x3, w4]) (st' := [.int x2, .ref 45, .ref 34]) (σ' := (wk_si s 34 3 ((s.1 34 3) + (1 : Int32)))) rfl ?_
  obtain ⟨v5, hv5, h⟩ := wk_bindE h
  refine wk_Hcall (i2 := 84) (args := [.ref 34, .ref 45, .int x2]) (rest := []) (r := some (.int (b2i v5.1))) (σ1 := v5.2) rfl rfl ⟨rfl, rfl, rfl, rfl, rfl⟩ rfl ((t_X5_readSum hv5).up (by omega)) ?_
  refine wk_Hs 4 88 ⟨rfl, rfl⟩ (ls' := [.ref 34, .ref 45, .int x2, .int x3, .int (b2i v5.1)]) (st' := [.int (0 : Int32), .int x3, .ref 45]) (σ' := v5.2) rfl ?_
  obtain ⟨v6, hv6, h⟩ := wk_bindE h
  refine wk_Hcall (i2 := 89) (args := [.ref 45, .int x3, .int (0 : Int32)]) (rest := []) (r := some (.int v6.1)) (σ1 := v6.2) rfl rfl ⟨rfl, rfl, rfl, rfl, rfl⟩ rfl ((t_X4_put hv6).up (by omega)) ?_
  refine wk_Hs 2 91 ⟨rfl, rfl⟩ (ls' := [.ref 34, .ref 45, .int x2, .int x3, .int (b2i v5.1)]) (st' := [.int (b2i v5.1)]) (σ' := v6.2) rfl ?_
  cases h
  exact wk_eqz hk (wk_Hretz rfl (b2i_01 _))
set_option maxHeartbeats 4000000 in
set_option maxRecDepth 20000 in
theorem tb_X5_readTest {d0 : Nat} (hd : 22 ≤ d0) {F_X5_readTests : Int32 → wk_St → Option (Bool × wk_St)} (HF_X5_readTests : ∀ {a0 : Int32} {s : wk_St} {r : Bool × wk_St}, F_X5_readTests a0 s = some r → wk_T wk_shC d0 212 [.ref 34, .ref 45, .int a0] s (some (.int (b2i r.1)), r.2)) {F_X5_readTest : Int32 → wk_St → Option (Bool × wk_St)} (HF_X5_readTest : ∀ {a0 : Int32} {s : wk_St} {r : Bool × wk_St}, F_X5_readTest a0 s = some r → wk_T wk_shC d0 213 [.ref 34, .ref 45, .int a0] s (some (.int (b2i r.1)), r.2)) {x2 : Int32} {s : wk_St} {r : Bool × wk_St} (h : b_X5_readTest F_X5_readTests F_X5_readTest x2 s = some r) : wk_T wk_shC (d0 + 1) 213 [.ref 34, .ref 45, .int x2] s (some (.int (b2i r.1)), r.2) := by
  suffices H : ∀ z, z = (some (.int (b2i r.1)), r.2) → wk_H wk_shC (d0 + 1) mc_X5_readTest 0 [.ref 34, .ref 45, .int x2, wk_U, wk_U] [] s z from H _ rfl
  intro z hk
  dsimp only [b_X5_readTest] at h
  refine wk_Hs 1 1 ⟨rfl, rfl⟩ (ls' := [.ref 34, .ref 45, .int x2, wk_U, wk_U]) (st' := [.ref 34]) (σ' := s) rfl ?_
  obtain ⟨v1, hv1, h⟩ := wk_bindE h
  refine wk_Hcall (i2 := 2) (args := [.ref 34]) (rest := []) (r := some (.int v1)) (σ1 := s) rfl rfl ⟨rfl, rfl, rfl, rfl, rfl⟩ rfl ((t_X6_sign_34 hv1).up (by omega)) ?_
  refine wk_Hs 1 3 ⟨rfl, rfl⟩ (ls' := [.ref 34, .ref 45, .int x2, wk_U, wk_U]) (st' := [.int (33 : Int32), .int v1]) (σ' := s) rfl ?_
  rcases wk_ife h with ⟨hc, h⟩ | ⟨hc, h⟩
  · refine wk_Hbt 26 rfl (wk_cne.2 hc) ?_
    refine wk_Hs 1 27 ⟨rfl, rfl⟩ (ls' := [.ref 34, .ref 45, .int x2, wk_U, wk_U]) (st' := [.ref 34]) (σ' := s) rfl ?_
    obtain ⟨v2, hv2, h⟩ := wk_bindE h
    refine wk_Hcall (i2 := 28) (args := [.ref 34]) (rest := []) (r := some (.int v2)) (σ1 := s) rfl rfl ⟨rfl, rfl, rfl, rfl, rfl⟩ rfl ((t_X6_sign_34 hv2).up (by omega)) ?_
    refine wk_Hs 1 29 ⟨rfl, rfl⟩ (ls' := [.ref 34, .ref 45, .int x2, wk_U, wk_U]) (st' := [.int (40 : Int32), .int v2]) (σ' := s) rfl ?_
    rcases wk_ife h with ⟨hc, h⟩ | ⟨hc, h⟩
    · refine wk_Hbt 49 rfl (wk_cne.2 hc) ?_
      refine wk_Hs 3 52 ⟨rfl, rfl⟩ (ls' := [.ref 34, .ref 45, .int x2, wk_U, wk_U]) (st' := [.int x2, .ref 45, .ref 34]) (σ' := s) rfl ?_
      obtain ⟨v3, hv3, h⟩ := wk_bindE h
      refine wk_Hcall (i2 := 53) (args := [.ref 34, .ref 45, .int x2]) (rest := []) (r := some (.int (b2i v3.1))) (σ1 := v3.2) rfl rfl ⟨rfl, rfl, rfl, rfl, rfl⟩ rfl ((t_X5_readSum hv3).up (by omega)) ?_
      rcases wk_ife h with ⟨hc, h⟩ | ⟨hc, h⟩
      · refine wk_H0t 56 rfl (wk_zne.2 hc) ?_
        refine wk_Hs 1 57 ⟨rfl, rfl⟩ (ls' := [.ref 34, .ref 45, .int x2, wk_U, wk_U]) (st' := [.ref 34]) (σ' := v3.2) rfl ?_
        obtain ⟨v4, hv4, h⟩ := wk_bindE h
        refine wk_Hcall (i2 := 58) (args := [.ref 34]) (rest := []) (r := some (.int v4)) (σ1 := v3.2) rfl rfl ⟨rfl, rfl, rfl, rfl, rfl⟩ rfl ((t_X6_sign_34 hv4).up (by omega)) ?_
        refine wk_Hs 3 61 ⟨rfl, rfl⟩ (ls' := [.ref 34, .ref 45, .int x2, .int v4, wk_U]) (st' := [.int (60 : Int32), .int v4]) (σ' := v3.2) rfl ?_
        rcases wk_ife h with ⟨hc, h⟩ | ⟨hc, h⟩
        · refine wk_Hbt 74 rfl (wk_ceq.2 hc) ?_
          exact tj_j_X5_readTest_74 hd HF_X5_readTests HF_X5_readTest h hk
        · refine wk_Hbf 74 62 rfl rfl (wk_nf wk_ceq hc) ?_
          refine wk_Hs 2 64 ⟨rfl, rfl⟩ (ls' := [.ref 34, .ref 45, .int x2, .int v4, wk_U]) (st' := [.int (62 : Int32), .int v4]) (σ' := v3.2) rfl ?_
          rcases wk_ife h with ⟨hc, h⟩ | ⟨hc, h⟩
          · refine wk_Hbt 74 rfl (wk_ceq.2 hc) ?_
            exact tj_j_X5_readTest_74 hd HF_X5_readTests HF_X5_readTest h hk
          · refine wk_Hbf 74 65 rfl rfl (wk_nf wk_ceq hc) ?_
            refine wk_Hs 2 67 ⟨rfl, rfl⟩ (ls' := [.ref 34, .ref 45, .int x2, .int v4, wk_U]) (st' := [.int (61 : Int32), .int v4]) (σ' := v3.2) rfl ?_
            rcases wk_ife h with ⟨hc, h⟩ | ⟨hc, h⟩
            · refine wk_Hbt 74 rfl (wk_ceq.2 hc) ?_
              exact tj_j_X5_readTest_74 hd HF_X5_readTests HF_X5_readTest h hk
            · refine wk_Hbf 74 68 rfl rfl (wk_nf wk_ceq hc) ?_
              refine wk_Hs 4 72 ⟨rfl, rfl⟩ (ls' := [.ref 34, .ref 45, .int x2, .int v4, wk_U]) (st' := [.int (v3.2.1 34 3), .int (1 : Int32), .ref 34]) (σ' := v3.2) rfl ?_
              replace h := wk_letE h
              refine wk_Hcall (i2 := 73) (args := [.ref 34, .int (1 : Int32), .int (v3.2.1 34 3)]) (rest := []) (r := some (.int (b2i ((f_X6_blame 34 (1 : Int32) (v3.2.1 34 3) v3.2).1)))) (σ1 := (f_X6_blame 34 (1 : Int32) (v3.2.1 34 3) v3.2).2) rfl rfl ⟨rfl, rfl, rfl, rfl, rfl⟩ rfl ((t_X6_blame_34 rfl).up (by omega)) ?_
              cases h
              exact wk_eqz hk (wk_Hretz rfl (b2i_01 _))
      · refine wk_H0f 56 54 rfl rfl (wk_nf wk_zne hc) ?_
        refine wk_Hs 1 55 ⟨rfl, rfl⟩ (ls' := [.ref 34, .ref 45, .int x2, wk_U, wk_U]) (st' := [.int (0 : Int32)]) (σ' := v3.2) rfl ?_
        cases h
        exact wk_eqz hk (wk_Hretz rfl (b2i_01 false))
    · refine wk_Hbf 49 30 rfl rfl (wk_nf wk_cne hc) ?_
      refine wk_Hs 2 32 ⟨rfl, rfl⟩ (ls' := [.ref 34, .ref 45, .int x2, wk_U, wk_U]) (st' := [.int x2, .ref 34]) (σ' := s) rfl ?_
      replace h := wk_letE h
      refine wk_Hcall (i2 := 33) (args := [.ref 34, .int x2]) (rest := []) (r := some (.int (b2i ((f_X5_open x2 s).1)))) (σ1 := (f_X5_open x2 s).2) rfl rfl ⟨rfl, rfl, rfl, rfl, rfl⟩ rfl ((t_X5_open rfl).up (by omega)) ?_
      rcases wk_ife h with ⟨hc, h⟩ | ⟨hc, h⟩
      · refine wk_H0t 47 rfl (wk_zeq.2 hc) ?_
        refine wk_Hs 1 48 ⟨rfl, rfl⟩ (ls' := [.ref 34, .ref 45, .int x2, wk_U, wk_U]) (st' := [.int (0 : Int32)]) (σ' := (f_X5_open x2 s).2) rfl ?_
        cases h
        exact wk_eqz hk (wk_Hretz rfl (b2i_01 false))
      · refine wk_H0f 47 34 rfl rfl (wk_nf wk_zeq hc) ?_
        refine wk_Hs 5 39 ⟨rfl, rfl⟩ (ls' := [.ref 34, .ref 45, .int x2, wk_U, wk_U]) (st' := [.int (x2 + (1 : Int32)), .ref 45, .ref 34]) (σ' := (f_X5_open x2 s).2) rfl ?_
        obtain ⟨v9, hv9, h⟩ := wk_bindE h
        refine wk_Hcall (i2 := 40) (args := [.ref 34, .ref 45, .int (x2 + (1 : Int32))]) (rest := []) (r := some (.int (b2i v9.1))) (σ1 := v9.2) rfl rfl ⟨rfl, rfl, rfl, rfl, rfl⟩ rfl (HF_X5_readTests hv9) ?_
        rcases wk_ife h with ⟨hc, h⟩ | ⟨hc, h⟩
        · refine wk_H0t 47 rfl (wk_zeq.2 hc) ?_
          refine wk_Hs 1 48 ⟨rfl, rfl⟩ (ls' := [.ref 34, .ref 45, .int x2, wk_U, wk_U]) (st' := [.int (0 : Int32)]) (σ' := v9.2) rfl ?_
          cases h
          exact wk_eqz hk (wk_Hretz rfl (b2i_01 false))
        · refine wk_H0f 47 41 rfl rfl (wk_nf wk_zeq hc) ?_
          refine wk_Hs 2 43 ⟨rfl, rfl⟩ (ls' := [.ref 34, .ref 45, .int x2, wk_U, wk_U]) (st' := [.int (41 : Int32), .ref 34]) (σ' := v9.2) rfl ?_
          obtain ⟨v10, hv10, h⟩ := wk_bindE h
          refine wk_Hcall (i2 := 44) (args := [.ref 34, .int (41 : Int32)]) (rest := []) (r := some (.int (b2i v10.1))) (σ1 := v10.2) rfl rfl ⟨rfl, rfl, rfl, rfl, rfl⟩ rfl ((t_X6_pass_34 hv10).up (by omega)) ?_
          rcases wk_ife h with ⟨hc, h⟩ | ⟨hc, h⟩
          · refine wk_H0t 47 rfl (wk_zeq.2 hc) ?_
            refine wk_Hs 1 48 ⟨rfl, rfl⟩ (ls' := [.ref 34, .ref 45, .int x2, wk_U, wk_U]) (st' := [.int (0 : Int32)]) (σ' := v10.2) rfl ?_
            cases h
            exact wk_eqz hk (wk_Hretz rfl (b2i_01 false))
          · refine wk_H0f 47 45 rfl rfl (wk_nf wk_zeq hc) ?_
            refine wk_Hs 1 46 ⟨rfl, rfl⟩ (ls' := [.ref 34, .ref 45, .int x2, wk_U, wk_U]) (st' := [.int (1 : Int32)]) (σ' := v10.2) rfl ?_
            refine wk_Hgoto (t := 48) rfl ?_
            cases h
            exact wk_eqz hk (wk_Hretz rfl (b2i_01 true))
  · refine wk_Hbf 26 4 rfl rfl (wk_nf wk_cne hc) ?_
    refine wk_Hs 2 6 ⟨rfl, rfl⟩ (ls' := [.ref 34, .ref 45, .int x2, wk_U, wk_U]) (st' := [.int x2, .ref 34]) (σ' := s) rfl ?_
    replace h := wk_letE h
    refine wk_Hcall (i2 := 7) (args := [.ref 34, .int x2]) (rest := []) (r := some (.int (b2i ((f_X5_open x2 s).1)))) (σ1 := (f_X5_open x2 s).2) rfl rfl ⟨rfl, rfl, rfl, rfl, rfl⟩ rfl ((t_X5_open rfl).up (by omega)) ?_
    rcases wk_ife h with ⟨hc, h⟩ | ⟨hc, h⟩
    · refine wk_H0t 17 rfl (wk_zeq.2 hc) ?_
      refine wk_Hs 5 22 ⟨rfl, rfl⟩ (ls' := [.ref 34, .ref 45, .int x2, .int (0 : Int32), wk_U]) (st' := [.int (0 : Int32), .int (33 : Int32), .ref 45]) (σ' := (f_X5_open x2 s).2) rfl ?_
      obtain ⟨v12, hv12, h⟩ := wk_bindE h
      refine wk_Hcall (i2 := 23) (args := [.ref 45, .int (33 : Int32), .int (0 : Int32)]) (rest := []) (r := some (.int v12.1)) (σ1 := v12.2) rfl rfl ⟨rfl, rfl, rfl, rfl, rfl⟩ rfl ((t_X4_put hv12).up (by omega)) ?_
      refine wk_Hs 2 25 ⟨rfl, rfl⟩ (ls' := [.ref 34, .ref 45, .int x2, .int (0 : Int32), wk_U]) (st' := [.int (0 : Int32)]) (σ' := v12.2) rfl ?_
      cases h
      exact wk_eqz hk (wk_Hretz rfl (b2i_01 false))
    · refine wk_H0f 17 8 rfl rfl (wk_nf wk_zeq hc) ?_
      refine wk_Hs 5 13 ⟨rfl, rfl⟩ (ls' := [.ref 34, .ref 45, .int x2, wk_U, wk_U]) (st' := [.int (x2 + (1 : Int32)), .ref 45, .ref 34]) (σ' := (f_X5_open x2 s).2) rfl ?_
      obtain ⟨v13, hv13, h⟩ := wk_bindE h
      refine wk_Hcall (i2 := 14) (args := [.ref 34, .ref 45, .int (x2 + (1 : Int32))]) (rest := []) (r := some (.int (b2i v13.1))) (σ1 := v13.2) rfl rfl ⟨rfl, rfl, rfl, rfl, rfl⟩ rfl (HF_X5_readTest hv13) ?_
      rcases wk_ife h with ⟨hc, h⟩ | ⟨hc, h⟩
      · refine wk_H0t 17 rfl (wk_zeq.2 hc) ?_
        refine wk_Hs 5 22 ⟨rfl, rfl⟩ (ls' := [.ref 34, .ref 45, .int x2, .int (0 : Int32), wk_U]) (st' := [.int (0 : Int32), .int (33 : Int32), .ref 45]) (σ' := v13.2) rfl ?_
        obtain ⟨v14, hv14, h⟩ := wk_bindE h
        refine wk_Hcall (i2 := 23) (args := [.ref 45, .int (33 : Int32), .int (0 : Int32)]) (rest := []) (r := some (.int v14.1)) (σ1 := v14.2) rfl rfl ⟨rfl, rfl, rfl, rfl, rfl⟩ rfl ((t_X4_put hv14).up (by omega)) ?_
        refine wk_Hs 2 25 ⟨rfl, rfl⟩ (ls' := [.ref 34, .ref 45, .int x2, .int (0 : Int32), wk_U]) (st' := [.int (0 : Int32)]) (σ' := v14.2) rfl ?_
        cases h
        exact wk_eqz hk (wk_Hretz rfl (b2i_01 false))
      · refine wk_H0f 17 15 rfl rfl (wk_nf wk_zeq hc) ?_
        refine wk_Hs 1 16 ⟨rfl, rfl⟩ (ls' := [.ref 34, .ref 45, .int x2, wk_U, wk_U]) (st' := [.int (1 : Int32)]) (σ' := v13.2) rfl ?_
        refine wk_Hgoto (t := 18) rfl ?_
        refine wk_Hs 4 22 ⟨rfl, rfl⟩ (ls' := [.ref 34, .ref 45, .int x2, .int (1 : Int32), wk_U]) (st' := [.int (0 : Int32), .int (33 : Int32), .ref 45]) (σ' := v13.2) rfl ?_
        obtain ⟨v15, hv15, h⟩ := wk_bindE h
        refine wk_Hcall (i2 := 23) (args := [.ref 45, .int (33 : Int32), .int (0 : Int32)]) (rest := []) (r := some (.int v15.1)) (σ1 := v15.2) rfl rfl ⟨rfl, rfl, rfl, rfl, rfl⟩ rfl ((t_X4_put hv15).up (by omega)) ?_
        refine wk_Hs 2 25 ⟨rfl, rfl⟩ (ls' := [.ref 34, .ref 45, .int x2, .int (1 : Int32), wk_U]) (st' := [.int (1 : Int32)]) (σ' := v15.2) rfl ?_
        cases h
        exact wk_eqz hk (wk_Hretz rfl (b2i_01 true))
set_option maxHeartbeats 4000000 in
set_option maxRecDepth 20000 in
theorem ts_S_X5_readTests_6 {d0 : Nat} (hd : 22 ≤ d0) {F_X5_readTests : Int32 → wk_St → Option (Bool × wk_St)} (HF_X5_readTests : ∀ {a0 : Int32} {s : wk_St} {r : Bool × wk_St}, F_X5_readTests a0 s = some r → wk_T wk_shC d0 212 [.ref 34, .ref 45, .int a0] s (some (.int (b2i r.1)), r.2)) {F_X5_readTest : Int32 → wk_St → Option (Bool × wk_St)} (HF_X5_readTest : ∀ {a0 : Int32} {s : wk_St} {r : Bool × wk_St}, F_X5_readTest a0 s = some r → wk_T wk_shC d0 213 [.ref 34, .ref 45, .int a0] s (some (.int (b2i r.1)), r.2)) {x2 : Int32} {x3 : Int32} {x4 : Int32} {x5 : Int32} {w6 : Value} {s : wk_St} {z : wk_R} {o : ((Bool × wk_St) ⊕ (wk_St)) ⊕ (Int32 × Int32 × Int32 × wk_St)} (h : S_X5_readTests_6 F_X5_readTests F_X5_readTest x2 (x3, x4, x5, s) = some o) (hk : match (generalizing := false) o with | Sum.inl a => (match (generalizing := false) a with | Sum.inl r => z = (some (.int (b2i r.1)), r.2) | Sum.inr y => ∀ (u3 u4 u5 u6 : Value), wk_H wk_shC (d0 + 1) mc_X5_readTests 54 [.ref 34, .ref 45, .int x2, u3, u4, u5, u6] [] y z) | Sum.inr y => ∀ (u6 : Value), wk_H wk_shC (d0 + 1) mc_X5_readTests 6 [.ref 34, .ref 45, .int x2, .int y.1, .int y.2.1, .int y.2.2.1, u6] [] y.2.2.2 z) : wk_H wk_shC (d0 + 1) mc_X5_readTests 6 [.ref 34, .ref 45, .int x2, .int x3, .int x4, .int x5, w6] [] s z := by
  dsimp only [S_X5_readTests_6] at h
  refine wk_Hs 2 8 ⟨rfl, rfl⟩ (ls' := [.ref 34, .ref 45, .int x2, .int x3, .int x4, .int x5, w6]) (st' := [.int (240 : Int32), .int x5]) (σ' := s) rfl ?_
  rcases wk_ife h with ⟨hc, h⟩ | ⟨hc, h⟩
  · refine wk_Hbt 54 rfl (wk_cge.2 hc) ?_
    cases h
    exact hk _ _ _ _
  · refine wk_Hbf 54 9 rfl rfl (wk_nf wk_cge hc) ?_
    refine wk_Hs 3 12 ⟨rfl, rfl⟩ (ls' := [.ref 34, .ref 45, .int x2, .int x3, .int x4, .int x5, w6]) (st' := [.int x2, .ref 45, .ref 34]) (σ' := s) rfl ?_
    obtain ⟨v1, hv1, h⟩ := wk_bindE h
    refine wk_Hcall (i2 := 13) (args := [.ref 34, .ref 45, .int x2]) (rest := []) (r := some (.int (b2i v1.1))) (σ1 := v1.2) rfl rfl ⟨rfl, rfl, rfl, rfl, rfl⟩ rfl (HF_X5_readTest hv1) ?_
    rcases wk_ife h with ⟨hc, h⟩ | ⟨hc, h⟩
    · refine wk_H0t 16 rfl (wk_zne.2 hc) ?_
      refine wk_Hs 2 18 ⟨rfl, rfl⟩ (ls' := [.ref 34, .ref 45, .int x2, .int x3, .int x4, .int x5, w6]) (st' := [.int x3, .ref 45]) (σ' := v1.2) rfl ?_
      obtain ⟨v2, hv2, h⟩ := wk_bindE h
      refine wk_Hcall (i2 := 19) (args := [.ref 45, .int x3]) (rest := []) (r := none) (σ1 := v2) rfl rfl ⟨rfl, rfl, rfl, rfl, rfl⟩ rfl ((t_X4_skipToHere hv2).up (by omega)) ?_
      refine wk_Hs 3 22 ⟨rfl, rfl⟩ (ls' := [.ref 34, .ref 45, .int x2, .int (-1 : Int32), .int x4, .int x5, w6]) (st' := [.ref 34]) (σ' := v2) rfl ?_
      obtain ⟨v3, hv3, h⟩ := wk_bindE h
      refine wk_Hcall (i2 := 23) (args := [.ref 34]) (rest := []) (r := some (.int v3)) (σ1 := v2) rfl rfl ⟨rfl, rfl, rfl, rfl, rfl⟩ rfl ((t_X6_sign_34 hv3).up (by omega)) ?_
      refine wk_Hs 3 26 ⟨rfl, rfl⟩ (ls' := [.ref 34, .ref 45, .int x2, .int (-1 : Int32), .int x4, .int x5, .int v3]) (st' := [.int (38 : Int32), .int v3]) (σ' := v2) rfl ?_
      rcases wk_ife h with ⟨hc, h⟩ | ⟨hc, h⟩
      · refine wk_Hbt 33 rfl (wk_cne.2 hc) ?_
        refine wk_Hs 2 35 ⟨rfl, rfl⟩ (ls' := [.ref 34, .ref 45, .int x2, .int (-1 : Int32), .int x4, .int x5, .int v3]) (st' := [.int x4, .ref 45]) (σ' := v2) rfl ?_
        obtain ⟨v4, hv4, h⟩ := wk_bindE h
        refine wk_Hcall (i2 := 36) (args := [.ref 45, .int x4]) (rest := []) (r := none) (σ1 := v4) rfl rfl ⟨rfl, rfl, rfl, rfl, rfl⟩ rfl ((t_X4_skipToHere hv4).up (by omega)) ?_
        refine wk_Hs 2 38 ⟨rfl, rfl⟩ (ls' := [.ref 34, .ref 45, .int x2, .int (-1 : Int32), .int x4, .int x5, .int v3]) (st' := [.int (124 : Int32), .int v3]) (σ' := v4) rfl ?_
        rcases wk_ife h with ⟨hc, h⟩ | ⟨hc, h⟩
        · refine wk_Hbt 41 rfl (wk_ceq.2 hc) ?_
          refine wk_Hs 3 44 ⟨rfl, rfl⟩ (ls' := [.ref 34, .ref 45, .int x2, .int (-1 : Int32), .int x4, .int x5, .int v3]) (st' := [.int (0 : Int32), .int v3, .ref 45]) (σ' := v4) rfl ?_
          obtain ⟨v5, hv5, h⟩ := wk_bindE h
          refine wk_Hcall (i2 := 45) (args := [.ref 45, .int v3, .int (0 : Int32)]) (rest := []) (r := some (.int v5.1)) (σ1 := v5.2) rfl rfl ⟨rfl, rfl, rfl, rfl, rfl⟩ rfl ((t_X4_put hv5).up (by omega)) ?_
          refine wk_Hs 8 53 ⟨rfl, rfl⟩ (ls' := [.ref 34, .ref 45, .int x2, .int (-1 : Int32), .int v5.1, .int (x5 + (1 : Int32)), .int v3]) (st' := []) (σ' := (wk_si v5.2 34 3 ((v5.2.1 34 3) + (1 : Int32)))) rfl ?_
          refine wk_Hgoto (t := 6) rfl ?_
          cases h
          exact hk _
        · refine wk_Hbf 41 39 rfl rfl (wk_nf wk_ceq hc) ?_
          refine wk_Hs 1 40 ⟨rfl, rfl⟩ (ls' := [.ref 34, .ref 45, .int x2, .int (-1 : Int32), .int x4, .int x5, .int v3]) (st' := [.int (1 : Int32)]) (σ' := v4) rfl ?_
          cases h
          exact wk_eqz hk (wk_Hretz rfl (b2i_01 true))
      · refine wk_Hbf 33 27 rfl rfl (wk_nf wk_cne hc) ?_
        refine wk_Hs 3 30 ⟨rfl, rfl⟩ (ls' := [.ref 34, .ref 45, .int x2, .int (-1 : Int32), .int x4, .int x5, .int v3]) (st' := [.int (0 : Int32), .int v3, .ref 45]) (σ' := v2) rfl ?_
        obtain ⟨v6, hv6, h⟩ := wk_bindE h
        refine wk_Hcall (i2 := 31) (args := [.ref 45, .int v3, .int (0 : Int32)]) (rest := []) (r := some (.int v6.1)) (σ1 := v6.2) rfl rfl ⟨rfl, rfl, rfl, rfl, rfl⟩ rfl ((t_X4_put hv6).up (by omega)) ?_
        refine wk_Hs 1 32 ⟨rfl, rfl⟩ (ls' := [.ref 34, .ref 45, .int x2, .int v6.1, .int x4, .int x5, .int v3]) (st' := []) (σ' := v6.2) rfl ?_
        refine wk_Hgoto (t := 46) rfl ?_
        refine wk_Hs 7 53 ⟨rfl, rfl⟩ (ls' := [.ref 34, .ref 45, .int x2, .int v6.1, .int x4, .int (x5 + (1 : Int32)), .int v3]) (st' := []) (σ' := (wk_si v6.2 34 3 ((v6.2.1 34 3) + (1 : Int32)))) rfl ?_
        refine wk_Hgoto (t := 6) rfl ?_
        cases h
        exact hk _
    · refine wk_H0f 16 14 rfl rfl (wk_nf wk_zne hc) ?_
      refine wk_Hs 1 15 ⟨rfl, rfl⟩ (ls' := [.ref 34, .ref 45, .int x2, .int x3, .int x4, .int x5, w6]) (st' := [.int (0 : Int32)]) (σ' := v1.2) rfl ?_
      cases h
      exact wk_eqz hk (wk_Hretz rfl (b2i_01 false))
set_option maxHeartbeats 4000000 in
set_option maxRecDepth 20000 in
theorem tl_S_X5_readTests_6 {d0 : Nat} (hd : 22 ≤ d0) {F_X5_readTests : Int32 → wk_St → Option (Bool × wk_St)} (HF_X5_readTests : ∀ {a0 : Int32} {s : wk_St} {r : Bool × wk_St}, F_X5_readTests a0 s = some r → wk_T wk_shC d0 212 [.ref 34, .ref 45, .int a0] s (some (.int (b2i r.1)), r.2)) {F_X5_readTest : Int32 → wk_St → Option (Bool × wk_St)} (HF_X5_readTest : ∀ {a0 : Int32} {s : wk_St} {r : Bool × wk_St}, F_X5_readTest a0 s = some r → wk_T wk_shC d0 213 [.ref 34, .ref 45, .int a0] s (some (.int (b2i r.1)), r.2)) {x2 : Int32} {z : wk_R} (n : Nat) : ∀ {x3 : Int32} {x4 : Int32} {x5 : Int32} {w6 : Value} {s : wk_St} {a : (Bool × wk_St) ⊕ (wk_St)} (h : wk_loop (S_X5_readTests_6 F_X5_readTests F_X5_readTest x2) n (x3, x4, x5, s) = some a) (hk : match (generalizing := false) a with | Sum.inl r => z = (some (.int (b2i r.1)), r.2) | Sum.inr y => ∀ (u3 u4 u5 u6 : Value), wk_H wk_shC (d0 + 1) mc_X5_readTests 54 [.ref 34, .ref 45, .int x2, u3, u4, u5, u6] [] y z), wk_H wk_shC (d0 + 1) mc_X5_readTests 6 [.ref 34, .ref 45, .int x2, .int x3, .int x4, .int x5, w6] [] s z := by
  induction n with
  | zero =>
    intros
    rename_i h _
    exact nomatch (show (none : Option _) = some _ from h)
  | succ n ih =>
    intros
    rename_i h hk
    obtain ⟨o, ho, h⟩ := wk_bindE (show Option.bind _ _ = some _ from h)
    refine ts_S_X5_readTests_6 hd HF_X5_readTests HF_X5_readTest ho ?_
    cases o with
    | inl a1 =>
      cases h
      exact hk
    | inr p =>
      obtain ⟨p0, p1, p2, p3⟩ := p
      exact fun _ => ih h hk
set_option maxHeartbeats 4000000 in
set_option maxRecDepth 20000 in
theorem tb_X5_readTests {d0 : Nat} (hd : 22 ≤ d0) {F_X5_readTests : Int32 → wk_St → Option (Bool × wk_St)} (HF_X5_readTests : ∀ {a0 : Int32} {s : wk_St} {r : Bool × wk_St}, F_X5_readTests a0 s = some r → wk_T wk_shC d0 212 [.ref 34, .ref 45, .int a0] s (some (.int (b2i r.1)), r.2)) {F_X5_readTest : Int32 → wk_St → Option (Bool × wk_St)} (HF_X5_readTest : ∀ {a0 : Int32} {s : wk_St} {r : Bool × wk_St}, F_X5_readTest a0 s = some r → wk_T wk_shC d0 213 [.ref 34, .ref 45, .int a0] s (some (.int (b2i r.1)), r.2)) {x2 : Int32} {s : wk_St} {r : Bool × wk_St} (h : b_X5_readTests F_X5_readTests F_X5_readTest x2 s = some r) : wk_T wk_shC (d0 + 1) 212 [.ref 34, .ref 45, .int x2] s (some (.int (b2i r.1)), r.2) := by
  suffices H : ∀ z, z = (some (.int (b2i r.1)), r.2) → wk_H wk_shC (d0 + 1) mc_X5_readTests 0 [.ref 34, .ref 45, .int x2, wk_U, wk_U, wk_U, wk_U] [] s z from H _ rfl
  intro z hk
  dsimp only [b_X5_readTests] at h
  refine wk_Hs 6 6 ⟨rfl, rfl⟩ (ls' := [.ref 34, .ref 45, .int x2, .int (-1 : Int32), .int (-1 : Int32), .int (0 : Int32), wk_U]) (st' := []) (σ' := s) rfl ?_
  obtain ⟨v7, hv7, h⟩ := wk_bindE h
  rcases v7 with v7r | v7
  · cases h
    exact tl_S_X5_readTests_6 hd HF_X5_readTests HF_X5_readTest wk_F hv7 hk
  · refine tl_S_X5_readTests_6 hd HF_X5_readTests HF_X5_readTest wk_F hv7 ?_
    intro g8 g9 g10 g11
    dsimp only at h ⊢
    refine wk_Hs 1 55 ⟨rfl, rfl⟩ (ls' := [.ref 34, .ref 45, .int x2, g8, g9, g10, g11]) (st' := [.int (1 : Int32)]) (σ' := v7) rfl ?_
    cases h
    exact wk_eqz hk (wk_Hretz rfl (b2i_01 true))
theorem tg_g_X5_readTests : ∀ q : Nat, (∀ {a0 : Int32} {s : wk_St} {r : Bool × wk_St}, (g_X5_readTests q).1 a0 s = some r → wk_T wk_shC (22 + 1 + q) 212 [.ref 34, .ref 45, .int a0] s (some (.int (b2i r.1)), r.2)) ∧ (∀ {a0 : Int32} {s : wk_St} {r : Bool × wk_St}, (g_X5_readTests q).2 a0 s = some r → wk_T wk_shC (22 + 1 + q) 213 [.ref 34, .ref 45, .int a0] s (some (.int (b2i r.1)), r.2))
  | 0 => ⟨(fun h => nomatch h), (fun h => nomatch h)⟩
  | q + 1 => by
    have ih := tg_g_X5_readTests q
    exact ⟨fun h => tb_X5_readTests (d0 := 22 + 1 + q) (by omega) ih.1 ih.2 h, fun h => tb_X5_readTest (d0 := 22 + 1 + q) (by omega) ih.1 ih.2 h⟩
theorem t_X5_readTests : ∀ {a0 : Int32} {s : wk_St} {r : Bool × wk_St}, f_X5_readTests a0 s = some r → wk_T wk_shC 43 212 [.ref 34, .ref 45, .int a0] s (some (.int (b2i r.1)), r.2) := (tg_g_X5_readTests 20).1
theorem t_X5_readTest : ∀ {a0 : Int32} {s : wk_St} {r : Bool × wk_St}, f_X5_readTest a0 s = some r → wk_T wk_shC 43 213 [.ref 34, .ref 45, .int a0] s (some (.int (b2i r.1)), r.2) := (tg_g_X5_readTests 20).2
set_option maxHeartbeats 4000000 in
set_option maxRecDepth 20000 in
theorem t_X6_answer_30 {x1 : Int32} {x2 : Int32} {s : wk_St} {r : Int32} (h : f_X6_answer 30 x1 x2 s = r) : wk_T wk_shC 0 220 [.ref 30, .int x1, .int x2] s (some (.int r), s) := by
  suffices H : ∀ z, z = (some (.int r), s) → wk_H wk_shC 0 mc_X6_answer 0 [.ref 30, .int x1, .int x2] [] s z from H _ rfl
  intro z hk
  dsimp only [f_X6_answer] at h
  refine wk_Hs 1 1 ⟨rfl, rfl⟩ (ls' := [.ref 30, .int x1, .int x2]) (st' := [.int x1]) (σ' := s) rfl ?_
  rcases wk_ife h with ⟨hc, h⟩ | ⟨hc, h⟩
  · refine wk_H0t 4 rfl (wk_ceq.2 hc) ?_
    refine wk_Hs 2 6 ⟨rfl, rfl⟩ (ls' := [.ref 30, .int x1, .int x2]) (st' := [.int (s.1 30 2)]) (σ' := s) rfl ?_
    cases h
    exact wk_eqz hk (wk_Hret rfl)
  · refine wk_H0f 4 2 rfl rfl (wk_nf wk_ceq hc) ?_
    refine wk_Hs 1 3 ⟨rfl, rfl⟩ (ls' := [.ref 30, .int x1, .int x2]) (st' := [.int x2]) (σ' := s) rfl ?_
    refine wk_Hgoto (t := 6) rfl ?_
    cases h
    exact wk_eqz hk (wk_Hret rfl)
set_option maxHeartbeats 4000000 in
set_option maxRecDepth 20000 in
theorem t_X6_answer_32 {x1 : Int32} {x2 : Int32} {s : wk_St} {r : Int32} (h : f_X6_answer 32 x1 x2 s = r) : wk_T wk_shC 0 220 [.ref 32, .int x1, .int x2] s (some (.int r), s) := by
  suffices H : ∀ z, z = (some (.int r), s) → wk_H wk_shC 0 mc_X6_answer 0 [.ref 32, .int x1, .int x2] [] s z from H _ rfl
  intro z hk
  dsimp only [f_X6_answer] at h
  refine wk_Hs 1 1 ⟨rfl, rfl⟩ (ls' := [.ref 32, .int x1, .int x2]) (st' := [.int x1]) (σ' := s) rfl ?_
  rcases wk_ife h with ⟨hc, h⟩ | ⟨hc, h⟩
  · refine wk_H0t 4 rfl (wk_ceq.2 hc) ?_
    refine wk_Hs 2 6 ⟨rfl, rfl⟩ (ls' := [.ref 32, .int x1, .int x2]) (st' := [.int (s.1 32 2)]) (σ' := s) rfl ?_
    cases h
    exact wk_eqz hk (wk_Hret rfl)
  · refine wk_H0f 4 2 rfl rfl (wk_nf wk_ceq hc) ?_
    refine wk_Hs 1 3 ⟨rfl, rfl⟩ (ls' := [.ref 32, .int x1, .int x2]) (st' := [.int x2]) (σ' := s) rfl ?_
    refine wk_Hgoto (t := 6) rfl ?_
    cases h
    exact wk_eqz hk (wk_Hret rfl)
set_option maxHeartbeats 4000000 in
set_option maxRecDepth 20000 in
theorem t_X6_answer_34 {x1 : Int32} {x2 : Int32} {s : wk_St} {r : Int32} (h : f_X6_answer 34 x1 x2 s = r) : wk_T wk_shC 0 220 [.ref 34, .int x1, .int x2] s (some (.int r), s) := by
  suffices H : ∀ z, z = (some (.int r), s) → wk_H wk_shC 0 mc_X6_answer 0 [.ref 34, .int x1, .int x2] [] s z from H _ rfl
  intro z hk
  dsimp only [f_X6_answer] at h
  refine wk_Hs 1 1 ⟨rfl, rfl⟩ (ls' := [.ref 34, .int x1, .int x2]) (st' := [.int x1]) (σ' := s) rfl ?_
  rcases wk_ife h with ⟨hc, h⟩ | ⟨hc, h⟩
  · refine wk_H0t 4 rfl (wk_ceq.2 hc) ?_
    refine wk_Hs 2 6 ⟨rfl, rfl⟩ (ls' := [.ref 34, .int x1, .int x2]) (st' := [.int (s.1 34 2)]) (σ' := s) rfl ?_
    cases h
    exact wk_eqz hk (wk_Hret rfl)
  · refine wk_H0f 4 2 rfl rfl (wk_nf wk_ceq hc) ?_
    refine wk_Hs 1 3 ⟨rfl, rfl⟩ (ls' := [.ref 34, .int x1, .int x2]) (st' := [.int x2]) (σ' := s) rfl ?_
    refine wk_Hgoto (t := 6) rfl ?_
    cases h
    exact wk_eqz hk (wk_Hret rfl)
set_option maxHeartbeats 4000000 in
set_option maxRecDepth 20000 in
theorem tj_j_X5_readLaw_57_l8 {x3 : Int32} {x4 : Int32} {s_0 : Int32} {w2 : Value} {w5 : Value} {s : wk_St} {z : wk_R} {o : (Int32 × wk_St) ⊕ (Int32 × Int32 × Int32 × wk_St)} (h : j_X5_readLaw_57_l8 x3 x4 s_0 s = some o) (hk : match (generalizing := false) o with | Sum.inl a => (∀ (u2 u4 u5 : Value), wk_H wk_shC 44 mc_X5_readLaw 72 [.ref 34, .ref 45, u2, .int a.1, u4, u5] [] a.2 z) | Sum.inr y => ∀ (u5 : Value), wk_H wk_shC 44 mc_X5_readLaw 8 [.ref 34, .ref 45, .int y.1, .int y.2.1, .int y.2.2.1, u5] [] y.2.2.2 z) : wk_H wk_shC 44 mc_X5_readLaw 57 [.ref 34, .ref 45, w2, .int x3, .int x4, w5] [.int s_0] s z := by
  dsimp only [j_X5_readLaw_57_l8] at h
  refine wk_Hs 2 59 ⟨rfl, rfl⟩ (ls' := [.ref 34, .ref 45, .int s_0, .int x3, .int x4, w5]) (st' := [.int x3]) (σ' := s) rfl ?_
  rcases wk_ife h with ⟨hc, h⟩ | ⟨hc, h⟩
  · refine wk_H0t 68 rfl (wk_ceq.2 hc) ?_
    refine wk_Hs 3 71 ⟨rfl, rfl⟩ (ls' := [.ref 34, .ref 45, .int s_0, .int (0 : Int32), .int (x4 + (1 : Int32)), w5]) (st' := []) (σ' := s) rfl ?_
    refine wk_Hgoto (t := 8) rfl ?_
    cases h
    exact hk _
  · refine wk_H0f 68 60 rfl rfl (wk_nf wk_ceq hc) ?_
    refine wk_Hs 1 61 ⟨rfl, rfl⟩ (ls' := [.ref 34, .ref 45, .int s_0, .int x3, .int x4, w5]) (st' := [.int s_0]) (σ' := s) rfl ?_
    rcases wk_ife h with ⟨hc, h⟩ | ⟨hc, h⟩
    · refine wk_H0t 66 rfl (wk_ceq.2 hc) ?_
      refine wk_Hs 1 67 ⟨rfl, rfl⟩ (ls' := [.ref 34, .ref 45, .int s_0, .int x3, .int x4, w5]) (st' := [.int (1 : Int32)]) (σ' := s) rfl ?_
      refine wk_Hgoto (t := 69) rfl ?_
      refine wk_Hs 2 71 ⟨rfl, rfl⟩ (ls' := [.ref 34, .ref 45, .int s_0, .int (1 : Int32), .int (x4 + (1 : Int32)), w5]) (st' := []) (σ' := s) rfl ?_
      refine wk_Hgoto (t := 8) rfl ?_
      cases h
      exact hk _
    · refine wk_H0f 66 62 rfl rfl (wk_nf wk_ceq hc) ?_
      refine wk_Hs 2 64 ⟨rfl, rfl⟩ (ls' := [.ref 34, .ref 45, .int s_0, .int x3, .int x4, w5]) (st' := [.int (59 : Int32), .ref 34]) (σ' := s) rfl ?_
      obtain ⟨v6, hv6, h⟩ := wk_bindE h
      refine wk_Hcall (i2 := 65) (args := [.ref 34, .int (59 : Int32)]) (rest := []) (r := some (.int (b2i v6.1))) (σ1 := v6.2) rfl rfl ⟨rfl, rfl, rfl, rfl, rfl⟩ rfl ((t_X6_pass_34 hv6).up (by decide)) ?_
      rcases wk_ife h with ⟨hc, h⟩ | ⟨hc, h⟩
      · refine wk_H0t 68 rfl (wk_zeq.2 hc) ?_
        refine wk_Hs 3 71 ⟨rfl, rfl⟩ (ls' := [.ref 34, .ref 45, .int s_0, .int (0 : Int32), .int (x4 + (1 : Int32)), w5]) (st' := []) (σ' := v6.2) rfl ?_
        refine wk_Hgoto (t := 8) rfl ?_
        cases h
        exact hk _
      · refine wk_H0f 68 66 rfl rfl (wk_nf wk_zeq hc) ?_
        refine wk_Hs 1 67 ⟨rfl, rfl⟩ (ls' := [.ref 34, .ref 45, .int s_0, .int x3, .int x4, w5]) (st' := [.int (1 : Int32)]) (σ' := v6.2) rfl ?_
        refine wk_Hgoto (t := 69) rfl ?_
        refine wk_Hs 2 71 ⟨rfl, rfl⟩ (ls' := [.ref 34, .ref 45, .int s_0, .int (1 : Int32), .int (x4 + (1 : Int32)), w5]) (st' := []) (σ' := v6.2) rfl ?_
        refine wk_Hgoto (t := 8) rfl ?_
        cases h
        exact hk _
set_option maxHeartbeats 4000000 in
set_option maxRecDepth 20000 in
theorem tj_j_X5_readLaw_46_l8 {x4 : Int32} {w2 : Value} {w3 : Value} {w5 : Value} {s : wk_St} {z : wk_R} {o : (Int32 × wk_St) ⊕ (Int32 × Int32 × Int32 × wk_St)} (h : j_X5_readLaw_46_l8 x4 s = some o) (hk : match (generalizing := false) o with | Sum.inl a => (∀ (u2 u4 u5 : Value), wk_H wk_shC 44 mc_X5_readLaw 72 [.ref 34, .ref 45, u2, .int a.1, u4, u5] [] a.2 z) | Sum.inr y => ∀ (u5 : Value), wk_H wk_shC 44 mc_X5_readLaw 8 [.ref 34, .ref 45, .int y.1, .int y.2.1, .int y.2.2.1, u5] [] y.2.2.2 z) : wk_H wk_shC 44 mc_X5_readLaw 46 [.ref 34, .ref 45, w2, w3, .int x4, w5] [] s z := by
  dsimp only [j_X5_readLaw_46_l8] at h
  refine wk_Hs 3 49 ⟨rfl, rfl⟩ (ls' := [.ref 34, .ref 45, (wk_cl w2), .int (0 : Int32), .int x4, w5]) (st' := [.ref 45]) (σ' := s) rfl ?_
  obtain ⟨v4, hv4, h⟩ := wk_bindE h
  refine wk_Hcall (i2 := 50) (args := [.ref 45]) (rest := []) (r := none) (σ1 := v4) rfl rfl ⟨rfl, rfl, rfl, rfl, rfl⟩ rfl ((t_X4_closeRule hv4).up (by decide)) ?_
  refine wk_Hs 1 51 ⟨rfl, rfl⟩ (ls' := [.ref 34, .ref 45, (wk_cl w2), .int (0 : Int32), .int x4, w5]) (st' := [.ref 34]) (σ' := v4) rfl ?_
  obtain ⟨v5, hv5, h⟩ := wk_bindE h
  refine wk_Hcall (i2 := 52) (args := [.ref 34]) (rest := []) (r := some (.int v5)) (σ1 := v4) rfl rfl ⟨rfl, rfl, rfl, rfl, rfl⟩ rfl ((t_X6_sign_34 hv5).up (by decide)) ?_
  refine wk_Hs 1 53 ⟨rfl, rfl⟩ (ls' := [.ref 34, .ref 45, (wk_cl w2), .int (0 : Int32), .int x4, w5]) (st' := [.int (-1 : Int32), .int v5]) (σ' := v4) rfl ?_
  rcases wk_ife h with ⟨hc, h⟩ | ⟨hc, h⟩
  · refine wk_Hbt 56 rfl (wk_ceq.2 hc) ?_
    refine wk_Hs 1 57 ⟨rfl, rfl⟩ (ls' := [.ref 34, .ref 45, (wk_cl w2), .int (0 : Int32), .int x4, w5]) (st' := [.int (0 : Int32)]) (σ' := v4) rfl ?_
    exact tj_j_X5_readLaw_57_l8 h hk
  · refine wk_Hbf 56 54 rfl rfl (wk_nf wk_ceq hc) ?_
    refine wk_Hs 1 55 ⟨rfl, rfl⟩ (ls' := [.ref 34, .ref 45, (wk_cl w2), .int (0 : Int32), .int x4, w5]) (st' := [.int (1 : Int32)]) (σ' := v4) rfl ?_
    refine wk_Hgoto (t := 57) rfl ?_
    exact tj_j_X5_readLaw_57_l8 h hk
set_option maxHeartbeats 4000000 in
set_option maxRecDepth 20000 in
theorem tj_j_X5_readLaw_31_l8 {x4 : Int32} {w2 : Value} {w3 : Value} {w5 : Value} {s : wk_St} {z : wk_R} {o : (Int32 × wk_St) ⊕ (Int32 × Int32 × Int32 × wk_St)} (h : j_X5_readLaw_31_l8 x4 s = some o) (hk : match (generalizing := false) o with | Sum.inl a => (∀ (u2 u4 u5 : Value), wk_H wk_shC 44 mc_X5_readLaw 72 [.ref 34, .ref 45, u2, .int a.1, u4, u5] [] a.2 z) | Sum.inr y => ∀ (u5 : Value), wk_H wk_shC 44 mc_X5_readLaw 8 [.ref 34, .ref 45, .int y.1, .int y.2.1, .int y.2.2.1, u5] [] y.2.2.2 z) : wk_H wk_shC 44 mc_X5_readLaw 31 [.ref 34, .ref 45, w2, w3, .int x4, w5] [] s z := by
  dsimp only [j_X5_readLaw_31_l8] at h
  refine wk_Hs 2 33 ⟨rfl, rfl⟩ (ls' := [.ref 34, .ref 45, w2, w3, .int x4, w5]) (st' := [.ref 45, .ref 34]) (σ' := s) rfl ?_
  obtain ⟨v7, hv7, h⟩ := wk_bindE h
  refine wk_Hcall (i2 := 34) (args := [.ref 34, .ref 45]) (rest := []) (r := some (.int (b2i v7.1))) (σ1 := v7.2) rfl rfl ⟨rfl, rfl, rfl, rfl, rfl⟩ rfl ((t_X5_openTests hv7).up (by decide)) ?_
  rcases wk_ife h with ⟨hc, h⟩ | ⟨hc, h⟩
  · refine wk_H0t 46 rfl (wk_zeq.2 hc) ?_
    exact tj_j_X5_readLaw_46_l8 h hk
  · refine wk_H0f 46 35 rfl rfl (wk_nf wk_zeq hc) ?_
    refine wk_Hs 3 38 ⟨rfl, rfl⟩ (ls' := [.ref 34, .ref 45, w2, w3, .int x4, w5]) (st' := [.int (1 : Int32), .ref 45, .ref 34]) (σ' := v7.2) rfl ?_
    obtain ⟨v8, hv8, h⟩ := wk_bindE h
    refine wk_Hcall (i2 := 39) (args := [.ref 34, .ref 45, .int (1 : Int32)]) (rest := []) (r := some (.int (b2i v8.1))) (σ1 := v8.2) rfl rfl ⟨rfl, rfl, rfl, rfl, rfl⟩ rfl ((t_X5_readTests hv8).up (by decide)) ?_
    rcases wk_ife h with ⟨hc, h⟩ | ⟨hc, h⟩
    · refine wk_H0t 46 rfl (wk_zeq.2 hc) ?_
      exact tj_j_X5_readLaw_46_l8 h hk
    · refine wk_H0f 46 40 rfl rfl (wk_nf wk_zeq hc) ?_
      refine wk_Hs 2 42 ⟨rfl, rfl⟩ (ls' := [.ref 34, .ref 45, w2, w3, .int x4, w5]) (st' := [.int (41 : Int32), .ref 34]) (σ' := v8.2) rfl ?_
      obtain ⟨v9, hv9, h⟩ := wk_bindE h
      refine wk_Hcall (i2 := 43) (args := [.ref 34, .int (41 : Int32)]) (rest := []) (r := some (.int (b2i v9.1))) (σ1 := v9.2) rfl rfl ⟨rfl, rfl, rfl, rfl, rfl⟩ rfl ((t_X6_pass_34 hv9).up (by decide)) ?_
      rcases wk_ife h with ⟨hc, h⟩ | ⟨hc, h⟩
      · refine wk_H0t 46 rfl (wk_zeq.2 hc) ?_
        exact tj_j_X5_readLaw_46_l8 h hk
      · refine wk_H0f 46 44 rfl rfl (wk_nf wk_zeq hc) ?_
        refine wk_Hs 1 45 ⟨rfl, rfl⟩ (ls' := [.ref 34, .ref 45, w2, w3, .int x4, w5]) (st' := [.int (1 : Int32)]) (σ' := v9.2) rfl ?_
        refine wk_Hgoto (t := 47) rfl ?_
        refine wk_Hs 2 49 ⟨rfl, rfl⟩ (ls' := [.ref 34, .ref 45, (wk_cl w2), .int (1 : Int32), .int x4, w5]) (st' := [.ref 45]) (σ' := v9.2) rfl ?_
        obtain ⟨v10, hv10, h⟩ := wk_bindE h
        refine wk_Hcall (i2 := 50) (args := [.ref 45]) (rest := []) (r := none) (σ1 := v10) rfl rfl ⟨rfl, rfl, rfl, rfl, rfl⟩ rfl ((t_X4_closeRule hv10).up (by decide)) ?_
        refine wk_Hs 1 51 ⟨rfl, rfl⟩ (ls' := [.ref 34, .ref 45, (wk_cl w2), .int (1 : Int32), .int x4, w5]) (st' := [.ref 34]) (σ' := v10) rfl ?_
        obtain ⟨v11, hv11, h⟩ := wk_bindE h
        refine wk_Hcall (i2 := 52) (args := [.ref 34]) (rest := []) (r := some (.int v11)) (σ1 := v10) rfl rfl ⟨rfl, rfl, rfl, rfl, rfl⟩ rfl ((t_X6_sign_34 hv11).up (by decide)) ?_
        refine wk_Hs 1 53 ⟨rfl, rfl⟩ (ls' := [.ref 34, .ref 45, (wk_cl w2), .int (1 : Int32), .int x4, w5]) (st' := [.int (-1 : Int32), .int v11]) (σ' := v10) rfl ?_
        rcases wk_ife h with ⟨hc, h⟩ | ⟨hc, h⟩
        · refine wk_Hbt 56 rfl (wk_ceq.2 hc) ?_
          refine wk_Hs 1 57 ⟨rfl, rfl⟩ (ls' := [.ref 34, .ref 45, (wk_cl w2), .int (1 : Int32), .int x4, w5]) (st' := [.int (0 : Int32)]) (σ' := v10) rfl ?_
          exact tj_j_X5_readLaw_57_l8 h hk
        · refine wk_Hbf 56 54 rfl rfl (wk_nf wk_ceq hc) ?_
          refine wk_Hs 1 55 ⟨rfl, rfl⟩ (ls' := [.ref 34, .ref 45, (wk_cl w2), .int (1 : Int32), .int x4, w5]) (st' := [.int (1 : Int32)]) (σ' := v10) rfl ?_
          refine wk_Hgoto (t := 57) rfl ?_
          exact tj_j_X5_readLaw_57_l8 h hk
set_option maxHeartbeats 4000000 in
set_option maxRecDepth 20000 in
theorem ts_S_X5_readLaw_8 {x2 : Int32} {x3 : Int32} {x4 : Int32} {w5 : Value} {s : wk_St} {z : wk_R} {o : (Int32 × wk_St) ⊕ (Int32 × Int32 × Int32 × wk_St)} (h : S_X5_readLaw_8 (x2, x3, x4, s) = some o) (hk : match (generalizing := false) o with | Sum.inl a => (∀ (u2 u4 u5 : Value), wk_H wk_shC 44 mc_X5_readLaw 72 [.ref 34, .ref 45, u2, .int a.1, u4, u5] [] a.2 z) | Sum.inr y => ∀ (u5 : Value), wk_H wk_shC 44 mc_X5_readLaw 8 [.ref 34, .ref 45, .int y.1, .int y.2.1, .int y.2.2.1, u5] [] y.2.2.2 z) : wk_H wk_shC 44 mc_X5_readLaw 8 [.ref 34, .ref 45, .int x2, .int x3, .int x4, w5] [] s z := by
  dsimp only [S_X5_readLaw_8] at h
  refine wk_Hs 2 10 ⟨rfl, rfl⟩ (ls' := [.ref 34, .ref 45, .int x2, .int x3, .int x4, w5]) (st' := [.int (240 : Int32), .int x4]) (σ' := s) rfl ?_
  rcases wk_ife h with ⟨hc, h⟩ | ⟨hc, h⟩
  · refine wk_Hbt 72 rfl (wk_cge.2 hc) ?_
    cases h
    exact hk _ _ _
  · refine wk_Hbf 72 11 rfl rfl (wk_nf wk_cge hc) ?_
    refine wk_Hs 1 12 ⟨rfl, rfl⟩ (ls' := [.ref 34, .ref 45, .int x2, .int x3, .int x4, w5]) (st' := [.int x3]) (σ' := s) rfl ?_
    rcases wk_ife h with ⟨hc, h⟩ | ⟨hc, h⟩
    · refine wk_H0t 72 rfl (wk_ceq.2 hc) ?_
      cases h
      exact hk _ _ _
    · refine wk_H0f 72 13 rfl rfl (wk_nf wk_ceq hc) ?_
      refine wk_Hs 1 14 ⟨rfl, rfl⟩ (ls' := [.ref 34, .ref 45, .int x2, .int x3, .int x4, w5]) (st' := [.int x2]) (σ' := s) rfl ?_
      rcases wk_ife h with ⟨hc, h⟩ | ⟨hc, h⟩
      · refine wk_H0t 72 rfl (wk_ceq.2 hc) ?_
        cases h
        exact hk _ _ _
      · refine wk_H0f 72 15 rfl rfl (wk_nf wk_ceq hc) ?_
        refine wk_Hs 1 16 ⟨rfl, rfl⟩ (ls' := [.ref 34, .ref 45, .int x2, .int x3, .int x4, w5]) (st' := [.ref 34]) (σ' := s) rfl ?_
        obtain ⟨v2, hv2, h⟩ := wk_bindE h
        refine wk_Hcall (i2 := 17) (args := [.ref 34]) (rest := []) (r := some (.int v2)) (σ1 := s) rfl rfl ⟨rfl, rfl, rfl, rfl, rfl⟩ rfl ((t_X6_sign_34 hv2).up (by decide)) ?_
        refine wk_Hs 4 21 ⟨rfl, rfl⟩ (ls' := [.ref 34, .ref 45, .int x2, .int x3, .int x4, .int v2]) (st' := [.ref 45, .int v2, .ref 34]) (σ' := s) rfl ?_
        obtain ⟨v3, hv3, h⟩ := wk_bindE h
        refine wk_Hcall (i2 := 22) (args := [.ref 34, .int v2, .ref 45]) (rest := []) (r := some (.int (b2i v3.1))) (σ1 := v3.2) rfl rfl ⟨rfl, rfl, rfl, rfl, rfl⟩ rfl ((t_X5_readKind hv3).up (by decide)) ?_
        rcases wk_ife h with ⟨hc, h⟩ | ⟨hc, h⟩
        · refine wk_H0t 46 rfl (wk_zeq.2 hc) ?_
          exact tj_j_X5_readLaw_46_l8 h hk
        · refine wk_H0f 46 23 rfl rfl (wk_nf wk_zeq hc) ?_
          refine wk_Hs 2 25 ⟨rfl, rfl⟩ (ls' := [.ref 34, .ref 45, .int x2, .int x3, .int x4, .int v2]) (st' := [.int (115 : Int32), .int v2]) (σ' := v3.2) rfl ?_
          rcases wk_ife h with ⟨hc, h⟩ | ⟨hc, h⟩
          · refine wk_Hbt 31 rfl (wk_ceq.2 hc) ?_
            exact tj_j_X5_readLaw_31_l8 h hk
          · refine wk_Hbf 31 26 rfl rfl (wk_nf wk_ceq hc) ?_
            refine wk_Hs 3 29 ⟨rfl, rfl⟩ (ls' := [.ref 34, .ref 45, .int x2, .int x3, .int x4, .int v2]) (st' := [.int (0 : Int32), .ref 45, .ref 34]) (σ' := v3.2) rfl ?_
            obtain ⟨v12, hv12, h⟩ := wk_bindE h
            refine wk_Hcall (i2 := 30) (args := [.ref 34, .ref 45, .int (0 : Int32)]) (rest := []) (r := some (.int (b2i v12.1))) (σ1 := v12.2) rfl rfl ⟨rfl, rfl, rfl, rfl, rfl⟩ rfl ((t_X5_readSum hv12).up (by decide)) ?_
            rcases wk_ife h with ⟨hc, h⟩ | ⟨hc, h⟩
            · refine wk_H0t 46 rfl (wk_zeq.2 hc) ?_
              exact tj_j_X5_readLaw_46_l8 h hk
            · refine wk_H0f 46 31 rfl rfl (wk_nf wk_zeq hc) ?_
              exact tj_j_X5_readLaw_31_l8 h hk
set_option maxHeartbeats 4000000 in
set_option maxRecDepth 20000 in
theorem tl_S_X5_readLaw_8 {z : wk_R} (n : Nat) : ∀ {x2 : Int32} {x3 : Int32} {x4 : Int32} {w5 : Value} {s : wk_St} {a : Int32 × wk_St} (h : wk_loop S_X5_readLaw_8 n (x2, x3, x4, s) = some a) (hk : ∀ (u2 u4 u5 : Value), wk_H wk_shC 44 mc_X5_readLaw 72 [.ref 34, .ref 45, u2, .int a.1, u4, u5] [] a.2 z), wk_H wk_shC 44 mc_X5_readLaw 8 [.ref 34, .ref 45, .int x2, .int x3, .int x4, w5] [] s z := by
  induction n with
  | zero =>
    intros
    rename_i h _
    exact nomatch (show (none : Option _) = some _ from h)
  | succ n ih =>
    intros
    rename_i h hk
    obtain ⟨o, ho, h⟩ := wk_bindE (show Option.bind _ _ = some _ from h)
    refine ts_S_X5_readLaw_8 ho ?_
    cases o with
    | inl a1 =>
      cases h
      exact hk
    | inr p =>
      obtain ⟨p0, p1, p2, p3⟩ := p
      exact fun _ => ih h hk
set_option maxHeartbeats 4000000 in
set_option maxRecDepth 20000 in
theorem t_X5_readLaw {s : wk_St} {r : Int32 × wk_St} (h : f_X5_readLaw s = some r) : wk_T wk_shC 44 208 [.ref 34, .ref 45] s (some (.int r.1), r.2) := by
  suffices H : ∀ z, z = (some (.int r.1), r.2) → wk_H wk_shC 44 mc_X5_readLaw 0 [.ref 34, .ref 45, wk_U, wk_U, wk_U, wk_U] [] s z from H _ rfl
  intro z hk
  dsimp only [f_X5_readLaw] at h
  refine wk_Hs 1 1 ⟨rfl, rfl⟩ (ls' := [.ref 34, .ref 45, wk_U, wk_U, wk_U, wk_U]) (st' := [.ref 45]) (σ' := s) rfl ?_
  replace h := wk_letE h
  refine wk_Hcall (i2 := 2) (args := [.ref 45]) (rest := []) (r := none) (σ1 := (f_X4_clear s)) rfl rfl ⟨rfl, rfl, rfl, rfl, rfl⟩ rfl ((t_X4_clear rfl).up (by decide)) ?_
  refine wk_Hs 6 8 ⟨rfl, rfl⟩ (ls' := [.ref 34, .ref 45, .int (1 : Int32), .int (1 : Int32), .int (0 : Int32), wk_U]) (st' := []) (σ' := (f_X4_clear s)) rfl ?_
  obtain ⟨v13, hv13, h⟩ := wk_bindE h
  refine tl_S_X5_readLaw_8 wk_F hv13 ?_
  intro g14 g15 g16
  refine wk_Hs 4 76 ⟨rfl, rfl⟩ (ls' := [.ref 34, .ref 45, g14, .int v13.1, g15, g16]) (st' := [.int (v13.2.1 45 7), .int v13.1, .ref 34]) (σ' := v13.2) rfl ?_
  refine wk_Hcall (i2 := 77) (args := [.ref 34, .int v13.1, .int (v13.2.1 45 7)]) (rest := []) (r := some (.int (f_X6_answer 34 v13.1 (v13.2.1 45 7) v13.2))) (σ1 := v13.2) rfl rfl ⟨rfl, rfl, rfl, rfl, rfl⟩ rfl ((t_X6_answer_34 rfl).up (by decide)) ?_
  cases h
  exact wk_eqz hk (wk_Hret rfl)
set_option maxHeartbeats 4000000 in
set_option maxRecDepth 20000 in
theorem t_X8_byteAt {x1 : Int32} {s : wk_St} {r : Int32} (h : f_X8_byteAt x1 s = some r) : wk_T wk_shC 0 234 [.ref 1, .int x1] s (some (.int r), s) := by
  suffices H : ∀ z, z = (some (.int r), s) → wk_H wk_shC 0 mc_X8_byteAt 0 [.ref 1, .int x1] [] s z from H _ rfl
  intro z hk
  dsimp only [f_X8_byteAt] at h
  refine wk_Hs 1 1 ⟨rfl, rfl⟩ (ls' := [.ref 1, .int x1]) (st' := [.int x1]) (σ' := s) rfl ?_
  rcases wk_ife h with ⟨hc, h⟩ | ⟨hc, h⟩
  · refine wk_H0t 16 rfl (wk_clt.2 hc) ?_
    refine wk_Hs 1 17 ⟨rfl, rfl⟩ (ls' := [.ref 1, .int x1]) (st' := [.int (-1 : Int32)]) (σ' := s) rfl ?_
    cases h
    exact wk_eqz hk (wk_Hret rfl)
  · refine wk_H0f 16 2 rfl rfl (wk_nf wk_clt hc) ?_
    refine wk_Hs 3 5 ⟨rfl, rfl⟩ (ls' := [.ref 1, .int x1]) (st' := [.int (s.1 1 1), .int x1]) (σ' := s) rfl ?_
    rcases wk_ife h with ⟨hc, h⟩ | ⟨hc, h⟩
    · refine wk_Hbt 16 rfl (wk_cge.2 hc) ?_
      refine wk_Hs 1 17 ⟨rfl, rfl⟩ (ls' := [.ref 1, .int x1]) (st' := [.int (-1 : Int32)]) (σ' := s) rfl ?_
      cases h
      exact wk_eqz hk (wk_Hret rfl)
    · refine wk_Hbf 16 6 rfl rfl (wk_nf wk_cge hc) ?_
      refine wk_Hs 4 10 ⟨rfl, rfl⟩ (ls' := [.ref 1, .int x1]) (st' := [.int (260 : Int32), .int x1]) (σ' := s) rfl ?_
      rcases wk_ife h with ⟨hc, h⟩ | ⟨hc, h⟩
      · refine wk_Hbt 16 rfl (wk_cge.2 hc) ?_
        refine wk_Hs 1 17 ⟨rfl, rfl⟩ (ls' := [.ref 1, .int x1]) (st' := [.int (-1 : Int32)]) (σ' := s) rfl ?_
        cases h
        exact wk_eqz hk (wk_Hret rfl)
      · refine wk_Hbf 16 11 rfl rfl (wk_nf wk_cge hc) ?_
        refine wk_Hs 3 14 ⟨rfl, rfl⟩ (ls' := [.ref 1, .int x1]) (st' := [.int x1, .ref 2]) (σ' := s) rfl ?_
        obtain ⟨hg, h⟩ := wk_gdE h
        refine wk_Hia 15 rfl rfl rfl hg rfl ?_
        refine wk_Hgoto (t := 17) rfl ?_
        cases h
        exact wk_eqz hk (wk_Hret rfl)
set_option maxHeartbeats 4000000 in
set_option maxRecDepth 20000 in
theorem ts_S_X6_begin_5_30 {x2 : Int32} {x3 : Int32} {s : wk_St} {z : wk_R} {o : (wk_St) ⊕ (Int32 × wk_St)} (h : S_X6_begin_5 30 x2 (x3, s) = some o) (hk : match (generalizing := false) o with | Sum.inl a => (∀ (u3 : Value), wk_H wk_shC 1 mc_X6_begin 22 [.ref 30, .ref 1, .int x2, u3] [] a z) | Sum.inr y => wk_H wk_shC 1 mc_X6_begin 5 [.ref 30, .ref 1, .int x2, .int y.1] [] y.2 z) : wk_H wk_shC 1 mc_X6_begin 5 [.ref 30, .ref 1, .int x2, .int x3] [] s z := by
  dsimp only [S_X6_begin_5] at h
  refine wk_Hs 2 7 ⟨rfl, rfl⟩ (ls' := [.ref 30, .ref 1, .int x2, .int x3]) (st' := [.int x2, .int x3]) (σ' := s) rfl ?_
  rcases wk_ife h with ⟨hc, h⟩ | ⟨hc, h⟩
  · refine wk_Hbt 22 rfl (wk_cge.2 hc) ?_
    cases h
    exact hk _
  · refine wk_Hbf 22 8 rfl rfl (wk_nf wk_cge hc) ?_
    refine wk_Hs 4 12 ⟨rfl, rfl⟩ (ls' := [.ref 30, .ref 1, .int x2, .int x3]) (st' := [.int (240 : Int32), .int x3]) (σ' := s) rfl ?_
    rcases wk_ife h with ⟨hc, h⟩ | ⟨hc, h⟩
    · refine wk_Hbt 22 rfl (wk_cge.2 hc) ?_
      cases h
      exact hk _
    · refine wk_Hbf 22 13 rfl rfl (wk_nf wk_cge hc) ?_
      refine wk_Hs 5 18 ⟨rfl, rfl⟩ (ls' := [.ref 30, .ref 1, .int x2, .int x3]) (st' := [.int x3, .ref 1, .int x3, .ref 31]) (σ' := s) rfl ?_
      obtain ⟨v1, hv1, h⟩ := wk_bindE h
      refine wk_Hcall (i2 := 19) (args := [.ref 1, .int x3]) (rest := [.int x3, .ref 31]) (r := some (.int v1)) (σ1 := s) rfl rfl ⟨rfl, rfl, rfl, rfl, rfl⟩ rfl ((t_X8_byteAt hv1).up (by decide)) ?_
      obtain ⟨hg, h⟩ := wk_gdE h
      refine wk_Hias 20 rfl rfl rfl hg rfl ?_
      refine wk_Hs 1 21 ⟨rfl, rfl⟩ (ls' := [.ref 30, .ref 1, .int x2, .int (x3 + (1 : Int32))]) (st' := []) (σ' := (wk_si s 31 (x3.toNatClampNeg) v1)) rfl ?_
      refine wk_Hgoto (t := 5) rfl ?_
      cases h
      exact hk
set_option maxHeartbeats 4000000 in
set_option maxRecDepth 20000 in
theorem tl_S_X6_begin_5_30 {x2 : Int32} {z : wk_R} (n : Nat) : ∀ {x3 : Int32} {s : wk_St} {a : wk_St} (h : wk_loop (S_X6_begin_5 30 x2) n (x3, s) = some a) (hk : ∀ (u3 : Value), wk_H wk_shC 1 mc_X6_begin 22 [.ref 30, .ref 1, .int x2, u3] [] a z), wk_H wk_shC 1 mc_X6_begin 5 [.ref 30, .ref 1, .int x2, .int x3] [] s z := by
  induction n with
  | zero =>
    intros
    rename_i h _
    exact nomatch (show (none : Option _) = some _ from h)
  | succ n ih =>
    intros
    rename_i h hk
    obtain ⟨o, ho, h⟩ := wk_bindE (show Option.bind _ _ = some _ from h)
    refine ts_S_X6_begin_5_30 ho ?_
    cases o with
    | inl a1 =>
      cases h
      exact hk
    | inr p =>
      obtain ⟨p0, p1⟩ := p
      exact ih h hk
set_option maxHeartbeats 4000000 in
set_option maxRecDepth 20000 in
theorem t_X6_begin_30 {x2 : Int32} {s : wk_St} {r : wk_St} (h : f_X6_begin 30 x2 s = some r) : wk_T wk_shC 1 216 [.ref 30, .ref 1, .int x2] s (none, r) := by
  suffices H : ∀ z, z = (none, r) → wk_H wk_shC 1 mc_X6_begin 0 [.ref 30, .ref 1, .int x2, wk_U] [] s z from H _ rfl
  intro z hk
  dsimp only [f_X6_begin] at h
  refine wk_Hs 5 5 ⟨rfl, rfl⟩ (ls' := [.ref 30, .ref 1, .int x2, .int (0 : Int32)]) (st' := []) (σ' := (wk_si s 30 1 x2)) rfl ?_
  obtain ⟨v2, hv2, h⟩ := wk_bindE h
  refine tl_S_X6_begin_5_30 wk_F hv2 ?_
  intro g3
  refine wk_Hs 6 28 ⟨rfl, rfl⟩ (ls' := [.ref 30, .ref 1, .int x2, g3]) (st' := []) (σ' := (wk_si (wk_si v2 30 3 (0 : Int32)) 30 2 (0 : Int32))) rfl ?_
  cases h
  exact wk_eqz hk (wk_Hretv rfl)
set_option maxHeartbeats 4000000 in
set_option maxRecDepth 20000 in
theorem ts_S_X6_begin_5_32 {x2 : Int32} {x3 : Int32} {s : wk_St} {z : wk_R} {o : (wk_St) ⊕ (Int32 × wk_St)} (h : S_X6_begin_5 32 x2 (x3, s) = some o) (hk : match (generalizing := false) o with | Sum.inl a => (∀ (u3 : Value), wk_H wk_shC 1 mc_X6_begin 22 [.ref 32, .ref 1, .int x2, u3] [] a z) | Sum.inr y => wk_H wk_shC 1 mc_X6_begin 5 [.ref 32, .ref 1, .int x2, .int y.1] [] y.2 z) : wk_H wk_shC 1 mc_X6_begin 5 [.ref 32, .ref 1, .int x2, .int x3] [] s z := by
  dsimp only [S_X6_begin_5] at h
  refine wk_Hs 2 7 ⟨rfl, rfl⟩ (ls' := [.ref 32, .ref 1, .int x2, .int x3]) (st' := [.int x2, .int x3]) (σ' := s) rfl ?_
  rcases wk_ife h with ⟨hc, h⟩ | ⟨hc, h⟩
  · refine wk_Hbt 22 rfl (wk_cge.2 hc) ?_
    cases h
    exact hk _
  · refine wk_Hbf 22 8 rfl rfl (wk_nf wk_cge hc) ?_
    refine wk_Hs 4 12 ⟨rfl, rfl⟩ (ls' := [.ref 32, .ref 1, .int x2, .int x3]) (st' := [.int (240 : Int32), .int x3]) (σ' := s) rfl ?_
    rcases wk_ife h with ⟨hc, h⟩ | ⟨hc, h⟩
    · refine wk_Hbt 22 rfl (wk_cge.2 hc) ?_
      cases h
      exact hk _
    · refine wk_Hbf 22 13 rfl rfl (wk_nf wk_cge hc) ?_
      refine wk_Hs 5 18 ⟨rfl, rfl⟩ (ls' := [.ref 32, .ref 1, .int x2, .int x3]) (st' := [.int x3, .ref 1, .int x3, .ref 33]) (σ' := s) rfl ?_
      obtain ⟨v1, hv1, h⟩ := wk_bindE h
      refine wk_Hcall (i2 := 19) (args := [.ref 1, .int x3]) (rest := [.int x3, .ref 33]) (r := some (.int v1)) (σ1 := s) rfl rfl ⟨rfl, rfl, rfl, rfl, rfl⟩ rfl ((t_X8_byteAt hv1).up (by decide)) ?_
      obtain ⟨hg, h⟩ := wk_gdE h
      refine wk_Hias 20 rfl rfl rfl hg rfl ?_
      refine wk_Hs 1 21 ⟨rfl, rfl⟩ (ls' := [.ref 32, .ref 1, .int x2, .int (x3 + (1 : Int32))]) (st' := []) (σ' := (wk_si s 33 (x3.toNatClampNeg) v1)) rfl ?_
      refine wk_Hgoto (t := 5) rfl ?_
      cases h
      exact hk
set_option maxHeartbeats 4000000 in
set_option maxRecDepth 20000 in
theorem tl_S_X6_begin_5_32 {x2 : Int32} {z : wk_R} (n : Nat) : ∀ {x3 : Int32} {s : wk_St} {a : wk_St} (h : wk_loop (S_X6_begin_5 32 x2) n (x3, s) = some a) (hk : ∀ (u3 : Value), wk_H wk_shC 1 mc_X6_begin 22 [.ref 32, .ref 1, .int x2, u3] [] a z), wk_H wk_shC 1 mc_X6_begin 5 [.ref 32, .ref 1, .int x2, .int x3] [] s z := by
  induction n with
  | zero =>
    intros
    rename_i h _
    exact nomatch (show (none : Option _) = some _ from h)
  | succ n ih =>
    intros
    rename_i h hk
    obtain ⟨o, ho, h⟩ := wk_bindE (show Option.bind _ _ = some _ from h)
    refine ts_S_X6_begin_5_32 ho ?_
    cases o with
    | inl a1 =>
      cases h
      exact hk
    | inr p =>
      obtain ⟨p0, p1⟩ := p
      exact ih h hk
set_option maxHeartbeats 4000000 in
set_option maxRecDepth 20000 in
theorem t_X6_begin_32 {x2 : Int32} {s : wk_St} {r : wk_St} (h : f_X6_begin 32 x2 s = some r) : wk_T wk_shC 1 216 [.ref 32, .ref 1, .int x2] s (none, r) := by
  suffices H : ∀ z, z = (none, r) → wk_H wk_shC 1 mc_X6_begin 0 [.ref 32, .ref 1, .int x2, wk_U] [] s z from H _ rfl
  intro z hk
  dsimp only [f_X6_begin] at h
  refine wk_Hs 5 5 ⟨rfl, rfl⟩ (ls' := [.ref 32, .ref 1, .int x2, .int (0 : Int32)]) (st' := []) (σ' := (wk_si s 32 1 x2)) rfl ?_
  obtain ⟨v2, hv2, h⟩ := wk_bindE h
  refine tl_S_X6_begin_5_32 wk_F hv2 ?_
  intro g3
  refine wk_Hs 6 28 ⟨rfl, rfl⟩ (ls' := [.ref 32, .ref 1, .int x2, g3]) (st' := []) (σ' := (wk_si (wk_si v2 32 3 (0 : Int32)) 32 2 (0 : Int32))) rfl ?_
  cases h
  exact wk_eqz hk (wk_Hretv rfl)
set_option maxHeartbeats 4000000 in
set_option maxRecDepth 20000 in
theorem ts_S_X6_begin_5_34 {x2 : Int32} {x3 : Int32} {s : wk_St} {z : wk_R} {o : (wk_St) ⊕ (Int32 × wk_St)} (h : S_X6_begin_5 34 x2 (x3, s) = some o) (hk : match (generalizing := false) o with | Sum.inl a => (∀ (u3 : Value), wk_H wk_shC 1 mc_X6_begin 22 [.ref 34, .ref 1, .int x2, u3] [] a z) | Sum.inr y => wk_H wk_shC 1 mc_X6_begin 5 [.ref 34, .ref 1, .int x2, .int y.1] [] y.2 z) : wk_H wk_shC 1 mc_X6_begin 5 [.ref 34, .ref 1, .int x2, .int x3] [] s z := by
  dsimp only [S_X6_begin_5] at h
  refine wk_Hs 2 7 ⟨rfl, rfl⟩ (ls' := [.ref 34, .ref 1, .int x2, .int x3]) (st' := [.int x2, .int x3]) (σ' := s) rfl ?_
  rcases wk_ife h with ⟨hc, h⟩ | ⟨hc, h⟩
  · refine wk_Hbt 22 rfl (wk_cge.2 hc) ?_
    cases h
    exact hk _
  · refine wk_Hbf 22 8 rfl rfl (wk_nf wk_cge hc) ?_
    refine wk_Hs 4 12 ⟨rfl, rfl⟩ (ls' := [.ref 34, .ref 1, .int x2, .int x3]) (st' := [.int (240 : Int32), .int x3]) (σ' := s) rfl ?_
    rcases wk_ife h with ⟨hc, h⟩ | ⟨hc, h⟩
    · refine wk_Hbt 22 rfl (wk_cge.2 hc) ?_
      cases h
      exact hk _
    · refine wk_Hbf 22 13 rfl rfl (wk_nf wk_cge hc) ?_
      refine wk_Hs 5 18 ⟨rfl, rfl⟩ (ls' := [.ref 34, .ref 1, .int x2, .int x3]) (st' := [.int x3, .ref 1, .int x3, .ref 35]) (σ' := s) rfl ?_
      obtain ⟨v1, hv1, h⟩ := wk_bindE h
      refine wk_Hcall (i2 := 19) (args := [.ref 1, .int x3]) (rest := [.int x3, .ref 35]) (r := some (.int v1)) (σ1 := s) rfl rfl ⟨rfl, rfl, rfl, rfl, rfl⟩ rfl ((t_X8_byteAt hv1).up (by decide)) ?_
      obtain ⟨hg, h⟩ := wk_gdE h
      refine wk_Hias 20 rfl rfl rfl hg rfl ?_
      refine wk_Hs 1 21 ⟨rfl, rfl⟩ (ls' := [.ref 34, .ref 1, .int x2, .int (x3 + (1 : Int32))]) (st' := []) (σ' := (wk_si s 35 (x3.toNatClampNeg) v1)) rfl ?_
      refine wk_Hgoto (t := 5) rfl ?_
      cases h
      exact hk
set_option maxHeartbeats 4000000 in
set_option maxRecDepth 20000 in
theorem tl_S_X6_begin_5_34 {x2 : Int32} {z : wk_R} (n : Nat) : ∀ {x3 : Int32} {s : wk_St} {a : wk_St} (h : wk_loop (S_X6_begin_5 34 x2) n (x3, s) = some a) (hk : ∀ (u3 : Value), wk_H wk_shC 1 mc_X6_begin 22 [.ref 34, .ref 1, .int x2, u3] [] a z), wk_H wk_shC 1 mc_X6_begin 5 [.ref 34, .ref 1, .int x2, .int x3] [] s z := by
  induction n with
  | zero =>
    intros
    rename_i h _
    exact nomatch (show (none : Option _) = some _ from h)
  | succ n ih =>
    intros
    rename_i h hk
    obtain ⟨o, ho, h⟩ := wk_bindE (show Option.bind _ _ = some _ from h)
    refine ts_S_X6_begin_5_34 ho ?_
    cases o with
    | inl a1 =>
      cases h
      exact hk
    | inr p =>
      obtain ⟨p0, p1⟩ := p
      exact ih h hk
set_option maxHeartbeats 4000000 in
set_option maxRecDepth 20000 in
theorem t_X6_begin_34 {x2 : Int32} {s : wk_St} {r : wk_St} (h : f_X6_begin 34 x2 s = some r) : wk_T wk_shC 1 216 [.ref 34, .ref 1, .int x2] s (none, r) := by
  suffices H : ∀ z, z = (none, r) → wk_H wk_shC 1 mc_X6_begin 0 [.ref 34, .ref 1, .int x2, wk_U] [] s z from H _ rfl
  intro z hk
  dsimp only [f_X6_begin] at h
  refine wk_Hs 5 5 ⟨rfl, rfl⟩ (ls' := [.ref 34, .ref 1, .int x2, .int (0 : Int32)]) (st' := []) (σ' := (wk_si s 34 1 x2)) rfl ?_
  obtain ⟨v2, hv2, h⟩ := wk_bindE h
  refine tl_S_X6_begin_5_34 wk_F hv2 ?_
  intro g3
  refine wk_Hs 6 28 ⟨rfl, rfl⟩ (ls' := [.ref 34, .ref 1, .int x2, g3]) (st' := []) (σ' := (wk_si (wk_si v2 34 3 (0 : Int32)) 34 2 (0 : Int32))) rfl ?_
  cases h
  exact wk_eqz hk (wk_Hretv rfl)
set_option maxHeartbeats 4000000 in
set_option maxRecDepth 20000 in
theorem t_X8_has {x1 : Int32} {x2 : Int32} {x3 : Int32} {s : wk_St} {r : Bool} (h : f_X8_has x1 x2 x3 s = r) : wk_T wk_shC 1 233 [.ref 1, .int x1, .int x2, .int x3] s (some (.int (b2i r)), s) := by
  suffices H : ∀ z, z = (some (.int (b2i r)), s) → wk_H wk_shC 1 mc_X8_has 0 [.ref 1, .int x1, .int x2, .int x3] [] s z from H _ rfl
  intro z hk
  dsimp only [f_X8_has] at h
  refine wk_Hs 3 3 ⟨rfl, rfl⟩ (ls' := [.ref 1, .int x1, .int x2, .int x3]) (st' := [.int x3, .int x2, .int x1]) (σ' := s) rfl ?_
  refine wk_Hcall (i2 := 4) (args := [.int x1, .int x2, .int x3]) (rest := []) (r := some (.int (b2i (f_X11_isWithin x1 x2 x3)))) (σ1 := s) rfl rfl ⟨rfl, rfl, rfl, rfl, rfl⟩ rfl ((t_X11_isWithin rfl).up (by decide)) ?_
  rcases wk_ife h with ⟨hc, h⟩ | ⟨hc, h⟩
  · refine wk_H0t 11 rfl (wk_zeq.2 hc) ?_
    refine wk_Hs 1 12 ⟨rfl, rfl⟩ (ls' := [.ref 1, .int x1, .int x2, .int x3]) (st' := [.int (0 : Int32)]) (σ' := s) rfl ?_
    cases h
    exact wk_eqz hk (wk_Hretz rfl (b2i_01 false))
  · refine wk_H0f 11 5 rfl rfl (wk_nf wk_zeq hc) ?_
    refine wk_Hs 3 8 ⟨rfl, rfl⟩ (ls' := [.ref 1, .int x1, .int x2, .int x3]) (st' := [.int (s.1 1 1), .int x1]) (σ' := s) rfl ?_
    rcases wk_ife h with ⟨hc, h⟩ | ⟨hc, h⟩
    · refine wk_Hbt 11 rfl (wk_cgt.2 hc) ?_
      refine wk_Hs 1 12 ⟨rfl, rfl⟩ (ls' := [.ref 1, .int x1, .int x2, .int x3]) (st' := [.int (0 : Int32)]) (σ' := s) rfl ?_
      cases h
      exact wk_eqz hk (wk_Hretz rfl (b2i_01 false))
    · refine wk_Hbf 11 9 rfl rfl (wk_nf wk_cgt hc) ?_
      refine wk_Hs 1 10 ⟨rfl, rfl⟩ (ls' := [.ref 1, .int x1, .int x2, .int x3]) (st' := [.int (1 : Int32)]) (σ' := s) rfl ?_
      refine wk_Hgoto (t := 12) rfl ?_
      cases h
      exact wk_eqz hk (wk_Hretz rfl (b2i_01 true))
set_option maxHeartbeats 4000000 in
set_option maxRecDepth 20000 in
theorem t_X8_clear {s : wk_St} {r : wk_St} (h : f_X8_clear s = r) : wk_T wk_shC 0 236 [.ref 1] s (none, r) := by
  suffices H : ∀ z, z = (none, r) → wk_H wk_shC 0 mc_X8_clear 0 [.ref 1] [] s z from H _ rfl
  intro z hk
  dsimp only [f_X8_clear] at h
  refine wk_Hs 3 3 ⟨rfl, rfl⟩ (ls' := [.ref 1]) (st' := []) (σ' := (wk_si s 1 1 (0 : Int32))) rfl ?_
  cases h
  exact wk_eqz hk (wk_Hretv rfl)
set_option maxHeartbeats 4000000 in
set_option maxRecDepth 20000 in
theorem t_X11_law {x1 : Int32} {s : wk_St} {r : Int32 × wk_St} (h : f_X11_law x1 s = some r) : wk_T wk_shC 45 6 [.ref 0, .int x1] s (some (.int r.1), r.2) := by
  suffices H : ∀ z, z = (some (.int r.1), r.2) → wk_H wk_shC 45 mc_X11_law 0 [.ref 0, .int x1, wk_U] [] s z from H _ rfl
  intro z hk
  dsimp only [f_X11_law] at h
  refine wk_Hs 5 5 ⟨rfl, rfl⟩ (ls' := [.ref 0, .int x1, wk_U]) (st' := [.int (240 : Int32), .int (1 : Int32), .int x1, .ref 1]) (σ' := s) rfl ?_
  refine wk_Hcall (i2 := 6) (args := [.ref 1, .int x1, .int (1 : Int32), .int (240 : Int32)]) (rest := []) (r := some (.int (b2i (f_X8_has x1 (1 : Int32) (240 : Int32) s)))) (σ1 := s) rfl rfl ⟨rfl, rfl, rfl, rfl, rfl⟩ rfl ((t_X8_has rfl).up (by decide)) ?_
  rcases wk_ife h with ⟨hc, h⟩ | ⟨hc, h⟩
  · refine wk_H0t 9 rfl (wk_zne.2 hc) ?_
    refine wk_Hs 5 14 ⟨rfl, rfl⟩ (ls' := [.ref 0, .int x1, wk_U]) (st' := [.int x1, .ref 1, .ref 34]) (σ' := s) rfl ?_
    obtain ⟨v2, hv2, h⟩ := wk_bindE h
    refine wk_Hcall (i2 := 15) (args := [.ref 34, .ref 1, .int x1]) (rest := []) (r := none) (σ1 := v2) rfl rfl ⟨rfl, rfl, rfl, rfl, rfl⟩ rfl ((t_X6_begin_34 hv2).up (by decide)) ?_
    refine wk_Hs 2 17 ⟨rfl, rfl⟩ (ls' := [.ref 0, .int x1, wk_U]) (st' := [.ref 1]) (σ' := v2) rfl ?_
    replace h := wk_letE h
    refine wk_Hcall (i2 := 18) (args := [.ref 1]) (rest := []) (r := none) (σ1 := (f_X8_clear v2)) rfl rfl ⟨rfl, rfl, rfl, rfl, rfl⟩ rfl ((t_X8_clear rfl).up (by decide)) ?_
    refine wk_Hs 4 22 ⟨rfl, rfl⟩ (ls' := [.ref 0, .int x1, wk_U]) (st' := [.ref 45, .ref 34]) (σ' := (f_X8_clear v2)) rfl ?_
    obtain ⟨v4, hv4, h⟩ := wk_bindE h
    refine wk_Hcall (i2 := 23) (args := [.ref 34, .ref 45]) (rest := []) (r := some (.int v4.1)) (σ1 := v4.2) rfl rfl ⟨rfl, rfl, rfl, rfl, rfl⟩ rfl ((t_X5_readLaw hv4).up (by decide)) ?_
    refine wk_Hs 2 25 ⟨rfl, rfl⟩ (ls' := [.ref 0, .int x1, .int v4.1]) (st' := [.int v4.1]) (σ' := v4.2) rfl ?_
    rcases wk_ife h with ⟨hc, h⟩ | ⟨hc, h⟩
    · refine wk_H0t 31 rfl (wk_clt.2 hc) ?_
      refine wk_Hs 1 32 ⟨rfl, rfl⟩ (ls' := [.ref 0, .int x1, .int v4.1]) (st' := [.int v4.1]) (σ' := v4.2) rfl ?_
      cases h
      exact wk_eqz hk (wk_Hret rfl)
    · refine wk_H0f 31 26 rfl rfl (wk_nf wk_clt hc) ?_
      refine wk_Hs 4 30 ⟨rfl, rfl⟩ (ls' := [.ref 0, .int x1, .int v4.1]) (st' := [.ref 45, .ref 37]) (σ' := v4.2) rfl ?_
      obtain ⟨v5, hv5, h⟩ := wk_bindE h
      refine wk_Hcall (i2 := 31) (args := [.ref 37, .ref 45]) (rest := []) (r := none) (σ1 := v5) rfl rfl ⟨rfl, rfl, rfl, rfl, rfl⟩ rfl ((t_X4_copyFrom hv5).up (by decide)) ?_
      refine wk_Hs 1 32 ⟨rfl, rfl⟩ (ls' := [.ref 0, .int x1, .int v4.1]) (st' := [.int v4.1]) (σ' := v5) rfl ?_
      cases h
      exact wk_eqz hk (wk_Hret rfl)
  · refine wk_H0f 9 7 rfl rfl (wk_nf wk_zne hc) ?_
    refine wk_Hs 1 8 ⟨rfl, rfl⟩ (ls' := [.ref 0, .int x1, wk_U]) (st' := [.int (-1 : Int32)]) (σ' := s) rfl ?_
    cases h
    exact wk_eqz hk (wk_Hret rfl)
set_option maxHeartbeats 4000000 in
set_option maxRecDepth 20000 in
theorem t_X2_setHunts {x1 : Int32} {x2 : Int32} {x3 : Int64} {s : wk_St} {r : wk_St} (h : f_X2_setHunts x1 x2 x3 s = some r) : wk_T wk_shC 1 180 [.ref 3, .int x1, .int x2, .long x3] s (none, r) := by
  suffices H : ∀ z, z = (none, r) → wk_H wk_shC 1 mc_X2_setHunts 0 [.ref 3, .int x1, .int x2, .long x3, wk_U] [] s z from H _ rfl
  intro z hk
  dsimp only [f_X2_setHunts] at h
  refine wk_Hs 3 3 ⟨rfl, rfl⟩ (ls' := [.ref 3, .int x1, .int x2, .long x3, wk_U]) (st' := [.int (11 : Int32), .int (0 : Int32), .int x1]) (σ' := s) rfl ?_
  refine wk_Hcall (i2 := 4) (args := [.int x1, .int (0 : Int32), .int (11 : Int32)]) (rest := []) (r := some (.int (b2i (f_X11_isWithin x1 (0 : Int32) (11 : Int32))))) (σ1 := s) rfl rfl ⟨rfl, rfl, rfl, rfl, rfl⟩ rfl ((t_X11_isWithin rfl).up (by decide)) ?_
  rcases wk_ife h with ⟨hc, h⟩ | ⟨hc, h⟩
  · refine wk_H0t 20 rfl (wk_zeq.2 hc) ?_
    cases h
    exact wk_eqz hk (wk_Hretv rfl)
  · refine wk_H0f 20 5 rfl rfl (wk_nf wk_zeq hc) ?_
    refine wk_Hs 3 8 ⟨rfl, rfl⟩ (ls' := [.ref 3, .int x1, .int x2, .long x3, wk_U]) (st' := [.int (48 : Int32), .int (0 : Int32), .int x2]) (σ' := s) rfl ?_
    refine wk_Hcall (i2 := 9) (args := [.int x2, .int (0 : Int32), .int (48 : Int32)]) (rest := []) (r := some (.int (b2i (f_X11_isWithin x2 (0 : Int32) (48 : Int32))))) (σ1 := s) rfl rfl ⟨rfl, rfl, rfl, rfl, rfl⟩ rfl ((t_X11_isWithin rfl).up (by decide)) ?_
    rcases wk_ife h with ⟨hc, h⟩ | ⟨hc, h⟩
    · refine wk_H0t 20 rfl (wk_zeq.2 hc) ?_
      cases h
      exact wk_eqz hk (wk_Hretv rfl)
    · refine wk_H0f 20 10 rfl rfl (wk_nf wk_zeq hc) ?_
      refine wk_Hs 4 14 ⟨rfl, rfl⟩ (ls' := [.ref 3, .int x1, .int x2, .long x3, wk_U]) (st' := [.int x2, .int x1, .ref 6]) (σ' := s) rfl ?_
      obtain ⟨hg, h⟩ := wk_gdE h
      refine wk_Hias 15 rfl rfl rfl hg rfl ?_
      refine wk_Hs 4 19 ⟨rfl, rfl⟩ (ls' := [.ref 3, .int x1, .int x2, .long x3, wk_U]) (st' := [.long x3, .int x1, .ref 7]) (σ' := (wk_si s 6 (x1.toNatClampNeg) x2)) rfl ?_
      obtain ⟨hg, h⟩ := wk_gdE h
      refine wk_Hlas 20 rfl rfl rfl hg rfl ?_
      cases h
      exact wk_eqz hk (wk_Hretv rfl)
set_option maxHeartbeats 4000000 in
set_option maxRecDepth 20000 in
theorem tb_X3_readGroup {d0 : Nat} (hd : 1 ≤ d0) {F_X3_readRow : Int32 → wk_St → Option (Bool × wk_St)} (HF_X3_readRow : ∀ {a0 : Int32} {s : wk_St} {r : Bool × wk_St}, F_X3_readRow a0 s = some r → wk_T wk_shC d0 188 [.ref 30, .int a0] s (some (.int (b2i r.1)), r.2)) {F_X3_readPart : Int32 → wk_St → Option (Bool × wk_St)} (HF_X3_readPart : ∀ {a0 : Int32} {s : wk_St} {r : Bool × wk_St}, F_X3_readPart a0 s = some r → wk_T wk_shC d0 189 [.ref 30, .int a0] s (some (.int (b2i r.1)), r.2)) {F_X3_readGroup : Int32 → wk_St → Option (Bool × wk_St)} (HF_X3_readGroup : ∀ {a0 : Int32} {s : wk_St} {r : Bool × wk_St}, F_X3_readGroup a0 s = some r → wk_T wk_shC d0 190 [.ref 30, .int a0] s (some (.int (b2i r.1)), r.2)) {x1 : Int32} {s : wk_St} {r : Bool × wk_St} (h : b_X3_readGroup F_X3_readRow F_X3_readPart F_X3_readGroup x1 s = some r) : wk_T wk_shC (d0 + 1) 190 [.ref 30, .int x1] s (some (.int (b2i r.1)), r.2) := by
  suffices H : ∀ z, z = (some (.int (b2i r.1)), r.2) → wk_H wk_shC (d0 + 1) mc_X3_readGroup 0 [.ref 30, .int x1] [] s z from H _ rfl
  intro z hk
  dsimp only [b_X3_readGroup] at h
  refine wk_Hs 2 2 ⟨rfl, rfl⟩ (ls' := [.ref 30, .int x1]) (st' := [.int (2 : Int32), .int x1]) (σ' := s) rfl ?_
  rcases wk_ife h with ⟨hc, h⟩ | ⟨hc, h⟩
  · refine wk_Hbt 9 rfl (wk_clt.2 hc) ?_
    refine wk_Hs 10 19 ⟨rfl, rfl⟩ (ls' := [.ref 30, .int x1]) (st' := [.int (x1 + (1 : Int32)), .ref 30]) (σ' := (wk_si s 30 3 ((s.1 30 3) + (1 : Int32)))) rfl ?_
    obtain ⟨v1, hv1, h⟩ := wk_bindE h
    refine wk_Hcall (i2 := 20) (args := [.ref 30, .int (x1 + (1 : Int32))]) (rest := []) (r := some (.int (b2i v1.1))) (σ1 := v1.2) rfl rfl ⟨rfl, rfl, rfl, rfl, rfl⟩ rfl (HF_X3_readRow hv1) ?_
    rcases wk_ife h with ⟨hc, h⟩ | ⟨hc, h⟩
    · refine wk_H0t 27 rfl (wk_zeq.2 hc) ?_
      refine wk_Hs 1 28 ⟨rfl, rfl⟩ (ls' := [.ref 30, .int x1]) (st' := [.int (0 : Int32)]) (σ' := v1.2) rfl ?_
      cases h
      exact wk_eqz hk (wk_Hretz rfl (b2i_01 false))
    · refine wk_H0f 27 21 rfl rfl (wk_nf wk_zeq hc) ?_
      refine wk_Hs 2 23 ⟨rfl, rfl⟩ (ls' := [.ref 30, .int x1]) (st' := [.int (41 : Int32), .ref 30]) (σ' := v1.2) rfl ?_
      obtain ⟨v2, hv2, h⟩ := wk_bindE h
      refine wk_Hcall (i2 := 24) (args := [.ref 30, .int (41 : Int32)]) (rest := []) (r := some (.int (b2i v2.1))) (σ1 := v2.2) rfl rfl ⟨rfl, rfl, rfl, rfl, rfl⟩ rfl ((t_X6_pass_30 hv2).up (by omega)) ?_
      rcases wk_ife h with ⟨hc, h⟩ | ⟨hc, h⟩
      · refine wk_H0t 27 rfl (wk_zeq.2 hc) ?_
        refine wk_Hs 1 28 ⟨rfl, rfl⟩ (ls' := [.ref 30, .int x1]) (st' := [.int (0 : Int32)]) (σ' := v2.2) rfl ?_
        cases h
        exact wk_eqz hk (wk_Hretz rfl (b2i_01 false))
      · refine wk_H0f 27 25 rfl rfl (wk_nf wk_zeq hc) ?_
        refine wk_Hs 1 26 ⟨rfl, rfl⟩ (ls' := [.ref 30, .int x1]) (st' := [.int (1 : Int32)]) (σ' := v2.2) rfl ?_
        refine wk_Hgoto (t := 28) rfl ?_
        cases h
        exact wk_eqz hk (wk_Hretz rfl (b2i_01 true))
  · refine wk_Hbf 9 3 rfl rfl (wk_nf wk_clt hc) ?_
    refine wk_Hs 4 7 ⟨rfl, rfl⟩ (ls' := [.ref 30, .int x1]) (st' := [.int (s.1 30 3), .int (5 : Int32), .ref 30]) (σ' := s) rfl ?_
    replace h := wk_letE h
    refine wk_Hcall (i2 := 8) (args := [.ref 30, .int (5 : Int32), .int (s.1 30 3)]) (rest := []) (r := some (.int (b2i ((f_X6_blame 30 (5 : Int32) (s.1 30 3) s).1)))) (σ1 := (f_X6_blame 30 (5 : Int32) (s.1 30 3) s).2) rfl rfl ⟨rfl, rfl, rfl, rfl, rfl⟩ rfl ((t_X6_blame_30 rfl).up (by omega)) ?_
    cases h
    exact wk_eqz hk (wk_Hretz rfl (b2i_01 _))
set_option maxHeartbeats 4000000 in
set_option maxRecDepth 20000 in
theorem tj_j_X3_readOne_27 {s_0 : Int64} {s_1 : Int64} {s : wk_St} {z : wk_R} {o : Bool × wk_St} (h : j_X3_readOne_27 s_0 s_1 s = some o) (hk : z = (some (.int (b2i o.1)), o.2)) : wk_H wk_shC 1 mc_X3_readOne 27 [.ref 30] [.long s_0, .long s_1, .ref 30] s z := by
  dsimp only [j_X3_readOne_27] at h
  refine wk_Hs 15 42 ⟨rfl, rfl⟩ (ls' := [.ref 30]) (st' := [.int (1 : Int32)]) (σ' := (wk_si (wk_si (wk_sl s 30 4 (s_1 ||| s_0)) 30 5 (((wk_sl s 30 4 (s_1 ||| s_0)).1 30 5) + (1 : Int32))) 30 3 (((wk_si (wk_sl s 30 4 (s_1 ||| s_0)) 30 5 (((wk_sl s 30 4 (s_1 ||| s_0)).1 30 5) + (1 : Int32))).1 30 3) + (1 : Int32)))) rfl ?_
  cases h
  exact wk_eqz hk (wk_Hretz rfl (b2i_01 true))
set_option maxHeartbeats 4000000 in
set_option maxRecDepth 20000 in
theorem tj_j_X3_readOne_14 {s : wk_St} {z : wk_R} {o : Bool × wk_St} (h : j_X3_readOne_14 s = some o) (hk : z = (some (.int (b2i o.1)), o.2)) : wk_H wk_shC 1 mc_X3_readOne 14 [.ref 30] [] s z := by
  dsimp only [j_X3_readOne_14] at h
  refine wk_Hs 4 18 ⟨rfl, rfl⟩ (ls' := [.ref 30]) (st' := [.ref 30, .long (s.2 30 4), .ref 30]) (σ' := s) rfl ?_
  obtain ⟨v2, hv2, h⟩ := wk_bindE h
  refine wk_Hcall (i2 := 19) (args := [.ref 30]) (rest := [.long (s.2 30 4), .ref 30]) (r := some (.int v2)) (σ1 := s) rfl rfl ⟨rfl, rfl, rfl, rfl, rfl⟩ rfl ((t_X6_sign_30 hv2).up (by decide)) ?_
  refine wk_Hs 1 20 ⟨rfl, rfl⟩ (ls' := [.ref 30]) (st' := [.int (104 : Int32), .int v2, .long (s.2 30 4), .ref 30]) (σ' := s) rfl ?_
  rcases wk_ife h with ⟨hc, h⟩ | ⟨hc, h⟩
  · refine wk_Hbt 26 rfl (wk_cne.2 hc) ?_
    refine wk_Hs 1 27 ⟨rfl, rfl⟩ (ls' := [.ref 30]) (st' := [.long (0 : Int64), .long (s.2 30 4), .ref 30]) (σ' := s) rfl ?_
    exact tj_j_X3_readOne_27 h hk
  · refine wk_Hbf 26 21 rfl rfl (wk_nf wk_cne hc) ?_
    refine wk_Hs 4 25 ⟨rfl, rfl⟩ (ls' := [.ref 30]) (st' := [.long ((1 : Int64) <<< ((s.1 30 5).toInt64 &&& 63)), .long (s.2 30 4), .ref 30]) (σ' := s) rfl ?_
    refine wk_Hgoto (t := 27) rfl ?_
    exact tj_j_X3_readOne_27 h hk
set_option maxHeartbeats 4000000 in
set_option maxRecDepth 20000 in
theorem t_X3_readOne {s : wk_St} {r : Bool × wk_St} (h : f_X3_readOne s = some r) : wk_T wk_shC 1 191 [.ref 30] s (some (.int (b2i r.1)), r.2) := by
  suffices H : ∀ z, z = (some (.int (b2i r.1)), r.2) → wk_H wk_shC 1 mc_X3_readOne 0 [.ref 30] [] s z from H _ rfl
  intro z hk
  dsimp only [f_X3_readOne] at h
  refine wk_Hs 1 1 ⟨rfl, rfl⟩ (ls' := [.ref 30]) (st' := [.ref 30]) (σ' := s) rfl ?_
  obtain ⟨v1, hv1, h⟩ := wk_bindE h
  refine wk_Hcall (i2 := 2) (args := [.ref 30]) (rest := []) (r := some (.int v1)) (σ1 := s) rfl rfl ⟨rfl, rfl, rfl, rfl, rfl⟩ rfl ((t_X6_sign_30 hv1).up (by decide)) ?_
  refine wk_Hs 1 3 ⟨rfl, rfl⟩ (ls' := [.ref 30]) (st' := [.int (104 : Int32), .int v1]) (σ' := s) rfl ?_
  rcases wk_ife h with ⟨hc, h⟩ | ⟨hc, h⟩
  · refine wk_Hbt 14 rfl (wk_ceq.2 hc) ?_
    exact tj_j_X3_readOne_14 h hk
  · refine wk_Hbf 14 4 rfl rfl (wk_nf wk_ceq hc) ?_
    refine wk_Hs 1 5 ⟨rfl, rfl⟩ (ls' := [.ref 30]) (st' := [.ref 30]) (σ' := s) rfl ?_
    obtain ⟨v3, hv3, h⟩ := wk_bindE h
    refine wk_Hcall (i2 := 6) (args := [.ref 30]) (rest := []) (r := some (.int v3)) (σ1 := s) rfl rfl ⟨rfl, rfl, rfl, rfl, rfl⟩ rfl ((t_X6_sign_30 hv3).up (by decide)) ?_
    refine wk_Hs 1 7 ⟨rfl, rfl⟩ (ls' := [.ref 30]) (st' := [.int (46 : Int32), .int v3]) (σ' := s) rfl ?_
    rcases wk_ife h with ⟨hc, h⟩ | ⟨hc, h⟩
    · refine wk_Hbt 14 rfl (wk_ceq.2 hc) ?_
      exact tj_j_X3_readOne_14 h hk
    · refine wk_Hbf 14 8 rfl rfl (wk_nf wk_ceq hc) ?_
      refine wk_Hs 4 12 ⟨rfl, rfl⟩ (ls' := [.ref 30]) (st' := [.int (s.1 30 3), .int (1 : Int32), .ref 30]) (σ' := s) rfl ?_
      replace h := wk_letE h
      refine wk_Hcall (i2 := 13) (args := [.ref 30, .int (1 : Int32), .int (s.1 30 3)]) (rest := []) (r := some (.int (b2i ((f_X6_blame 30 (1 : Int32) (s.1 30 3) s).1)))) (σ1 := (f_X6_blame 30 (1 : Int32) (s.1 30 3) s).2) rfl rfl ⟨rfl, rfl, rfl, rfl, rfl⟩ rfl ((t_X6_blame_30 rfl).up (by decide)) ?_
      cases h
      exact wk_eqz hk (wk_Hretz rfl (b2i_01 _))
set_option maxHeartbeats 4000000 in
set_option maxRecDepth 20000 in
theorem ts_S_X3_repeat_24 {x2 : Int32} {x4 : Int32} {x5 : Int64} {x7 : Int32} {w1 : Value} {w3 : Value} {w6 : Value} {s : wk_St} {z : wk_R} {o : (wk_St) ⊕ (Int32 × wk_St)} (h : S_X3_repeat_24 x2 x4 x5 (x7, s) = some o) (hk : match (generalizing := false) o with | Sum.inl a => (∀ (u6 u7 : Value), wk_H wk_shC 1 mc_X3_repeat 44 [.ref 30, w1, .int x2, w3, .int x4, .long x5, u6, u7] [] a z) | Sum.inr y => ∀ (u6 : Value), wk_H wk_shC 1 mc_X3_repeat 24 [.ref 30, w1, .int x2, w3, .int x4, .long x5, u6, .int y.1] [] y.2 z) : wk_H wk_shC 1 mc_X3_repeat 24 [.ref 30, w1, .int x2, w3, .int x4, .long x5, w6, .int x7] [] s z := by
  dsimp only [S_X3_repeat_24] at h
  refine wk_Hs 2 26 ⟨rfl, rfl⟩ (ls' := [.ref 30, w1, .int x2, w3, .int x4, .long x5, w6, .int x7]) (st' := [.int x2, .int x7]) (σ' := s) rfl ?_
  rcases wk_ife h with ⟨hc, h⟩ | ⟨hc, h⟩
  · refine wk_Hbt 44 rfl (wk_cge.2 hc) ?_
    cases h
    exact hk _ _
  · refine wk_Hbf 44 27 rfl rfl (wk_nf wk_cge hc) ?_
    refine wk_Hs 16 43 ⟨rfl, rfl⟩ (ls' := [.ref 30, w1, .int x2, w3, .int x4, .long x5, (wk_cl w6), .int (x7 + (1 : Int32))]) (st' := []) (σ' := (wk_si (wk_sl s 30 4 ((s.2 30 4) ||| (x5 <<< ((s.1 30 5).toInt64 &&& 63)))) 30 5 (((wk_sl s 30 4 ((s.2 30 4) ||| (x5 <<< ((s.1 30 5).toInt64 &&& 63)))).1 30 5) + x4))) rfl ?_
    refine wk_Hgoto (t := 24) rfl ?_
    cases h
    exact hk _
