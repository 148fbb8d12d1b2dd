set_option maxHeartbeats 4000000 in
set_option maxRecDepth 20000 in
theorem tl_S_X12_byLaw_2 {x1 : Int32} {x2 : Int32} {w4 : Value} {z : wk_R} (n : Nat) : ∀ {x3 : Int32} {s : wk_St} {a : (Int32 × wk_St) ⊕ (wk_St)} (h : wk_loop (S_X12_byLaw_2 x1 x2) n (x3, s) = some a) (hk : match (generalizing := false) a with | Sum.inl r => z = (some (.int r.1), r.2) | Sum.inr y => ∀ (u3 : Value), wk_H wk_shM 2 mc_X12_byLaw 49 [.ref 0, .int x1, .int x2, u3, w4] [] y z), wk_H wk_shM 2 mc_X12_byLaw 2 [.ref 0, .int x1, .int x2, .int x3, w4] [] s z := by
  induction n with
  | zero =>
    intros
    rename_i h _
    exact nomatch (show (none : Option _) = some _ from h)
  | succ n ih =>
    intros
    rename_i h hk
    obtain ⟨o, ho, h⟩ := wk_bindE (show Option.bind _ _ = some _ from h)
    refine ts_S_X12_byLaw_2 ho ?_
    cases o with
    | inl a1 =>
      cases h
      exact hk
    | inr p =>
      obtain ⟨p0, p1⟩ := p
      exact ih h hk
set_option maxHeartbeats 4000000 in
set_option maxRecDepth 20000 in
theorem t_X12_byLaw {x1 : Int32} {x2 : Int32} {s : wk_St} {r : Int32 × wk_St} (h : f_X12_byLaw x1 x2 s = some r) : wk_T wk_shM 2 86 [.ref 0, .int x1, .int x2] s (some (.int r.1), r.2) := by
  suffices H : ∀ z, z = (some (.int r.1), r.2) → wk_H wk_shM 2 mc_X12_byLaw 0 [.ref 0, .int x1, .int x2, wk_U, wk_U] [] s z from H _ rfl
  intro z hk
  dsimp only [f_X12_byLaw] at h
  refine wk_Hs 2 2 ⟨rfl, rfl⟩ (ls' := [.ref 0, .int x1, .int x2, .int (0 : Int32), wk_U]) (st' := []) (σ' := s) rfl ?_
  obtain ⟨v3, hv3, h⟩ := wk_bindE h
  rcases v3 with v3r | v3
  · cases h
    exact tl_S_X12_byLaw_2 wk_F hv3 hk
  · refine tl_S_X12_byLaw_2 wk_F hv3 ?_
    intro g4
    dsimp only at h ⊢
    refine wk_Hs 1 50 ⟨rfl, rfl⟩ (ls' := [.ref 0, .int x1, .int x2, g4, wk_U]) (st' := [.int (0 : Int32)]) (σ' := v3) rfl ?_
    cases h
    exact wk_eqz hk (wk_Hret rfl)
set_option maxHeartbeats 4000000 in
set_option maxRecDepth 20000 in
theorem ts_S_X12_holdsAny_2 {x1 : Int32} {x2 : Int32} {s : wk_St} {z : wk_R} {o : ((Bool × wk_St) ⊕ (wk_St)) ⊕ (Int32 × wk_St)} (h : S_X12_holdsAny_2 x1 (x2, s) = some o) (hk : match (generalizing := false) o with | Sum.inl a => (match (generalizing := false) a with | Sum.inl r => z = (some (.int (b2i r.1)), r.2) | Sum.inr y => ∀ (u2 : Value), wk_H wk_shM 2 mc_X12_holdsAny 28 [.ref 0, .int x1, u2] [] y z) | Sum.inr y => wk_H wk_shM 2 mc_X12_holdsAny 2 [.ref 0, .int x1, .int y.1] [] y.2 z) : wk_H wk_shM 2 mc_X12_holdsAny 2 [.ref 0, .int x1, .int x2] [] s z := by
  dsimp only [S_X12_holdsAny_2] at h
  refine wk_Hs 3 5 ⟨rfl, rfl⟩ (ls' := [.ref 0, .int x1, .int x2]) (st' := [.int (s.1 0 18), .int x2]) (σ' := s) rfl ?_
  rcases wk_ife h with ⟨hc, h⟩ | ⟨hc, h⟩
  · refine wk_Hbt 28 rfl (wk_cge.2 hc) ?_
    cases h
    exact hk _
  · refine wk_Hbf 28 6 rfl rfl (wk_nf wk_cge hc) ?_
    refine wk_Hs 3 9 ⟨rfl, rfl⟩ (ls' := [.ref 0, .int x1, .int x2]) (st' := [.int x2, .ref 15]) (σ' := s) rfl ?_
    obtain ⟨hg, h⟩ := wk_gdE h
    refine wk_Hia 10 rfl rfl rfl hg rfl ?_
    refine wk_Hs 1 11 ⟨rfl, rfl⟩ (ls' := [.ref 0, .int x1, .int x2]) (st' := [.int x1, .int (s.1 15 (x2.toNatClampNeg))]) (σ' := s) rfl ?_
    rcases wk_ife h with ⟨hc, h⟩ | ⟨hc, h⟩
    · refine wk_Hbt 26 rfl (wk_cne.2 hc) ?_
      refine wk_Hs 1 27 ⟨rfl, rfl⟩ (ls' := [.ref 0, .int x1, .int (x2 + (1 : Int32))]) (st' := []) (σ' := s) rfl ?_
      refine wk_Hgoto (t := 2) rfl ?_
      cases h
      exact hk
    · refine wk_Hbf 26 12 rfl rfl (wk_nf wk_cne hc) ?_
      refine wk_Hs 4 16 ⟨rfl, rfl⟩ (ls' := [.ref 0, .int x1, .int x2]) (st' := [.int x2, .ref 17, .ref 0]) (σ' := s) rfl ?_
      obtain ⟨hg, h⟩ := wk_gdE h
      refine wk_Hia 17 rfl rfl rfl hg rfl ?_
      refine wk_Hs 3 20 ⟨rfl, rfl⟩ (ls' := [.ref 0, .int x1, .int x2]) (st' := [.int x2, .ref 18, .int (s.1 17 (x2.toNatClampNeg)), .ref 0]) (σ' := s) rfl ?_
      obtain ⟨hg, h⟩ := wk_gdE h
      refine wk_Hia 21 rfl rfl rfl hg rfl ?_
      obtain ⟨v1, hv1, h⟩ := wk_bindE h
      refine wk_Hcall (i2 := 22) (args := [.ref 0, .int (s.1 17 (x2.toNatClampNeg)), .int (s.1 18 (x2.toNatClampNeg))]) (rest := []) (r := some (.int v1.1)) (σ1 := v1.2) rfl rfl ⟨rfl, rfl, rfl, rfl, rfl⟩ rfl ((t_X12_comesTo hv1).up (by decide)) ?_
      refine wk_Hs 1 23 ⟨rfl, rfl⟩ (ls' := [.ref 0, .int x1, .int x2]) (st' := [.int (1 : Int32), .int v1.1]) (σ' := v1.2) rfl ?_
      rcases wk_ife h with ⟨hc, h⟩ | ⟨hc, h⟩
      · refine wk_Hbt 26 rfl (wk_cne.2 hc) ?_
        refine wk_Hs 1 27 ⟨rfl, rfl⟩ (ls' := [.ref 0, .int x1, .int (x2 + (1 : Int32))]) (st' := []) (σ' := v1.2) rfl ?_
        refine wk_Hgoto (t := 2) rfl ?_
        cases h
        exact hk
      · refine wk_Hbf 26 24 rfl rfl (wk_nf wk_cne hc) ?_
        refine wk_Hs 1 25 ⟨rfl, rfl⟩ (ls' := [.ref 0, .int x1, .int x2]) (st' := [.int (1 : Int32)]) (σ' := v1.2) rfl ?_
        cases h
        exact wk_eqz hk (wk_Hretz rfl (b2i_01 true))
set_option maxHeartbeats 4000000 in
set_option maxRecDepth 20000 in
theorem tl_S_X12_holdsAny_2 {x1 : Int32} {z : wk_R} (n : Nat) : ∀ {x2 : Int32} {s : wk_St} {a : (Bool × wk_St) ⊕ (wk_St)} (h : wk_loop (S_X12_holdsAny_2 x1) n (x2, s) = some a) (hk : match (generalizing := false) a with | Sum.inl r => z = (some (.int (b2i r.1)), r.2) | Sum.inr y => ∀ (u2 : Value), wk_H wk_shM 2 mc_X12_holdsAny 28 [.ref 0, .int x1, u2] [] y z), wk_H wk_shM 2 mc_X12_holdsAny 2 [.ref 0, .int x1, .int x2] [] s z := by
  induction n with
  | zero =>
    intros
    rename_i h _
    exact nomatch (show (none : Option _) = some _ from h)
  | succ n ih =>
    intros
    rename_i h hk
    obtain ⟨o, ho, h⟩ := wk_bindE (show Option.bind _ _ = some _ from h)
    refine ts_S_X12_holdsAny_2 ho ?_
    cases o with
    | inl a1 =>
      cases h
      exact hk
    | inr p =>
      obtain ⟨p0, p1⟩ := p
      exact ih h hk
set_option maxHeartbeats 4000000 in
set_option maxRecDepth 20000 in
theorem t_X12_holdsAny {x1 : Int32} {s : wk_St} {r : Bool × wk_St} (h : f_X12_holdsAny x1 s = some r) : wk_T wk_shM 2 87 [.ref 0, .int x1] s (some (.int (b2i r.1)), r.2) := by
  suffices H : ∀ z, z = (some (.int (b2i r.1)), r.2) → wk_H wk_shM 2 mc_X12_holdsAny 0 [.ref 0, .int x1, wk_U] [] s z from H _ rfl
  intro z hk
  dsimp only [f_X12_holdsAny] at h
  refine wk_Hs 2 2 ⟨rfl, rfl⟩ (ls' := [.ref 0, .int x1, .int (0 : Int32)]) (st' := []) (σ' := s) rfl ?_
  obtain ⟨v2, hv2, h⟩ := wk_bindE h
  rcases v2 with v2r | v2
  · cases h
    exact tl_S_X12_holdsAny_2 wk_F hv2 hk
  · refine tl_S_X12_holdsAny_2 wk_F hv2 ?_
    intro g3
    dsimp only at h ⊢
    refine wk_Hs 1 29 ⟨rfl, rfl⟩ (ls' := [.ref 0, .int x1, g3]) (st' := [.int (0 : Int32)]) (σ' := v2) rfl ?_
    cases h
    exact wk_eqz hk (wk_Hretz rfl (b2i_01 false))
set_option maxHeartbeats 4000000 in
set_option maxRecDepth 20000 in
theorem ts_S_X12_othersAt_4 {x1 : Int32} {x2 : Int32} {x3 : Int32} {x4 : Int32} {s : wk_St} {z : wk_R} {o : (Int32) ⊕ (Int32 × Int32)} (h : S_X12_othersAt_4 x1 x2 s (x3, x4) = some o) (hk : match (generalizing := false) o with | Sum.inl a => (∀ (u4 : Value), wk_H wk_shM 3 mc_X12_othersAt 28 [.ref 0, .int x1, .int x2, .int a, u4] [] s z) | Sum.inr y => wk_H wk_shM 3 mc_X12_othersAt 4 [.ref 0, .int x1, .int x2, .int y.1, .int y.2] [] s z) : wk_H wk_shM 3 mc_X12_othersAt 4 [.ref 0, .int x1, .int x2, .int x3, .int x4] [] s z := by
  dsimp only [S_X12_othersAt_4] at h
  refine wk_Hs 2 6 ⟨rfl, rfl⟩ (ls' := [.ref 0, .int x1, .int x2, .int x3, .int x4]) (st' := [.int (9 : Int32), .int x4]) (σ' := s) rfl ?_
  rcases wk_ife h with ⟨hc, h⟩ | ⟨hc, h⟩
  · refine wk_Hbt 28 rfl (wk_cge.2 hc) ?_
    cases h
    exact hk _
  · refine wk_Hbf 28 7 rfl rfl (wk_nf wk_cge hc) ?_
    refine wk_Hs 2 9 ⟨rfl, rfl⟩ (ls' := [.ref 0, .int x1, .int x2, .int x3, .int x4]) (st' := [.int x1, .int x4]) (σ' := s) rfl ?_
    rcases wk_ife h with ⟨hc, h⟩ | ⟨hc, h⟩
    · refine wk_Hbt 26 rfl (wk_ceq.2 hc) ?_
      refine wk_Hs 1 27 ⟨rfl, rfl⟩ (ls' := [.ref 0, .int x1, .int x2, .int x3, .int (x4 + (1 : Int32))]) (st' := []) (σ' := s) rfl ?_
      refine wk_Hgoto (t := 4) rfl ?_
      cases h
      exact hk
    · refine wk_Hbf 26 10 rfl rfl (wk_nf wk_ceq hc) ?_
      refine wk_Hs 2 12 ⟨rfl, rfl⟩ (ls' := [.ref 0, .int x1, .int x2, .int x3, .int x4]) (st' := [.int x4, .ref 0]) (σ' := s) rfl ?_
      obtain ⟨v1, hv1, h⟩ := wk_bindE h
      refine wk_Hcall (i2 := 13) (args := [.ref 0, .int x4]) (rest := []) (r := some (.int (b2i v1))) (σ1 := s) rfl rfl ⟨rfl, rfl, rfl, rfl, rfl⟩ rfl ((t_X12_isLiving hv1).up (by decide)) ?_
      rcases wk_ife h with ⟨hc, h⟩ | ⟨hc, h⟩
      · refine wk_H0t 26 rfl (wk_zeq.2 hc) ?_
        refine wk_Hs 1 27 ⟨rfl, rfl⟩ (ls' := [.ref 0, .int x1, .int x2, .int x3, .int (x4 + (1 : Int32))]) (st' := []) (σ' := s) rfl ?_
        refine wk_Hgoto (t := 4) rfl ?_
        cases h
        exact hk
      · refine wk_H0f 26 14 rfl rfl (wk_nf wk_zeq hc) ?_
        refine wk_Hs 5 19 ⟨rfl, rfl⟩ (ls' := [.ref 0, .int x1, .int x2, .int x3, .int x4]) (st' := [.int ((18 : Int32) + x4), .ref 1]) (σ' := s) rfl ?_
        obtain ⟨hg, h⟩ := wk_gdE h
        refine wk_Hia 20 rfl rfl rfl hg rfl ?_
        refine wk_Hs 1 21 ⟨rfl, rfl⟩ (ls' := [.ref 0, .int x1, .int x2, .int x3, .int x4]) (st' := [.int x2, .int (s.1 1 (((18 : Int32) + x4).toNatClampNeg))]) (σ' := s) rfl ?_
        rcases wk_ife h with ⟨hc, h⟩ | ⟨hc, h⟩
        · refine wk_Hbt 26 rfl (wk_cne.2 hc) ?_
          refine wk_Hs 1 27 ⟨rfl, rfl⟩ (ls' := [.ref 0, .int x1, .int x2, .int x3, .int (x4 + (1 : Int32))]) (st' := []) (σ' := s) rfl ?_
          refine wk_Hgoto (t := 4) rfl ?_
          cases h
          exact hk
        · refine wk_Hbf 26 22 rfl rfl (wk_nf wk_cne hc) ?_
          refine wk_Hs 3 25 ⟨rfl, rfl⟩ (ls' := [.ref 0, .int x1, .int x2, .int x3, .int x4]) (st' := [.int (x3 + (1 : Int32))]) (σ' := s) rfl ?_
          replace h := wk_letE h
          refine wk_Hs 2 27 ⟨rfl, rfl⟩ (ls' := [.ref 0, .int x1, .int x2, .int (x3 + (1 : Int32)), .int (x4 + (1 : Int32))]) (st' := []) (σ' := s) rfl ?_
          refine wk_Hgoto (t := 4) rfl ?_
          cases h
          exact hk
set_option maxHeartbeats 4000000 in
set_option maxRecDepth 20000 in
theorem tl_S_X12_othersAt_4 {x1 : Int32} {x2 : Int32} {s : wk_St} {z : wk_R} (n : Nat) : ∀ {x3 : Int32} {x4 : Int32} {a : Int32} (h : wk_loop (S_X12_othersAt_4 x1 x2 s) n (x3, x4) = some a) (hk : ∀ (u4 : Value), wk_H wk_shM 3 mc_X12_othersAt 28 [.ref 0, .int x1, .int x2, .int a, u4] [] s z), wk_H wk_shM 3 mc_X12_othersAt 4 [.ref 0, .int x1, .int x2, .int x3, .int x4] [] s z := by
  induction n with
  | zero =>
    intros
    rename_i h _
    exact nomatch (show (none : Option _) = some _ from h)
  | succ n ih =>
    intros
    rename_i h hk
    obtain ⟨o, ho, h⟩ := wk_bindE (show Option.bind _ _ = some _ from h)
    refine ts_S_X12_othersAt_4 ho ?_
    cases o with
    | inl a1 =>
      cases h
      exact hk
    | inr p =>
      obtain ⟨p0, p1⟩ := p
      exact ih h hk
set_option maxHeartbeats 4000000 in
set_option maxRecDepth 20000 in
theorem t_X12_othersAt {x1 : Int32} {x2 : Int32} {s : wk_St} {r : Int32} (h : f_X12_othersAt x1 x2 s = some r) : wk_T wk_shM 3 88 [.ref 0, .int x1, .int x2] s (some (.int r), s) := by
  suffices H : ∀ z, z = (some (.int r), s) → wk_H wk_shM 3 mc_X12_othersAt 0 [.ref 0, .int x1, .int x2, wk_U, wk_U] [] s z from H _ rfl
  intro z hk
  dsimp only [f_X12_othersAt] at h
  refine wk_Hs 4 4 ⟨rfl, rfl⟩ (ls' := [.ref 0, .int x1, .int x2, .int (0 : Int32), .int (0 : Int32)]) (st' := []) (σ' := s) rfl ?_
  obtain ⟨v3, hv3, h⟩ := wk_bindE h
  refine tl_S_X12_othersAt_4 wk_F hv3 ?_
  intro g4
  refine wk_Hs 1 29 ⟨rfl, rfl⟩ (ls' := [.ref 0, .int x1, .int x2, .int v3, g4]) (st' := [.int v3]) (σ' := s) rfl ?_
  cases h
  exact wk_eqz hk (wk_Hret rfl)
set_option maxHeartbeats 4000000 in
set_option maxRecDepth 20000 in
theorem t_X12_isHunted {x1 : Int32} {x2 : Int32} {s : wk_St} {r : Bool} (h : f_X12_isHunted x1 x2 s = some r) : wk_T wk_shM 0 94 [.ref 0, .int x1, .int x2] s (some (.int (b2i r)), s) := by
  suffices H : ∀ z, z = (some (.int (b2i r)), s) → wk_H wk_shM 0 mc_X12_isHunted 0 [.ref 0, .int x1, .int x2] [] s z from H _ rfl
  intro z hk
  dsimp only [f_X12_isHunted] at h
  refine wk_Hs 3 3 ⟨rfl, rfl⟩ (ls' := [.ref 0, .int x1, .int x2]) (st' := [.int x1, .ref 22]) (σ' := s) rfl ?_
  obtain ⟨hg, h⟩ := wk_gdE h
  refine wk_Hia 4 rfl rfl rfl hg rfl ?_
  rcases wk_ife h with ⟨hc, h⟩ | ⟨hc, h⟩
  · refine wk_H0t 27 rfl (wk_cle.2 hc) ?_
    refine wk_Hs 1 28 ⟨rfl, rfl⟩ (ls' := [.ref 0, .int x1, .int x2]) (st' := [.int (0 : Int32)]) (σ' := s) rfl ?_
    cases h
    exact wk_eqz hk (wk_Hretz rfl (b2i_01 false))
  · refine wk_H0f 27 5 rfl rfl (wk_nf wk_cle hc) ?_
    refine wk_Hs 8 13 ⟨rfl, rfl⟩ (ls' := [.ref 0, .int x1, .int x2]) (st' := [.int (45 : Int32), .ref 1, .int ((48 : Int32) * x1), .ref 21]) (σ' := s) rfl ?_
    refine wk_Hia 14 rfl rfl rfl rfl rfl ?_
    refine wk_Hs 5 19 ⟨rfl, rfl⟩ (ls' := [.ref 0, .int x1, .int x2]) (st' := [.int x1, .ref 22, .int ((s.1 1 45) + x2), .int ((48 : Int32) * x1), .ref 21]) (σ' := s) rfl ?_
    obtain ⟨hg, h⟩ := wk_gdE h
    refine wk_Hia 20 rfl rfl rfl hg rfl ?_
    obtain ⟨hg, h⟩ := wk_gdN h
    refine wk_Hrem 21 rfl rfl hg ?_
    refine wk_Hs 1 22 ⟨rfl, rfl⟩ (ls' := [.ref 0, .int x1, .int x2]) (st' := [.int (((48 : Int32) * x1) + (wk_rem ((s.1 1 45) + x2) (s.1 22 (x1.toNatClampNeg)))), .ref 21]) (σ' := s) rfl ?_
    obtain ⟨hg, h⟩ := wk_gdE h
    refine wk_Hba 23 rfl rfl rfl hg rfl ?_
    refine wk_Hs 1 24 ⟨rfl, rfl⟩ (ls' := [.ref 0, .int x1, .int x2]) (st' := [.int (1 : Int32), .int (s.1 21 ((((48 : Int32) * x1) + (wk_rem ((s.1 1 45) + x2) (s.1 22 (x1.toNatClampNeg)))).toNatClampNeg))]) (σ' := s) rfl ?_
    rcases wk_ife h with ⟨hc, h⟩ | ⟨hc, h⟩
    · refine wk_Hbt 27 rfl (wk_cne.2 hc) ?_
      refine wk_Hs 1 28 ⟨rfl, rfl⟩ (ls' := [.ref 0, .int x1, .int x2]) (st' := [.int (0 : Int32)]) (σ' := s) rfl ?_
      cases h
      exact wk_eqz hk (wk_Hretz rfl (b2i_01 false))
    · refine wk_Hbf 27 25 rfl rfl (wk_nf wk_cne hc) ?_
      refine wk_Hs 1 26 ⟨rfl, rfl⟩ (ls' := [.ref 0, .int x1, .int x2]) (st' := [.int (1 : Int32)]) (σ' := s) rfl ?_
      refine wk_Hgoto (t := 28) rfl ?_
      cases h
      exact wk_eqz hk (wk_Hretz rfl (b2i_01 true))
set_option maxHeartbeats 4000000 in
set_option maxRecDepth 20000 in
theorem tj_j_X12_feels_39 {x1 : Int32} {x2 : Int32} {s_0 : Int32} {s_1 : Int32} {s : wk_St} {z : wk_R} {o : wk_St} (h : j_X12_feels_39 x1 x2 s_0 s_1 s = some o) (hk : z = (none, o)) : wk_H wk_shM 4 mc_X12_feels 39 [.ref 0, .int x1, .int x2] [.int s_0, .int s_1, .ref 20] s z := by
  dsimp only [j_X12_feels_39] at h
  obtain ⟨hg, h⟩ := wk_gdE h
  refine wk_Hias 40 rfl rfl rfl hg rfl ?_
  refine wk_Hs 6 46 ⟨rfl, rfl⟩ (ls' := [.ref 0, .int x1, .int x2]) (st' := [.int x2, .int x1, .ref 0, .int (5 : Int32), .ref 20]) (σ' := (wk_si s 20 (s_1.toNatClampNeg) s_0)) rfl ?_
  obtain ⟨v3, hv3, h⟩ := wk_bindE h
  refine wk_Hcall (i2 := 47) (args := [.ref 0, .int x1, .int x2]) (rest := [.int (5 : Int32), .ref 20]) (r := some (.int v3)) (σ1 := (wk_si s 20 (s_1.toNatClampNeg) s_0)) rfl rfl ⟨rfl, rfl, rfl, rfl, rfl⟩ rfl ((t_X12_othersAt hv3).up (by decide)) ?_
  refine wk_Hias 48 rfl rfl rfl rfl rfl ?_
  refine wk_Hs 5 53 ⟨rfl, rfl⟩ (ls' := [.ref 0, .int x1, .int x2]) (st' := [.int (0 : Int32), .ref 0, .int (6 : Int32), .ref 20]) (σ' := (wk_si (wk_si s 20 (s_1.toNatClampNeg) s_0) 20 5 v3)) rfl ?_
  refine wk_Hcall (i2 := 54) (args := [.ref 0, .int (0 : Int32)]) (rest := [.int (6 : Int32), .ref 20]) (r := some (.int (f_X12_weekdayIn (0 : Int32) (wk_si (wk_si s 20 (s_1.toNatClampNeg) s_0) 20 5 v3)))) (σ1 := (wk_si (wk_si s 20 (s_1.toNatClampNeg) s_0) 20 5 v3)) rfl rfl ⟨rfl, rfl, rfl, rfl, rfl⟩ rfl ((t_X12_weekdayIn rfl).up (by decide)) ?_
  refine wk_Hias 55 rfl rfl rfl rfl rfl ?_
  refine wk_Hs 6 61 ⟨rfl, rfl⟩ (ls' := [.ref 0, .int x1, .int x2]) (st' := [.int (45 : Int32), .ref 1, .int (7 : Int32), .ref 20]) (σ' := (wk_si (wk_si (wk_si s 20 (s_1.toNatClampNeg) s_0) 20 5 v3) 20 6 (f_X12_weekdayIn (0 : Int32) (wk_si (wk_si s 20 (s_1.toNatClampNeg) s_0) 20 5 v3)))) rfl ?_
  refine wk_Hia 62 rfl rfl rfl rfl rfl ?_
  refine wk_Hs 1 63 ⟨rfl, rfl⟩ (ls' := [.ref 0, .int x1, .int x2]) (st' := [.int (100 : Int32), .int ((wk_si (wk_si (wk_si s 20 (s_1.toNatClampNeg) s_0) 20 5 v3) 20 6 (f_X12_weekdayIn (0 : Int32) (wk_si (wk_si s 20 (s_1.toNatClampNeg) s_0) 20 5 v3))).1 1 45), .int (7 : Int32), .ref 20]) (σ' := (wk_si (wk_si (wk_si s 20 (s_1.toNatClampNeg) s_0) 20 5 v3) 20 6 (f_X12_weekdayIn (0 : Int32) (wk_si (wk_si s 20 (s_1.toNatClampNeg) s_0) 20 5 v3)))) rfl ?_
  refine wk_Hrem 64 rfl rfl (by decide) ?_
  refine wk_Hias 65 rfl rfl rfl rfl rfl ?_
  cases h
  exact wk_eqz hk (wk_Hretv rfl)
set_option maxHeartbeats 4000000 in
set_option maxRecDepth 20000 in
theorem t_X12_feels {x1 : Int32} {x2 : Int32} {s : wk_St} {r : wk_St} (h : f_X12_feels x1 x2 s = some r) : wk_T wk_shM 4 89 [.ref 0, .int x1, .int x2] s (none, r) := by
  suffices H : ∀ z, z = (none, r) → wk_H wk_shM 4 mc_X12_feels 0 [.ref 0, .int x1, .int x2] [] s z from H _ rfl
  intro z hk
  dsimp only [f_X12_feels] at h
  refine wk_Hs 4 4 ⟨rfl, rfl⟩ (ls' := [.ref 0, .int x1, .int x2]) (st' := [.int x1, .int (0 : Int32), .ref 20]) (σ' := s) rfl ?_
  refine wk_Hias 5 rfl rfl rfl rfl rfl ?_
  refine wk_Hs 4 9 ⟨rfl, rfl⟩ (ls' := [.ref 0, .int x1, .int x2]) (st' := [.int x2, .int (1 : Int32), .ref 20]) (σ' := (wk_si s 20 0 x1)) rfl ?_
  refine wk_Hias 10 rfl rfl rfl rfl rfl ?_
  refine wk_Hs 8 18 ⟨rfl, rfl⟩ (ls' := [.ref 0, .int x1, .int x2]) (st' := [.int ((18 : Int32) + x1), .ref 1, .int (2 : Int32), .ref 20]) (σ' := (wk_si (wk_si s 20 0 x1) 20 1 x2)) rfl ?_
  obtain ⟨hg, h⟩ := wk_gdE h
  refine wk_Hia 19 rfl rfl rfl hg rfl ?_
  refine wk_Hias 20 rfl rfl rfl rfl rfl ?_
  refine wk_Hs 6 26 ⟨rfl, rfl⟩ (ls' := [.ref 0, .int x1, .int x2]) (st' := [.int x2, .int x1, .ref 0, .int (3 : Int32), .ref 20]) (σ' := (wk_si (wk_si (wk_si s 20 0 x1) 20 1 x2) 20 2 ((wk_si (wk_si s 20 0 x1) 20 1 x2).1 1 (((18 : Int32) + x1).toNatClampNeg)))) rfl ?_
  obtain ⟨v1, hv1, h⟩ := wk_bindE h
  refine wk_Hcall (i2 := 27) (args := [.ref 0, .int x1, .int x2]) (rest := [.int (3 : Int32), .ref 20]) (r := some (.int v1.1)) (σ1 := v1.2) rfl rfl ⟨rfl, rfl, rfl, rfl, rfl⟩ rfl ((t_X12_toClothes hv1).up (by decide)) ?_
  refine wk_Hias 28 rfl rfl rfl rfl rfl ?_
  refine wk_Hs 6 34 ⟨rfl, rfl⟩ (ls' := [.ref 0, .int x1, .int x2]) (st' := [.int (0 : Int32), .int x2, .ref 0, .int (4 : Int32), .ref 20]) (σ' := (wk_si v1.2 20 3 v1.1)) rfl ?_
  obtain ⟨v2, hv2, h⟩ := wk_bindE h
  refine wk_Hcall (i2 := 35) (args := [.ref 0, .int x2, .int (0 : Int32)]) (rest := [.int (4 : Int32), .ref 20]) (r := some (.int (b2i v2))) (σ1 := (wk_si v1.2 20 3 v1.1)) rfl rfl ⟨rfl, rfl, rfl, rfl, rfl⟩ rfl ((t_X12_isHunted hv2).up (by decide)) ?_
  rcases wk_ife h with ⟨hc, h⟩ | ⟨hc, h⟩
  · refine wk_H0t 38 rfl (wk_zeq.2 hc) ?_
    refine wk_Hs 1 39 ⟨rfl, rfl⟩ (ls' := [.ref 0, .int x1, .int x2]) (st' := [.int (0 : Int32), .int (4 : Int32), .ref 20]) (σ' := (wk_si v1.2 20 3 v1.1)) rfl ?_
    exact tj_j_X12_feels_39 h hk
  · refine wk_H0f 38 36 rfl rfl (wk_nf wk_zeq hc) ?_
    refine wk_Hs 1 37 ⟨rfl, rfl⟩ (ls' := [.ref 0, .int x1, .int x2]) (st' := [.int (1 : Int32), .int (4 : Int32), .ref 20]) (σ' := (wk_si v1.2 20 3 v1.1)) rfl ?_
    refine wk_Hgoto (t := 39) rfl ?_
    exact tj_j_X12_feels_39 h hk
set_option maxHeartbeats 4000000 in
set_option maxRecDepth 20000 in
theorem ts_S_X12_repeats_19 {x1 : Int32} {x2 : Int32} {x4 : Int32} {x5 : Int32} {w3 : Value} {s : wk_St} {z : wk_R} {o : (wk_St) ⊕ (Int32 × wk_St)} (h : S_X12_repeats_19 x1 x2 x4 (x5, s) = some o) (hk : match (generalizing := false) o with | Sum.inl a => (∀ (u5 : Value), wk_H wk_shM 1 mc_X12_repeats 40 [.ref 0, .int x1, .int x2, w3, .int x4, u5] [] a z) | Sum.inr y => wk_H wk_shM 1 mc_X12_repeats 19 [.ref 0, .int x1, .int x2, w3, .int x4, .int y.1] [] y.2 z) : wk_H wk_shM 1 mc_X12_repeats 19 [.ref 0, .int x1, .int x2, w3, .int x4, .int x5] [] s z := by
  dsimp only [S_X12_repeats_19] at h
  refine wk_Hs 4 23 ⟨rfl, rfl⟩ (ls' := [.ref 0, .int x1, .int x2, w3, .int x4, .int x5]) (st' := [.int (x4 * x2), .int x5]) (σ' := s) rfl ?_
  rcases wk_ife h with ⟨hc, h⟩ | ⟨hc, h⟩
  · refine wk_Hbt 40 rfl (wk_cge.2 hc) ?_
    cases h
    exact hk _
  · refine wk_Hbf 40 24 rfl rfl (wk_nf wk_cge hc) ?_
    refine wk_Hs 12 36 ⟨rfl, rfl⟩ (ls' := [.ref 0, .int x1, .int x2, w3, .int x4, .int x5]) (st' := [.int ((x1 + x5) - x4), .ref 23, .int (x1 + x5), .ref 23]) (σ' := s) rfl ?_
    obtain ⟨hg, h⟩ := wk_gdE h
    refine wk_Hia 37 rfl rfl rfl hg rfl ?_
    obtain ⟨hg, h⟩ := wk_gdE h
    refine wk_Hias 38 rfl rfl rfl hg rfl ?_
    refine wk_Hs 1 39 ⟨rfl, rfl⟩ (ls' := [.ref 0, .int x1, .int x2, w3, .int x4, .int (x5 + (1 : Int32))]) (st' := []) (σ' := (wk_si s 23 ((x1 + x5).toNatClampNeg) (s.1 23 (((x1 + x5) - x4).toNatClampNeg)))) rfl ?_
    refine wk_Hgoto (t := 19) rfl ?_
    cases h
    exact hk
set_option maxHeartbeats 4000000 in
set_option maxRecDepth 20000 in
theorem tl_S_X12_repeats_19 {x1 : Int32} {x2 : Int32} {x4 : Int32} {w3 : Value} {z : wk_R} (n : Nat) : ∀ {x5 : Int32} {s : wk_St} {a : wk_St} (h : wk_loop (S_X12_repeats_19 x1 x2 x4) n (x5, s) = some a) (hk : ∀ (u5 : Value), wk_H wk_shM 1 mc_X12_repeats 40 [.ref 0, .int x1, .int x2, w3, .int x4, u5] [] a z), wk_H wk_shM 1 mc_X12_repeats 19 [.ref 0, .int x1, .int x2, w3, .int x4, .int x5] [] s z := by
  induction n with
  | zero =>
    intros
    rename_i h _
    exact nomatch (show (none : Option _) = some _ from h)
  | succ n ih =>
    intros
    rename_i h hk
    obtain ⟨o, ho, h⟩ := wk_bindE (show Option.bind _ _ = some _ from h)
    refine ts_S_X12_repeats_19 ho ?_
    cases o with
    | inl a1 =>
      cases h
      exact hk
    | inr p =>
      obtain ⟨p0, p1⟩ := p
      exact ih h hk
set_option maxHeartbeats 4000000 in
set_option maxRecDepth 20000 in
theorem t_X12_repeats {x1 : Int32} {x2 : Int32} {x3 : Int32} {s : wk_St} {r : Bool × wk_St} (h : f_X12_repeats x1 x2 x3 s = some r) : wk_T wk_shM 1 90 [.ref 0, .int x1, .int x2, .int x3] s (some (.int (b2i r.1)), r.2) := by
  suffices H : ∀ z, z = (some (.int (b2i r.1)), r.2) → wk_H wk_shM 1 mc_X12_repeats 0 [.ref 0, .int x1, .int x2, .int x3, wk_U, wk_U] [] s z from H _ rfl
  intro z hk
  dsimp only [f_X12_repeats] at h
  refine wk_Hs 4 4 ⟨rfl, rfl⟩ (ls' := [.ref 0, .int x1, .int x2, .int x3, wk_U, wk_U]) (st' := [.int ((s.1 0 38) - x1)]) (σ' := s) rfl ?_
  replace h := wk_letE h
  refine wk_Hs 7 11 ⟨rfl, rfl⟩ (ls' := [.ref 0, .int x1, .int x2, .int x3, .int ((s.1 0 38) - x1), wk_U]) (st' := [.int (48 : Int32), .int (x1 + (((s.1 0 38) - x1) * x2))]) (σ' := s) rfl ?_
  rcases wk_ife h with ⟨hc, h⟩ | ⟨hc, h⟩
  · refine wk_Hbt 17 rfl (wk_cle.2 hc) ?_
    refine wk_Hs 1 18 ⟨rfl, rfl⟩ (ls' := [.ref 0, .int x1, .int x2, .int x3, .int ((s.1 0 38) - x1), wk_U]) (st' := [.int ((s.1 0 38) - x1)]) (σ' := s) rfl ?_
    replace h := wk_letE h
    refine wk_Hs 1 19 ⟨rfl, rfl⟩ (ls' := [.ref 0, .int x1, .int x2, .int x3, .int ((s.1 0 38) - x1), .int ((s.1 0 38) - x1)]) (st' := []) (σ' := s) rfl ?_
    obtain ⟨v3, hv3, h⟩ := wk_bindE h
    refine tl_S_X12_repeats_19 wk_F hv3 ?_
    intro g4
    refine wk_Hs 8 48 ⟨rfl, rfl⟩ (ls' := [.ref 0, .int x1, .int x2, .int x3, .int ((s.1 0 38) - x1), g4]) (st' := [.int (1 : Int32)]) (σ' := (wk_si v3 0 38 (x1 + (((s.1 0 38) - x1) * x2)))) rfl ?_
    cases h
    exact wk_eqz hk (wk_Hretz rfl (b2i_01 true))
  · refine wk_Hbf 17 12 rfl rfl (wk_nf wk_cle hc) ?_
    refine wk_Hs 3 15 ⟨rfl, rfl⟩ (ls' := [.ref 0, .int x1, .int x2, .int x3, .int ((s.1 0 38) - x1), wk_U]) (st' := [.int x3, .int (6 : Int32), .ref 0]) (σ' := s) rfl ?_
    replace h := wk_letE h
    refine wk_Hcall (i2 := 16) (args := [.ref 0, .int (6 : Int32), .int x3]) (rest := []) (r := some (.int (b2i ((f_X12_wrongAt (6 : Int32) x3 s).1)))) (σ1 := (f_X12_wrongAt (6 : Int32) x3 s).2) rfl rfl ⟨rfl, rfl, rfl, rfl, rfl⟩ rfl ((t_X12_wrongAt rfl).up (by decide)) ?_
    cases h
    exact wk_eqz hk (wk_Hretz rfl (b2i_01 _))
set_option maxHeartbeats 4000000 in
set_option maxRecDepth 20000 in
theorem t_X12_readsTimes {s : wk_St} {r : wk_St} (h : f_X12_readsTimes s = some r) : wk_T wk_shM 1 91 [.ref 0] s (none, r) := by
  suffices H : ∀ z, z = (none, r) → wk_H wk_shM 1 mc_X12_readsTimes 0 [.ref 0] [] s z from H _ rfl
  intro z hk
  dsimp only [f_X12_readsTimes] at h
  refine wk_Hs 8 8 ⟨rfl, rfl⟩ (ls' := [.ref 0]) (st' := [.ref 0]) (σ' := (wk_si (wk_si s 0 40 (s.1 0 10)) 0 41 (1 : Int32))) rfl ?_
  obtain ⟨v1, hv1, h⟩ := wk_bindE h
  refine wk_Hcall (i2 := 9) (args := [.ref 0]) (rest := []) (r := some (.int v1)) (σ1 := (wk_si (wk_si s 0 40 (s.1 0 10)) 0 41 (1 : Int32))) rfl rfl ⟨rfl, rfl, rfl, rfl, rfl⟩ rfl ((t_X12_here hv1).up (by decide)) ?_
  refine wk_Hs 2 11 ⟨rfl, rfl⟩ (ls' := [.ref 0]) (st' := [.int (57 : Int32), .int (50 : Int32), .int v1]) (σ' := (wk_si (wk_si s 0 40 (s.1 0 10)) 0 41 (1 : Int32))) rfl ?_
  refine wk_Hcall (i2 := 12) (args := [.int v1, .int (50 : Int32), .int (57 : Int32)]) (rest := []) (r := some (.int (b2i (f_X12_in v1 (50 : Int32) (57 : Int32))))) (σ1 := (wk_si (wk_si s 0 40 (s.1 0 10)) 0 41 (1 : Int32))) rfl rfl ⟨rfl, rfl, rfl, rfl, rfl⟩ rfl ((t_X12_in rfl).up (by decide)) ?_
  rcases wk_ife h with ⟨hc, h⟩ | ⟨hc, h⟩
  · refine wk_H0t 14 rfl (wk_zne.2 hc) ?_
    refine wk_Hs 2 16 ⟨rfl, rfl⟩ (ls' := [.ref 0]) (st' := [.ref 0, .ref 0]) (σ' := (wk_si (wk_si s 0 40 (s.1 0 10)) 0 41 (1 : Int32))) rfl ?_
    obtain ⟨v3, hv3, h⟩ := wk_bindE h
    refine wk_Hcall (i2 := 17) (args := [.ref 0]) (rest := [.ref 0]) (r := some (.int v3)) (σ1 := (wk_si (wk_si s 0 40 (s.1 0 10)) 0 41 (1 : Int32))) rfl rfl ⟨rfl, rfl, rfl, rfl, rfl⟩ rfl ((t_X12_here hv3).up (by decide)) ?_
    refine wk_Hs 9 26 ⟨rfl, rfl⟩ (ls' := [.ref 0]) (st' := []) (σ' := (wk_si (wk_si (wk_si (wk_si s 0 40 (s.1 0 10)) 0 41 (1 : Int32)) 0 41 (v3 - (48 : Int32))) 0 10 (((wk_si (wk_si (wk_si s 0 40 (s.1 0 10)) 0 41 (1 : Int32)) 0 41 (v3 - (48 : Int32))).1 0 10) + (1 : Int32)))) rfl ?_
    cases h
    exact wk_eqz hk (wk_Hretv rfl)
  · refine wk_H0f 14 13 rfl rfl (wk_nf wk_zne hc) ?_
    cases h
    exact wk_eqz hk (wk_Hretv rfl)
set_option maxHeartbeats 4000000 in
set_option maxRecDepth 20000 in
theorem ts_S_X12_readsItem_2 {w1 : Value} {w2 : Value} {w3 : Value} {s : wk_St} {z : wk_R} {o : ((Bool × wk_St) ⊕ (wk_St)) ⊕ (wk_St)} (h : S_X12_readsItem_2 s = some o) (hk : match (generalizing := false) o with | Sum.inl a => (match (generalizing := false) a with | Sum.inl r => z = (some (.int (b2i r.1)), r.2) | Sum.inr y => wk_H wk_shM 2 mc_X12_readsItem 52 [.ref 0, w1, w2, w3] [] y z) | Sum.inr y => wk_H wk_shM 2 mc_X12_readsItem 2 [.ref 0, w1, w2, w3] [] y z) : wk_H wk_shM 2 mc_X12_readsItem 2 [.ref 0, w1, w2, w3] [] s z := by
  dsimp only [S_X12_readsItem_2] at h
  refine wk_Hs 1 3 ⟨rfl, rfl⟩ (ls' := [.ref 0, w1, w2, w3]) (st' := [.ref 0]) (σ' := s) rfl ?_
  obtain ⟨v2, hv2, h⟩ := wk_bindE h
  refine wk_Hcall (i2 := 4) (args := [.ref 0]) (rest := []) (r := some (.int v2)) (σ1 := s) rfl rfl ⟨rfl, rfl, rfl, rfl, rfl⟩ rfl ((t_X12_here hv2).up (by decide)) ?_
  refine wk_Hs 1 5 ⟨rfl, rfl⟩ (ls' := [.ref 0, w1, w2, w3]) (st' := [.int (40 : Int32), .int v2]) (σ' := s) rfl ?_
  rcases wk_ife h with ⟨hc, h⟩ | ⟨hc, h⟩
  · refine wk_Hbt 52 rfl (wk_cne.2 hc) ?_
    cases h
    exact hk
  · refine wk_Hbf 52 6 rfl rfl (wk_nf wk_cne hc) ?_
    refine wk_Hs 3 9 ⟨rfl, rfl⟩ (ls' := [.ref 0, w1, w2, w3]) (st' := [.int (2 : Int32), .int (s.1 0 39)]) (σ' := s) rfl ?_
    rcases wk_ife h with ⟨hc, h⟩ | ⟨hc, h⟩
    · refine wk_Hbt 16 rfl (wk_cne.2 hc) ?_
      refine wk_Hs 6 22 ⟨rfl, rfl⟩ (ls' := [.ref 0, w1, w2, w3]) (st' := [.int (s.1 0 40), .int (s.1 0 39), .ref 24]) (σ' := s) rfl ?_
      obtain ⟨hg, h⟩ := wk_gdE h
      refine wk_Hias 23 rfl rfl rfl hg rfl ?_
      refine wk_Hs 6 29 ⟨rfl, rfl⟩ (ls' := [.ref 0, w1, w2, w3]) (st' := [.int ((wk_si s 24 ((s.1 0 39).toNatClampNeg) (s.1 0 40)).1 0 38), .int ((wk_si s 24 ((s.1 0 39).toNatClampNeg) (s.1 0 40)).1 0 39), .ref 25]) (σ' := (wk_si s 24 ((s.1 0 39).toNatClampNeg) (s.1 0 40))) rfl ?_
      obtain ⟨hg, h⟩ := wk_gdE h
      refine wk_Hias 30 rfl rfl rfl hg rfl ?_
      refine wk_Hs 6 36 ⟨rfl, rfl⟩ (ls' := [.ref 0, w1, w2, w3]) (st' := [.int ((wk_si (wk_si s 24 ((s.1 0 39).toNatClampNeg) (s.1 0 40)) 25 (((wk_si s 24 ((s.1 0 39).toNatClampNeg) (s.1 0 40)).1 0 39).toNatClampNeg) ((wk_si s 24 ((s.1 0 39).toNatClampNeg) (s.1 0 40)).1 0 38)).1 0 41), .int ((wk_si (wk_si s 24 ((s.1 0 39).toNatClampNeg) (s.1 0 40)) 25 (((wk_si s 24 ((s.1 0 39).toNatClampNeg) (s.1 0 40)).1 0 39).toNatClampNeg) ((wk_si s 24 ((s.1 0 39).toNatClampNeg) (s.1 0 40)).1 0 38)).1 0 39), .ref 26]) (σ' := (wk_si (wk_si s 24 ((s.1 0 39).toNatClampNeg) (s.1 0 40)) 25 (((wk_si s 24 ((s.1 0 39).toNatClampNeg) (s.1 0 40)).1 0 39).toNatClampNeg) ((wk_si s 24 ((s.1 0 39).toNatClampNeg) (s.1 0 40)).1 0 38))) rfl ?_
      obtain ⟨hg, h⟩ := wk_gdE h
      refine wk_Hias 37 rfl rfl rfl hg rfl ?_
      refine wk_Hs 13 50 ⟨rfl, rfl⟩ (ls' := [.ref 0, w1, w2, w3]) (st' := [.ref 0]) (σ' := (wk_si (wk_si (wk_si (wk_si (wk_si s 24 ((s.1 0 39).toNatClampNeg) (s.1 0 40)) 25 (((wk_si s 24 ((s.1 0 39).toNatClampNeg) (s.1 0 40)).1 0 39).toNatClampNeg) ((wk_si s 24 ((s.1 0 39).toNatClampNeg) (s.1 0 40)).1 0 38)) 26 (((wk_si (wk_si s 24 ((s.1 0 39).toNatClampNeg) (s.1 0 40)) 25 (((wk_si s 24 ((s.1 0 39).toNatClampNeg) (s.1 0 40)).1 0 39).toNatClampNeg) ((wk_si s 24 ((s.1 0 39).toNatClampNeg) (s.1 0 40)).1 0 38)).1 0 39).toNatClampNeg) ((wk_si (wk_si s 24 ((s.1 0 39).toNatClampNeg) (s.1 0 40)) 25 (((wk_si s 24 ((s.1 0 39).toNatClampNeg) (s.1 0 40)).1 0 39).toNatClampNeg) ((wk_si s 24 ((s.1 0 39).toNatClampNeg) (s.1 0 40)).1 0 38)).1 0 41)) 0 39 (((wk_si (wk_si (wk_si s 24 ((s.1 0 39).toNatClampNeg) (s.1 0 40)) 25 (((wk_si s 24 ((s.1 0 39).toNatClampNeg) (s.1 0 40)).1 0 39).toNatClampNeg) ((wk_si s 24 ((s.1 0 39).toNatClampNeg) (s.1 0 40)).1 0 38)) 26 (((wk_si (wk_si s 24 ((s.1 0 39).toNatClampNeg) (s.1 0 40)) 25 (((wk_si s 24 ((s.1 0 39).toNatClampNeg) (s.1 0 40)).1 0 39).toNatClampNeg) ((wk_si s 24 ((s.1 0 39).toNatClampNeg) (s.1 0 40)).1 0 38)).1 0 39).toNatClampNeg) ((wk_si (wk_si s 24 ((s.1 0 39).toNatClampNeg) (s.1 0 40)) 25 (((wk_si s 24 ((s.1 0 39).toNatClampNeg) (s.1 0 40)).1 0 39).toNatClampNeg) ((wk_si s 24 ((s.1 0 39).toNatClampNeg) (s.1 0 40)).1 0 38)).1 0 41)).1 0 39) + (1 : Int32))) 0 10 (((wk_si (wk_si (wk_si (wk_si s 24 ((s.1 0 39).toNatClampNeg) (s.1 0 40)) 25 (((wk_si s 24 ((s.1 0 39).toNatClampNeg) (s.1 0 40)).1 0 39).toNatClampNeg) ((wk_si s 24 ((s.1 0 39).toNatClampNeg) (s.1 0 40)).1 0 38)) 26 (((wk_si (wk_si s 24 ((s.1 0 39).toNatClampNeg) (s.1 0 40)) 25 (((wk_si s 24 ((s.1 0 39).toNatClampNeg) (s.1 0 40)).1 0 39).toNatClampNeg) ((wk_si s 24 ((s.1 0 39).toNatClampNeg) (s.1 0 40)).1 0 38)).1 0 39).toNatClampNeg) ((wk_si (wk_si s 24 ((s.1 0 39).toNatClampNeg) (s.1 0 40)) 25 (((wk_si s 24 ((s.1 0 39).toNatClampNeg) (s.1 0 40)).1 0 39).toNatClampNeg) ((wk_si s 24 ((s.1 0 39).toNatClampNeg) (s.1 0 40)).1 0 38)).1 0 41)) 0 39 (((wk_si (wk_si (wk_si s 24 ((s.1 0 39).toNatClampNeg) (s.1 0 40)) 25 (((wk_si s 24 ((s.1 0 39).toNatClampNeg) (s.1 0 40)).1 0 39).toNatClampNeg) ((wk_si s 24 ((s.1 0 39).toNatClampNeg) (s.1 0 40)).1 0 38)) 26 (((wk_si (wk_si s 24 ((s.1 0 39).toNatClampNeg) (s.1 0 40)) 25 (((wk_si s 24 ((s.1 0 39).toNatClampNeg) (s.1 0 40)).1 0 39).toNatClampNeg) ((wk_si s 24 ((s.1 0 39).toNatClampNeg) (s.1 0 40)).1 0 38)).1 0 39).toNatClampNeg) ((wk_si (wk_si s 24 ((s.1 0 39).toNatClampNeg) (s.1 0 40)) 25 (((wk_si s 24 ((s.1 0 39).toNatClampNeg) (s.1 0 40)).1 0 39).toNatClampNeg) ((wk_si s 24 ((s.1 0 39).toNatClampNeg) (s.1 0 40)).1 0 38)).1 0 41)).1 0 39) + (1 : Int32))).1 0 10) + (1 : Int32)))) rfl ?_
      obtain ⟨v3, hv3, h⟩ := wk_bindE h
      refine wk_Hcall (i2 := 51) (args := [.ref 0]) (rest := []) (r := none) (σ1 := v3) rfl rfl ⟨rfl, rfl, rfl, rfl, rfl⟩ rfl ((t_X12_readsTimes hv3).up (by decide)) ?_
      refine wk_Hgoto (t := 2) rfl ?_
      cases h
      exact hk
    · refine wk_Hbf 16 10 rfl rfl (wk_nf wk_cne hc) ?_
      refine wk_Hs 4 14 ⟨rfl, rfl⟩ (ls' := [.ref 0, w1, w2, w3]) (st' := [.int (s.1 0 10), .int (5 : Int32), .ref 0]) (σ' := s) rfl ?_
      replace h := wk_letE h
      refine wk_Hcall (i2 := 15) (args := [.ref 0, .int (5 : Int32), .int (s.1 0 10)]) (rest := []) (r := some (.int (b2i ((f_X12_wrongAt (5 : Int32) (s.1 0 10) s).1)))) (σ1 := (f_X12_wrongAt (5 : Int32) (s.1 0 10) s).2) rfl rfl ⟨rfl, rfl, rfl, rfl, rfl⟩ rfl ((t_X12_wrongAt rfl).up (by decide)) ?_
      cases h
      exact wk_eqz hk (wk_Hretz rfl (b2i_01 _))
set_option maxHeartbeats 4000000 in
set_option maxRecDepth 20000 in
theorem tl_S_X12_readsItem_2 {w1 : Value} {w2 : Value} {w3 : Value} {z : wk_R} (n : Nat) : ∀ {s : wk_St} {a : (Bool × wk_St) ⊕ (wk_St)} (h : wk_loop S_X12_readsItem_2 n s = some a) (hk : match (generalizing := false) a with | Sum.inl r => z = (some (.int (b2i r.1)), r.2) | Sum.inr y => wk_H wk_shM 2 mc_X12_readsItem 52 [.ref 0, w1, w2, w3] [] y z), wk_H wk_shM 2 mc_X12_readsItem 2 [.ref 0, w1, w2, w3] [] s z := by
  induction n with
  | zero =>
    intros
    rename_i h _
    exact nomatch (show (none : Option _) = some _ from h)
  | succ n ih =>
    intros
    rename_i h hk
    obtain ⟨o, ho, h⟩ := wk_bindE (show Option.bind _ _ = some _ from h)
    refine ts_S_X12_readsItem_2 ho ?_
    cases o with
    | inl a1 =>
      cases h
      exact hk
    | inr p =>
      exact ih h hk
set_option maxHeartbeats 4000000 in
set_option maxRecDepth 20000 in
theorem ts_S_X12_readsItem_118 {w1 : Value} {w2 : Value} {w3 : Value} {s : wk_St} {z : wk_R} {o : ((Bool × wk_St) ⊕ (wk_St)) ⊕ (wk_St)} (h : S_X12_readsItem_118 s = some o) (hk : match (generalizing := false) o with | Sum.inl a => (match (generalizing := false) a with | Sum.inl r => z = (some (.int (b2i r.1)), r.2) | Sum.inr y => wk_H wk_shM 2 mc_X12_readsItem 157 [.ref 0, w1, w2, w3] [] y z) | Sum.inr y => wk_H wk_shM 2 mc_X12_readsItem 118 [.ref 0, w1, w2, w3] [] y z) : wk_H wk_shM 2 mc_X12_readsItem 118 [.ref 0, w1, w2, w3] [] s z := by
  dsimp only [S_X12_readsItem_118] at h
  refine wk_Hs 1 119 ⟨rfl, rfl⟩ (ls' := [.ref 0, w1, w2, w3]) (st' := [.ref 0]) (σ' := s) rfl ?_
  obtain ⟨v8, hv8, h⟩ := wk_bindE h
  refine wk_Hcall (i2 := 120) (args := [.ref 0]) (rest := []) (r := some (.int v8)) (σ1 := s) rfl rfl ⟨rfl, rfl, rfl, rfl, rfl⟩ rfl ((t_X12_here hv8).up (by decide)) ?_
  refine wk_Hs 1 121 ⟨rfl, rfl⟩ (ls' := [.ref 0, w1, w2, w3]) (st' := [.int (41 : Int32), .int v8]) (σ' := s) rfl ?_
  rcases wk_ife h with ⟨hc, h⟩ | ⟨hc, h⟩
  · refine wk_Hbt 157 rfl (wk_cne.2 hc) ?_
    cases h
    exact hk
  · refine wk_Hbf 157 122 rfl rfl (wk_nf wk_cne hc) ?_
    refine wk_Hs 2 124 ⟨rfl, rfl⟩ (ls' := [.ref 0, w1, w2, w3]) (st' := [.int (s.1 0 39)]) (σ' := s) rfl ?_
    rcases wk_ife h with ⟨hc, h⟩ | ⟨hc, h⟩
    · refine wk_H0t 157 rfl (wk_cle.2 hc) ?_
      cases h
      exact hk
    · refine wk_H0f 157 125 rfl rfl (wk_nf wk_cle hc) ?_
      refine wk_Hs 17 142 ⟨rfl, rfl⟩ (ls' := [.ref 0, w1, w2, w3]) (st' := [.int ((wk_si (wk_si s 0 10 ((s.1 0 10) + (1 : Int32))) 0 39 (((wk_si s 0 10 ((s.1 0 10) + (1 : Int32))).1 0 39) - (1 : Int32))).1 0 39), .ref 25, .ref 0]) (σ' := (wk_si (wk_si s 0 10 ((s.1 0 10) + (1 : Int32))) 0 39 (((wk_si s 0 10 ((s.1 0 10) + (1 : Int32))).1 0 39) - (1 : Int32)))) rfl ?_
      obtain ⟨hg, h⟩ := wk_gdE h
      refine wk_Hia 143 rfl rfl rfl hg rfl ?_
      refine wk_Hs 4 147 ⟨rfl, rfl⟩ (ls' := [.ref 0, w1, w2, w3]) (st' := [.int ((wk_si (wk_si s 0 10 ((s.1 0 10) + (1 : Int32))) 0 39 (((wk_si s 0 10 ((s.1 0 10) + (1 : Int32))).1 0 39) - (1 : Int32))).1 0 39), .ref 26, .int ((wk_si (wk_si s 0 10 ((s.1 0 10) + (1 : Int32))) 0 39 (((wk_si s 0 10 ((s.1 0 10) + (1 : Int32))).1 0 39) - (1 : Int32))).1 25 (((wk_si (wk_si s 0 10 ((s.1 0 10) + (1 : Int32))) 0 39 (((wk_si s 0 10 ((s.1 0 10) + (1 : Int32))).1 0 39) - (1 : Int32))).1 0 39).toNatClampNeg)), .ref 0]) (σ' := (wk_si (wk_si s 0 10 ((s.1 0 10) + (1 : Int32))) 0 39 (((wk_si s 0 10 ((s.1 0 10) + (1 : Int32))).1 0 39) - (1 : Int32)))) rfl ?_
      obtain ⟨hg, h⟩ := wk_gdE h
      refine wk_Hia 148 rfl rfl rfl hg rfl ?_
      refine wk_Hs 4 152 ⟨rfl, rfl⟩ (ls' := [.ref 0, w1, w2, w3]) (st' := [.int ((wk_si (wk_si s 0 10 ((s.1 0 10) + (1 : Int32))) 0 39 (((wk_si s 0 10 ((s.1 0 10) + (1 : Int32))).1 0 39) - (1 : Int32))).1 0 39), .ref 24, .int ((wk_si (wk_si s 0 10 ((s.1 0 10) + (1 : Int32))) 0 39 (((wk_si s 0 10 ((s.1 0 10) + (1 : Int32))).1 0 39) - (1 : Int32))).1 26 (((wk_si (wk_si s 0 10 ((s.1 0 10) + (1 : Int32))) 0 39 (((wk_si s 0 10 ((s.1 0 10) + (1 : Int32))).1 0 39) - (1 : Int32))).1 0 39).toNatClampNeg)), .int ((wk_si (wk_si s 0 10 ((s.1 0 10) + (1 : Int32))) 0 39 (((wk_si s 0 10 ((s.1 0 10) + (1 : Int32))).1 0 39) - (1 : Int32))).1 25 (((wk_si (wk_si s 0 10 ((s.1 0 10) + (1 : Int32))) 0 39 (((wk_si s 0 10 ((s.1 0 10) + (1 : Int32))).1 0 39) - (1 : Int32))).1 0 39).toNatClampNeg)), .ref 0]) (σ' := (wk_si (wk_si s 0 10 ((s.1 0 10) + (1 : Int32))) 0 39 (((wk_si s 0 10 ((s.1 0 10) + (1 : Int32))).1 0 39) - (1 : Int32)))) rfl ?_
      obtain ⟨hg, h⟩ := wk_gdE h
      refine wk_Hia 153 rfl rfl rfl hg rfl ?_
      obtain ⟨v9, hv9, h⟩ := wk_bindE h
      refine wk_Hcall (i2 := 154) (args := [.ref 0, .int ((wk_si (wk_si s 0 10 ((s.1 0 10) + (1 : Int32))) 0 39 (((wk_si s 0 10 ((s.1 0 10) + (1 : Int32))).1 0 39) - (1 : Int32))).1 25 (((wk_si (wk_si s 0 10 ((s.1 0 10) + (1 : Int32))) 0 39 (((wk_si s 0 10 ((s.1 0 10) + (1 : Int32))).1 0 39) - (1 : Int32))).1 0 39).toNatClampNeg)), .int ((wk_si (wk_si s 0 10 ((s.1 0 10) + (1 : Int32))) 0 39 (((wk_si s 0 10 ((s.1 0 10) + (1 : Int32))).1 0 39) - (1 : Int32))).1 26 (((wk_si (wk_si s 0 10 ((s.1 0 10) + (1 : Int32))) 0 39 (((wk_si s 0 10 ((s.1 0 10) + (1 : Int32))).1 0 39) - (1 : Int32))).1 0 39).toNatClampNeg)), .int ((wk_si (wk_si s 0 10 ((s.1 0 10) + (1 : Int32))) 0 39 (((wk_si s 0 10 ((s.1 0 10) + (1 : Int32))).1 0 39) - (1 : Int32))).1 24 (((wk_si (wk_si s 0 10 ((s.1 0 10) + (1 : Int32))) 0 39 (((wk_si s 0 10 ((s.1 0 10) + (1 : Int32))).1 0 39) - (1 : Int32))).1 0 39).toNatClampNeg))]) (rest := []) (r := some (.int (b2i v9.1))) (σ1 := v9.2) rfl rfl ⟨rfl, rfl, rfl, rfl, rfl⟩ rfl ((t_X12_repeats hv9).up (by decide)) ?_
      rcases wk_ife h with ⟨hc, h⟩ | ⟨hc, h⟩
      · refine wk_H0t 118 rfl (wk_zne.2 hc) ?_
        cases h
        exact hk
      · refine wk_H0f 118 155 rfl rfl (wk_nf wk_zne hc) ?_
        refine wk_Hs 1 156 ⟨rfl, rfl⟩ (ls' := [.ref 0, w1, w2, w3]) (st' := [.int (0 : Int32)]) (σ' := v9.2) rfl ?_
        cases h
        exact wk_eqz hk (wk_Hretz rfl (b2i_01 false))
set_option maxHeartbeats 4000000 in
set_option maxRecDepth 20000 in
theorem tl_S_X12_readsItem_118 {w1 : Value} {w2 : Value} {w3 : Value} {z : wk_R} (n : Nat) : ∀ {s : wk_St} {a : (Bool × wk_St) ⊕ (wk_St)} (h : wk_loop S_X12_readsItem_118 n s = some a) (hk : match (generalizing := false) a with | Sum.inl r => z = (some (.int (b2i r.1)), r.2) | Sum.inr y => wk_H wk_shM 2 mc_X12_readsItem 157 [.ref 0, w1, w2, w3] [] y z), wk_H wk_shM 2 mc_X12_readsItem 118 [.ref 0, w1, w2, w3] [] s z := by
  induction n with
  | zero =>
    intros
    rename_i h _
    exact nomatch (show (none : Option _) = some _ from h)
  | succ n ih =>
    intros
    rename_i h hk
    obtain ⟨o, ho, h⟩ := wk_bindE (show Option.bind _ _ = some _ from h)
    refine ts_S_X12_readsItem_118 ho ?_
    cases o with
    | inl a1 =>
      cases h
      exact hk
    | inr p =>
      exact ih h hk
set_option maxHeartbeats 4000000 in
set_option maxRecDepth 20000 in
theorem tj_j_X12_readsItem_94 {x1 : Int32} {x2 : Int32} {s_0 : Int32} {s_1 : Int32} {w3 : Value} {s : wk_St} {z : wk_R} {o : Bool × wk_St} (h : j_X12_readsItem_94 x1 x2 s_0 s_1 s = some o) (hk : z = (some (.int (b2i o.1)), o.2)) : wk_H wk_shM 2 mc_X12_readsItem 94 [.ref 0, .int x1, .int x2, w3] [.int s_0, .int s_1, .ref 23] s z := by
  dsimp only [j_X12_readsItem_94] at h
  obtain ⟨hg, h⟩ := wk_gdE h
  refine wk_Hias 95 rfl rfl rfl hg rfl ?_
  refine wk_Hs 19 114 ⟨rfl, rfl⟩ (ls' := [.ref 0, .int x1, .int x2, w3]) (st' := [.int x1, .int x2, .int (((wk_si (wk_si (wk_si s 23 (s_1.toNatClampNeg) s_0) 0 38 (((wk_si s 23 (s_1.toNatClampNeg) s_0).1 0 38) + (1 : Int32))) 0 10 (((wk_si (wk_si s 23 (s_1.toNatClampNeg) s_0) 0 38 (((wk_si s 23 (s_1.toNatClampNeg) s_0).1 0 38) + (1 : Int32))).1 0 10) + (1 : Int32))).1 0 38) - (1 : Int32)), .ref 0]) (σ' := (wk_si (wk_si (wk_si s 23 (s_1.toNatClampNeg) s_0) 0 38 (((wk_si s 23 (s_1.toNatClampNeg) s_0).1 0 38) + (1 : Int32))) 0 10 (((wk_si (wk_si s 23 (s_1.toNatClampNeg) s_0) 0 38 (((wk_si s 23 (s_1.toNatClampNeg) s_0).1 0 38) + (1 : Int32))).1 0 10) + (1 : Int32)))) rfl ?_
  obtain ⟨v7, hv7, h⟩ := wk_bindE h
  refine wk_Hcall (i2 := 115) (args := [.ref 0, .int (((wk_si (wk_si (wk_si s 23 (s_1.toNatClampNeg) s_0) 0 38 (((wk_si s 23 (s_1.toNatClampNeg) s_0).1 0 38) + (1 : Int32))) 0 10 (((wk_si (wk_si s 23 (s_1.toNatClampNeg) s_0) 0 38 (((wk_si s 23 (s_1.toNatClampNeg) s_0).1 0 38) + (1 : Int32))).1 0 10) + (1 : Int32))).1 0 38) - (1 : Int32)), .int x2, .int x1]) (rest := []) (r := some (.int (b2i v7.1))) (σ1 := v7.2) rfl rfl ⟨rfl, rfl, rfl, rfl, rfl⟩ rfl ((t_X12_repeats hv7).up (by decide)) ?_
  rcases wk_ife h with ⟨hc, h⟩ | ⟨hc, h⟩
  · refine wk_H0t 118 rfl (wk_zne.2 hc) ?_
    obtain ⟨v10, hv10, h⟩ := wk_bindE h
    rcases v10 with v10r | v10
    · cases h
      exact tl_S_X12_readsItem_118 wk_F hv10 hk
    · refine tl_S_X12_readsItem_118 wk_F hv10 ?_
      dsimp only at h ⊢
      refine wk_Hs 1 158 ⟨rfl, rfl⟩ (ls' := [.ref 0, .int x1, .int x2, w3]) (st' := [.int (1 : Int32)]) (σ' := v10) rfl ?_
      cases h
      exact wk_eqz hk (wk_Hretz rfl (b2i_01 true))
  · refine wk_H0f 118 116 rfl rfl (wk_nf wk_zne hc) ?_
    refine wk_Hs 1 117 ⟨rfl, rfl⟩ (ls' := [.ref 0, .int x1, .int x2, w3]) (st' := [.int (0 : Int32)]) (σ' := v7.2) rfl ?_
    cases h
    exact wk_eqz hk (wk_Hretz rfl (b2i_01 false))
set_option maxHeartbeats 4000000 in
set_option maxRecDepth 20000 in
theorem tj_j_X12_readsItem_73 {x1 : Int32} {x2 : Int32} {x3 : Int32} {s : wk_St} {z : wk_R} {o : Bool × wk_St} (h : j_X12_readsItem_73 x1 x2 x3 s = some o) (hk : z = (some (.int (b2i o.1)), o.2)) : wk_H wk_shM 2 mc_X12_readsItem 73 [.ref 0, .int x1, .int x2, .int x3] [] s z := by
  dsimp only [j_X12_readsItem_73] at h
  refine wk_Hs 5 78 ⟨rfl, rfl⟩ (ls' := [.ref 0, .int x1, .int x2, .int x3]) (st' := [.int (48 : Int32), .int ((s.1 0 38) + x2)]) (σ' := s) rfl ?_
  rcases wk_ife h with ⟨hc, h⟩ | ⟨hc, h⟩
  · refine wk_Hbt 84 rfl (wk_cle.2 hc) ?_
    refine wk_Hs 6 90 ⟨rfl, rfl⟩ (ls' := [.ref 0, .int x1, .int x2, .int x3]) (st' := [.int (104 : Int32), .int x3, .int (s.1 0 38), .ref 23]) (σ' := s) rfl ?_
    rcases wk_ife h with ⟨hc, h⟩ | ⟨hc, h⟩
    · refine wk_Hbt 93 rfl (wk_cne.2 hc) ?_
      refine wk_Hs 1 94 ⟨rfl, rfl⟩ (ls' := [.ref 0, .int x1, .int x2, .int x3]) (st' := [.int (0 : Int32), .int (s.1 0 38), .ref 23]) (σ' := s) rfl ?_
      exact tj_j_X12_readsItem_94 h hk
    · refine wk_Hbf 93 91 rfl rfl (wk_nf wk_cne hc) ?_
      refine wk_Hs 1 92 ⟨rfl, rfl⟩ (ls' := [.ref 0, .int x1, .int x2, .int x3]) (st' := [.int (1 : Int32), .int (s.1 0 38), .ref 23]) (σ' := s) rfl ?_
      refine wk_Hgoto (t := 94) rfl ?_
      exact tj_j_X12_readsItem_94 h hk
  · refine wk_Hbf 84 79 rfl rfl (wk_nf wk_cle hc) ?_
    refine wk_Hs 3 82 ⟨rfl, rfl⟩ (ls' := [.ref 0, .int x1, .int x2, .int x3]) (st' := [.int x1, .int (6 : Int32), .ref 0]) (σ' := s) rfl ?_
    replace h := wk_letE h
    refine wk_Hcall (i2 := 83) (args := [.ref 0, .int (6 : Int32), .int x1]) (rest := []) (r := some (.int (b2i ((f_X12_wrongAt (6 : Int32) x1 s).1)))) (σ1 := (f_X12_wrongAt (6 : Int32) x1 s).2) rfl rfl ⟨rfl, rfl, rfl, rfl, rfl⟩ rfl ((t_X12_wrongAt rfl).up (by decide)) ?_
    cases h
    exact wk_eqz hk (wk_Hretz rfl (b2i_01 _))
set_option maxHeartbeats 4000000 in
set_option maxRecDepth 20000 in
theorem t_X12_readsItem {s : wk_St} {r : Bool × wk_St} (h : f_X12_readsItem s = some r) : wk_T wk_shM 2 92 [.ref 0] s (some (.int (b2i r.1)), r.2) := by
  suffices H : ∀ z, z = (some (.int (b2i r.1)), r.2) → wk_H wk_shM 2 mc_X12_readsItem 0 [.ref 0, wk_U, wk_U, wk_U] [] s z from H _ rfl
  intro z hk
  dsimp only [f_X12_readsItem] at h
  refine wk_Hs 1 1 ⟨rfl, rfl⟩ (ls' := [.ref 0, wk_U, wk_U, wk_U]) (st' := [.ref 0]) (σ' := s) rfl ?_
  obtain ⟨v1, hv1, h⟩ := wk_bindE h
  refine wk_Hcall (i2 := 2) (args := [.ref 0]) (rest := []) (r := none) (σ1 := v1) rfl rfl ⟨rfl, rfl, rfl, rfl, rfl⟩ rfl ((t_X12_readsTimes hv1).up (by decide)) ?_
  obtain ⟨v5, hv5, h⟩ := wk_bindE h
  rcases v5 with v5r | v5
  · cases h
    exact tl_S_X12_readsItem_2 wk_F hv5 hk
  · refine tl_S_X12_readsItem_2 wk_F hv5 ?_
    dsimp only at h ⊢
    refine wk_Hs 7 59 ⟨rfl, rfl⟩ (ls' := [.ref 0, .int (v5.1 0 40), .int (v5.1 0 41), wk_U]) (st' := [.ref 0]) (σ' := v5) rfl ?_
    obtain ⟨v6, hv6, h⟩ := wk_bindE h
    refine wk_Hcall (i2 := 60) (args := [.ref 0]) (rest := []) (r := some (.int v6)) (σ1 := v5) rfl rfl ⟨rfl, rfl, rfl, rfl, rfl⟩ rfl ((t_X12_here hv6).up (by decide)) ?_
    refine wk_Hs 3 63 ⟨rfl, rfl⟩ (ls' := [.ref 0, .int (v5.1 0 40), .int (v5.1 0 41), .int v6]) (st' := [.int (46 : Int32), .int v6]) (σ' := v5) rfl ?_
    rcases wk_ife h with ⟨hc, h⟩ | ⟨hc, h⟩
    · refine wk_Hbt 73 rfl (wk_ceq.2 hc) ?_
      exact tj_j_X12_readsItem_73 h hk
    · refine wk_Hbf 73 64 rfl rfl (wk_nf wk_ceq hc) ?_
      refine wk_Hs 2 66 ⟨rfl, rfl⟩ (ls' := [.ref 0, .int (v5.1 0 40), .int (v5.1 0 41), .int v6]) (st' := [.int (104 : Int32), .int v6]) (σ' := v5) rfl ?_
      rcases wk_ife h with ⟨hc, h⟩ | ⟨hc, h⟩
      · refine wk_Hbt 73 rfl (wk_ceq.2 hc) ?_
        exact tj_j_X12_readsItem_73 h hk
      · refine wk_Hbf 73 67 rfl rfl (wk_nf wk_ceq hc) ?_
        refine wk_Hs 4 71 ⟨rfl, rfl⟩ (ls' := [.ref 0, .int (v5.1 0 40), .int (v5.1 0 41), .int v6]) (st' := [.int (v5.1 0 10), .int (1 : Int32), .ref 0]) (σ' := v5) rfl ?_
        replace h := wk_letE h
        refine wk_Hcall (i2 := 72) (args := [.ref 0, .int (1 : Int32), .int (v5.1 0 10)]) (rest := []) (r := some (.int (b2i ((f_X12_wrongAt (1 : Int32) (v5.1 0 10) v5).1)))) (σ1 := (f_X12_wrongAt (1 : Int32) (v5.1 0 10) v5).2) rfl rfl ⟨rfl, rfl, rfl, rfl, rfl⟩ rfl ((t_X12_wrongAt rfl).up (by decide)) ?_
        cases h
        exact wk_eqz hk (wk_Hretz rfl (b2i_01 _))
set_option maxHeartbeats 4000000 in
set_option maxRecDepth 20000 in
theorem ts_S_X12_hunts_28 {x1 : Int32} {x3 : Int32} {w2 : Value} {w4 : Value} {s : wk_St} {z : wk_R} {o : (Int32 × wk_St) ⊕ (Int32 × wk_St)} (h : S_X12_hunts_28 x1 (x3, s) = some o) (hk : match (generalizing := false) o with | Sum.inl a => (∀ (u2 : Value), wk_H wk_shM 3 mc_X12_hunts 42 [.ref 0, .int x1, u2, .int a.1, w4] [] a.2 z) | Sum.inr y => ∀ (u2 : Value), wk_H wk_shM 3 mc_X12_hunts 28 [.ref 0, .int x1, u2, .int y.1, w4] [] y.2 z) : wk_H wk_shM 3 mc_X12_hunts 28 [.ref 0, .int x1, w2, .int x3, w4] [] s z := by
  dsimp only [S_X12_hunts_28] at h
  refine wk_Hs 1 29 ⟨rfl, rfl⟩ (ls' := [.ref 0, .int x1, w2, .int x3, w4]) (st' := [.int x3]) (σ' := s) rfl ?_
  rcases wk_ife h with ⟨hc, h⟩ | ⟨hc, h⟩
  · refine wk_H0t 42 rfl (wk_ceq.2 hc) ?_
    cases h
    exact hk _
  · refine wk_H0f 42 30 rfl rfl (wk_nf wk_ceq hc) ?_
    refine wk_Hs 4 34 ⟨rfl, rfl⟩ (ls' := [.ref 0, .int x1, w2, .int x3, w4]) (st' := [.int (s.1 0 11), .int (s.1 0 10)]) (σ' := s) rfl ?_
    rcases wk_ife h with ⟨hc, h⟩ | ⟨hc, h⟩
    · refine wk_Hbt 38 rfl (wk_clt.2 hc) ?_
      refine wk_Hs 1 39 ⟨rfl, rfl⟩ (ls' := [.ref 0, .int x1, w2, .int x3, w4]) (st' := [.ref 0]) (σ' := s) rfl ?_
      obtain ⟨v5, hv5, h⟩ := wk_bindE h
      refine wk_Hcall (i2 := 40) (args := [.ref 0]) (rest := []) (r := some (.int (b2i v5.1))) (σ1 := v5.2) rfl rfl ⟨rfl, rfl, rfl, rfl, rfl⟩ rfl ((t_X12_readsItem hv5).up (by decide)) ?_
      refine wk_Hs 1 41 ⟨rfl, rfl⟩ (ls' := [.ref 0, .int x1, (wk_cl w2), .int (b2i v5.1), w4]) (st' := []) (σ' := v5.2) rfl ?_
      refine wk_Hgoto (t := 28) rfl ?_
      cases h
      exact hk _
    · refine wk_Hbf 38 35 rfl rfl (wk_nf wk_clt hc) ?_
      refine wk_Hs 2 37 ⟨rfl, rfl⟩ (ls' := [.ref 0, .int x1, w2, .int x3, w4]) (st' := [.int (s.1 0 39)]) (σ' := s) rfl ?_
      rcases wk_ife h with ⟨hc, h⟩ | ⟨hc, h⟩
      · refine wk_H0t 42 rfl (wk_cle.2 hc) ?_
        cases h
        exact hk _
      · refine wk_H0f 42 38 rfl rfl (wk_nf wk_cle hc) ?_
        refine wk_Hs 1 39 ⟨rfl, rfl⟩ (ls' := [.ref 0, .int x1, w2, .int x3, w4]) (st' := [.ref 0]) (σ' := s) rfl ?_
        obtain ⟨v6, hv6, h⟩ := wk_bindE h
        refine wk_Hcall (i2 := 40) (args := [.ref 0]) (rest := []) (r := some (.int (b2i v6.1))) (σ1 := v6.2) rfl rfl ⟨rfl, rfl, rfl, rfl, rfl⟩ rfl ((t_X12_readsItem hv6).up (by decide)) ?_
        refine wk_Hs 1 41 ⟨rfl, rfl⟩ (ls' := [.ref 0, .int x1, (wk_cl w2), .int (b2i v6.1), w4]) (st' := []) (σ' := v6.2) rfl ?_
        refine wk_Hgoto (t := 28) rfl ?_
        cases h
        exact hk _
set_option maxHeartbeats 4000000 in
set_option maxRecDepth 20000 in
theorem tl_S_X12_hunts_28 {x1 : Int32} {w4 : Value} {z : wk_R} (n : Nat) : ∀ {x3 : Int32} {w2 : Value} {s : wk_St} {a : Int32 × wk_St} (h : wk_loop (S_X12_hunts_28 x1) n (x3, s) = some a) (hk : ∀ (u2 : Value), wk_H wk_shM 3 mc_X12_hunts 42 [.ref 0, .int x1, u2, .int a.1, w4] [] a.2 z), wk_H wk_shM 3 mc_X12_hunts 28 [.ref 0, .int x1, w2, .int x3, w4] [] s z := by
  induction n with
  | zero =>
    intros
    rename_i h _
    exact nomatch (show (none : Option _) = some _ from h)
  | succ n ih =>
    intros
    rename_i h hk
    obtain ⟨o, ho, h⟩ := wk_bindE (show Option.bind _ _ = some _ from h)
    refine ts_S_X12_hunts_28 ho ?_
    cases o with
    | inl a1 =>
      cases h
      exact hk
    | inr p =>
      obtain ⟨p0, p1⟩ := p
      exact fun _ => ih h hk
set_option maxHeartbeats 4000000 in
set_option maxRecDepth 20000 in
theorem ts_S_X12_hunts_58 {x1 : Int32} {x4 : Int32} {w2 : Value} {w3 : Value} {s : wk_St} {z : wk_R} {o : (wk_St) ⊕ (Int32 × wk_St)} (h : S_X12_hunts_58 x1 (x4, s) = some o) (hk : match (generalizing := false) o with | Sum.inl a => (∀ (u3 u4 : Value), wk_H wk_shM 3 mc_X12_hunts 77 [.ref 0, .int x1, w2, u3, u4] [] a z) | Sum.inr y => ∀ (u3 : Value), wk_H wk_shM 3 mc_X12_hunts 58 [.ref 0, .int x1, w2, u3, .int y.1] [] y.2 z) : wk_H wk_shM 3 mc_X12_hunts 58 [.ref 0, .int x1, w2, w3, .int x4] [] s z := by
  dsimp only [S_X12_hunts_58] at h
  refine wk_Hs 3 61 ⟨rfl, rfl⟩ (ls' := [.ref 0, .int x1, w2, w3, .int x4]) (st' := [.int (s.1 0 38), .int x4]) (σ' := s) rfl ?_
  rcases wk_ife h with ⟨hc, h⟩ | ⟨hc, h⟩
  · refine wk_Hbt 77 rfl (wk_cge.2 hc) ?_
    cases h
    exact hk _ _
  · refine wk_Hbf 77 62 rfl rfl (wk_nf wk_cge hc) ?_
    refine wk_Hs 10 72 ⟨rfl, rfl⟩ (ls' := [.ref 0, .int x1, w2, w3, .int x4]) (st' := [.int x4, .ref 23, .int (((48 : Int32) * x1) + x4), .ref 21]) (σ' := s) rfl ?_
    obtain ⟨hg, h⟩ := wk_gdE h
    refine wk_Hia 73 rfl rfl rfl hg rfl ?_
    refine wk_Hs 1 74 ⟨rfl, rfl⟩ (ls' := [.ref 0, .int x1, w2, w3, .int x4]) (st' := [.int ((s.1 23 (x4.toNatClampNeg)).toInt8.toInt32), .int (((48 : Int32) * x1) + x4), .ref 21]) (σ' := s) rfl ?_
    obtain ⟨hg, h⟩ := wk_gdE h
    refine wk_Hbas 75 rfl rfl rfl hg rfl ?_
    refine wk_Hs 1 76 ⟨rfl, rfl⟩ (ls' := [.ref 0, .int x1, w2, (wk_cl w3), .int (x4 + (1 : Int32))]) (st' := []) (σ' := (wk_si s 21 ((((48 : Int32) * x1) + x4).toNatClampNeg) (((s.1 23 (x4.toNatClampNeg)).toInt8.toInt32).toInt8.toInt32))) rfl ?_
    refine wk_Hgoto (t := 58) rfl ?_
    cases h
    exact hk _
set_option maxHeartbeats 4000000 in
set_option maxRecDepth 20000 in
theorem tl_S_X12_hunts_58 {x1 : Int32} {w2 : Value} {z : wk_R} (n : Nat) : ∀ {x4 : Int32} {w3 : Value} {s : wk_St} {a : wk_St} (h : wk_loop (S_X12_hunts_58 x1) n (x4, s) = some a) (hk : ∀ (u3 u4 : Value), wk_H wk_shM 3 mc_X12_hunts 77 [.ref 0, .int x1, w2, u3, u4] [] a z), wk_H wk_shM 3 mc_X12_hunts 58 [.ref 0, .int x1, w2, w3, .int x4] [] s z := by
  induction n with
  | zero =>
    intros
    rename_i h _
    exact nomatch (show (none : Option _) = some _ from h)
  | succ n ih =>
    intros
    rename_i h hk
    obtain ⟨o, ho, h⟩ := wk_bindE (show Option.bind _ _ = some _ from h)
    refine ts_S_X12_hunts_58 ho ?_
    cases o with
    | inl a1 =>
      cases h
      exact hk
    | inr p =>
      obtain ⟨p0, p1⟩ := p
      exact fun _ => ih h hk
set_option maxHeartbeats 4000000 in
set_option maxRecDepth 20000 in
theorem tj_j_X12_hunts_42 {x1 : Int32} {x3 : Int32} {w2 : Value} {w4 : Value} {s : wk_St} {z : wk_R} {o : Int32 × wk_St} (h : j_X12_hunts_42 x1 x3 s = some o) (hk : z = (some (.int o.1), o.2)) : wk_H wk_shM 3 mc_X12_hunts 42 [.ref 0, .int x1, w2, .int x3, w4] [] s z := by
  dsimp only [j_X12_hunts_42] at h
  refine wk_Hs 4 46 ⟨rfl, rfl⟩ (ls' := [.ref 0, .int x1, w2, .int x3, w4]) (st' := [.int x3]) (σ' := (wk_si s 0 9 (0 : Int32))) rfl ?_
  rcases wk_ife h with ⟨hc, h⟩ | ⟨hc, h⟩
  · refine wk_H0t 50 rfl (wk_cne.2 hc) ?_
    refine wk_Hs 5 55 ⟨rfl, rfl⟩ (ls' := [.ref 0, .int x1, w2, .int x3, w4]) (st' := [.int ((wk_si s 0 9 (0 : Int32)).1 0 38), .int x1, .ref 22]) (σ' := (wk_si s 0 9 (0 : Int32))) rfl ?_
    obtain ⟨hg, h⟩ := wk_gdE h
    refine wk_Hias 56 rfl rfl rfl hg rfl ?_
    refine wk_Hs 2 58 ⟨rfl, rfl⟩ (ls' := [.ref 0, .int x1, w2, .int x3, .int (0 : Int32)]) (st' := []) (σ' := (wk_si (wk_si s 0 9 (0 : Int32)) 22 (x1.toNatClampNeg) ((wk_si s 0 9 (0 : Int32)).1 0 38))) rfl ?_
    obtain ⟨v9, hv9, h⟩ := wk_bindE h
    refine tl_S_X12_hunts_58 wk_F hv9 ?_
    intro g10 g11
    refine wk_Hs 2 79 ⟨rfl, rfl⟩ (ls' := [.ref 0, .int x1, w2, g10, g11]) (st' := [.int (v9.1 0 38)]) (σ' := v9) rfl ?_
    cases h
    exact wk_eqz hk (wk_Hret rfl)
  · refine wk_H0f 50 47 rfl rfl (wk_nf wk_cne hc) ?_
    refine wk_Hs 2 49 ⟨rfl, rfl⟩ (ls' := [.ref 0, .int x1, w2, .int x3, w4]) (st' := [.int ((wk_si s 0 9 (0 : Int32)).1 0 12)]) (σ' := (wk_si s 0 9 (0 : Int32))) rfl ?_
    cases h
    exact wk_eqz hk (wk_Hret rfl)
set_option maxHeartbeats 4000000 in
set_option maxRecDepth 20000 in
theorem t_X12_hunts {x1 : Int32} {x2 : Int32} {s : wk_St} {r : Int32 × wk_St} (h : f_X12_hunts x1 x2 s = some r) : wk_T wk_shM 3 93 [.ref 0, .int x1, .int x2] s (some (.int r.1), r.2) := by
  suffices H : ∀ z, z = (some (.int r.1), r.2) → wk_H wk_shM 3 mc_X12_hunts 0 [.ref 0, .int x1, .int x2, wk_U, wk_U] [] s z from H _ rfl
  intro z hk
  dsimp only [f_X12_hunts] at h
  refine wk_Hs 3 3 ⟨rfl, rfl⟩ (ls' := [.ref 0, .int x1, .int x2, wk_U, wk_U]) (st' := [.int (11 : Int32), .int (0 : Int32), .int x1]) (σ' := s) rfl ?_
  refine wk_Hcall (i2 := 4) (args := [.int x1, .int (0 : Int32), .int (11 : Int32)]) (rest := []) (r := some (.int (b2i (f_X12_in x1 (0 : Int32) (11 : Int32))))) (σ1 := s) rfl rfl ⟨rfl, rfl, rfl, rfl, rfl⟩ rfl ((t_X12_in rfl).up (by decide)) ?_
  rcases wk_ife h with ⟨hc, h⟩ | ⟨hc, h⟩
  · refine wk_H0t 14 rfl (wk_zeq.2 hc) ?_
    refine wk_Hs 1 15 ⟨rfl, rfl⟩ (ls' := [.ref 0, .int x1, .int x2, wk_U, wk_U]) (st' := [.int (-1 : Int32)]) (σ' := s) rfl ?_
    cases h
    exact wk_eqz hk (wk_Hret rfl)
  · refine wk_H0f 14 5 rfl rfl (wk_nf wk_zeq hc) ?_
    refine wk_Hs 3 8 ⟨rfl, rfl⟩ (ls' := [.ref 0, .int x1, .int x2, wk_U, wk_U]) (st' := [.int (40 : Int32), .int (1 : Int32), .int x2]) (σ' := s) rfl ?_
    refine wk_Hcall (i2 := 9) (args := [.int x2, .int (1 : Int32), .int (40 : Int32)]) (rest := []) (r := some (.int (b2i (f_X12_in x2 (1 : Int32) (40 : Int32))))) (σ1 := s) rfl rfl ⟨rfl, rfl, rfl, rfl, rfl⟩ rfl ((t_X12_in rfl).up (by decide)) ?_
    rcases wk_ife h with ⟨hc, h⟩ | ⟨hc, h⟩
    · refine wk_H0t 14 rfl (wk_zeq.2 hc) ?_
      refine wk_Hs 1 15 ⟨rfl, rfl⟩ (ls' := [.ref 0, .int x1, .int x2, wk_U, wk_U]) (st' := [.int (-1 : Int32)]) (σ' := s) rfl ?_
      cases h
      exact wk_eqz hk (wk_Hret rfl)
    · refine wk_H0f 14 10 rfl rfl (wk_nf wk_zeq hc) ?_
      refine wk_Hs 3 13 ⟨rfl, rfl⟩ (ls' := [.ref 0, .int x1, .int x2, wk_U, wk_U]) (st' := [.int (s.1 0 9), .int x2]) (σ' := s) rfl ?_
      rcases wk_ife h with ⟨hc, h⟩ | ⟨hc, h⟩
      · refine wk_Hbt 16 rfl (wk_cle.2 hc) ?_
        refine wk_Hs 2 18 ⟨rfl, rfl⟩ (ls' := [.ref 0, .int x1, .int x2, wk_U, wk_U]) (st' := [.int x2, .ref 0]) (σ' := s) rfl ?_
        replace h := wk_letE h
        refine wk_Hcall (i2 := 19) (args := [.ref 0, .int x2]) (rest := []) (r := none) (σ1 := (f_X12_beginsText x2 s)) rfl rfl ⟨rfl, rfl, rfl, rfl, rfl⟩ rfl ((t_X12_beginsText rfl).up (by decide)) ?_
        refine wk_Hs 7 26 ⟨rfl, rfl⟩ (ls' := [.ref 0, .int x1, .int x2, wk_U, wk_U]) (st' := [.ref 0]) (σ' := (wk_si (wk_si (f_X12_beginsText x2 s) 0 38 (0 : Int32)) 0 39 (0 : Int32))) rfl ?_
        obtain ⟨v4, hv4, h⟩ := wk_bindE h
        refine wk_Hcall (i2 := 27) (args := [.ref 0]) (rest := []) (r := some (.int (b2i v4.1))) (σ1 := v4.2) rfl rfl ⟨rfl, rfl, rfl, rfl, rfl⟩ rfl ((t_X12_readsItem hv4).up (by decide)) ?_
        refine wk_Hs 1 28 ⟨rfl, rfl⟩ (ls' := [.ref 0, .int x1, .int x2, .int (b2i v4.1), wk_U]) (st' := []) (σ' := v4.2) rfl ?_
        obtain ⟨v7, hv7, h⟩ := wk_bindE h
        refine tl_S_X12_hunts_28 wk_F hv7 ?_
        intro g8
        exact tj_j_X12_hunts_42 h hk
      · refine wk_Hbf 16 14 rfl rfl (wk_nf wk_cle hc) ?_
        refine wk_Hs 1 15 ⟨rfl, rfl⟩ (ls' := [.ref 0, .int x1, .int x2, wk_U, wk_U]) (st' := [.int (-1 : Int32)]) (σ' := s) rfl ?_
        cases h
        exact wk_eqz hk (wk_Hret rfl)
set_option maxHeartbeats 4000000 in
set_option maxRecDepth 20000 in
theorem t_X12_hunted {x1 : Int32} {x2 : Int32} {s : wk_St} {r : Int32} (h : f_X12_hunted x1 x2 s = some r) : wk_T wk_shM 1 95 [.ref 0, .int x1, .int x2] s (some (.int r), s) := by
  suffices H : ∀ z, z = (some (.int r), s) → wk_H wk_shM 1 mc_X12_hunted 0 [.ref 0, .int x1, .int x2] [] s z from H _ rfl
  intro z hk
  dsimp only [f_X12_hunted] at h
  refine wk_Hs 3 3 ⟨rfl, rfl⟩ (ls' := [.ref 0, .int x1, .int x2]) (st' := [.int (11 : Int32), .int (0 : Int32), .int x1]) (σ' := s) rfl ?_
  refine wk_Hcall (i2 := 4) (args := [.int x1, .int (0 : Int32), .int (11 : Int32)]) (rest := []) (r := some (.int (b2i (f_X12_in x1 (0 : Int32) (11 : Int32))))) (σ1 := s) rfl rfl ⟨rfl, rfl, rfl, rfl, rfl⟩ rfl ((t_X12_in rfl).up (by decide)) ?_
  rcases wk_ife h with ⟨hc, h⟩ | ⟨hc, h⟩
  · refine wk_H0t 10 rfl (wk_zeq.2 hc) ?_
    refine wk_Hs 1 11 ⟨rfl, rfl⟩ (ls' := [.ref 0, .int x1, .int x2]) (st' := [.int (-1 : Int32)]) (σ' := s) rfl ?_
    cases h
    exact wk_eqz hk (wk_Hret rfl)
  · refine wk_H0f 10 5 rfl rfl (wk_nf wk_zeq hc) ?_
    refine wk_Hs 3 8 ⟨rfl, rfl⟩ (ls' := [.ref 0, .int x1, .int x2]) (st' := [.int (9999 : Int32), .int (0 : Int32), .int x2]) (σ' := s) rfl ?_
    refine wk_Hcall (i2 := 9) (args := [.int x2, .int (0 : Int32), .int (9999 : Int32)]) (rest := []) (r := some (.int (b2i (f_X12_in x2 (0 : Int32) (9999 : Int32))))) (σ1 := s) rfl rfl ⟨rfl, rfl, rfl, rfl, rfl⟩ rfl ((t_X12_in rfl).up (by decide)) ?_
    rcases wk_ife h with ⟨hc, h⟩ | ⟨hc, h⟩
    · refine wk_H0t 12 rfl (wk_zne.2 hc) ?_
      refine wk_Hs 3 15 ⟨rfl, rfl⟩ (ls' := [.ref 0, .int x1, .int x2]) (st' := [.int x2, .int x1, .ref 0]) (σ' := s) rfl ?_
      obtain ⟨v3, hv3, h⟩ := wk_bindE h
      refine wk_Hcall (i2 := 16) (args := [.ref 0, .int x1, .int x2]) (rest := []) (r := some (.int (b2i v3))) (σ1 := s) rfl rfl ⟨rfl, rfl, rfl, rfl, rfl⟩ rfl ((t_X12_isHunted hv3).up (by decide)) ?_
      rcases wk_ife h with ⟨hc, h⟩ | ⟨hc, h⟩
      · refine wk_H0t 19 rfl (wk_zeq.2 hc) ?_
        refine wk_Hs 1 20 ⟨rfl, rfl⟩ (ls' := [.ref 0, .int x1, .int x2]) (st' := [.int (0 : Int32)]) (σ' := s) rfl ?_
        cases h
        exact wk_eqz hk (wk_Hret rfl)
      · refine wk_H0f 19 17 rfl rfl (wk_nf wk_zeq hc) ?_
        refine wk_Hs 1 18 ⟨rfl, rfl⟩ (ls' := [.ref 0, .int x1, .int x2]) (st' := [.int (1 : Int32)]) (σ' := s) rfl ?_
        refine wk_Hgoto (t := 20) rfl ?_
        cases h
        exact wk_eqz hk (wk_Hret rfl)
    · refine wk_H0f 12 10 rfl rfl (wk_nf wk_zne hc) ?_
      refine wk_Hs 1 11 ⟨rfl, rfl⟩ (ls' := [.ref 0, .int x1, .int x2]) (st' := [.int (-1 : Int32)]) (σ' := s) rfl ?_
      cases h
      exact wk_eqz hk (wk_Hret rfl)
set_option maxHeartbeats 4000000 in
set_option maxRecDepth 20000 in
theorem ts_S_X12_readsWhere_15 {x1 : Int32} {s : wk_St} {z : wk_R} {o : ((Bool × wk_St) ⊕ (wk_St)) ⊕ (wk_St)} (h : S_X12_readsWhere_15 x1 s = some o) (hk : match (generalizing := false) o with | Sum.inl a => (match (generalizing := false) a with | Sum.inl r => z = (some (.int (b2i r.1)), r.2) | Sum.inr y => wk_H wk_shM 2 mc_X12_readsWhere 48 [.ref 0, .int x1] [] y z) | Sum.inr y => wk_H wk_shM 2 mc_X12_readsWhere 15 [.ref 0, .int x1] [] y z) : wk_H wk_shM 2 mc_X12_readsWhere 15 [.ref 0, .int x1] [] s z := by
  dsimp only [S_X12_readsWhere_15] at h
  refine wk_Hs 1 16 ⟨rfl, rfl⟩ (ls' := [.ref 0, .int x1]) (st' := [.ref 0]) (σ' := s) rfl ?_
  obtain ⟨v2, hv2, h⟩ := wk_bindE h
  refine wk_Hcall (i2 := 17) (args := [.ref 0]) (rest := []) (r := some (.int (b2i v2))) (σ1 := s) rfl rfl ⟨rfl, rfl, rfl, rfl, rfl⟩ rfl ((t_X12_isDigit hv2).up (by decide)) ?_
  rcases wk_ife h with ⟨hc, h⟩ | ⟨hc, h⟩
  · refine wk_H0t 48 rfl (wk_zeq.2 hc) ?_
    cases h
    exact hk
  · refine wk_H0f 48 18 rfl rfl (wk_nf wk_zeq hc) ?_
    refine wk_Hs 5 23 ⟨rfl, rfl⟩ (ls' := [.ref 0, .int x1]) (st' := [.int (x1 + (2 : Int32)), .int (s.1 0 10)]) (σ' := s) rfl ?_
    rcases wk_ife h with ⟨hc, h⟩ | ⟨hc, h⟩
    · refine wk_Hbt 30 rfl (wk_cne.2 hc) ?_
      refine wk_Hs 6 36 ⟨rfl, rfl⟩ (ls' := [.ref 0, .int x1]) (st' := [.ref 0, .int ((10 : Int32) * (s.1 0 13)), .ref 0]) (σ' := s) rfl ?_
      obtain ⟨v3, hv3, h⟩ := wk_bindE h
      refine wk_Hcall (i2 := 37) (args := [.ref 0]) (rest := [.int ((10 : Int32) * (s.1 0 13)), .ref 0]) (r := some (.int v3)) (σ1 := s) rfl rfl ⟨rfl, rfl, rfl, rfl, rfl⟩ rfl ((t_X12_here hv3).up (by decide)) ?_
      refine wk_Hs 10 47 ⟨rfl, rfl⟩ (ls' := [.ref 0, .int x1]) (st' := []) (σ' := (wk_si (wk_si s 0 13 ((((10 : Int32) * (s.1 0 13)) + v3) - (48 : Int32))) 0 10 (((wk_si s 0 13 ((((10 : Int32) * (s.1 0 13)) + v3) - (48 : Int32))).1 0 10) + (1 : Int32)))) rfl ?_
      refine wk_Hgoto (t := 15) rfl ?_
      cases h
      exact hk
    · refine wk_Hbf 30 24 rfl rfl (wk_nf wk_cne hc) ?_
      refine wk_Hs 4 28 ⟨rfl, rfl⟩ (ls' := [.ref 0, .int x1]) (st' := [.int (s.1 0 10), .int (2 : Int32), .ref 0]) (σ' := s) rfl ?_
      replace h := wk_letE h
      refine wk_Hcall (i2 := 29) (args := [.ref 0, .int (2 : Int32), .int (s.1 0 10)]) (rest := []) (r := some (.int (b2i ((f_X12_wrongAt (2 : Int32) (s.1 0 10) s).1)))) (σ1 := (f_X12_wrongAt (2 : Int32) (s.1 0 10) s).2) rfl rfl ⟨rfl, rfl, rfl, rfl, rfl⟩ rfl ((t_X12_wrongAt rfl).up (by decide)) ?_
      cases h
      exact wk_eqz hk (wk_Hretz rfl (b2i_01 _))
set_option maxHeartbeats 4000000 in
set_option maxRecDepth 20000 in
theorem tl_S_X12_readsWhere_15 {x1 : Int32} {z : wk_R} (n : Nat) : ∀ {s : wk_St} {a : (Bool × wk_St) ⊕ (wk_St)} (h : wk_loop (S_X12_readsWhere_15 x1) n s = some a) (hk : match (generalizing := false) a with | Sum.inl r => z = (some (.int (b2i r.1)), r.2) | Sum.inr y => wk_H wk_shM 2 mc_X12_readsWhere 48 [.ref 0, .int x1] [] y z), wk_H wk_shM 2 mc_X12_readsWhere 15 [.ref 0, .int x1] [] s z := by
  induction n with
  | zero =>
    intros
    rename_i h _
    exact nomatch (show (none : Option _) = some _ from h)
  | succ n ih =>
    intros
    rename_i h hk
    obtain ⟨o, ho, h⟩ := wk_bindE (show Option.bind _ _ = some _ from h)
    refine ts_S_X12_readsWhere_15 ho ?_
    cases o with
    | inl a1 =>
      cases h
      exact hk
    | inr p =>
      exact ih h hk
set_option maxHeartbeats 4000000 in
set_option maxRecDepth 20000 in
theorem t_X12_readsWhere {s : wk_St} {r : Bool × wk_St} (h : f_X12_readsWhere s = some r) : wk_T wk_shM 2 96 [.ref 0] s (some (.int (b2i r.1)), r.2) := by
  suffices H : ∀ z, z = (some (.int (b2i r.1)), r.2) → wk_H wk_shM 2 mc_X12_readsWhere 0 [.ref 0, wk_U] [] s z from H _ rfl
  intro z hk
  dsimp only [f_X12_readsWhere] at h
  refine wk_Hs 4 4 ⟨rfl, rfl⟩ (ls' := [.ref 0, .int (s.1 0 10)]) (st' := [.ref 0]) (σ' := s) rfl ?_
  obtain ⟨v1, hv1, h⟩ := wk_bindE h
  refine wk_Hcall (i2 := 5) (args := [.ref 0]) (rest := []) (r := some (.int (b2i v1))) (σ1 := s) rfl rfl ⟨rfl, rfl, rfl, rfl, rfl⟩ rfl ((t_X12_isDigit hv1).up (by decide)) ?_
  rcases wk_ife h with ⟨hc, h⟩ | ⟨hc, h⟩
  · refine wk_H0t 12 rfl (wk_zne.2 hc) ?_
    refine wk_Hs 3 15 ⟨rfl, rfl⟩ (ls' := [.ref 0, .int (s.1 0 10)]) (st' := []) (σ' := (wk_si s 0 13 (0 : Int32))) rfl ?_
    obtain ⟨v5, hv5, h⟩ := wk_bindE h
    rcases v5 with v5r | v5
    · cases h
      exact tl_S_X12_readsWhere_15 wk_F hv5 hk
    · refine tl_S_X12_readsWhere_15 wk_F hv5 ?_
      dsimp only at h ⊢
      refine wk_Hs 3 51 ⟨rfl, rfl⟩ (ls' := [.ref 0, .int (s.1 0 10)]) (st' := [.int (v5.1 0 13), .ref 0]) (σ' := v5) rfl ?_
      refine wk_Hcall (i2 := 52) (args := [.ref 0, .int (v5.1 0 13)]) (rest := []) (r := some (.int (b2i (f_X12_isPlace (v5.1 0 13) v5)))) (σ1 := v5) rfl rfl ⟨rfl, rfl, rfl, rfl, rfl⟩ rfl ((t_X12_isPlace rfl).up (by decide)) ?_
      rcases wk_ife h with ⟨hc, h⟩ | ⟨hc, h⟩
      · refine wk_H0t 58 rfl (wk_zne.2 hc) ?_
        refine wk_Hs 1 59 ⟨rfl, rfl⟩ (ls' := [.ref 0, .int (s.1 0 10)]) (st' := [.int (1 : Int32)]) (σ' := v5) rfl ?_
        refine wk_Hgoto (t := 61) rfl ?_
        cases h
        exact wk_eqz hk (wk_Hretz rfl (b2i_01 true))
      · refine wk_H0f 58 53 rfl rfl (wk_nf wk_zne hc) ?_
        refine wk_Hs 3 56 ⟨rfl, rfl⟩ (ls' := [.ref 0, .int (s.1 0 10)]) (st' := [.int (s.1 0 10), .int (7 : Int32), .ref 0]) (σ' := v5) rfl ?_
        replace h := wk_letE h
        refine wk_Hcall (i2 := 57) (args := [.ref 0, .int (7 : Int32), .int (s.1 0 10)]) (rest := []) (r := some (.int (b2i ((f_X12_wrongAt (7 : Int32) (s.1 0 10) v5).1)))) (σ1 := (f_X12_wrongAt (7 : Int32) (s.1 0 10) v5).2) rfl rfl ⟨rfl, rfl, rfl, rfl, rfl⟩ rfl ((t_X12_wrongAt rfl).up (by decide)) ?_
        rcases wk_ife h with ⟨hc, h⟩ | ⟨hc, h⟩
        · refine wk_H0t 60 rfl (wk_zeq.2 hc) ?_
          refine wk_Hs 1 61 ⟨rfl, rfl⟩ (ls' := [.ref 0, .int (s.1 0 10)]) (st' := [.int (0 : Int32)]) (σ' := (f_X12_wrongAt (7 : Int32) (s.1 0 10) v5).2) rfl ?_
          cases h
          exact wk_eqz hk (wk_Hretz rfl (b2i_01 false))
        · refine wk_H0f 60 58 rfl rfl (wk_nf wk_zeq hc) ?_
          refine wk_Hs 1 59 ⟨rfl, rfl⟩ (ls' := [.ref 0, .int (s.1 0 10)]) (st' := [.int (1 : Int32)]) (σ' := (f_X12_wrongAt (7 : Int32) (s.1 0 10) v5).2) rfl ?_
          refine wk_Hgoto (t := 61) rfl ?_
          cases h
          exact wk_eqz hk (wk_Hretz rfl (b2i_01 true))
  · refine wk_H0f 12 6 rfl rfl (wk_nf wk_zne hc) ?_
    refine wk_Hs 4 10 ⟨rfl, rfl⟩ (ls' := [.ref 0, .int (s.1 0 10)]) (st' := [.int (s.1 0 10), .int (1 : Int32), .ref 0]) (σ' := s) rfl ?_
    replace h := wk_letE h
    refine wk_Hcall (i2 := 11) (args := [.ref 0, .int (1 : Int32), .int (s.1 0 10)]) (rest := []) (r := some (.int (b2i ((f_X12_wrongAt (1 : Int32) (s.1 0 10) s).1)))) (σ1 := (f_X12_wrongAt (1 : Int32) (s.1 0 10) s).2) rfl rfl ⟨rfl, rfl, rfl, rfl, rfl⟩ rfl ((t_X12_wrongAt rfl).up (by decide)) ?_
    cases h
    exact wk_eqz hk (wk_Hretz rfl (b2i_01 _))
set_option maxHeartbeats 4000000 in
set_option maxRecDepth 20000 in
theorem t_X12_turns {x1 : Int32} {x2 : Int32} {x3 : Int32} {s : wk_St} {r : wk_St} (h : f_X12_turns x1 x2 x3 s = some r) : wk_T wk_shM 0 98 [.ref 0, .int x1, .int x2, .int x3] s (none, r) := by
  suffices H : ∀ z, z = (none, r) → wk_H wk_shM 0 mc_X12_turns 0 [.ref 0, .int x1, .int x2, .int x3] [] s z from H _ rfl
  intro z hk
  dsimp only [f_X12_turns] at h
  refine wk_Hs 6 6 ⟨rfl, rfl⟩ (ls' := [.ref 0, .int x1, .int x2, .int x3]) (st' := [.int x2, .int ((27 : Int32) + x1), .ref 1]) (σ' := s) rfl ?_
  obtain ⟨hg, h⟩ := wk_gdE h
  refine wk_Hias 7 rfl rfl rfl hg rfl ?_
  refine wk_Hs 6 13 ⟨rfl, rfl⟩ (ls' := [.ref 0, .int x1, .int x2, .int x3]) (st' := [.int x3, .int ((36 : Int32) + x1), .ref 1]) (σ' := (wk_si s 1 (((27 : Int32) + x1).toNatClampNeg) x2)) rfl ?_
  obtain ⟨hg, h⟩ := wk_gdE h
  refine wk_Hias 14 rfl rfl rfl hg rfl ?_
  cases h
  exact wk_eqz hk (wk_Hretv rfl)
set_option maxHeartbeats 4000000 in
set_option maxRecDepth 20000 in
theorem tj_j_X12_readsLine_100 {x1 : Int32} {x2 : Int32} {w3 : Value} {s : wk_St} {z : wk_R} {o : Bool × wk_St} (h : j_X12_readsLine_100 x1 x2 s = some o) (hk : z = (some (.int (b2i o.1)), o.2)) : wk_H wk_shM 3 mc_X12_readsLine 100 [.ref 0, .int x1, .int x2, w3] [] s z := by
  dsimp only [j_X12_readsLine_100] at h
  refine wk_Hs 7 107 ⟨rfl, rfl⟩ (ls' := [.ref 0, .int x1, .int x2, w3]) (st' := [.int x2]) (σ' := (wk_si s 0 10 ((s.1 0 10) + (1 : Int32)))) rfl ?_
  rcases wk_ife h with ⟨hc0, h⟩ | ⟨hc0, h⟩
  · refine wk_Hls (t := 108) rfl (wk_lswE hc0 (by decide)) ?_
    refine wk_Hs 8 116 ⟨rfl, rfl⟩ (ls' := [.ref 0, .int x1, .int x2, w3]) (st' := [.int ((18 : Int32) + x1), .ref 1, .int (1 : Int32), .int x1, .ref 0]) (σ' := (wk_si s 0 10 ((s.1 0 10) + (1 : Int32)))) rfl ?_
    obtain ⟨hg, h⟩ := wk_gdE h
    refine wk_Hia 117 rfl rfl rfl hg rfl ?_
    obtain ⟨v7, hv7, h⟩ := wk_bindE h
    refine wk_Hcall (i2 := 118) (args := [.ref 0, .int x1, .int (1 : Int32), .int ((wk_si s 0 10 ((s.1 0 10) + (1 : Int32))).1 1 (((18 : Int32) + x1).toNatClampNeg))]) (rest := []) (r := none) (σ1 := v7) rfl rfl ⟨rfl, rfl, rfl, rfl, rfl⟩ rfl ((t_X12_turns hv7).up (by decide)) ?_
    refine wk_Hs 1 119 ⟨rfl, rfl⟩ (ls' := [.ref 0, .int x1, .int x2, w3]) (st' := [.int (1 : Int32)]) (σ' := v7) rfl ?_
    cases h
    exact wk_eqz hk (wk_Hretz rfl (b2i_01 true))
  rcases wk_ife h with ⟨hc1, h⟩ | ⟨hc1, h⟩
  · refine wk_Hls (t := 120) rfl (wk_lswE hc1 (by decide)) ?_
    refine wk_Hs 4 124 ⟨rfl, rfl⟩ (ls' := [.ref 0, .int x1, .int x2, w3]) (st' := [.int (-2 : Int32), .int (0 : Int32), .int x1, .ref 0]) (σ' := (wk_si s 0 10 ((s.1 0 10) + (1 : Int32)))) rfl ?_
    obtain ⟨v8, hv8, h⟩ := wk_bindE h
    refine wk_Hcall (i2 := 125) (args := [.ref 0, .int x1, .int (0 : Int32), .int (-2 : Int32)]) (rest := []) (r := none) (σ1 := v8) rfl rfl ⟨rfl, rfl, rfl, rfl, rfl⟩ rfl ((t_X12_turns hv8).up (by decide)) ?_
    refine wk_Hs 1 126 ⟨rfl, rfl⟩ (ls' := [.ref 0, .int x1, .int x2, w3]) (st' := [.int (1 : Int32)]) (σ' := v8) rfl ?_
    cases h
    exact wk_eqz hk (wk_Hretz rfl (b2i_01 true))
  refine wk_Hls (t := 127) rfl (wk_lswD (L := [43, 45]) (by decide) (List.forall_mem_cons.2 ⟨wk_nt hc0 (by decide), (List.forall_mem_cons.2 ⟨wk_nt hc1 (by decide), (fun _ hq => absurd hq List.not_mem_nil)⟩)⟩)) ?_
  refine wk_Hs 1 128 ⟨rfl, rfl⟩ (ls' := [.ref 0, .int x1, .int x2, w3]) (st' := [.ref 0]) (σ' := (wk_si s 0 10 ((s.1 0 10) + (1 : Int32)))) rfl ?_
  obtain ⟨v9, hv9, h⟩ := wk_bindE h
  refine wk_Hcall (i2 := 129) (args := [.ref 0]) (rest := []) (r := some (.int (b2i v9.1))) (σ1 := v9.2) rfl rfl ⟨rfl, rfl, rfl, rfl, rfl⟩ rfl ((t_X12_readsWhere hv9).up (by decide)) ?_
  rcases wk_ife h with ⟨hc, h⟩ | ⟨hc, h⟩
  · refine wk_H0t 132 rfl (wk_zne.2 hc) ?_
    refine wk_Hs 4 136 ⟨rfl, rfl⟩ (ls' := [.ref 0, .int x1, .int x2, w3]) (st' := [.int (62 : Int32), .int x2, .ref 1]) (σ' := v9.2) rfl ?_
    rcases wk_ife h with ⟨hc, h⟩ | ⟨hc, h⟩
    · refine wk_Hbt 139 rfl (wk_cne.2 hc) ?_
      refine wk_Hs 5 144 ⟨rfl, rfl⟩ (ls' := [.ref 0, .int x1, .int x2, w3]) (st' := [.int (v9.2.1 0 13), .int ((36 : Int32) + x1), .ref 1]) (σ' := v9.2) rfl ?_
      obtain ⟨hg, h⟩ := wk_gdE h
      refine wk_Hias 145 rfl rfl rfl hg rfl ?_
      refine wk_Hs 1 146 ⟨rfl, rfl⟩ (ls' := [.ref 0, .int x1, .int x2, w3]) (st' := [.int (1 : Int32)]) (σ' := (wk_si v9.2 1 (((36 : Int32) + x1).toNatClampNeg) (v9.2.1 0 13))) rfl ?_
      cases h
      exact wk_eqz hk (wk_Hretz rfl (b2i_01 true))
    · refine wk_Hbf 139 137 rfl rfl (wk_nf wk_cne hc) ?_
      refine wk_Hs 1 138 ⟨rfl, rfl⟩ (ls' := [.ref 0, .int x1, .int x2, w3]) (st' := [.int (18 : Int32), .ref 1]) (σ' := v9.2) rfl ?_
      refine wk_Hgoto (t := 140) rfl ?_
      refine wk_Hs 4 144 ⟨rfl, rfl⟩ (ls' := [.ref 0, .int x1, .int x2, w3]) (st' := [.int (v9.2.1 0 13), .int ((18 : Int32) + x1), .ref 1]) (σ' := v9.2) rfl ?_
      obtain ⟨hg, h⟩ := wk_gdE h
      refine wk_Hias 145 rfl rfl rfl hg rfl ?_
      refine wk_Hs 1 146 ⟨rfl, rfl⟩ (ls' := [.ref 0, .int x1, .int x2, w3]) (st' := [.int (1 : Int32)]) (σ' := (wk_si v9.2 1 (((18 : Int32) + x1).toNatClampNeg) (v9.2.1 0 13))) rfl ?_
      cases h
      exact wk_eqz hk (wk_Hretz rfl (b2i_01 true))
  · refine wk_H0f 132 130 rfl rfl (wk_nf wk_zne hc) ?_
    refine wk_Hs 1 131 ⟨rfl, rfl⟩ (ls' := [.ref 0, .int x1, .int x2, w3]) (st' := [.int (0 : Int32)]) (σ' := v9.2) rfl ?_
    cases h
    exact wk_eqz hk (wk_Hretz rfl (b2i_01 false))
set_option maxHeartbeats 4000000 in
set_option maxRecDepth 20000 in
theorem tj_j_X12_readsLine_89 {x1 : Int32} {x2 : Int32} {x3 : Int32} {s : wk_St} {z : wk_R} {o : Bool × wk_St} (h : j_X12_readsLine_89 x1 x2 x3 s = some o) (hk : z = (some (.int (b2i o.1)), o.2)) : wk_H wk_shM 3 mc_X12_readsLine 89 [.ref 0, .int x1, .int x2, .int x3] [] s z := by
  dsimp only [j_X12_readsLine_89] at h
  refine wk_Hs 2 91 ⟨rfl, rfl⟩ (ls' := [.ref 0, .int x1, .int x2, .int x3]) (st' := [.int (43 : Int32), .int x2]) (σ' := s) rfl ?_
  rcases wk_ife h with ⟨hc, h⟩ | ⟨hc, h⟩
  · refine wk_Hbt 100 rfl (wk_cne.2 hc) ?_
    exact tj_j_X12_readsLine_100 h hk
  · refine wk_Hbf 100 92 rfl rfl (wk_nf wk_cne hc) ?_
    refine wk_Hs 1 93 ⟨rfl, rfl⟩ (ls' := [.ref 0, .int x1, .int x2, .int x3]) (st' := [.int x3]) (σ' := s) rfl ?_
    rcases wk_ife h with ⟨hc, h⟩ | ⟨hc, h⟩
    · refine wk_H0t 100 rfl (wk_ceq.2 hc) ?_
      exact tj_j_X12_readsLine_100 h hk
    · refine wk_H0f 100 94 rfl rfl (wk_nf wk_ceq hc) ?_
      refine wk_Hs 4 98 ⟨rfl, rfl⟩ (ls' := [.ref 0, .int x1, .int x2, .int x3]) (st' := [.int (s.1 0 10), .int (9 : Int32), .ref 0]) (σ' := s) rfl ?_
      replace h := wk_letE h
      refine wk_Hcall (i2 := 99) (args := [.ref 0, .int (9 : Int32), .int (s.1 0 10)]) (rest := []) (r := some (.int (b2i ((f_X12_wrongAt (9 : Int32) (s.1 0 10) s).1)))) (σ1 := (f_X12_wrongAt (9 : Int32) (s.1 0 10) s).2) rfl rfl ⟨rfl, rfl, rfl, rfl, rfl⟩ rfl ((t_X12_wrongAt rfl).up (by decide)) ?_
      cases h
      exact wk_eqz hk (wk_Hretz rfl (b2i_01 _))
set_option maxHeartbeats 4000000 in
set_option maxRecDepth 20000 in
theorem tj_j_X12_readsLine_80 {x1 : Int32} {x2 : Int32} {s_0 : Int32} {w3 : Value} {s : wk_St} {z : wk_R} {o : Bool × wk_St} (h : j_X12_readsLine_80 x1 x2 s_0 s = some o) (hk : z = (some (.int (b2i o.1)), o.2)) : wk_H wk_shM 3 mc_X12_readsLine 80 [.ref 0, .int x1, .int x2, w3] [.int s_0] s z := by
  dsimp only [j_X12_readsLine_80] at h
  refine wk_Hs 3 83 ⟨rfl, rfl⟩ (ls' := [.ref 0, .int x1, .int x2, .int s_0]) (st' := [.int (64 : Int32), .int x2]) (σ' := s) rfl ?_
  rcases wk_ife h with ⟨hc, h⟩ | ⟨hc, h⟩
  · refine wk_Hbt 87 rfl (wk_ceq.2 hc) ?_
    refine wk_Hs 1 88 ⟨rfl, rfl⟩ (ls' := [.ref 0, .int x1, .int x2, .int s_0]) (st' := [.int s_0]) (σ' := s) rfl ?_
    rcases wk_ife h with ⟨hc, h⟩ | ⟨hc, h⟩
    · refine wk_H0t 94 rfl (wk_ceq.2 hc) ?_
      refine wk_Hs 4 98 ⟨rfl, rfl⟩ (ls' := [.ref 0, .int x1, .int x2, .int s_0]) (st' := [.int (s.1 0 10), .int (9 : Int32), .ref 0]) (σ' := s) rfl ?_
      replace h := wk_letE h
      refine wk_Hcall (i2 := 99) (args := [.ref 0, .int (9 : Int32), .int (s.1 0 10)]) (rest := []) (r := some (.int (b2i ((f_X12_wrongAt (9 : Int32) (s.1 0 10) s).1)))) (σ1 := (f_X12_wrongAt (9 : Int32) (s.1 0 10) s).2) rfl rfl ⟨rfl, rfl, rfl, rfl, rfl⟩ rfl ((t_X12_wrongAt rfl).up (by decide)) ?_
      cases h
      exact wk_eqz hk (wk_Hretz rfl (b2i_01 _))
    · refine wk_H0f 94 89 rfl rfl (wk_nf wk_ceq hc) ?_
      exact tj_j_X12_readsLine_89 h hk
  · refine wk_Hbf 87 84 rfl rfl (wk_nf wk_ceq hc) ?_
    refine wk_Hs 2 86 ⟨rfl, rfl⟩ (ls' := [.ref 0, .int x1, .int x2, .int s_0]) (st' := [.int (45 : Int32), .int x2]) (σ' := s) rfl ?_
    rcases wk_ife h with ⟨hc, h⟩ | ⟨hc, h⟩
    · refine wk_Hbt 89 rfl (wk_cne.2 hc) ?_
      exact tj_j_X12_readsLine_89 h hk
    · refine wk_Hbf 89 87 rfl rfl (wk_nf wk_cne hc) ?_
      refine wk_Hs 1 88 ⟨rfl, rfl⟩ (ls' := [.ref 0, .int x1, .int x2, .int s_0]) (st' := [.int s_0]) (σ' := s) rfl ?_
      rcases wk_ife h with ⟨hc, h⟩ | ⟨hc, h⟩
      · refine wk_H0t 94 rfl (wk_ceq.2 hc) ?_
        refine wk_Hs 4 98 ⟨rfl, rfl⟩ (ls' := [.ref 0, .int x1, .int x2, .int s_0]) (st' := [.int (s.1 0 10), .int (9 : Int32), .ref 0]) (σ' := s) rfl ?_
        replace h := wk_letE h
        refine wk_Hcall (i2 := 99) (args := [.ref 0, .int (9 : Int32), .int (s.1 0 10)]) (rest := []) (r := some (.int (b2i ((f_X12_wrongAt (9 : Int32) (s.1 0 10) s).1)))) (σ1 := (f_X12_wrongAt (9 : Int32) (s.1 0 10) s).2) rfl rfl ⟨rfl, rfl, rfl, rfl, rfl⟩ rfl ((t_X12_wrongAt rfl).up (by decide)) ?_
        cases h
        exact wk_eqz hk (wk_Hretz rfl (b2i_01 _))
      · refine wk_H0f 94 89 rfl rfl (wk_nf wk_ceq hc) ?_
        exact tj_j_X12_readsLine_89 h hk
set_option maxHeartbeats 4000000 in
set_option maxRecDepth 20000 in
theorem tj_j_X12_readsLine_69 {x1 : Int32} {x2 : Int32} {w3 : Value} {s : wk_St} {z : wk_R} {o : Bool × wk_St} (h : j_X12_readsLine_69 x1 x2 s = some o) (hk : z = (some (.int (b2i o.1)), o.2)) : wk_H wk_shM 3 mc_X12_readsLine 69 [.ref 0, .int x1, .int x2, w3] [] s z := by
  dsimp only [j_X12_readsLine_69] at h
  refine wk_Hs 5 74 ⟨rfl, rfl⟩ (ls' := [.ref 0, .int x1, .int x2, w3]) (st' := [.int ((27 : Int32) + x1), .ref 1]) (σ' := s) rfl ?_
  obtain ⟨hg, h⟩ := wk_gdE h
  refine wk_Hia 75 rfl rfl rfl hg rfl ?_
  refine wk_Hs 1 76 ⟨rfl, rfl⟩ (ls' := [.ref 0, .int x1, .int x2, w3]) (st' := [.int (1 : Int32), .int (s.1 1 (((27 : Int32) + x1).toNatClampNeg))]) (σ' := s) rfl ?_
  rcases wk_ife h with ⟨hc, h⟩ | ⟨hc, h⟩
  · refine wk_Hbt 79 rfl (wk_cne.2 hc) ?_
    refine wk_Hs 1 80 ⟨rfl, rfl⟩ (ls' := [.ref 0, .int x1, .int x2, w3]) (st' := [.int (0 : Int32)]) (σ' := s) rfl ?_
    exact tj_j_X12_readsLine_80 h hk
  · refine wk_Hbf 79 77 rfl rfl (wk_nf wk_cne hc) ?_
    refine wk_Hs 1 78 ⟨rfl, rfl⟩ (ls' := [.ref 0, .int x1, .int x2, w3]) (st' := [.int (1 : Int32)]) (σ' := s) rfl ?_
    refine wk_Hgoto (t := 80) rfl ?_
    exact tj_j_X12_readsLine_80 h hk
set_option maxHeartbeats 4000000 in
set_option maxRecDepth 20000 in
theorem t_X12_readsLine {s : wk_St} {r : Bool × wk_St} (h : f_X12_readsLine s = some r) : wk_T wk_shM 3 97 [.ref 0] s (some (.int (b2i r.1)), r.2) := by
  suffices H : ∀ z, z = (some (.int (b2i r.1)), r.2) → wk_H wk_shM 3 mc_X12_readsLine 0 [.ref 0, wk_U, wk_U, wk_U] [] s z from H _ rfl
  intro z hk
  dsimp only [f_X12_readsLine] at h
  refine wk_Hs 1 1 ⟨rfl, rfl⟩ (ls' := [.ref 0, wk_U, wk_U, wk_U]) (st' := [.ref 0]) (σ' := s) rfl ?_
  obtain ⟨v1, hv1, h⟩ := wk_bindE h
  refine wk_Hcall (i2 := 2) (args := [.ref 0]) (rest := []) (r := some (.int v1)) (σ1 := s) rfl rfl ⟨rfl, rfl, rfl, rfl, rfl⟩ rfl ((t_X12_here hv1).up (by decide)) ?_
  refine wk_Hs 2 4 ⟨rfl, rfl⟩ (ls' := [.ref 0, wk_U, wk_U, wk_U]) (st' := [.int (v1 - (97 : Int32))]) (σ' := s) rfl ?_
  replace h := wk_letE h
  refine wk_Hs 4 8 ⟨rfl, rfl⟩ (ls' := [.ref 0, .int (v1 - (97 : Int32)), wk_U, wk_U]) (st' := [.int (8 : Int32), .int (0 : Int32), .int (v1 - (97 : Int32))]) (σ' := s) rfl ?_
  refine wk_Hcall (i2 := 9) (args := [.int (v1 - (97 : Int32)), .int (0 : Int32), .int (8 : Int32)]) (rest := []) (r := some (.int (b2i (f_X12_in (v1 - (97 : Int32)) (0 : Int32) (8 : Int32))))) (σ1 := s) rfl rfl ⟨rfl, rfl, rfl, rfl, rfl⟩ rfl ((t_X12_in rfl).up (by decide)) ?_
  rcases wk_ife h with ⟨hc, h⟩ | ⟨hc, h⟩
  · refine wk_H0t 16 rfl (wk_zne.2 hc) ?_
    refine wk_Hs 3 19 ⟨rfl, rfl⟩ (ls' := [.ref 0, .int (v1 - (97 : Int32)), wk_U, wk_U]) (st' := [.int (20 : Int32), .int (s.1 0 42)]) (σ' := s) rfl ?_
    rcases wk_ife h with ⟨hc, h⟩ | ⟨hc, h⟩
    · refine wk_Hbt 26 rfl (wk_cne.2 hc) ?_
      refine wk_Hs 2 28 ⟨rfl, rfl⟩ (ls' := [.ref 0, .int (v1 - (97 : Int32)), wk_U, wk_U]) (st' := [.int (v1 - (97 : Int32)), .ref 0]) (σ' := s) rfl ?_
      obtain ⟨v4, hv4, h⟩ := wk_bindE h
      refine wk_Hcall (i2 := 29) (args := [.ref 0, .int (v1 - (97 : Int32))]) (rest := []) (r := some (.int (b2i v4))) (σ1 := s) rfl rfl ⟨rfl, rfl, rfl, rfl, rfl⟩ rfl ((t_X12_isLiving hv4).up (by decide)) ?_
      rcases wk_ife h with ⟨hc, h⟩ | ⟨hc, h⟩
      · refine wk_H0t 36 rfl (wk_zne.2 hc) ?_
        refine wk_Hs 13 49 ⟨rfl, rfl⟩ (ls' := [.ref 0, .int (v1 - (97 : Int32)), wk_U, wk_U]) (st' := [.ref 0]) (σ' := (wk_si (wk_si s 0 10 ((s.1 0 10) + (1 : Int32))) 0 42 (((wk_si s 0 10 ((s.1 0 10) + (1 : Int32))).1 0 42) + (1 : Int32)))) rfl ?_
        obtain ⟨v5, hv5, h⟩ := wk_bindE h
        refine wk_Hcall (i2 := 50) (args := [.ref 0]) (rest := []) (r := some (.int v5)) (σ1 := (wk_si (wk_si s 0 10 ((s.1 0 10) + (1 : Int32))) 0 42 (((wk_si s 0 10 ((s.1 0 10) + (1 : Int32))).1 0 42) + (1 : Int32)))) rfl rfl ⟨rfl, rfl, rfl, rfl, rfl⟩ rfl ((t_X12_here hv5).up (by decide)) ?_
        refine wk_Hs 3 53 ⟨rfl, rfl⟩ (ls' := [.ref 0, .int (v1 - (97 : Int32)), .int v5, wk_U]) (st' := [.int (62 : Int32), .int v5]) (σ' := (wk_si (wk_si s 0 10 ((s.1 0 10) + (1 : Int32))) 0 42 (((wk_si s 0 10 ((s.1 0 10) + (1 : Int32))).1 0 42) + (1 : Int32)))) rfl ?_
        rcases wk_ife h with ⟨hc, h⟩ | ⟨hc, h⟩
        · refine wk_Hbt 69 rfl (wk_ceq.2 hc) ?_
          exact tj_j_X12_readsLine_69 h hk
        · refine wk_Hbf 69 54 rfl rfl (wk_nf wk_ceq hc) ?_
          refine wk_Hs 2 56 ⟨rfl, rfl⟩ (ls' := [.ref 0, .int (v1 - (97 : Int32)), .int v5, wk_U]) (st' := [.int (64 : Int32), .int v5]) (σ' := (wk_si (wk_si s 0 10 ((s.1 0 10) + (1 : Int32))) 0 42 (((wk_si s 0 10 ((s.1 0 10) + (1 : Int32))).1 0 42) + (1 : Int32)))) rfl ?_
          rcases wk_ife h with ⟨hc, h⟩ | ⟨hc, h⟩
          · refine wk_Hbt 69 rfl (wk_ceq.2 hc) ?_
            exact tj_j_X12_readsLine_69 h hk
          · refine wk_Hbf 69 57 rfl rfl (wk_nf wk_ceq hc) ?_
            refine wk_Hs 2 59 ⟨rfl, rfl⟩ (ls' := [.ref 0, .int (v1 - (97 : Int32)), .int v5, wk_U]) (st' := [.int (43 : Int32), .int v5]) (σ' := (wk_si (wk_si s 0 10 ((s.1 0 10) + (1 : Int32))) 0 42 (((wk_si s 0 10 ((s.1 0 10) + (1 : Int32))).1 0 42) + (1 : Int32)))) rfl ?_
            rcases wk_ife h with ⟨hc, h⟩ | ⟨hc, h⟩
            · refine wk_Hbt 69 rfl (wk_ceq.2 hc) ?_
              exact tj_j_X12_readsLine_69 h hk
            · refine wk_Hbf 69 60 rfl rfl (wk_nf wk_ceq hc) ?_
              refine wk_Hs 2 62 ⟨rfl, rfl⟩ (ls' := [.ref 0, .int (v1 - (97 : Int32)), .int v5, wk_U]) (st' := [.int (45 : Int32), .int v5]) (σ' := (wk_si (wk_si s 0 10 ((s.1 0 10) + (1 : Int32))) 0 42 (((wk_si s 0 10 ((s.1 0 10) + (1 : Int32))).1 0 42) + (1 : Int32)))) rfl ?_
              rcases wk_ife h with ⟨hc, h⟩ | ⟨hc, h⟩
              · refine wk_Hbt 69 rfl (wk_ceq.2 hc) ?_
                exact tj_j_X12_readsLine_69 h hk
              · refine wk_Hbf 69 63 rfl rfl (wk_nf wk_ceq hc) ?_
                refine wk_Hs 4 67 ⟨rfl, rfl⟩ (ls' := [.ref 0, .int (v1 - (97 : Int32)), .int v5, wk_U]) (st' := [.int ((wk_si (wk_si s 0 10 ((s.1 0 10) + (1 : Int32))) 0 42 (((wk_si s 0 10 ((s.1 0 10) + (1 : Int32))).1 0 42) + (1 : Int32))).1 0 10), .int (1 : Int32), .ref 0]) (σ' := (wk_si (wk_si s 0 10 ((s.1 0 10) + (1 : Int32))) 0 42 (((wk_si s 0 10 ((s.1 0 10) + (1 : Int32))).1 0 42) + (1 : Int32)))) rfl ?_
                replace h := wk_letE h
                refine wk_Hcall (i2 := 68) (args := [.ref 0, .int (1 : Int32), .int ((wk_si (wk_si s 0 10 ((s.1 0 10) + (1 : Int32))) 0 42 (((wk_si s 0 10 ((s.1 0 10) + (1 : Int32))).1 0 42) + (1 : Int32))).1 0 10)]) (rest := []) (r := some (.int (b2i ((f_X12_wrongAt (1 : Int32) ((wk_si (wk_si s 0 10 ((s.1 0 10) + (1 : Int32))) 0 42 (((wk_si s 0 10 ((s.1 0 10) + (1 : Int32))).1 0 42) + (1 : Int32))).1 0 10) (wk_si (wk_si s 0 10 ((s.1 0 10) + (1 : Int32))) 0 42 (((wk_si s 0 10 ((s.1 0 10) + (1 : Int32))).1 0 42) + (1 : Int32)))).1)))) (σ1 := (f_X12_wrongAt (1 : Int32) ((wk_si (wk_si s 0 10 ((s.1 0 10) + (1 : Int32))) 0 42 (((wk_si s 0 10 ((s.1 0 10) + (1 : Int32))).1 0 42) + (1 : Int32))).1 0 10) (wk_si (wk_si s 0 10 ((s.1 0 10) + (1 : Int32))) 0 42 (((wk_si s 0 10 ((s.1 0 10) + (1 : Int32))).1 0 42) + (1 : Int32)))).2) rfl rfl ⟨rfl, rfl, rfl, rfl, rfl⟩ rfl ((t_X12_wrongAt rfl).up (by decide)) ?_
                cases h
                exact wk_eqz hk (wk_Hretz rfl (b2i_01 _))
      · refine wk_H0f 36 30 rfl rfl (wk_nf wk_zne hc) ?_
        refine wk_Hs 4 34 ⟨rfl, rfl⟩ (ls' := [.ref 0, .int (v1 - (97 : Int32)), wk_U, wk_U]) (st' := [.int (s.1 0 10), .int (7 : Int32), .ref 0]) (σ' := s) rfl ?_
        replace h := wk_letE h
        refine wk_Hcall (i2 := 35) (args := [.ref 0, .int (7 : Int32), .int (s.1 0 10)]) (rest := []) (r := some (.int (b2i ((f_X12_wrongAt (7 : Int32) (s.1 0 10) s).1)))) (σ1 := (f_X12_wrongAt (7 : Int32) (s.1 0 10) s).2) rfl rfl ⟨rfl, rfl, rfl, rfl, rfl⟩ rfl ((t_X12_wrongAt rfl).up (by decide)) ?_
        cases h
        exact wk_eqz hk (wk_Hretz rfl (b2i_01 _))
    · refine wk_Hbf 26 20 rfl rfl (wk_nf wk_cne hc) ?_
      refine wk_Hs 4 24 ⟨rfl, rfl⟩ (ls' := [.ref 0, .int (v1 - (97 : Int32)), wk_U, wk_U]) (st' := [.int (s.1 0 10), .int (4 : Int32), .ref 0]) (σ' := s) rfl ?_
      replace h := wk_letE h
      refine wk_Hcall (i2 := 25) (args := [.ref 0, .int (4 : Int32), .int (s.1 0 10)]) (rest := []) (r := some (.int (b2i ((f_X12_wrongAt (4 : Int32) (s.1 0 10) s).1)))) (σ1 := (f_X12_wrongAt (4 : Int32) (s.1 0 10) s).2) rfl rfl ⟨rfl, rfl, rfl, rfl, rfl⟩ rfl ((t_X12_wrongAt rfl).up (by decide)) ?_
      cases h
      exact wk_eqz hk (wk_Hretz rfl (b2i_01 _))
  · refine wk_H0f 16 10 rfl rfl (wk_nf wk_zne hc) ?_
    refine wk_Hs 4 14 ⟨rfl, rfl⟩ (ls' := [.ref 0, .int (v1 - (97 : Int32)), wk_U, wk_U]) (st' := [.int (s.1 0 10), .int (1 : Int32), .ref 0]) (σ' := s) rfl ?_
    replace h := wk_letE h
    refine wk_Hcall (i2 := 15) (args := [.ref 0, .int (1 : Int32), .int (s.1 0 10)]) (rest := []) (r := some (.int (b2i ((f_X12_wrongAt (1 : Int32) (s.1 0 10) s).1)))) (σ1 := (f_X12_wrongAt (1 : Int32) (s.1 0 10) s).2) rfl rfl ⟨rfl, rfl, rfl, rfl, rfl⟩ rfl ((t_X12_wrongAt rfl).up (by decide)) ?_
    cases h
    exact wk_eqz hk (wk_Hretz rfl (b2i_01 _))
set_option maxHeartbeats 4000000 in
set_option maxRecDepth 20000 in
theorem ts_S_X12_diary_25 {x2 : Int32} {w1 : Value} {s : wk_St} {z : wk_R} {o : (Int32 × wk_St) ⊕ (Int32 × wk_St)} (h : S_X12_diary_25 (x2, s) = some o) (hk : match (generalizing := false) o with | Sum.inl a => (∀ (u1 : Value), wk_H wk_shM 4 mc_X12_diary 44 [.ref 0, u1, .int a.1] [] a.2 z) | Sum.inr y => ∀ (u1 : Value), wk_H wk_shM 4 mc_X12_diary 25 [.ref 0, u1, .int y.1] [] y.2 z) : wk_H wk_shM 4 mc_X12_diary 25 [.ref 0, w1, .int x2] [] s z := by
  dsimp only [S_X12_diary_25] at h
  refine wk_Hs 1 26 ⟨rfl, rfl⟩ (ls' := [.ref 0, w1, .int x2]) (st' := [.int x2]) (σ' := s) rfl ?_
  rcases wk_ife h with ⟨hc, h⟩ | ⟨hc, h⟩
  · refine wk_H0t 44 rfl (wk_ceq.2 hc) ?_
    cases h
    exact hk _
  · refine wk_H0f 44 27 rfl rfl (wk_nf wk_ceq hc) ?_
    refine wk_Hs 4 31 ⟨rfl, rfl⟩ (ls' := [.ref 0, w1, .int x2]) (st' := [.int (s.1 0 11), .int (s.1 0 10)]) (σ' := s) rfl ?_
    rcases wk_ife h with ⟨hc, h⟩ | ⟨hc, h⟩
    · refine wk_Hbt 44 rfl (wk_cge.2 hc) ?_
      cases h
      exact hk _
    · refine wk_Hbf 44 32 rfl rfl (wk_nf wk_cge hc) ?_
      refine wk_Hs 2 34 ⟨rfl, rfl⟩ (ls' := [.ref 0, w1, .int x2]) (st' := [.int (59 : Int32), .ref 0]) (σ' := s) rfl ?_
      obtain ⟨v5, hv5, h⟩ := wk_bindE h
      refine wk_Hcall (i2 := 35) (args := [.ref 0, .int (59 : Int32)]) (rest := []) (r := some (.int (b2i v5.1))) (σ1 := v5.2) rfl rfl ⟨rfl, rfl, rfl, rfl, rfl⟩ rfl ((t_X12_takes hv5).up (by decide)) ?_
      rcases wk_ife h with ⟨hc, h⟩ | ⟨hc, h⟩
      · refine wk_H0t 41 rfl (wk_zeq.2 hc) ?_
        refine wk_Hs 2 43 ⟨rfl, rfl⟩ (ls' := [.ref 0, (wk_cl w1), .int (0 : Int32)]) (st' := []) (σ' := v5.2) rfl ?_
        refine wk_Hgoto (t := 25) rfl ?_
        cases h
        exact hk _
      · refine wk_H0f 41 36 rfl rfl (wk_nf wk_zeq hc) ?_
        refine wk_Hs 1 37 ⟨rfl, rfl⟩ (ls' := [.ref 0, w1, .int x2]) (st' := [.ref 0]) (σ' := v5.2) rfl ?_
        obtain ⟨v6, hv6, h⟩ := wk_bindE h
        refine wk_Hcall (i2 := 38) (args := [.ref 0]) (rest := []) (r := some (.int (b2i v6.1))) (σ1 := v6.2) rfl rfl ⟨rfl, rfl, rfl, rfl, rfl⟩ rfl ((t_X12_readsLine hv6).up (by decide)) ?_
        rcases wk_ife h with ⟨hc, h⟩ | ⟨hc, h⟩
        · refine wk_H0t 41 rfl (wk_zeq.2 hc) ?_
          refine wk_Hs 2 43 ⟨rfl, rfl⟩ (ls' := [.ref 0, (wk_cl w1), .int (0 : Int32)]) (st' := []) (σ' := v6.2) rfl ?_
          refine wk_Hgoto (t := 25) rfl ?_
          cases h
          exact hk _
        · refine wk_H0f 41 39 rfl rfl (wk_nf wk_zeq hc) ?_
          refine wk_Hs 1 40 ⟨rfl, rfl⟩ (ls' := [.ref 0, w1, .int x2]) (st' := [.int (1 : Int32)]) (σ' := v6.2) rfl ?_
          refine wk_Hgoto (t := 42) rfl ?_
          refine wk_Hs 1 43 ⟨rfl, rfl⟩ (ls' := [.ref 0, (wk_cl w1), .int (1 : Int32)]) (st' := []) (σ' := v6.2) rfl ?_
          refine wk_Hgoto (t := 25) rfl ?_
          cases h
          exact hk _
set_option maxHeartbeats 4000000 in
set_option maxRecDepth 20000 in
theorem tl_S_X12_diary_25 {z : wk_R} (n : Nat) : ∀ {x2 : Int32} {w1 : Value} {s : wk_St} {a : Int32 × wk_St} (h : wk_loop S_X12_diary_25 n (x2, s) = some a) (hk : ∀ (u1 : Value), wk_H wk_shM 4 mc_X12_diary 44 [.ref 0, u1, .int a.1] [] a.2 z), wk_H wk_shM 4 mc_X12_diary 25 [.ref 0, w1, .int x2] [] s z := by
  induction n with
  | zero =>
    intros
    rename_i h _
    exact nomatch (show (none : Option _) = some _ from h)
  | succ n ih =>
    intros
    rename_i h hk
    obtain ⟨o, ho, h⟩ := wk_bindE (show Option.bind _ _ = some _ from h)
    refine ts_S_X12_diary_25 ho ?_
    cases o with
    | inl a1 =>
      cases h
      exact hk
    | inr p =>
      obtain ⟨p0, p1⟩ := p
      exact fun _ => ih h hk
set_option maxHeartbeats 4000000 in
set_option maxRecDepth 20000 in
theorem tj_j_X12_diary_44 {x2 : Int32} {w1 : Value} {s : wk_St} {z : wk_R} {o : Int32 × wk_St} (h : j_X12_diary_44 x2 s = some o) (hk : z = (some (.int o.1), o.2)) : wk_H wk_shM 4 mc_X12_diary 44 [.ref 0, w1, .int x2] [] s z := by
  dsimp only [j_X12_diary_44] at h
  refine wk_Hs 4 48 ⟨rfl, rfl⟩ (ls' := [.ref 0, w1, .int x2]) (st' := [.int x2]) (σ' := (wk_si s 0 9 (0 : Int32))) rfl ?_
  rcases wk_ife h with ⟨hc, h⟩ | ⟨hc, h⟩
  · refine wk_H0t 52 rfl (wk_ceq.2 hc) ?_
    refine wk_Hs 4 56 ⟨rfl, rfl⟩ (ls' := [.ref 0, w1, .int x2]) (st' := [.ref 1, .ref 2]) (σ' := (wk_si s 0 9 (0 : Int32))) rfl ?_
    obtain ⟨v9, hv9, h⟩ := wk_bindE h
    refine wk_Hcall (i2 := 57) (args := [.ref 2, .ref 1]) (rest := []) (r := none) (σ1 := v9) rfl rfl ⟨rfl, rfl, rfl, rfl, rfl⟩ rfl ((t_X12_copies_2_1 hv9).up (by decide)) ?_
    refine wk_Hs 2 59 ⟨rfl, rfl⟩ (ls' := [.ref 0, w1, .int x2]) (st' := [.int (v9.1 0 12)]) (σ' := v9) rfl ?_
    cases h
    exact wk_eqz hk (wk_Hret rfl)
  · refine wk_H0f 52 49 rfl rfl (wk_nf wk_ceq hc) ?_
    refine wk_Hs 2 51 ⟨rfl, rfl⟩ (ls' := [.ref 0, w1, .int x2]) (st' := [.int ((wk_si s 0 9 (0 : Int32)).1 0 42)]) (σ' := (wk_si s 0 9 (0 : Int32))) rfl ?_
    cases h
    exact wk_eqz hk (wk_Hret rfl)
set_option maxHeartbeats 4000000 in
set_option maxRecDepth 20000 in
theorem t_X12_diary {x1 : Int32} {s : wk_St} {r : Int32 × wk_St} (h : f_X12_diary x1 s = some r) : wk_T wk_shM 4 99 [.ref 0, .int x1] s (some (.int r.1), r.2) := by
  suffices H : ∀ z, z = (some (.int r.1), r.2) → wk_H wk_shM 4 mc_X12_diary 0 [.ref 0, .int x1, wk_U] [] s z from H _ rfl
  intro z hk
  dsimp only [f_X12_diary] at h
  refine wk_Hs 3 3 ⟨rfl, rfl⟩ (ls' := [.ref 0, .int x1, wk_U]) (st' := [.int (120 : Int32), .int (1 : Int32), .int x1]) (σ' := s) rfl ?_
  refine wk_Hcall (i2 := 4) (args := [.int x1, .int (1 : Int32), .int (120 : Int32)]) (rest := []) (r := some (.int (b2i (f_X12_in x1 (1 : Int32) (120 : Int32))))) (σ1 := s) rfl rfl ⟨rfl, rfl, rfl, rfl, rfl⟩ rfl ((t_X12_in rfl).up (by decide)) ?_
  rcases wk_ife h with ⟨hc, h⟩ | ⟨hc, h⟩
  · refine wk_H0t 9 rfl (wk_zeq.2 hc) ?_
    refine wk_Hs 1 10 ⟨rfl, rfl⟩ (ls' := [.ref 0, .int x1, wk_U]) (st' := [.int (-1 : Int32)]) (σ' := s) rfl ?_
    cases h
    exact wk_eqz hk (wk_Hret rfl)
  · refine wk_H0f 9 5 rfl rfl (wk_nf wk_zeq hc) ?_
    refine wk_Hs 3 8 ⟨rfl, rfl⟩ (ls' := [.ref 0, .int x1, wk_U]) (st' := [.int (s.1 0 9), .int x1]) (σ' := s) rfl ?_
    rcases wk_ife h with ⟨hc, h⟩ | ⟨hc, h⟩
    · refine wk_Hbt 11 rfl (wk_cle.2 hc) ?_
      refine wk_Hs 2 13 ⟨rfl, rfl⟩ (ls' := [.ref 0, .int x1, wk_U]) (st' := [.int x1, .ref 0]) (σ' := s) rfl ?_
      replace h := wk_letE h
      refine wk_Hcall (i2 := 14) (args := [.ref 0, .int x1]) (rest := []) (r := none) (σ1 := (f_X12_beginsText x1 s)) rfl rfl ⟨rfl, rfl, rfl, rfl, rfl⟩ rfl ((t_X12_beginsText rfl).up (by decide)) ?_
      refine wk_Hs 7 21 ⟨rfl, rfl⟩ (ls' := [.ref 0, .int x1, wk_U]) (st' := [.ref 2, .ref 1]) (σ' := (wk_si (f_X12_beginsText x1 s) 0 42 (0 : Int32))) rfl ?_
      obtain ⟨v3, hv3, h⟩ := wk_bindE h
      refine wk_Hcall (i2 := 22) (args := [.ref 1, .ref 2]) (rest := []) (r := none) (σ1 := v3) rfl rfl ⟨rfl, rfl, rfl, rfl, rfl⟩ rfl ((t_X12_copies_1_2 hv3).up (by decide)) ?_
      refine wk_Hs 1 23 ⟨rfl, rfl⟩ (ls' := [.ref 0, .int x1, wk_U]) (st' := [.ref 0]) (σ' := v3) rfl ?_
      obtain ⟨v4, hv4, h⟩ := wk_bindE h
      refine wk_Hcall (i2 := 24) (args := [.ref 0]) (rest := []) (r := some (.int (b2i v4.1))) (σ1 := v4.2) rfl rfl ⟨rfl, rfl, rfl, rfl, rfl⟩ rfl ((t_X12_readsLine hv4).up (by decide)) ?_
      refine wk_Hs 1 25 ⟨rfl, rfl⟩ (ls' := [.ref 0, .int x1, .int (b2i v4.1)]) (st' := []) (σ' := v4.2) rfl ?_
      obtain ⟨v7, hv7, h⟩ := wk_bindE h
      refine tl_S_X12_diary_25 wk_F hv7 ?_
      intro g8
      exact tj_j_X12_diary_44 h hk
    · refine wk_Hbf 11 9 rfl rfl (wk_nf wk_cle hc) ?_
      refine wk_Hs 1 10 ⟨rfl, rfl⟩ (ls' := [.ref 0, .int x1, wk_U]) (st' := [.int (-1 : Int32)]) (σ' := s) rfl ?_
      cases h
      exact wk_eqz hk (wk_Hret rfl)
set_option maxHeartbeats 4000000 in
set_option maxRecDepth 20000 in
theorem t_X12_likedNow {x1 : Int32} {x2 : Int32} {s : wk_St} {r : Int32 × wk_St} (h : f_X12_likedNow x1 x2 s = some r) : wk_T wk_shM 5 100 [.ref 0, .int x1, .int x2] s (some (.int r.1), r.2) := by
  suffices H : ∀ z, z = (some (.int r.1), r.2) → wk_H wk_shM 5 mc_X12_likedNow 0 [.ref 0, .int x1, .int x2] [] s z from H _ rfl
  intro z hk
  dsimp only [f_X12_likedNow] at h
  refine wk_Hs 3 3 ⟨rfl, rfl⟩ (ls' := [.ref 0, .int x1, .int x2]) (st' := [.int x2, .int x1, .ref 0]) (σ' := s) rfl ?_
  obtain ⟨v1, hv1, h⟩ := wk_bindE h
  refine wk_Hcall (i2 := 4) (args := [.ref 0, .int x1, .int x2]) (rest := []) (r := none) (σ1 := v1) rfl rfl ⟨rfl, rfl, rfl, rfl, rfl⟩ rfl ((t_X12_feels hv1).up (by decide)) ?_
  refine wk_Hs 3 7 ⟨rfl, rfl⟩ (ls' := [.ref 0, .int x1, .int x2]) (st' := [.int (9999 : Int32), .int (101 : Int32), .ref 0]) (σ' := v1) rfl ?_
  obtain ⟨v2, hv2, h⟩ := wk_bindE h
  refine wk_Hcall (i2 := 8) (args := [.ref 0, .int (101 : Int32), .int (9999 : Int32)]) (rest := []) (r := some (.int v2.1)) (σ1 := v2.2) rfl rfl ⟨rfl, rfl, rfl, rfl, rfl⟩ rfl ((t_X12_byLaw hv2).up (by decide)) ?_
  cases h
  exact wk_eqz hk (wk_Hret rfl)
set_option maxHeartbeats 4000000 in
set_option maxRecDepth 20000 in
theorem ts_S_X12_goesOn_6 {x1 : Int32} {x2 : Int32} {x3 : Int32} {x4 : Int32} {w5 : Value} {s : wk_St} {z : wk_R} {o : (Int32 × wk_St) ⊕ (Int32 × Int32 × Int32 × wk_St)} (h : S_X12_goesOn_6 x1 (x2, x3, x4, s) = some o) (hk : match (generalizing := false) o with | Sum.inl a => (∀ (u3 u4 u5 : Value), wk_H wk_shM 6 mc_X12_goesOn 41 [.ref 0, .int x1, .int a.1, u3, u4, u5] [] a.2 z) | Sum.inr y => ∀ (u5 : Value), wk_H wk_shM 6 mc_X12_goesOn 6 [.ref 0, .int x1, .int y.1, .int y.2.1, .int y.2.2.1, u5] [] y.2.2.2 z) : wk_H wk_shM 6 mc_X12_goesOn 6 [.ref 0, .int x1, .int x2, .int x3, .int x4, w5] [] s z := by
  dsimp only [S_X12_goesOn_6] at h
  refine wk_Hs 2 8 ⟨rfl, rfl⟩ (ls' := [.ref 0, .int x1, .int x2, .int x3, .int x4, w5]) (st' := [.int (12 : Int32), .int x4]) (σ' := s) rfl ?_
  rcases wk_ife h with ⟨hc, h⟩ | ⟨hc, h⟩
  · refine wk_Hbt 41 rfl (wk_cge.2 hc) ?_
    cases h
    exact hk _ _ _
  · refine wk_Hbf 41 9 rfl rfl (wk_nf wk_cge hc) ?_
    refine wk_Hs 7 16 ⟨rfl, rfl⟩ (ls' := [.ref 0, .int x1, .int x2, .int x3, .int x4, w5]) (st' := [.int ((18 : Int32) + x1), .ref 1, .ref 4]) (σ' := s) rfl ?_
    obtain ⟨hg, h⟩ := wk_gdE h
    refine wk_Hia 17 rfl rfl rfl hg rfl ?_
    obtain ⟨hg, h⟩ := wk_gdE h
    refine wk_Hia 18 rfl rfl rfl hg rfl ?_
    refine wk_Hs 1 19 ⟨rfl, rfl⟩ (ls' := [.ref 0, .int x1, .int x2, .int x3, .int x4, w5]) (st' := [.int x4, .int (s.1 4 ((s.1 1 (((18 : Int32) + x1).toNatClampNeg)).toNatClampNeg))]) (σ' := s) rfl ?_
    refine wk_Hcall (i2 := 20) (args := [.int (s.1 4 ((s.1 1 (((18 : Int32) + x1).toNatClampNeg)).toNatClampNeg)), .int x4]) (rest := []) (r := some (.int (b2i (f_X12_has (s.1 4 ((s.1 1 (((18 : Int32) + x1).toNatClampNeg)).toNatClampNeg)) x4)))) (σ1 := s) rfl rfl ⟨rfl, rfl, rfl, rfl, rfl⟩ rfl ((t_X12_has rfl).up (by decide)) ?_
    rcases wk_ife h with ⟨hc, h⟩ | ⟨hc, h⟩
    · refine wk_H0t 39 rfl (wk_zeq.2 hc) ?_
      refine wk_Hs 1 40 ⟨rfl, rfl⟩ (ls' := [.ref 0, .int x1, .int x2, .int x3, .int (x4 + (1 : Int32)), w5]) (st' := []) (σ' := s) rfl ?_
      refine wk_Hgoto (t := 6) rfl ?_
      cases h
      exact hk _
    · refine wk_H0f 39 21 rfl rfl (wk_nf wk_zeq hc) ?_
      refine wk_Hs 2 23 ⟨rfl, rfl⟩ (ls' := [.ref 0, .int x1, .int x2, .int x3, .int x4, w5]) (st' := [.int x4, .ref 0]) (σ' := s) rfl ?_
      refine wk_Hcall (i2 := 24) (args := [.ref 0, .int x4]) (rest := []) (r := some (.int (b2i (f_X12_isPlace x4 s)))) (σ1 := s) rfl rfl ⟨rfl, rfl, rfl, rfl, rfl⟩ rfl ((t_X12_isPlace rfl).up (by decide)) ?_
      rcases wk_ife h with ⟨hc, h⟩ | ⟨hc, h⟩
      · refine wk_H0t 26 rfl (wk_zne.2 hc) ?_
        refine wk_Hs 3 29 ⟨rfl, rfl⟩ (ls' := [.ref 0, .int x1, .int x2, .int x3, .int x4, w5]) (st' := [.int x4, .int x1, .ref 0]) (σ' := s) rfl ?_
        obtain ⟨v3, hv3, h⟩ := wk_bindE h
        refine wk_Hcall (i2 := 30) (args := [.ref 0, .int x1, .int x4]) (rest := []) (r := some (.int v3.1)) (σ1 := v3.2) rfl rfl ⟨rfl, rfl, rfl, rfl, rfl⟩ rfl ((t_X12_likedNow hv3).up (by decide)) ?_
        refine wk_Hs 3 33 ⟨rfl, rfl⟩ (ls' := [.ref 0, .int x1, .int x2, .int x3, .int x4, .int v3.1]) (st' := [.int x3, .int v3.1]) (σ' := v3.2) rfl ?_
        rcases wk_ife h with ⟨hc, h⟩ | ⟨hc, h⟩
        · refine wk_Hbt 35 rfl (wk_cgt.2 hc) ?_
          refine wk_Hs 5 40 ⟨rfl, rfl⟩ (ls' := [.ref 0, .int x1, .int x4, .int v3.1, .int (x4 + (1 : Int32)), .int v3.1]) (st' := []) (σ' := v3.2) rfl ?_
          refine wk_Hgoto (t := 6) rfl ?_
          cases h
          exact hk _
        · refine wk_Hbf 35 34 rfl rfl (wk_nf wk_cgt hc) ?_
          refine wk_Hgoto (t := 39) rfl ?_
          refine wk_Hs 1 40 ⟨rfl, rfl⟩ (ls' := [.ref 0, .int x1, .int x2, .int x3, .int (x4 + (1 : Int32)), .int v3.1]) (st' := []) (σ' := v3.2) rfl ?_
          refine wk_Hgoto (t := 6) rfl ?_
          cases h
          exact hk _
      · refine wk_H0f 26 25 rfl rfl (wk_nf wk_zne hc) ?_
        refine wk_Hgoto (t := 39) rfl ?_
        refine wk_Hs 1 40 ⟨rfl, rfl⟩ (ls' := [.ref 0, .int x1, .int x2, .int x3, .int (x4 + (1 : Int32)), w5]) (st' := []) (σ' := s) rfl ?_
        refine wk_Hgoto (t := 6) rfl ?_
        cases h
        exact hk _
set_option maxHeartbeats 4000000 in
set_option maxRecDepth 20000 in
theorem tl_S_X12_goesOn_6 {x1 : Int32} {z : wk_R} (n : Nat) : ∀ {x2 : Int32} {x3 : Int32} {x4 : Int32} {w5 : Value} {s : wk_St} {a : Int32 × wk_St} (h : wk_loop (S_X12_goesOn_6 x1) n (x2, x3, x4, s) = some a) (hk : ∀ (u3 u4 u5 : Value), wk_H wk_shM 6 mc_X12_goesOn 41 [.ref 0, .int x1, .int a.1, u3, u4, u5] [] a.2 z), wk_H wk_shM 6 mc_X12_goesOn 6 [.ref 0, .int x1, .int x2, .int x3, .int x4, w5] [] s z := by
  induction n with
  | zero =>
    intros
    rename_i h _
    exact nomatch (show (none : Option _) = some _ from h)
  | succ n ih =>
    intros
    rename_i h hk
    obtain ⟨o, ho, h⟩ := wk_bindE (show Option.bind _ _ = some _ from h)
    refine ts_S_X12_goesOn_6 ho ?_
    cases o with
    | inl a1 =>
      cases h
      exact hk
    | inr p =>
      obtain ⟨p0, p1, p2, p3⟩ := p
      exact fun _ => ih h hk
set_option maxHeartbeats 4000000 in
set_option maxRecDepth 20000 in
theorem t_X12_goesOn {x1 : Int32} {s : wk_St} {r : wk_St} (h : f_X12_goesOn x1 s = some r) : wk_T wk_shM 6 101 [.ref 0, .int x1] s (none, r) := by
  suffices H : ∀ z, z = (none, r) → wk_H wk_shM 6 mc_X12_goesOn 0 [.ref 0, .int x1, wk_U, wk_U, wk_U, wk_U] [] s z from H _ rfl
  intro z hk
  dsimp only [f_X12_goesOn] at h
  refine wk_Hs 6 6 ⟨rfl, rfl⟩ (ls' := [.ref 0, .int x1, .int (-1 : Int32), .int (0 : Int32), .int (0 : Int32), wk_U]) (st' := []) (σ' := s) rfl ?_
  obtain ⟨v4, hv4, h⟩ := wk_bindE h
  refine tl_S_X12_goesOn_6 wk_F hv4 ?_
  intro g5 g6 g7
  refine wk_Hs 2 43 ⟨rfl, rfl⟩ (ls' := [.ref 0, .int x1, .int v4.1, g5, g6, g7]) (st' := [.int (-1 : Int32), .int v4.1]) (σ' := v4.2) rfl ?_
  rcases wk_ife h with ⟨hc, h⟩ | ⟨hc, h⟩
  · refine wk_Hbt 51 rfl (wk_ceq.2 hc) ?_
    cases h
    exact wk_eqz hk (wk_Hretv rfl)
  · refine wk_Hbf 51 44 rfl rfl (wk_nf wk_ceq hc) ?_
    refine wk_Hs 6 50 ⟨rfl, rfl⟩ (ls' := [.ref 0, .int x1, .int v4.1, g5, g6, g7]) (st' := [.int v4.1, .int ((18 : Int32) + x1), .ref 1]) (σ' := v4.2) rfl ?_
    obtain ⟨hg, h⟩ := wk_gdE h
    refine wk_Hias 51 rfl rfl rfl hg rfl ?_
    cases h
    exact wk_eqz hk (wk_Hretv rfl)
set_option maxHeartbeats 4000000 in
set_option maxRecDepth 20000 in
theorem ts_S_X12_mayLoseClothes_46 {x1 : Int32} {x2 : Int32} {x4 : Int32} {w3 : Value} {s : wk_St} {z : wk_R} {o : (Int32 × wk_St) ⊕ (Int32 × wk_St)} (h : S_X12_mayLoseClothes_46 x1 x2 (x4, s) = some o) (hk : match (generalizing := false) o with | Sum.inl a => (∀ (u3 : Value), wk_H wk_shM 5 mc_X12_mayLoseClothes 58 [.ref 0, .int x1, .int x2, u3, .int a.1] [] a.2 z) | Sum.inr y => ∀ (u3 : Value), wk_H wk_shM 5 mc_X12_mayLoseClothes 46 [.ref 0, .int x1, .int x2, u3, .int y.1] [] y.2 z) : wk_H wk_shM 5 mc_X12_mayLoseClothes 46 [.ref 0, .int x1, .int x2, w3, .int x4] [] s z := by
  dsimp only [S_X12_mayLoseClothes_46] at h
  refine wk_Hs 3 49 ⟨rfl, rfl⟩ (ls' := [.ref 0, .int x1, .int x2, w3, .int x4]) (st' := [.int x2, .ref 4]) (σ' := s) rfl ?_
  obtain ⟨hg, h⟩ := wk_gdE h
  refine wk_Hia 50 rfl rfl rfl hg rfl ?_
  refine wk_Hs 1 51 ⟨rfl, rfl⟩ (ls' := [.ref 0, .int x1, .int x2, w3, .int x4]) (st' := [.int x4, .int (s.1 4 (x2.toNatClampNeg))]) (σ' := s) rfl ?_
  refine wk_Hcall (i2 := 52) (args := [.int (s.1 4 (x2.toNatClampNeg)), .int x4]) (rest := []) (r := some (.int (b2i (f_X12_has (s.1 4 (x2.toNatClampNeg)) x4)))) (σ1 := s) rfl rfl ⟨rfl, rfl, rfl, rfl, rfl⟩ rfl ((t_X12_has rfl).up (by decide)) ?_
  rcases wk_ife h with ⟨hc, h⟩ | ⟨hc, h⟩
  · refine wk_H0t 58 rfl (wk_zne.2 hc) ?_
    cases h
    exact hk _
  · refine wk_H0f 58 53 rfl rfl (wk_nf wk_zne hc) ?_
    refine wk_Hs 3 56 ⟨rfl, rfl⟩ (ls' := [.ref 0, .int x1, .int x2, w3, .int x4]) (st' := [.int (x4 + (1 : Int32))]) (σ' := s) rfl ?_
    replace h := wk_letE h
    refine wk_Hs 1 57 ⟨rfl, rfl⟩ (ls' := [.ref 0, .int x1, .int x2, (wk_cl w3), .int (x4 + (1 : Int32))]) (st' := []) (σ' := s) rfl ?_
    refine wk_Hgoto (t := 46) rfl ?_
    cases h
    exact hk _
set_option maxHeartbeats 4000000 in
set_option maxRecDepth 20000 in
theorem tl_S_X12_mayLoseClothes_46 {x1 : Int32} {x2 : Int32} {z : wk_R} (n : Nat) : ∀ {x4 : Int32} {w3 : Value} {s : wk_St} {a : Int32 × wk_St} (h : wk_loop (S_X12_mayLoseClothes_46 x1 x2) n (x4, s) = some a) (hk : ∀ (u3 : Value), wk_H wk_shM 5 mc_X12_mayLoseClothes 58 [.ref 0, .int x1, .int x2, u3, .int a.1] [] a.2 z), wk_H wk_shM 5 mc_X12_mayLoseClothes 46 [.ref 0, .int x1, .int x2, w3, .int x4] [] s z := by
  induction n with
  | zero =>
    intros
    rename_i h _
    exact nomatch (show (none : Option _) = some _ from h)
  | succ n ih =>
    intros
    rename_i h hk
    obtain ⟨o, ho, h⟩ := wk_bindE (show Option.bind _ _ = some _ from h)
    refine ts_S_X12_mayLoseClothes_46 ho ?_
    cases o with
    | inl a1 =>
      cases h
      exact hk
    | inr p =>
      obtain ⟨p0, p1⟩ := p
      exact fun _ => ih h hk
set_option maxHeartbeats 4000000 in
set_option maxRecDepth 20000 in
theorem t_X12_mayLoseClothes {x1 : Int32} {s : wk_St} {r : wk_St} (h : f_X12_mayLoseClothes x1 s = some r) : wk_T wk_shM 5 102 [.ref 0, .int x1] s (none, r) := by
  suffices H : ∀ z, z = (none, r) → wk_H wk_shM 5 mc_X12_mayLoseClothes 0 [.ref 0, .int x1, wk_U, wk_U, wk_U] [] s z from H _ rfl
  intro z hk
  dsimp only [f_X12_mayLoseClothes] at h
  refine wk_Hs 5 5 ⟨rfl, rfl⟩ (ls' := [.ref 0, .int x1, wk_U, wk_U, wk_U]) (st' := [.int ((36 : Int32) + x1), .ref 1]) (σ' := s) rfl ?_
  obtain ⟨hg, h⟩ := wk_gdE h
  refine wk_Hia 6 rfl rfl rfl hg rfl ?_
  replace h := wk_letE h
  refine wk_Hs 4 10 ⟨rfl, rfl⟩ (ls' := [.ref 0, .int x1, .int (s.1 1 (((36 : Int32) + x1).toNatClampNeg)), wk_U, wk_U]) (st' := [.int (s.1 1 (((36 : Int32) + x1).toNatClampNeg)), .int x1, .ref 0]) (σ' := s) rfl ?_
  obtain ⟨v2, hv2, h⟩ := wk_bindE h
  refine wk_Hcall (i2 := 11) (args := [.ref 0, .int x1, .int (s.1 1 (((36 : Int32) + x1).toNatClampNeg))]) (rest := []) (r := none) (σ1 := v2) rfl rfl ⟨rfl, rfl, rfl, rfl, rfl⟩ rfl ((t_X12_feels hv2).up (by decide)) ?_
  refine wk_Hs 3 14 ⟨rfl, rfl⟩ (ls' := [.ref 0, .int x1, .int (s.1 1 (((36 : Int32) + x1).toNatClampNeg)), wk_U, wk_U]) (st' := [.int (10 : Int32), .int (104 : Int32), .ref 0]) (σ' := v2) rfl ?_
  obtain ⟨v3, hv3, h⟩ := wk_bindE h
  refine wk_Hcall (i2 := 15) (args := [.ref 0, .int (104 : Int32), .int (10 : Int32)]) (rest := []) (r := some (.int v3.1)) (σ1 := v3.2) rfl rfl ⟨rfl, rfl, rfl, rfl, rfl⟩ rfl ((t_X12_byLaw hv3).up (by decide)) ?_
  refine wk_Hs 8 23 ⟨rfl, rfl⟩ (ls' := [.ref 0, .int x1, .int (s.1 1 (((36 : Int32) + x1).toNatClampNeg)), .int v3.1, wk_U]) (st' := [.int (46 : Int32), .ref 1, .int (25173 : Int32), .int (46 : Int32), .ref 1]) (σ' := v3.2) rfl ?_
  refine wk_Hia 24 rfl rfl rfl rfl rfl ?_
  refine wk_Hs 4 28 ⟨rfl, rfl⟩ (ls' := [.ref 0, .int x1, .int (s.1 1 (((36 : Int32) + x1).toNatClampNeg)), .int v3.1, wk_U]) (st' := [.int (65536 : Int32), .int (((25173 : Int32) * (v3.2.1 1 46)) + (13849 : Int32)), .int (46 : Int32), .ref 1]) (σ' := v3.2) rfl ?_
  refine wk_Hrem 29 rfl rfl (by decide) ?_
  refine wk_Hias 30 rfl rfl rfl rfl rfl ?_
  refine wk_Hs 3 33 ⟨rfl, rfl⟩ (ls' := [.ref 0, .int x1, .int (s.1 1 (((36 : Int32) + x1).toNatClampNeg)), .int v3.1, wk_U]) (st' := [.int (46 : Int32), .ref 1]) (σ' := (wk_si v3.2 1 46 (wk_rem (((25173 : Int32) * (v3.2.1 1 46)) + (13849 : Int32)) (65536 : Int32)))) rfl ?_
  refine wk_Hia 34 rfl rfl rfl rfl rfl ?_
  refine wk_Hs 1 35 ⟨rfl, rfl⟩ (ls' := [.ref 0, .int x1, .int (s.1 1 (((36 : Int32) + x1).toNatClampNeg)), .int v3.1, wk_U]) (st' := [.int (10 : Int32), .int ((wk_si v3.2 1 46 (wk_rem (((25173 : Int32) * (v3.2.1 1 46)) + (13849 : Int32)) (65536 : Int32))).1 1 46)]) (σ' := (wk_si v3.2 1 46 (wk_rem (((25173 : Int32) * (v3.2.1 1 46)) + (13849 : Int32)) (65536 : Int32)))) rfl ?_
  refine wk_Hrem 36 rfl rfl (by decide) ?_
  refine wk_Hs 1 37 ⟨rfl, rfl⟩ (ls' := [.ref 0, .int x1, .int (s.1 1 (((36 : Int32) + x1).toNatClampNeg)), .int v3.1, wk_U]) (st' := [.int v3.1, .int (wk_rem ((wk_si v3.2 1 46 (wk_rem (((25173 : Int32) * (v3.2.1 1 46)) + (13849 : Int32)) (65536 : Int32))).1 1 46) (10 : Int32))]) (σ' := (wk_si v3.2 1 46 (wk_rem (((25173 : Int32) * (v3.2.1 1 46)) + (13849 : Int32)) (65536 : Int32)))) rfl ?_
  rcases wk_ife h with ⟨hc, h⟩ | ⟨hc, h⟩
  · refine wk_Hbt 43 rfl (wk_cge.2 hc) ?_
    cases h
    exact wk_eqz hk (wk_Hretv rfl)
  · refine wk_Hbf 43 38 rfl rfl (wk_nf wk_cge hc) ?_
    refine wk_Hs 3 41 ⟨rfl, rfl⟩ (ls' := [.ref 0, .int x1, .int (s.1 1 (((36 : Int32) + x1).toNatClampNeg)), .int v3.1, wk_U]) (st' := [.int (s.1 1 (((36 : Int32) + x1).toNatClampNeg)), .ref 4]) (σ' := (wk_si v3.2 1 46 (wk_rem (((25173 : Int32) * (v3.2.1 1 46)) + (13849 : Int32)) (65536 : Int32)))) rfl ?_
    obtain ⟨hg, h⟩ := wk_gdE h
    refine wk_Hia 42 rfl rfl rfl hg rfl ?_
    rcases wk_ife h with ⟨hc, h⟩ | ⟨hc, h⟩
    · refine wk_H0t 44 rfl (wk_cne.2 hc) ?_
      refine wk_Hs 2 46 ⟨rfl, rfl⟩ (ls' := [.ref 0, .int x1, .int (s.1 1 (((36 : Int32) + x1).toNatClampNeg)), .int v3.1, .int (0 : Int32)]) (st' := []) (σ' := (wk_si v3.2 1 46 (wk_rem (((25173 : Int32) * (v3.2.1 1 46)) + (13849 : Int32)) (65536 : Int32)))) rfl ?_
      obtain ⟨v6, hv6, h⟩ := wk_bindE h
      refine tl_S_X12_mayLoseClothes_46 wk_F hv6 ?_
      intro g7
      refine wk_Hs 6 64 ⟨rfl, rfl⟩ (ls' := [.ref 0, .int x1, .int (s.1 1 (((36 : Int32) + x1).toNatClampNeg)), g7, .int v6.1]) (st' := [.int v6.1, .int ((36 : Int32) + x1), .ref 1]) (σ' := v6.2) rfl ?_
      obtain ⟨hg, h⟩ := wk_gdE h
      refine wk_Hias 65 rfl rfl rfl hg rfl ?_
      refine wk_Hs 6 71 ⟨rfl, rfl⟩ (ls' := [.ref 0, .int x1, .int (s.1 1 (((36 : Int32) + x1).toNatClampNeg)), g7, .int v6.1]) (st' := []) (σ' := (wk_si (wk_si v6.2 1 (((36 : Int32) + x1).toNatClampNeg) v6.1) 0 46 (((wk_si v6.2 1 (((36 : Int32) + x1).toNatClampNeg) v6.1).1 0 46) + (1 : Int32)))) rfl ?_
      cases h
      exact wk_eqz hk (wk_Hretv rfl)
    · refine wk_H0f 44 43 rfl rfl (wk_nf wk_cne hc) ?_
      cases h
      exact wk_eqz hk (wk_Hretv rfl)
set_option maxHeartbeats 4000000 in
set_option maxRecDepth 20000 in
theorem tj_j_X12_dayOf_91 {x1 : Int32} {x2 : Int32} {x3 : Int32} {s : wk_St} {z : wk_R} {o : wk_St} (h : j_X12_dayOf_91 x1 x2 x3 s = some o) (hk : z = (none, o)) : wk_H wk_shM 7 mc_X12_dayOf 91 [.ref 0, .int x1, .int x2, .int x3] [] s z := by
  dsimp only [j_X12_dayOf_91] at h
  refine wk_Hs 5 96 ⟨rfl, rfl⟩ (ls' := [.ref 0, .int x1, .int x2, .int x3]) (st' := [.int ((27 : Int32) + x1), .ref 1]) (σ' := s) rfl ?_
  obtain ⟨hg, h⟩ := wk_gdE h
  refine wk_Hia 97 rfl rfl rfl hg rfl ?_
  refine wk_Hs 1 98 ⟨rfl, rfl⟩ (ls' := [.ref 0, .int x1, .int x2, .int x3]) (st' := [.int (1 : Int32), .int (s.1 1 (((27 : Int32) + x1).toNatClampNeg))]) (σ' := s) rfl ?_
  rcases wk_ife h with ⟨hc, h⟩ | ⟨hc, h⟩
  · refine wk_Hbt 121 rfl (wk_cne.2 hc) ?_
    refine wk_Hs 2 123 ⟨rfl, rfl⟩ (ls' := [.ref 0, .int x1, .int x2, .int x3]) (st' := [.int x1, .ref 0]) (σ' := s) rfl ?_
    obtain ⟨v6, hv6, h⟩ := wk_bindE h
    refine wk_Hcall (i2 := 124) (args := [.ref 0, .int x1]) (rest := []) (r := none) (σ1 := v6) rfl rfl ⟨rfl, rfl, rfl, rfl, rfl⟩ rfl ((t_X12_mayLoseClothes hv6).up (by decide)) ?_
    cases h
    exact wk_eqz hk (wk_Hretv rfl)
  · refine wk_Hbf 121 99 rfl rfl (wk_nf wk_cne hc) ?_
    refine wk_Hs 1 100 ⟨rfl, rfl⟩ (ls' := [.ref 0, .int x1, .int x2, .int x3]) (st' := [.int x2]) (σ' := s) rfl ?_
    rcases wk_ife h with ⟨hc, h⟩ | ⟨hc, h⟩
    · refine wk_H0t 121 rfl (wk_cne.2 hc) ?_
      refine wk_Hs 2 123 ⟨rfl, rfl⟩ (ls' := [.ref 0, .int x1, .int x2, .int x3]) (st' := [.int x1, .ref 0]) (σ' := s) rfl ?_
      obtain ⟨v7, hv7, h⟩ := wk_bindE h
      refine wk_Hcall (i2 := 124) (args := [.ref 0, .int x1]) (rest := []) (r := none) (σ1 := v7) rfl rfl ⟨rfl, rfl, rfl, rfl, rfl⟩ rfl ((t_X12_mayLoseClothes hv7).up (by decide)) ?_
      cases h
      exact wk_eqz hk (wk_Hretv rfl)
    · refine wk_H0f 121 101 rfl rfl (wk_nf wk_cne hc) ?_
      refine wk_Hs 5 106 ⟨rfl, rfl⟩ (ls' := [.ref 0, .int x1, .int x2, .int x3]) (st' := [.int ((36 : Int32) + x1), .ref 1]) (σ' := s) rfl ?_
      obtain ⟨hg, h⟩ := wk_gdE h
      refine wk_Hia 107 rfl rfl rfl hg rfl ?_
      refine wk_Hs 1 108 ⟨rfl, rfl⟩ (ls' := [.ref 0, .int x1, .int x2, .int x3]) (st' := [.int x3, .int (s.1 1 (((36 : Int32) + x1).toNatClampNeg))]) (σ' := s) rfl ?_
      rcases wk_ife h with ⟨hc, h⟩ | ⟨hc, h⟩
      · refine wk_Hbt 121 rfl (wk_cne.2 hc) ?_
        refine wk_Hs 2 123 ⟨rfl, rfl⟩ (ls' := [.ref 0, .int x1, .int x2, .int x3]) (st' := [.int x1, .ref 0]) (σ' := s) rfl ?_
        obtain ⟨v8, hv8, h⟩ := wk_bindE h
        refine wk_Hcall (i2 := 124) (args := [.ref 0, .int x1]) (rest := []) (r := none) (σ1 := v8) rfl rfl ⟨rfl, rfl, rfl, rfl, rfl⟩ rfl ((t_X12_mayLoseClothes hv8).up (by decide)) ?_
        cases h
        exact wk_eqz hk (wk_Hretv rfl)
      · refine wk_Hbf 121 109 rfl rfl (wk_nf wk_cne hc) ?_
        refine wk_Hs 4 113 ⟨rfl, rfl⟩ (ls' := [.ref 0, .int x1, .int x2, .int x3]) (st' := [.int (-2 : Int32), .int (0 : Int32), .int x1, .ref 0]) (σ' := s) rfl ?_
        obtain ⟨v9, hv9, h⟩ := wk_bindE h
        refine wk_Hcall (i2 := 114) (args := [.ref 0, .int x1, .int (0 : Int32), .int (-2 : Int32)]) (rest := []) (r := none) (σ1 := v9) rfl rfl ⟨rfl, rfl, rfl, rfl, rfl⟩ rfl ((t_X12_turns hv9).up (by decide)) ?_
        refine wk_Hs 6 120 ⟨rfl, rfl⟩ (ls' := [.ref 0, .int x1, .int x2, .int x3]) (st' := []) (σ' := (wk_si v9 0 45 ((v9.1 0 45) + (1 : Int32)))) rfl ?_
        cases h
        exact wk_eqz hk (wk_Hretv rfl)
set_option maxHeartbeats 4000000 in
set_option maxRecDepth 20000 in
theorem tj_j_X12_dayOf_36 {x1 : Int32} {x2 : Int32} {w3 : Value} {s : wk_St} {z : wk_R} {o : wk_St} (h : j_X12_dayOf_36 x1 x2 s = some o) (hk : z = (none, o)) : wk_H wk_shM 7 mc_X12_dayOf 36 [.ref 0, .int x1, .int x2, w3] [] s z := by
  dsimp only [j_X12_dayOf_36] at h
  refine wk_Hs 5 41 ⟨rfl, rfl⟩ (ls' := [.ref 0, .int x1, .int x2, w3]) (st' := [.int ((27 : Int32) + x1), .ref 1]) (σ' := s) rfl ?_
  obtain ⟨hg, h⟩ := wk_gdE h
  refine wk_Hia 42 rfl rfl rfl hg rfl ?_
  rcases wk_ife h with ⟨hc, h⟩ | ⟨hc, h⟩
  · refine wk_H0t 44 rfl (wk_cne.2 hc) ?_
    refine wk_Hs 2 46 ⟨rfl, rfl⟩ (ls' := [.ref 0, .int x1, .int x2, w3]) (st' := [.int x1, .ref 0]) (σ' := s) rfl ?_
    obtain ⟨v3, hv3, h⟩ := wk_bindE h
    refine wk_Hcall (i2 := 47) (args := [.ref 0, .int x1]) (rest := []) (r := none) (σ1 := v3) rfl rfl ⟨rfl, rfl, rfl, rfl, rfl⟩ rfl ((t_X12_goesOn hv3).up (by decide)) ?_
    refine wk_Hs 5 52 ⟨rfl, rfl⟩ (ls' := [.ref 0, .int x1, .int x2, w3]) (st' := [.int ((18 : Int32) + x1), .ref 1]) (σ' := v3) rfl ?_
    obtain ⟨hg, h⟩ := wk_gdE h
    refine wk_Hia 53 rfl rfl rfl hg rfl ?_
    replace h := wk_letE h
    refine wk_Hs 4 57 ⟨rfl, rfl⟩ (ls' := [.ref 0, .int x1, .int x2, .int (v3.1 1 (((18 : Int32) + x1).toNatClampNeg))]) (st' := [.int (0 : Int32), .int (v3.1 1 (((18 : Int32) + x1).toNatClampNeg)), .ref 0]) (σ' := v3) rfl ?_
    obtain ⟨v5, hv5, h⟩ := wk_bindE h
    refine wk_Hcall (i2 := 58) (args := [.ref 0, .int (v3.1 1 (((18 : Int32) + x1).toNatClampNeg)), .int (0 : Int32)]) (rest := []) (r := some (.int (b2i v5))) (σ1 := v3) rfl rfl ⟨rfl, rfl, rfl, rfl, rfl⟩ rfl ((t_X12_isHunted hv5).up (by decide)) ?_
    rcases wk_ife h with ⟨hc, h⟩ | ⟨hc, h⟩
    · refine wk_H0t 91 rfl (wk_zeq.2 hc) ?_
      exact tj_j_X12_dayOf_91 h hk
    · refine wk_H0f 91 59 rfl rfl (wk_nf wk_zeq hc) ?_
      refine wk_Hs 3 62 ⟨rfl, rfl⟩ (ls' := [.ref 0, .int x1, .int x2, .int (v3.1 1 (((18 : Int32) + x1).toNatClampNeg))]) (st' := [.int (v3.1 1 (((18 : Int32) + x1).toNatClampNeg)), .int x1, .ref 0]) (σ' := v3) rfl ?_
      obtain ⟨v10, hv10, h⟩ := wk_bindE h
      refine wk_Hcall (i2 := 63) (args := [.ref 0, .int x1, .int (v3.1 1 (((18 : Int32) + x1).toNatClampNeg))]) (rest := []) (r := none) (σ1 := v10) rfl rfl ⟨rfl, rfl, rfl, rfl, rfl⟩ rfl ((t_X12_feels hv10).up (by decide)) ?_
      refine wk_Hs 2 65 ⟨rfl, rfl⟩ (ls' := [.ref 0, .int x1, .int x2, .int (v3.1 1 (((18 : Int32) + x1).toNatClampNeg))]) (st' := [.int (115 : Int32), .ref 0]) (σ' := v10) rfl ?_
      obtain ⟨v11, hv11, h⟩ := wk_bindE h
      refine wk_Hcall (i2 := 66) (args := [.ref 0, .int (115 : Int32)]) (rest := []) (r := some (.int (b2i v11.1))) (σ1 := v11.2) rfl rfl ⟨rfl, rfl, rfl, rfl, rfl⟩ rfl ((t_X12_holdsAny hv11).up (by decide)) ?_
      rcases wk_ife h with ⟨hc, h⟩ | ⟨hc, h⟩
      · refine wk_H0t 91 rfl (wk_zne.2 hc) ?_
        exact tj_j_X12_dayOf_91 h hk
      · refine wk_H0f 91 67 rfl rfl (wk_nf wk_zne hc) ?_
        refine wk_Hs 6 73 ⟨rfl, rfl⟩ (ls' := [.ref 0, .int x1, .int x2, .int (v3.1 1 (((18 : Int32) + x1).toNatClampNeg))]) (st' := [.int (2 : Int32), .int ((27 : Int32) + x1), .ref 1]) (σ' := v11.2) rfl ?_
        obtain ⟨hg, h⟩ := wk_gdE h
        refine wk_Hias 74 rfl rfl rfl hg rfl ?_
        refine wk_Hs 9 83 ⟨rfl, rfl⟩ (ls' := [.ref 0, .int x1, .int x2, .int (v3.1 1 (((18 : Int32) + x1).toNatClampNeg))]) (st' := [.int (-1 : Int32), .int ((wk_si (wk_si v11.2 1 (((27 : Int32) + x1).toNatClampNeg) (2 : Int32)) 0 43 (((wk_si v11.2 1 (((27 : Int32) + x1).toNatClampNeg) (2 : Int32)).1 0 43) + (1 : Int32))).1 0 48)]) (σ' := (wk_si (wk_si v11.2 1 (((27 : Int32) + x1).toNatClampNeg) (2 : Int32)) 0 43 (((wk_si v11.2 1 (((27 : Int32) + x1).toNatClampNeg) (2 : Int32)).1 0 43) + (1 : Int32)))) rfl ?_
        rcases wk_ife h with ⟨hc, h⟩ | ⟨hc, h⟩
        · refine wk_Hbt 91 rfl (wk_cne.2 hc) ?_
          exact tj_j_X12_dayOf_91 h hk
        · refine wk_Hbf 91 84 rfl rfl (wk_nf wk_cne hc) ?_
          refine wk_Hs 7 91 ⟨rfl, rfl⟩ (ls' := [.ref 0, .int x1, .int x2, .int (v3.1 1 (((18 : Int32) + x1).toNatClampNeg))]) (st' := []) (σ' := (wk_si (wk_si (wk_si (wk_si v11.2 1 (((27 : Int32) + x1).toNatClampNeg) (2 : Int32)) 0 43 (((wk_si v11.2 1 (((27 : Int32) + x1).toNatClampNeg) (2 : Int32)).1 0 43) + (1 : Int32))) 0 48 x1) 0 49 ((wk_si (wk_si (wk_si v11.2 1 (((27 : Int32) + x1).toNatClampNeg) (2 : Int32)) 0 43 (((wk_si v11.2 1 (((27 : Int32) + x1).toNatClampNeg) (2 : Int32)).1 0 43) + (1 : Int32))) 0 48 x1).1 0 47))) rfl ?_
          exact tj_j_X12_dayOf_91 h hk
  · refine wk_H0f 44 43 rfl rfl (wk_nf wk_cne hc) ?_
    cases h
    exact wk_eqz hk (wk_Hretv rfl)
set_option maxHeartbeats 4000000 in
set_option maxRecDepth 20000 in
theorem t_X12_dayOf {x1 : Int32} {s : wk_St} {r : wk_St} (h : f_X12_dayOf x1 s = some r) : wk_T wk_shM 7 103 [.ref 0, .int x1] s (none, r) := by
  suffices H : ∀ z, z = (none, r) → wk_H wk_shM 7 mc_X12_dayOf 0 [.ref 0, .int x1, wk_U, wk_U] [] s z from H _ rfl
  intro z hk
  dsimp only [f_X12_dayOf] at h
  refine wk_Hs 5 5 ⟨rfl, rfl⟩ (ls' := [.ref 0, .int x1, wk_U, wk_U]) (st' := [.int ((9 : Int32) + x1), .ref 1]) (σ' := s) rfl ?_
  obtain ⟨hg, h⟩ := wk_gdE h
  refine wk_Hia 6 rfl rfl rfl hg rfl ?_
  refine wk_Hs 2 8 ⟨rfl, rfl⟩ (ls' := [.ref 0, .int x1, wk_U, wk_U]) (st' := [.int (0 : Int32), .ref 0, .int (s.1 1 (((9 : Int32) + x1).toNatClampNeg))]) (σ' := s) rfl ?_
  refine wk_Hcall (i2 := 9) (args := [.ref 0, .int (0 : Int32)]) (rest := [.int (s.1 1 (((9 : Int32) + x1).toNatClampNeg))]) (r := some (.int (f_X12_weekdayIn (0 : Int32) s))) (σ1 := s) rfl rfl ⟨rfl, rfl, rfl, rfl, rfl⟩ rfl ((t_X12_weekdayIn rfl).up (by decide)) ?_
  refine wk_Hcall (i2 := 10) (args := [.int (s.1 1 (((9 : Int32) + x1).toNatClampNeg)), .int (f_X12_weekdayIn (0 : Int32) s)]) (rest := []) (r := some (.int (b2i (f_X12_has (s.1 1 (((9 : Int32) + x1).toNatClampNeg)) (f_X12_weekdayIn (0 : Int32) s))))) (σ1 := s) rfl rfl ⟨rfl, rfl, rfl, rfl, rfl⟩ rfl ((t_X12_has rfl).up (by decide)) ?_
  refine wk_Hs 6 16 ⟨rfl, rfl⟩ (ls' := [.ref 0, .int x1, .int (b2i (f_X12_has (s.1 1 (((9 : Int32) + x1).toNatClampNeg)) (f_X12_weekdayIn (0 : Int32) s))), wk_U]) (st' := [.int ((27 : Int32) + x1), .ref 1]) (σ' := s) rfl ?_
  obtain ⟨hg, h⟩ := wk_gdE h
  refine wk_Hia 17 rfl rfl rfl hg rfl ?_
  rcases wk_ife h with ⟨hc, h⟩ | ⟨hc, h⟩
  · refine wk_H0t 36 rfl (wk_cne.2 hc) ?_
    exact tj_j_X12_dayOf_36 h hk
  · refine wk_H0f 36 18 rfl rfl (wk_nf wk_cne hc) ?_
    refine wk_Hs 1 19 ⟨rfl, rfl⟩ (ls' := [.ref 0, .int x1, .int (b2i (f_X12_has (s.1 1 (((9 : Int32) + x1).toNatClampNeg)) (f_X12_weekdayIn (0 : Int32) s))), wk_U]) (st' := [.int (b2i (f_X12_has (s.1 1 (((9 : Int32) + x1).toNatClampNeg)) (f_X12_weekdayIn (0 : Int32) s)))]) (σ' := s) rfl ?_
    rcases wk_ife h with ⟨hc, h⟩ | ⟨hc, h⟩
    · refine wk_H0t 36 rfl (wk_zeq.2 hc) ?_
      exact tj_j_X12_dayOf_36 h hk
    · refine wk_H0f 36 20 rfl rfl (wk_nf wk_zeq hc) ?_
      refine wk_Hs 8 28 ⟨rfl, rfl⟩ (ls' := [.ref 0, .int x1, .int (b2i (f_X12_has (s.1 1 (((9 : Int32) + x1).toNatClampNeg)) (f_X12_weekdayIn (0 : Int32) s))), wk_U]) (st' := [.int ((18 : Int32) + x1), .ref 1, .int (1 : Int32), .int x1, .ref 0]) (σ' := s) rfl ?_
      obtain ⟨hg, h⟩ := wk_gdE h
      refine wk_Hia 29 rfl rfl rfl hg rfl ?_
      obtain ⟨v12, hv12, h⟩ := wk_bindE h
      refine wk_Hcall (i2 := 30) (args := [.ref 0, .int x1, .int (1 : Int32), .int (s.1 1 (((18 : Int32) + x1).toNatClampNeg))]) (rest := []) (r := none) (σ1 := v12) rfl rfl ⟨rfl, rfl, rfl, rfl, rfl⟩ rfl ((t_X12_turns hv12).up (by decide)) ?_
      refine wk_Hs 6 36 ⟨rfl, rfl⟩ (ls' := [.ref 0, .int x1, .int (b2i (f_X12_has (s.1 1 (((9 : Int32) + x1).toNatClampNeg)) (f_X12_weekdayIn (0 : Int32) s))), wk_U]) (st' := []) (σ' := (wk_si v12 0 44 ((v12.1 0 44) + (1 : Int32)))) rfl ?_
      exact tj_j_X12_dayOf_36 h hk
set_option maxHeartbeats 4000000 in
set_option maxRecDepth 20000 in
theorem ts_S_X12_dayGoes_8 {x1 : Int32} {s : wk_St} {z : wk_R} {o : (wk_St) ⊕ (Int32 × wk_St)} (h : S_X12_dayGoes_8 (x1, s) = some o) (hk : match (generalizing := false) o with | Sum.inl a => (∀ (u1 : Value), wk_H wk_shM 8 mc_X12_dayGoes 20 [.ref 0, u1] [] a z) | Sum.inr y => wk_H wk_shM 8 mc_X12_dayGoes 8 [.ref 0, .int y.1] [] y.2 z) : wk_H wk_shM 8 mc_X12_dayGoes 8 [.ref 0, .int x1] [] s z := by
  dsimp only [S_X12_dayGoes_8] at h
  refine wk_Hs 2 10 ⟨rfl, rfl⟩ (ls' := [.ref 0, .int x1]) (st' := [.int (9 : Int32), .int x1]) (σ' := s) rfl ?_
  rcases wk_ife h with ⟨hc, h⟩ | ⟨hc, h⟩
  · refine wk_Hbt 20 rfl (wk_cge.2 hc) ?_
    cases h
    exact hk _
  · refine wk_Hbf 20 11 rfl rfl (wk_nf wk_cge hc) ?_
    refine wk_Hs 2 13 ⟨rfl, rfl⟩ (ls' := [.ref 0, .int x1]) (st' := [.int x1, .ref 0]) (σ' := s) rfl ?_
    obtain ⟨v1, hv1, h⟩ := wk_bindE h
    refine wk_Hcall (i2 := 14) (args := [.ref 0, .int x1]) (rest := []) (r := some (.int (b2i v1))) (σ1 := s) rfl rfl ⟨rfl, rfl, rfl, rfl, rfl⟩ rfl ((t_X12_isLiving hv1).up (by decide)) ?_
    rcases wk_ife h with ⟨hc, h⟩ | ⟨hc, h⟩
    · refine wk_H0t 18 rfl (wk_zeq.2 hc) ?_
      refine wk_Hs 1 19 ⟨rfl, rfl⟩ (ls' := [.ref 0, .int (x1 + (1 : Int32))]) (st' := []) (σ' := s) rfl ?_
      refine wk_Hgoto (t := 8) rfl ?_
      cases h
      exact hk
    · refine wk_H0f 18 15 rfl rfl (wk_nf wk_zeq hc) ?_
      refine wk_Hs 2 17 ⟨rfl, rfl⟩ (ls' := [.ref 0, .int x1]) (st' := [.int x1, .ref 0]) (σ' := s) rfl ?_
      obtain ⟨v2, hv2, h⟩ := wk_bindE h
      refine wk_Hcall (i2 := 18) (args := [.ref 0, .int x1]) (rest := []) (r := none) (σ1 := v2) rfl rfl ⟨rfl, rfl, rfl, rfl, rfl⟩ rfl ((t_X12_dayOf hv2).up (by decide)) ?_
      refine wk_Hs 1 19 ⟨rfl, rfl⟩ (ls' := [.ref 0, .int (x1 + (1 : Int32))]) (st' := []) (σ' := v2) rfl ?_
      refine wk_Hgoto (t := 8) rfl ?_
      cases h
      exact hk
set_option maxHeartbeats 4000000 in
set_option maxRecDepth 20000 in
theorem tl_S_X12_dayGoes_8 {z : wk_R} (n : Nat) : ∀ {x1 : Int32} {s : wk_St} {a : wk_St} (h : wk_loop S_X12_dayGoes_8 n (x1, s) = some a) (hk : ∀ (u1 : Value), wk_H wk_shM 8 mc_X12_dayGoes 20 [.ref 0, u1] [] a z), wk_H wk_shM 8 mc_X12_dayGoes 8 [.ref 0, .int x1] [] s z := by
  induction n with
  | zero =>
    intros
    rename_i h _
    exact nomatch (show (none : Option _) = some _ from h)
  | succ n ih =>
    intros
    rename_i h hk
    obtain ⟨o, ho, h⟩ := wk_bindE (show Option.bind _ _ = some _ from h)
    refine ts_S_X12_dayGoes_8 ho ?_
    cases o with
    | inl a1 =>
      cases h
      exact hk
    | inr p =>
      obtain ⟨p0, p1⟩ := p
      exact ih h hk
set_option maxHeartbeats 4000000 in
set_option maxRecDepth 20000 in
theorem t_X12_dayGoes {s : wk_St} {r : wk_St} (h : f_X12_dayGoes s = some r) : wk_T wk_shM 8 104 [.ref 0] s (none, r) := by
  suffices H : ∀ z, z = (none, r) → wk_H wk_shM 8 mc_X12_dayGoes 0 [.ref 0, wk_U] [] s z from H _ rfl
  intro z hk
  dsimp only [f_X12_dayGoes] at h
  refine wk_Hs 8 8 ⟨rfl, rfl⟩ (ls' := [.ref 0, .int (0 : Int32)]) (st' := []) (σ' := (wk_si s 0 47 ((s.1 0 47) + (1 : Int32)))) rfl ?_
  obtain ⟨v3, hv3, h⟩ := wk_bindE h
  refine tl_S_X12_dayGoes_8 wk_F hv3 ?_
  intro g4
  refine wk_Hs 6 26 ⟨rfl, rfl⟩ (ls' := [.ref 0, g4]) (st' := [.int (45 : Int32), .ref 1, .int (45 : Int32), .ref 1]) (σ' := v3) rfl ?_
  refine wk_Hia 27 rfl rfl rfl rfl rfl ?_
  refine wk_Hs 2 29 ⟨rfl, rfl⟩ (ls' := [.ref 0, g4]) (st' := [.int ((v3.1 1 45) + (1 : Int32)), .int (45 : Int32), .ref 1]) (σ' := v3) rfl ?_
  refine wk_Hias 30 rfl rfl rfl rfl rfl ?_
  cases h
  exact wk_eqz hk (wk_Hretv rfl)
set_option maxHeartbeats 4000000 in
set_option maxRecDepth 20000 in
theorem t_X12_beginsDays {s : wk_St} {r : wk_St} (h : f_X12_beginsDays s = r) : wk_T wk_shM 0 105 [.ref 0] s (none, r) := by
  suffices H : ∀ z, z = (none, r) → wk_H wk_shM 0 mc_X12_beginsDays 0 [.ref 0] [] s z from H _ rfl
  intro z hk
  dsimp only [f_X12_beginsDays] at h
  refine wk_Hs 21 21 ⟨rfl, rfl⟩ (ls' := [.ref 0]) (st' := []) (σ' := (wk_si (wk_si (wk_si (wk_si (wk_si (wk_si (wk_si s 0 43 (0 : Int32)) 0 44 (0 : Int32)) 0 45 (0 : Int32)) 0 46 (0 : Int32)) 0 47 (0 : Int32)) 0 48 (-1 : Int32)) 0 49 (0 : Int32))) rfl ?_
  cases h
  exact wk_eqz hk (wk_Hretv rfl)
set_option maxHeartbeats 4000000 in
set_option maxRecDepth 20000 in
theorem ts_S_X12_daysGo_4 {x1 : Int32} {x2 : Int32} {s : wk_St} {z : wk_R} {o : (wk_St) ⊕ (Int32 × wk_St)} (h : S_X12_daysGo_4 x1 (x2, s) = some o) (hk : match (generalizing := false) o with | Sum.inl a => (∀ (u2 : Value), wk_H wk_shM 9 mc_X12_daysGo 17 [.ref 0, .int x1, u2] [] a z) | Sum.inr y => wk_H wk_shM 9 mc_X12_daysGo 4 [.ref 0, .int x1, .int y.1] [] y.2 z) : wk_H wk_shM 9 mc_X12_daysGo 4 [.ref 0, .int x1, .int x2] [] s z := by
  dsimp only [S_X12_daysGo_4] at h
  refine wk_Hs 2 6 ⟨rfl, rfl⟩ (ls' := [.ref 0, .int x1, .int x2]) (st' := [.int x1, .int x2]) (σ' := s) rfl ?_
  rcases wk_ife h with ⟨hc, h⟩ | ⟨hc, h⟩
  · refine wk_Hbt 17 rfl (wk_cge.2 hc) ?_
    cases h
    exact hk _
  · refine wk_Hbf 17 7 rfl rfl (wk_nf wk_cge hc) ?_
    refine wk_Hs 3 10 ⟨rfl, rfl⟩ (ls' := [.ref 0, .int x1, .int x2]) (st' := [.int (45 : Int32), .ref 1]) (σ' := s) rfl ?_
    refine wk_Hia 11 rfl rfl rfl rfl rfl ?_
    refine wk_Hs 1 12 ⟨rfl, rfl⟩ (ls' := [.ref 0, .int x1, .int x2]) (st' := [.int (9999 : Int32), .int (s.1 1 45)]) (σ' := s) rfl ?_
    rcases wk_ife h with ⟨hc, h⟩ | ⟨hc, h⟩
    · refine wk_Hbt 17 rfl (wk_cge.2 hc) ?_
      cases h
      exact hk _
    · refine wk_Hbf 17 13 rfl rfl (wk_nf wk_cge hc) ?_
      refine wk_Hs 1 14 ⟨rfl, rfl⟩ (ls' := [.ref 0, .int x1, .int x2]) (st' := [.ref 0]) (σ' := s) rfl ?_
      obtain ⟨v2, hv2, h⟩ := wk_bindE h
      refine wk_Hcall (i2 := 15) (args := [.ref 0]) (rest := []) (r := none) (σ1 := v2) rfl rfl ⟨rfl, rfl, rfl, rfl, rfl⟩ rfl ((t_X12_dayGoes hv2).up (by decide)) ?_
      refine wk_Hs 1 16 ⟨rfl, rfl⟩ (ls' := [.ref 0, .int x1, .int (x2 + (1 : Int32))]) (st' := []) (σ' := v2) rfl ?_
      refine wk_Hgoto (t := 4) rfl ?_
      cases h
      exact hk
set_option maxHeartbeats 4000000 in
set_option maxRecDepth 20000 in
theorem tl_S_X12_daysGo_4 {x1 : Int32} {z : wk_R} (n : Nat) : ∀ {x2 : Int32} {s : wk_St} {a : wk_St} (h : wk_loop (S_X12_daysGo_4 x1) n (x2, s) = some a) (hk : ∀ (u2 : Value), wk_H wk_shM 9 mc_X12_daysGo 17 [.ref 0, .int x1, u2] [] a z), wk_H wk_shM 9 mc_X12_daysGo 4 [.ref 0, .int x1, .int x2] [] s z := by
  induction n with
  | zero =>
    intros
    rename_i h _
    exact nomatch (show (none : Option _) = some _ from h)
  | succ n ih =>
    intros
    rename_i h hk
    obtain ⟨o, ho, h⟩ := wk_bindE (show Option.bind _ _ = some _ from h)
    refine ts_S_X12_daysGo_4 ho ?_
    cases o with
    | inl a1 =>
      cases h
      exact hk
    | inr p =>
      obtain ⟨p0, p1⟩ := p
      exact ih h hk
set_option maxHeartbeats 4000000 in
set_option maxRecDepth 20000 in
theorem t_X12_daysGo {x1 : Int32} {s : wk_St} {r : wk_St} (h : f_X12_daysGo x1 s = some r) : wk_T wk_shM 9 106 [.ref 0, .int x1] s (none, r) := by
  suffices H : ∀ z, z = (none, r) → wk_H wk_shM 9 mc_X12_daysGo 0 [.ref 0, .int x1, wk_U] [] s z from H _ rfl
  intro z hk
  dsimp only [f_X12_daysGo] at h
  refine wk_Hs 1 1 ⟨rfl, rfl⟩ (ls' := [.ref 0, .int x1, wk_U]) (st' := [.ref 0]) (σ' := s) rfl ?_
  replace h := wk_letE h
  refine wk_Hcall (i2 := 2) (args := [.ref 0]) (rest := []) (r := none) (σ1 := (f_X12_beginsDays s)) rfl rfl ⟨rfl, rfl, rfl, rfl, rfl⟩ rfl ((t_X12_beginsDays rfl).up (by decide)) ?_
  refine wk_Hs 2 4 ⟨rfl, rfl⟩ (ls' := [.ref 0, .int x1, .int (0 : Int32)]) (st' := []) (σ' := (f_X12_beginsDays s)) rfl ?_
  obtain ⟨v3, hv3, h⟩ := wk_bindE h
  refine tl_S_X12_daysGo_4 wk_F hv3 ?_
  intro g4
  cases h
  exact wk_eqz hk (wk_Hretv rfl)
set_option maxHeartbeats 4000000 in
set_option maxRecDepth 20000 in
theorem t_X12_days {x1 : Int32} {s : wk_St} {r : Int32 × wk_St} (h : f_X12_days x1 s = some r) : wk_T wk_shM 10 107 [.ref 0, .int x1] s (some (.int r.1), r.2) := by
  suffices H : ∀ z, z = (some (.int r.1), r.2) → wk_H wk_shM 10 mc_X12_days 0 [.ref 0, .int x1] [] s z from H _ rfl
  intro z hk
  dsimp only [f_X12_days] at h
  refine wk_Hs 3 3 ⟨rfl, rfl⟩ (ls' := [.ref 0, .int x1]) (st' := [.int (240 : Int32), .int (1 : Int32), .int x1]) (σ' := s) rfl ?_
  refine wk_Hcall (i2 := 4) (args := [.int x1, .int (1 : Int32), .int (240 : Int32)]) (rest := []) (r := some (.int (b2i (f_X12_in x1 (1 : Int32) (240 : Int32))))) (σ1 := s) rfl rfl ⟨rfl, rfl, rfl, rfl, rfl⟩ rfl ((t_X12_in rfl).up (by decide)) ?_
  rcases wk_ife h with ⟨hc, h⟩ | ⟨hc, h⟩
  · refine wk_H0t 7 rfl (wk_zne.2 hc) ?_
    refine wk_Hs 2 9 ⟨rfl, rfl⟩ (ls' := [.ref 0, .int x1]) (st' := [.int x1, .ref 0]) (σ' := s) rfl ?_
    obtain ⟨v2, hv2, h⟩ := wk_bindE h
    refine wk_Hcall (i2 := 10) (args := [.ref 0, .int x1]) (rest := []) (r := none) (σ1 := v2) rfl rfl ⟨rfl, rfl, rfl, rfl, rfl⟩ rfl ((t_X12_daysGo hv2).up (by decide)) ?_
    refine wk_Hs 2 12 ⟨rfl, rfl⟩ (ls' := [.ref 0, .int x1]) (st' := [.int (v2.1 0 43)]) (σ' := v2) rfl ?_
    cases h
    exact wk_eqz hk (wk_Hret rfl)
  · refine wk_H0f 7 5 rfl rfl (wk_nf wk_zne hc) ?_
    refine wk_Hs 1 6 ⟨rfl, rfl⟩ (ls' := [.ref 0, .int x1]) (st' := [.int (-1 : Int32)]) (σ' := s) rfl ?_
    cases h
    exact wk_eqz hk (wk_Hret rfl)
set_option maxHeartbeats 4000000 in
set_option maxRecDepth 20000 in
theorem tj_j_X12_tried_71 {x3 : Int32} {w1 : Value} {w2 : Value} {s : wk_St} {z : wk_R} {o : Int32 × wk_St} (h : j_X12_tried_71 x3 s = some o) (hk : z = (some (.int o.1), o.2)) : wk_H wk_shM 10 mc_X12_tried 71 [.ref 0, w1, w2, .int x3] [] s z := by
  dsimp only [j_X12_tried_71] at h
  refine wk_Hs 4 75 ⟨rfl, rfl⟩ (ls' := [.ref 0, w1, w2, .int x3]) (st' := [.ref 1, .ref 2]) (σ' := s) rfl ?_
  obtain ⟨v5, hv5, h⟩ := wk_bindE h
  refine wk_Hcall (i2 := 76) (args := [.ref 2, .ref 1]) (rest := []) (r := none) (σ1 := v5) rfl rfl ⟨rfl, rfl, rfl, rfl, rfl⟩ rfl ((t_X12_copies_2_1 hv5).up (by decide)) ?_
  refine wk_Hs 1 77 ⟨rfl, rfl⟩ (ls' := [.ref 0, w1, w2, .int x3]) (st' := [.int x3]) (σ' := v5) rfl ?_
  cases h
  exact wk_eqz hk (wk_Hret rfl)
set_option maxHeartbeats 4000000 in
set_option maxRecDepth 20000 in
theorem tj_j_X12_tried_24 {x1 : Int32} {x2 : Int32} {w3 : Value} {s : wk_St} {z : wk_R} {o : Int32 × wk_St} (h : j_X12_tried_24 x1 x2 s = some o) (hk : z = (some (.int o.1), o.2)) : wk_H wk_shM 10 mc_X12_tried 24 [.ref 0, .int x1, .int x2, w3] [] s z := by
  dsimp only [j_X12_tried_24] at h
  refine wk_Hs 4 28 ⟨rfl, rfl⟩ (ls' := [.ref 0, .int x1, .int x2, w3]) (st' := [.ref 2, .ref 1]) (σ' := s) rfl ?_
  obtain ⟨v3, hv3, h⟩ := wk_bindE h
  refine wk_Hcall (i2 := 29) (args := [.ref 1, .ref 2]) (rest := []) (r := none) (σ1 := v3) rfl rfl ⟨rfl, rfl, rfl, rfl, rfl⟩ rfl ((t_X12_copies_1_2 hv3).up (by decide)) ?_
  refine wk_Hs 2 31 ⟨rfl, rfl⟩ (ls' := [.ref 0, .int x1, .int x2, w3]) (st' := [.int x1, .ref 0]) (σ' := v3) rfl ?_
  obtain ⟨v4, hv4, h⟩ := wk_bindE h
  refine wk_Hcall (i2 := 32) (args := [.ref 0, .int x1]) (rest := []) (r := none) (σ1 := v4) rfl rfl ⟨rfl, rfl, rfl, rfl, rfl⟩ rfl ((t_X12_daysGo hv4).up (by decide)) ?_
  refine wk_Hs 1 33 ⟨rfl, rfl⟩ (ls' := [.ref 0, .int x1, .int x2, w3]) (st' := [.int x2]) (σ' := v4) rfl ?_
  rcases wk_ife h with ⟨hc0, h⟩ | ⟨hc0, h⟩
  · refine wk_Hts (t := 34) rfl (wk_tswE hc0 (by decide)) ?_
    refine wk_Hs 3 37 ⟨rfl, rfl⟩ (ls' := [.ref 0, .int x1, .int x2, .int (v4.1 0 43)]) (st' := []) (σ' := v4) rfl ?_
    refine wk_Hgoto (t := 71) rfl ?_
    exact tj_j_X12_tried_71 h hk
  rcases wk_ife h with ⟨hc1, h⟩ | ⟨hc1, h⟩
  · refine wk_Hts (t := 38) rfl (wk_tswE hc1 (by decide)) ?_
    refine wk_Hs 3 41 ⟨rfl, rfl⟩ (ls' := [.ref 0, .int x1, .int x2, .int (v4.1 0 44)]) (st' := []) (σ' := v4) rfl ?_
    refine wk_Hgoto (t := 71) rfl ?_
    exact tj_j_X12_tried_71 h hk
  rcases wk_ife h with ⟨hc2, h⟩ | ⟨hc2, h⟩
  · refine wk_Hts (t := 42) rfl (wk_tswE hc2 (by decide)) ?_
    refine wk_Hs 3 45 ⟨rfl, rfl⟩ (ls' := [.ref 0, .int x1, .int x2, .int (v4.1 0 45)]) (st' := []) (σ' := v4) rfl ?_
    refine wk_Hgoto (t := 71) rfl ?_
    exact tj_j_X12_tried_71 h hk
  rcases wk_ife h with ⟨hc3, h⟩ | ⟨hc3, h⟩
  · refine wk_Hts (t := 46) rfl (wk_tswE hc3 (by decide)) ?_
    refine wk_Hs 3 49 ⟨rfl, rfl⟩ (ls' := [.ref 0, .int x1, .int x2, .int (v4.1 0 46)]) (st' := []) (σ' := v4) rfl ?_
    refine wk_Hgoto (t := 71) rfl ?_
    exact tj_j_X12_tried_71 h hk
  refine wk_Hts (t := 50) rfl (wk_tswD (L := [0, 1, 2, 3]) (by decide) (List.forall_mem_cons.2 ⟨wk_nt hc0 (by decide), (List.forall_mem_cons.2 ⟨wk_nt hc1 (by decide), (List.forall_mem_cons.2 ⟨wk_nt hc2 (by decide), (List.forall_mem_cons.2 ⟨wk_nt hc3 (by decide), (fun _ hq => absurd hq List.not_mem_nil)⟩)⟩)⟩)⟩)) ?_
  refine wk_Hs 2 52 ⟨rfl, rfl⟩ (ls' := [.ref 0, .int x1, .int x2, w3]) (st' := [.int (20 : Int32), .int x2]) (σ' := v4) rfl ?_
  rcases wk_ife h with ⟨hc, h⟩ | ⟨hc, h⟩
  · refine wk_Hbt 62 rfl (wk_cge.2 hc) ?_
    refine wk_Hs 7 69 ⟨rfl, rfl⟩ (ls' := [.ref 0, .int x1, .int x2, w3]) (st' := [.int (((27 : Int32) + x2) - (20 : Int32)), .ref 1]) (σ' := v4) rfl ?_
    obtain ⟨hg, h⟩ := wk_gdE h
    refine wk_Hia 70 rfl rfl rfl hg rfl ?_
    replace h := wk_letE h
    refine wk_Hs 1 71 ⟨rfl, rfl⟩ (ls' := [.ref 0, .int x1, .int x2, .int (v4.1 1 ((((27 : Int32) + x2) - (20 : Int32)).toNatClampNeg))]) (st' := []) (σ' := v4) rfl ?_
    exact tj_j_X12_tried_71 h hk
  · refine wk_Hbf 62 53 rfl rfl (wk_nf wk_cge hc) ?_
    refine wk_Hs 7 60 ⟨rfl, rfl⟩ (ls' := [.ref 0, .int x1, .int x2, w3]) (st' := [.int (((18 : Int32) + x2) - (10 : Int32)), .ref 1]) (σ' := v4) rfl ?_
    obtain ⟨hg, h⟩ := wk_gdE h
    refine wk_Hia 61 rfl rfl rfl hg rfl ?_
    refine wk_Hgoto (t := 70) rfl ?_
    replace h := wk_letE h
    refine wk_Hs 1 71 ⟨rfl, rfl⟩ (ls' := [.ref 0, .int x1, .int x2, .int (v4.1 1 ((((18 : Int32) + x2) - (10 : Int32)).toNatClampNeg))]) (st' := []) (σ' := v4) rfl ?_
    exact tj_j_X12_tried_71 h hk
set_option maxHeartbeats 4000000 in
set_option maxRecDepth 20000 in
theorem t_X12_tried {x1 : Int32} {x2 : Int32} {s : wk_St} {r : Int32 × wk_St} (h : f_X12_tried x1 x2 s = some r) : wk_T wk_shM 10 108 [.ref 0, .int x1, .int x2] s (some (.int r.1), r.2) := by
  suffices H : ∀ z, z = (some (.int r.1), r.2) → wk_H wk_shM 10 mc_X12_tried 0 [.ref 0, .int x1, .int x2, wk_U] [] s z from H _ rfl
  intro z hk
  dsimp only [f_X12_tried] at h
  refine wk_Hs 3 3 ⟨rfl, rfl⟩ (ls' := [.ref 0, .int x1, .int x2, wk_U]) (st' := [.int (240 : Int32), .int (1 : Int32), .int x1]) (σ' := s) rfl ?_
  refine wk_Hcall (i2 := 4) (args := [.int x1, .int (1 : Int32), .int (240 : Int32)]) (rest := []) (r := some (.int (b2i (f_X12_in x1 (1 : Int32) (240 : Int32))))) (σ1 := s) rfl rfl ⟨rfl, rfl, rfl, rfl, rfl⟩ rfl ((t_X12_in rfl).up (by decide)) ?_
  rcases wk_ife h with ⟨hc, h⟩ | ⟨hc, h⟩
  · refine wk_H0t 22 rfl (wk_zeq.2 hc) ?_
    refine wk_Hs 1 23 ⟨rfl, rfl⟩ (ls' := [.ref 0, .int x1, .int x2, wk_U]) (st' := [.int (-1 : Int32)]) (σ' := s) rfl ?_
    cases h
    exact wk_eqz hk (wk_Hret rfl)
  · refine wk_H0f 22 5 rfl rfl (wk_nf wk_zeq hc) ?_
    refine wk_Hs 3 8 ⟨rfl, rfl⟩ (ls' := [.ref 0, .int x1, .int x2, wk_U]) (st' := [.int (3 : Int32), .int (0 : Int32), .int x2]) (σ' := s) rfl ?_
    refine wk_Hcall (i2 := 9) (args := [.int x2, .int (0 : Int32), .int (3 : Int32)]) (rest := []) (r := some (.int (b2i (f_X12_in x2 (0 : Int32) (3 : Int32))))) (σ1 := s) rfl rfl ⟨rfl, rfl, rfl, rfl, rfl⟩ rfl ((t_X12_in rfl).up (by decide)) ?_
    rcases wk_ife h with ⟨hc, h⟩ | ⟨hc, h⟩
    · refine wk_H0t 24 rfl (wk_zne.2 hc) ?_
      exact tj_j_X12_tried_24 h hk
    · refine wk_H0f 24 10 rfl rfl (wk_nf wk_zne hc) ?_
      refine wk_Hs 4 14 ⟨rfl, rfl⟩ (ls' := [.ref 0, .int x1, .int x2, wk_U]) (st' := [.int (x2 - (10 : Int32)), .ref 0]) (σ' := s) rfl ?_
      obtain ⟨v8, hv8, h⟩ := wk_bindE h
      refine wk_Hcall (i2 := 15) (args := [.ref 0, .int (x2 - (10 : Int32))]) (rest := []) (r := some (.int (b2i v8))) (σ1 := s) rfl rfl ⟨rfl, rfl, rfl, rfl, rfl⟩ rfl ((t_X12_isKnight hv8).up (by decide)) ?_
      rcases wk_ife h with ⟨hc, h⟩ | ⟨hc, h⟩
      · refine wk_H0t 24 rfl (wk_zne.2 hc) ?_
        exact tj_j_X12_tried_24 h hk
      · refine wk_H0f 24 16 rfl rfl (wk_nf wk_zne hc) ?_
        refine wk_Hs 4 20 ⟨rfl, rfl⟩ (ls' := [.ref 0, .int x1, .int x2, wk_U]) (st' := [.int (x2 - (20 : Int32)), .ref 0]) (σ' := s) rfl ?_
        obtain ⟨v9, hv9, h⟩ := wk_bindE h
        refine wk_Hcall (i2 := 21) (args := [.ref 0, .int (x2 - (20 : Int32))]) (rest := []) (r := some (.int (b2i v9))) (σ1 := s) rfl rfl ⟨rfl, rfl, rfl, rfl, rfl⟩ rfl ((t_X12_isKnight hv9).up (by decide)) ?_
        rcases wk_ife h with ⟨hc, h⟩ | ⟨hc, h⟩
        · refine wk_H0t 24 rfl (wk_zne.2 hc) ?_
          exact tj_j_X12_tried_24 h hk
        · refine wk_H0f 24 22 rfl rfl (wk_nf wk_zne hc) ?_
          refine wk_Hs 1 23 ⟨rfl, rfl⟩ (ls' := [.ref 0, .int x1, .int x2, wk_U]) (st' := [.int (-1 : Int32)]) (σ' := s) rfl ?_
          cases h
          exact wk_eqz hk (wk_Hret rfl)
set_option maxHeartbeats 4000000 in
set_option maxRecDepth 20000 in
theorem t_X12_knightIs {x1 : Int32} {x2 : Int32} {s : wk_St} {r : Int32 × wk_St} (h : f_X12_knightIs x1 x2 s = some r) : wk_T wk_shM 4 109 [.ref 0, .int x1, .int x2] s (some (.int r.1), r.2) := by
  suffices H : ∀ z, z = (some (.int r.1), r.2) → wk_H wk_shM 4 mc_X12_knightIs 0 [.ref 0, .int x1, .int x2] [] s z from H _ rfl
  intro z hk
  dsimp only [f_X12_knightIs] at h
  refine wk_Hs 2 2 ⟨rfl, rfl⟩ (ls' := [.ref 0, .int x1, .int x2]) (st' := [.int x1, .ref 0]) (σ' := s) rfl ?_
  obtain ⟨v1, hv1, h⟩ := wk_bindE h
  refine wk_Hcall (i2 := 3) (args := [.ref 0, .int x1]) (rest := []) (r := some (.int (b2i v1))) (σ1 := s) rfl rfl ⟨rfl, rfl, rfl, rfl, rfl⟩ rfl ((t_X12_isKnight hv1).up (by decide)) ?_
  rcases wk_ife h with ⟨hc, h⟩ | ⟨hc, h⟩
  · refine wk_H0t 6 rfl (wk_zne.2 hc) ?_
    refine wk_Hs 1 7 ⟨rfl, rfl⟩ (ls' := [.ref 0, .int x1, .int x2]) (st' := [.int x2]) (σ' := s) rfl ?_
    rcases wk_ife h with ⟨hc0, h⟩ | ⟨hc0, h⟩
    · refine wk_Hts (t := 8) rfl (wk_tswE hc0 (by decide)) ?_
      refine wk_Hs 5 13 ⟨rfl, rfl⟩ (ls' := [.ref 0, .int x1, .int x2]) (st' := [.int ((18 : Int32) + x1), .ref 1]) (σ' := s) rfl ?_
      obtain ⟨hg, h⟩ := wk_gdE h
      refine wk_Hia 14 rfl rfl rfl hg rfl ?_
      cases h
      exact wk_eqz hk (wk_Hret rfl)
    rcases wk_ife h with ⟨hc1, h⟩ | ⟨hc1, h⟩
    · refine wk_Hts (t := 15) rfl (wk_tswE hc1 (by decide)) ?_
      refine wk_Hs 5 20 ⟨rfl, rfl⟩ (ls' := [.ref 0, .int x1, .int x2]) (st' := [.int ((9 : Int32) + x1), .ref 1]) (σ' := s) rfl ?_
      obtain ⟨hg, h⟩ := wk_gdE h
      refine wk_Hia 21 rfl rfl rfl hg rfl ?_
      cases h
      exact wk_eqz hk (wk_Hret rfl)
    rcases wk_ife h with ⟨hc2, h⟩ | ⟨hc2, h⟩
    · refine wk_Hts (t := 22) rfl (wk_tswE hc2 (by decide)) ?_
      refine wk_Hs 5 27 ⟨rfl, rfl⟩ (ls' := [.ref 0, .int x1, .int x2]) (st' := [.int ((27 : Int32) + x1), .ref 1]) (σ' := s) rfl ?_
      obtain ⟨hg, h⟩ := wk_gdE h
      refine wk_Hia 28 rfl rfl rfl hg rfl ?_
      cases h
      exact wk_eqz hk (wk_Hret rfl)
    rcases wk_ife h with ⟨hc3, h⟩ | ⟨hc3, h⟩
    · refine wk_Hts (t := 29) rfl (wk_tswE hc3 (by decide)) ?_
      refine wk_Hs 5 34 ⟨rfl, rfl⟩ (ls' := [.ref 0, .int x1, .int x2]) (st' := [.int ((36 : Int32) + x1), .ref 1]) (σ' := s) rfl ?_
      obtain ⟨hg, h⟩ := wk_gdE h
      refine wk_Hia 35 rfl rfl rfl hg rfl ?_
      cases h
      exact wk_eqz hk (wk_Hret rfl)
    rcases wk_ife h with ⟨hc4, h⟩ | ⟨hc4, h⟩
    · refine wk_Hts (t := 36) rfl (wk_tswE hc4 (by decide)) ?_
      refine wk_Hs 7 43 ⟨rfl, rfl⟩ (ls' := [.ref 0, .int x1, .int x2]) (st' := [.int ((18 : Int32) + x1), .ref 1, .int x1, .ref 0]) (σ' := s) rfl ?_
      obtain ⟨hg, h⟩ := wk_gdE h
      refine wk_Hia 44 rfl rfl rfl hg rfl ?_
      obtain ⟨v2, hv2, h⟩ := wk_bindE h
      refine wk_Hcall (i2 := 45) (args := [.ref 0, .int x1, .int (s.1 1 (((18 : Int32) + x1).toNatClampNeg))]) (rest := []) (r := some (.int v2.1)) (σ1 := v2.2) rfl rfl ⟨rfl, rfl, rfl, rfl, rfl⟩ rfl ((t_X12_toClothes hv2).up (by decide)) ?_
      cases h
      exact wk_eqz hk (wk_Hret rfl)
    refine wk_Hts (t := 46) rfl (wk_tswD (L := [0, 1, 2, 3, 4]) (by decide) (List.forall_mem_cons.2 ⟨wk_nt hc0 (by decide), (List.forall_mem_cons.2 ⟨wk_nt hc1 (by decide), (List.forall_mem_cons.2 ⟨wk_nt hc2 (by decide), (List.forall_mem_cons.2 ⟨wk_nt hc3 (by decide), (List.forall_mem_cons.2 ⟨wk_nt hc4 (by decide), (fun _ hq => absurd hq List.not_mem_nil)⟩)⟩)⟩)⟩)⟩)) ?_
    refine wk_Hs 1 47 ⟨rfl, rfl⟩ (ls' := [.ref 0, .int x1, .int x2]) (st' := [.int (-1 : Int32)]) (σ' := s) rfl ?_
    cases h
    exact wk_eqz hk (wk_Hret rfl)
  · refine wk_H0f 6 4 rfl rfl (wk_nf wk_zne hc) ?_
    refine wk_Hs 1 5 ⟨rfl, rfl⟩ (ls' := [.ref 0, .int x1, .int x2]) (st' := [.int (-1 : Int32)]) (σ' := s) rfl ?_
    cases h
    exact wk_eqz hk (wk_Hret rfl)
set_option maxHeartbeats 4000000 in
set_option maxRecDepth 20000 in
theorem t_X12_likes {x1 : Int32} {x2 : Int32} {s : wk_St} {r : Int32 × wk_St} (h : f_X12_likes x1 x2 s = some r) : wk_T wk_shM 6 110 [.ref 0, .int x1, .int x2] s (some (.int r.1), r.2) := by
  suffices H : ∀ z, z = (some (.int r.1), r.2) → wk_H wk_shM 6 mc_X12_likes 0 [.ref 0, .int x1, .int x2] [] s z from H _ rfl
  intro z hk
  dsimp only [f_X12_likes] at h
  refine wk_Hs 2 2 ⟨rfl, rfl⟩ (ls' := [.ref 0, .int x1, .int x2]) (st' := [.int x1, .ref 0]) (σ' := s) rfl ?_
  obtain ⟨v1, hv1, h⟩ := wk_bindE h
  refine wk_Hcall (i2 := 3) (args := [.ref 0, .int x1]) (rest := []) (r := some (.int (b2i v1))) (σ1 := s) rfl rfl ⟨rfl, rfl, rfl, rfl, rfl⟩ rfl ((t_X12_isLiving hv1).up (by decide)) ?_
  rcases wk_ife h with ⟨hc, h⟩ | ⟨hc, h⟩
  · refine wk_H0t 13 rfl (wk_zeq.2 hc) ?_
    refine wk_Hs 1 14 ⟨rfl, rfl⟩ (ls' := [.ref 0, .int x1, .int x2]) (st' := [.int (-1 : Int32)]) (σ' := s) rfl ?_
    cases h
    exact wk_eqz hk (wk_Hret rfl)
  · refine wk_H0f 13 4 rfl rfl (wk_nf wk_zeq hc) ?_
    refine wk_Hs 2 6 ⟨rfl, rfl⟩ (ls' := [.ref 0, .int x1, .int x2]) (st' := [.int x2, .ref 0]) (σ' := s) rfl ?_
    refine wk_Hcall (i2 := 7) (args := [.ref 0, .int x2]) (rest := []) (r := some (.int (b2i (f_X12_isPlace x2 s)))) (σ1 := s) rfl rfl ⟨rfl, rfl, rfl, rfl, rfl⟩ rfl ((t_X12_isPlace rfl).up (by decide)) ?_
    rcases wk_ife h with ⟨hc, h⟩ | ⟨hc, h⟩
    · refine wk_H0t 13 rfl (wk_zeq.2 hc) ?_
      refine wk_Hs 1 14 ⟨rfl, rfl⟩ (ls' := [.ref 0, .int x1, .int x2]) (st' := [.int (-1 : Int32)]) (σ' := s) rfl ?_
      cases h
      exact wk_eqz hk (wk_Hret rfl)
    · refine wk_H0f 13 8 rfl rfl (wk_nf wk_zeq hc) ?_
      refine wk_Hs 3 11 ⟨rfl, rfl⟩ (ls' := [.ref 0, .int x1, .int x2]) (st' := [.int x2, .int x1, .ref 0]) (σ' := s) rfl ?_
      obtain ⟨v3, hv3, h⟩ := wk_bindE h
      refine wk_Hcall (i2 := 12) (args := [.ref 0, .int x1, .int x2]) (rest := []) (r := some (.int v3.1)) (σ1 := v3.2) rfl rfl ⟨rfl, rfl, rfl, rfl, rfl⟩ rfl ((t_X12_likedNow hv3).up (by decide)) ?_
      refine wk_Hgoto (t := 14) rfl ?_
      cases h
      exact wk_eqz hk (wk_Hret rfl)
set_option maxHeartbeats 4000000 in
set_option maxRecDepth 20000 in
theorem ts_S_X12_manAgain_32 {x1 : Int32} {x2 : Int32} {x3 : Int32} {x4 : Int32} {s : wk_St} {z : wk_R} {o : (Int32 × wk_St) ⊕ (Int32 × Int32 × wk_St)} (h : S_X12_manAgain_32 x1 x2 (x3, x4, s) = some o) (hk : match (generalizing := false) o with | Sum.inl a => (∀ (u4 : Value), wk_H wk_shM 9 mc_X12_manAgain 57 [.ref 0, .int x1, .int x2, .int a.1, u4] [] a.2 z) | Sum.inr y => wk_H wk_shM 9 mc_X12_manAgain 32 [.ref 0, .int x1, .int x2, .int y.1, .int y.2.1] [] y.2.2 z) : wk_H wk_shM 9 mc_X12_manAgain 32 [.ref 0, .int x1, .int x2, .int x3, .int x4] [] s z := by
  dsimp only [S_X12_manAgain_32] at h
  refine wk_Hs 2 34 ⟨rfl, rfl⟩ (ls' := [.ref 0, .int x1, .int x2, .int x3, .int x4]) (st' := [.int x2, .int x4]) (σ' := s) rfl ?_
  rcases wk_ife h with ⟨hc, h⟩ | ⟨hc, h⟩
  · refine wk_Hbt 57 rfl (wk_cgt.2 hc) ?_
    cases h
    exact hk _
  · refine wk_Hbf 57 35 rfl rfl (wk_nf wk_cgt hc) ?_
    refine wk_Hs 2 37 ⟨rfl, rfl⟩ (ls' := [.ref 0, .int x1, .int x2, .int x3, .int x4]) (st' := [.int (-2 : Int32), .int x3]) (σ' := s) rfl ?_
    rcases wk_ife h with ⟨hc, h⟩ | ⟨hc, h⟩
    · refine wk_Hbt 57 rfl (wk_cne.2 hc) ?_
      cases h
      exact hk _
    · refine wk_Hbf 57 38 rfl rfl (wk_nf wk_cne hc) ?_
      refine wk_Hs 3 41 ⟨rfl, rfl⟩ (ls' := [.ref 0, .int x1, .int x2, .int x3, .int x4]) (st' := [.int (45 : Int32), .ref 1]) (σ' := s) rfl ?_
      refine wk_Hia 42 rfl rfl rfl rfl rfl ?_
      refine wk_Hs 1 43 ⟨rfl, rfl⟩ (ls' := [.ref 0, .int x1, .int x2, .int x3, .int x4]) (st' := [.int (9999 : Int32), .int (s.1 1 45)]) (σ' := s) rfl ?_
      rcases wk_ife h with ⟨hc, h⟩ | ⟨hc, h⟩
      · refine wk_Hbt 57 rfl (wk_cge.2 hc) ?_
        cases h
        exact hk _
      · refine wk_Hbf 57 44 rfl rfl (wk_nf wk_cge hc) ?_
        refine wk_Hs 1 45 ⟨rfl, rfl⟩ (ls' := [.ref 0, .int x1, .int x2, .int x3, .int x4]) (st' := [.ref 0]) (σ' := s) rfl ?_
        obtain ⟨v5, hv5, h⟩ := wk_bindE h
        refine wk_Hcall (i2 := 46) (args := [.ref 0]) (rest := []) (r := none) (σ1 := v5) rfl rfl ⟨rfl, rfl, rfl, rfl, rfl⟩ rfl ((t_X12_dayGoes hv5).up (by decide)) ?_
        refine wk_Hs 5 51 ⟨rfl, rfl⟩ (ls' := [.ref 0, .int x1, .int x2, .int x3, .int x4]) (st' := [.int ((27 : Int32) + x1), .ref 1]) (σ' := v5) rfl ?_
        obtain ⟨hg, h⟩ := wk_gdE h
        refine wk_Hia 52 rfl rfl rfl hg rfl ?_
        rcases wk_ife h with ⟨hc, h⟩ | ⟨hc, h⟩
        · refine wk_H0t 55 rfl (wk_cne.2 hc) ?_
          refine wk_Hs 1 56 ⟨rfl, rfl⟩ (ls' := [.ref 0, .int x1, .int x2, .int x3, .int (x4 + (1 : Int32))]) (st' := []) (σ' := v5) rfl ?_
          refine wk_Hgoto (t := 32) rfl ?_
          cases h
          exact hk
        · refine wk_H0f 55 53 rfl rfl (wk_nf wk_cne hc) ?_
          refine wk_Hs 3 56 ⟨rfl, rfl⟩ (ls' := [.ref 0, .int x1, .int x2, .int x4, .int (x4 + (1 : Int32))]) (st' := []) (σ' := v5) rfl ?_
          refine wk_Hgoto (t := 32) rfl ?_
          cases h
          exact hk
set_option maxHeartbeats 4000000 in
set_option maxRecDepth 20000 in
theorem tl_S_X12_manAgain_32 {x1 : Int32} {x2 : Int32} {z : wk_R} (n : Nat) : ∀ {x3 : Int32} {x4 : Int32} {s : wk_St} {a : Int32 × wk_St} (h : wk_loop (S_X12_manAgain_32 x1 x2) n (x3, x4, s) = some a) (hk : ∀ (u4 : Value), wk_H wk_shM 9 mc_X12_manAgain 57 [.ref 0, .int x1, .int x2, .int a.1, u4] [] a.2 z), wk_H wk_shM 9 mc_X12_manAgain 32 [.ref 0, .int x1, .int x2, .int x3, .int x4] [] s z := by
  induction n with
  | zero =>
    intros
    rename_i h _
    exact nomatch (show (none : Option _) = some _ from h)
  | succ n ih =>
    intros
    rename_i h hk
    obtain ⟨o, ho, h⟩ := wk_bindE (show Option.bind _ _ = some _ from h)
    refine ts_S_X12_manAgain_32 ho ?_
    cases o with
    | inl a1 =>
      cases h
      exact hk
    | inr p =>
      obtain ⟨p0, p1, p2⟩ := p
      exact ih h hk
set_option maxHeartbeats 4000000 in
set_option maxRecDepth 20000 in
theorem t_X12_manAgain {x1 : Int32} {x2 : Int32} {s : wk_St} {r : Int32 × wk_St} (h : f_X12_manAgain x1 x2 s = some r) : wk_T wk_shM 9 111 [.ref 0, .int x1, .int x2] s (some (.int r.1), r.2) := by
  suffices H : ∀ z, z = (some (.int r.1), r.2) → wk_H wk_shM 9 mc_X12_manAgain 0 [.ref 0, .int x1, .int x2, wk_U, wk_U] [] s z from H _ rfl
  intro z hk
  dsimp only [f_X12_manAgain] at h
  refine wk_Hs 2 2 ⟨rfl, rfl⟩ (ls' := [.ref 0, .int x1, .int x2, wk_U, wk_U]) (st' := [.int x1, .ref 0]) (σ' := s) rfl ?_
  obtain ⟨v1, hv1, h⟩ := wk_bindE h
  refine wk_Hcall (i2 := 3) (args := [.ref 0, .int x1]) (rest := []) (r := some (.int (b2i v1))) (σ1 := s) rfl rfl ⟨rfl, rfl, rfl, rfl, rfl⟩ rfl ((t_X12_isKnight hv1).up (by decide)) ?_
  rcases wk_ife h with ⟨hc, h⟩ | ⟨hc, h⟩
  · refine wk_H0t 9 rfl (wk_zeq.2 hc) ?_
    refine wk_Hs 1 10 ⟨rfl, rfl⟩ (ls' := [.ref 0, .int x1, .int x2, wk_U, wk_U]) (st' := [.int (-1 : Int32)]) (σ' := s) rfl ?_
    cases h
    exact wk_eqz hk (wk_Hret rfl)
  · refine wk_H0f 9 4 rfl rfl (wk_nf wk_zeq hc) ?_
    refine wk_Hs 3 7 ⟨rfl, rfl⟩ (ls' := [.ref 0, .int x1, .int x2, wk_U, wk_U]) (st' := [.int (240 : Int32), .int (1 : Int32), .int x2]) (σ' := s) rfl ?_
    refine wk_Hcall (i2 := 8) (args := [.int x2, .int (1 : Int32), .int (240 : Int32)]) (rest := []) (r := some (.int (b2i (f_X12_in x2 (1 : Int32) (240 : Int32))))) (σ1 := s) rfl rfl ⟨rfl, rfl, rfl, rfl, rfl⟩ rfl ((t_X12_in rfl).up (by decide)) ?_
    rcases wk_ife h with ⟨hc, h⟩ | ⟨hc, h⟩
    · refine wk_H0t 11 rfl (wk_zne.2 hc) ?_
      refine wk_Hs 5 16 ⟨rfl, rfl⟩ (ls' := [.ref 0, .int x1, .int x2, wk_U, wk_U]) (st' := [.int ((27 : Int32) + x1), .ref 1]) (σ' := s) rfl ?_
      obtain ⟨hg, h⟩ := wk_gdE h
      refine wk_Hia 17 rfl rfl rfl hg rfl ?_
      refine wk_Hs 1 18 ⟨rfl, rfl⟩ (ls' := [.ref 0, .int x1, .int x2, wk_U, wk_U]) (st' := [.int (1 : Int32), .int (s.1 1 (((27 : Int32) + x1).toNatClampNeg))]) (σ' := s) rfl ?_
      rcases wk_ife h with ⟨hc, h⟩ | ⟨hc, h⟩
      · refine wk_Hbt 21 rfl (wk_ceq.2 hc) ?_
        refine wk_Hs 4 25 ⟨rfl, rfl⟩ (ls' := [.ref 0, .int x1, .int x2, wk_U, wk_U]) (st' := [.ref 2, .ref 1]) (σ' := s) rfl ?_
        obtain ⟨v3, hv3, h⟩ := wk_bindE h
        refine wk_Hcall (i2 := 26) (args := [.ref 1, .ref 2]) (rest := []) (r := none) (σ1 := v3) rfl rfl ⟨rfl, rfl, rfl, rfl, rfl⟩ rfl ((t_X12_copies_1_2 hv3).up (by decide)) ?_
        refine wk_Hs 1 27 ⟨rfl, rfl⟩ (ls' := [.ref 0, .int x1, .int x2, wk_U, wk_U]) (st' := [.ref 0]) (σ' := v3) rfl ?_
        replace h := wk_letE h
        refine wk_Hcall (i2 := 28) (args := [.ref 0]) (rest := []) (r := none) (σ1 := (f_X12_beginsDays v3)) rfl rfl ⟨rfl, rfl, rfl, rfl, rfl⟩ rfl ((t_X12_beginsDays rfl).up (by decide)) ?_
        refine wk_Hs 4 32 ⟨rfl, rfl⟩ (ls' := [.ref 0, .int x1, .int x2, .int (-2 : Int32), .int (1 : Int32)]) (st' := []) (σ' := (f_X12_beginsDays v3)) rfl ?_
        obtain ⟨v6, hv6, h⟩ := wk_bindE h
        refine tl_S_X12_manAgain_32 wk_F hv6 ?_
        intro g7
        refine wk_Hs 4 61 ⟨rfl, rfl⟩ (ls' := [.ref 0, .int x1, .int x2, .int v6.1, g7]) (st' := [.ref 1, .ref 2]) (σ' := v6.2) rfl ?_
        obtain ⟨v8, hv8, h⟩ := wk_bindE h
        refine wk_Hcall (i2 := 62) (args := [.ref 2, .ref 1]) (rest := []) (r := none) (σ1 := v8) rfl rfl ⟨rfl, rfl, rfl, rfl, rfl⟩ rfl ((t_X12_copies_2_1 hv8).up (by decide)) ?_
        refine wk_Hs 1 63 ⟨rfl, rfl⟩ (ls' := [.ref 0, .int x1, .int x2, .int v6.1, g7]) (st' := [.int v6.1]) (σ' := v8) rfl ?_
        cases h
        exact wk_eqz hk (wk_Hret rfl)
      · refine wk_Hbf 21 19 rfl rfl (wk_nf wk_ceq hc) ?_
        refine wk_Hs 1 20 ⟨rfl, rfl⟩ (ls' := [.ref 0, .int x1, .int x2, wk_U, wk_U]) (st' := [.int (-3 : Int32)]) (σ' := s) rfl ?_
        cases h
        exact wk_eqz hk (wk_Hret rfl)
    · refine wk_H0f 11 9 rfl rfl (wk_nf wk_zne hc) ?_
      refine wk_Hs 1 10 ⟨rfl, rfl⟩ (ls' := [.ref 0, .int x1, .int x2, wk_U, wk_U]) (st' := [.int (-1 : Int32)]) (σ' := s) rfl ?_
      cases h
      exact wk_eqz hk (wk_Hret rfl)
set_option maxHeartbeats 4000000 in
set_option maxRecDepth 20000 in
theorem t_X12_deadFirst {x1 : Int32} {x2 : Int32} {s : wk_St} {r : Int32 × wk_St} (h : f_X12_deadFirst x1 x2 s = some r) : wk_T wk_shM 10 112 [.ref 0, .int x1, .int x2] s (some (.int r.1), r.2) := by
  suffices H : ∀ z, z = (some (.int r.1), r.2) → wk_H wk_shM 10 mc_X12_deadFirst 0 [.ref 0, .int x1, .int x2] [] s z from H _ rfl
  intro z hk
  dsimp only [f_X12_deadFirst] at h
  refine wk_Hs 3 3 ⟨rfl, rfl⟩ (ls' := [.ref 0, .int x1, .int x2]) (st' := [.int (240 : Int32), .int (1 : Int32), .int x1]) (σ' := s) rfl ?_
  refine wk_Hcall (i2 := 4) (args := [.int x1, .int (1 : Int32), .int (240 : Int32)]) (rest := []) (r := some (.int (b2i (f_X12_in x1 (1 : Int32) (240 : Int32))))) (σ1 := s) rfl rfl ⟨rfl, rfl, rfl, rfl, rfl⟩ rfl ((t_X12_in rfl).up (by decide)) ?_
  rcases wk_ife h with ⟨hc, h⟩ | ⟨hc, h⟩
  · refine wk_H0t 10 rfl (wk_zeq.2 hc) ?_
    refine wk_Hs 1 11 ⟨rfl, rfl⟩ (ls' := [.ref 0, .int x1, .int x2]) (st' := [.int (-1 : Int32)]) (σ' := s) rfl ?_
    cases h
    exact wk_eqz hk (wk_Hret rfl)
  · refine wk_H0f 10 5 rfl rfl (wk_nf wk_zeq hc) ?_
    refine wk_Hs 3 8 ⟨rfl, rfl⟩ (ls' := [.ref 0, .int x1, .int x2]) (st' := [.int (1 : Int32), .int (0 : Int32), .int x2]) (σ' := s) rfl ?_
    refine wk_Hcall (i2 := 9) (args := [.int x2, .int (0 : Int32), .int (1 : Int32)]) (rest := []) (r := some (.int (b2i (f_X12_in x2 (0 : Int32) (1 : Int32))))) (σ1 := s) rfl rfl ⟨rfl, rfl, rfl, rfl, rfl⟩ rfl ((t_X12_in rfl).up (by decide)) ?_
    rcases wk_ife h with ⟨hc, h⟩ | ⟨hc, h⟩
    · refine wk_H0t 12 rfl (wk_zne.2 hc) ?_
      refine wk_Hs 4 16 ⟨rfl, rfl⟩ (ls' := [.ref 0, .int x1, .int x2]) (st' := [.ref 2, .ref 1]) (σ' := s) rfl ?_
      obtain ⟨v3, hv3, h⟩ := wk_bindE h
      refine wk_Hcall (i2 := 17) (args := [.ref 1, .ref 2]) (rest := []) (r := none) (σ1 := v3) rfl rfl ⟨rfl, rfl, rfl, rfl, rfl⟩ rfl ((t_X12_copies_1_2 hv3).up (by decide)) ?_
      refine wk_Hs 2 19 ⟨rfl, rfl⟩ (ls' := [.ref 0, .int x1, .int x2]) (st' := [.int x1, .ref 0]) (σ' := v3) rfl ?_
      obtain ⟨v4, hv4, h⟩ := wk_bindE h
      refine wk_Hcall (i2 := 20) (args := [.ref 0, .int x1]) (rest := []) (r := none) (σ1 := v4) rfl rfl ⟨rfl, rfl, rfl, rfl, rfl⟩ rfl ((t_X12_daysGo hv4).up (by decide)) ?_
      refine wk_Hs 4 24 ⟨rfl, rfl⟩ (ls' := [.ref 0, .int x1, .int x2]) (st' := [.ref 1, .ref 2]) (σ' := v4) rfl ?_
      obtain ⟨v5, hv5, h⟩ := wk_bindE h
      refine wk_Hcall (i2 := 25) (args := [.ref 2, .ref 1]) (rest := []) (r := none) (σ1 := v5) rfl rfl ⟨rfl, rfl, rfl, rfl, rfl⟩ rfl ((t_X12_copies_2_1 hv5).up (by decide)) ?_
      refine wk_Hs 3 28 ⟨rfl, rfl⟩ (ls' := [.ref 0, .int x1, .int x2]) (st' := [.int (-1 : Int32), .int (v5.1 0 48)]) (σ' := v5) rfl ?_
      rcases wk_ife h with ⟨hc, h⟩ | ⟨hc, h⟩
      · refine wk_Hbt 31 rfl (wk_cne.2 hc) ?_
        refine wk_Hs 1 32 ⟨rfl, rfl⟩ (ls' := [.ref 0, .int x1, .int x2]) (st' := [.int x2]) (σ' := v5) rfl ?_
        rcases wk_ife h with ⟨hc, h⟩ | ⟨hc, h⟩
        · refine wk_H0t 36 rfl (wk_cne.2 hc) ?_
          refine wk_Hs 2 38 ⟨rfl, rfl⟩ (ls' := [.ref 0, .int x1, .int x2]) (st' := [.int (v5.1 0 49)]) (σ' := v5) rfl ?_
          cases h
          exact wk_eqz hk (wk_Hret rfl)
        · refine wk_H0f 36 33 rfl rfl (wk_nf wk_cne hc) ?_
          refine wk_Hs 2 35 ⟨rfl, rfl⟩ (ls' := [.ref 0, .int x1, .int x2]) (st' := [.int (v5.1 0 48)]) (σ' := v5) rfl ?_
          refine wk_Hgoto (t := 38) rfl ?_
          cases h
          exact wk_eqz hk (wk_Hret rfl)
      · refine wk_Hbf 31 29 rfl rfl (wk_nf wk_cne hc) ?_
        refine wk_Hs 1 30 ⟨rfl, rfl⟩ (ls' := [.ref 0, .int x1, .int x2]) (st' := [.int (-2 : Int32)]) (σ' := v5) rfl ?_
        cases h
        exact wk_eqz hk (wk_Hret rfl)
    · refine wk_H0f 12 10 rfl rfl (wk_nf wk_zne hc) ?_
      refine wk_Hs 1 11 ⟨rfl, rfl⟩ (ls' := [.ref 0, .int x1, .int x2]) (st' := [.int (-1 : Int32)]) (σ' := s) rfl ?_
      cases h
      exact wk_eqz hk (wk_Hret rfl)
set_option maxHeartbeats 4000000 in
set_option maxRecDepth 20000 in
theorem tj_j_X12_daysHome_76_l48 {x1 : Int32} {x2 : Int32} {x3 : Int32} {x4 : Int32} {x5 : Int32} {x6 : Int32} {s_0 : Int32} {w7 : Value} {s : wk_St} {z : wk_R} {o : (Int32 × wk_St) ⊕ (Int32 × Int32 × wk_St)} (h : j_X12_daysHome_76_l48 x1 x2 x3 x4 x5 x6 s_0 s = some o) (hk : match (generalizing := false) o with | Sum.inl a => (∀ (u6 u7 : Value), wk_H wk_shM 1 mc_X12_daysHome 101 [.ref 0, .int x1, .int x2, .int x3, .int x4, .int a.1, u6, u7] [] a.2 z) | Sum.inr y => ∀ (u7 : Value), wk_H wk_shM 1 mc_X12_daysHome 48 [.ref 0, .int x1, .int x2, .int x3, .int x4, .int y.1, .int y.2.1, u7] [] y.2.2 z) : wk_H wk_shM 1 mc_X12_daysHome 76 [.ref 0, .int x1, .int x2, .int x3, .int x4, .int x5, .int x6, w7] [.int s_0] s z := by
  dsimp only [j_X12_daysHome_76_l48] at h
  refine wk_Hs 2 78 ⟨rfl, rfl⟩ (ls' := [.ref 0, .int x1, .int x2, .int x3, .int x4, .int x5, .int x6, .int s_0]) (st' := [.int s_0]) (σ' := s) rfl ?_
  rcases wk_ife h with ⟨hc, h⟩ | ⟨hc, h⟩
  · refine wk_H0t 99 rfl (wk_ceq.2 hc) ?_
    refine wk_Hs 1 100 ⟨rfl, rfl⟩ (ls' := [.ref 0, .int x1, .int x2, .int x3, .int x4, .int x5, .int (x6 + (1 : Int32)), .int s_0]) (st' := []) (σ' := s) rfl ?_
    refine wk_Hgoto (t := 48) rfl ?_
    cases h
    exact hk _
  · refine wk_H0f 99 79 rfl rfl (wk_nf wk_ceq hc) ?_
    refine wk_Hs 3 82 ⟨rfl, rfl⟩ (ls' := [.ref 0, .int x1, .int x2, .int x3, .int x4, .int x5, .int x6, .int s_0]) (st' := [.int x6, .ref 4]) (σ' := s) rfl ?_
    obtain ⟨hg, h⟩ := wk_gdE h
    refine wk_Hia 83 rfl rfl rfl hg rfl ?_
    refine wk_Hs 7 90 ⟨rfl, rfl⟩ (ls' := [.ref 0, .int x1, .int x2, .int x3, .int x4, .int x5, .int x6, .int s_0]) (st' := [.int x4, .ref 27, .int ((s.1 4 (x6.toNatClampNeg)) ||| ((1 : Int32) <<< (x6 &&& 31)))]) (σ' := s) rfl ?_
    obtain ⟨hg, h⟩ := wk_gdE h
    refine wk_Hia 91 rfl rfl rfl hg rfl ?_
    refine wk_Hs 1 92 ⟨rfl, rfl⟩ (ls' := [.ref 0, .int x1, .int x2, .int x3, .int x4, .int x5, .int x6, .int s_0]) (st' := [.int (((s.1 4 (x6.toNatClampNeg)) ||| ((1 : Int32) <<< (x6 &&& 31))) &&& (s.1 27 (x4.toNatClampNeg)))]) (σ' := s) rfl ?_
    rcases wk_ife h with ⟨hc, h⟩ | ⟨hc, h⟩
    · refine wk_H0t 99 rfl (wk_ceq.2 hc) ?_
      refine wk_Hs 1 100 ⟨rfl, rfl⟩ (ls' := [.ref 0, .int x1, .int x2, .int x3, .int x4, .int x5, .int (x6 + (1 : Int32)), .int s_0]) (st' := []) (σ' := s) rfl ?_
      refine wk_Hgoto (t := 48) rfl ?_
      cases h
      exact hk _
    · refine wk_H0f 99 93 rfl rfl (wk_nf wk_ceq hc) ?_
      refine wk_Hs 5 98 ⟨rfl, rfl⟩ (ls' := [.ref 0, .int x1, .int x2, .int x3, .int x4, .int x5, .int x6, .int s_0]) (st' := [.int (x5 ||| ((1 : Int32) <<< (x6 &&& 31)))]) (σ' := s) rfl ?_
      replace h := wk_letE h
      refine wk_Hs 2 100 ⟨rfl, rfl⟩ (ls' := [.ref 0, .int x1, .int x2, .int x3, .int x4, .int (x5 ||| ((1 : Int32) <<< (x6 &&& 31))), .int (x6 + (1 : Int32)), .int s_0]) (st' := []) (σ' := s) rfl ?_
      refine wk_Hgoto (t := 48) rfl ?_
      cases h
      exact hk _
set_option maxHeartbeats 4000000 in
set_option maxRecDepth 20000 in
theorem ts_S_X12_daysHome_48 {x1 : Int32} {x2 : Int32} {x3 : Int32} {x4 : Int32} {x5 : Int32} {x6 : Int32} {w7 : Value} {s : wk_St} {z : wk_R} {o : (Int32 × wk_St) ⊕ (Int32 × Int32 × wk_St)} (h : S_X12_daysHome_48 x1 x2 x3 x4 (x5, x6, s) = some o) (hk : match (generalizing := false) o with | Sum.inl a => (∀ (u6 u7 : Value), wk_H wk_shM 1 mc_X12_daysHome 101 [.ref 0, .int x1, .int x2, .int x3, .int x4, .int a.1, u6, u7] [] a.2 z) | Sum.inr y => ∀ (u7 : Value), wk_H wk_shM 1 mc_X12_daysHome 48 [.ref 0, .int x1, .int x2, .int x3, .int x4, .int y.1, .int y.2.1, u7] [] y.2.2 z) : wk_H wk_shM 1 mc_X12_daysHome 48 [.ref 0, .int x1, .int x2, .int x3, .int x4, .int x5, .int x6, w7] [] s z := by
  dsimp only [S_X12_daysHome_48] at h
  refine wk_Hs 2 50 ⟨rfl, rfl⟩ (ls' := [.ref 0, .int x1, .int x2, .int x3, .int x4, .int x5, .int x6, w7]) (st' := [.int (12 : Int32), .int x6]) (σ' := s) rfl ?_
  rcases wk_ife h with ⟨hc, h⟩ | ⟨hc, h⟩
  · refine wk_Hbt 101 rfl (wk_cge.2 hc) ?_
    cases h
    exact hk _ _
  · refine wk_Hbf 101 51 rfl rfl (wk_nf wk_cge hc) ?_
    refine wk_Hs 2 53 ⟨rfl, rfl⟩ (ls' := [.ref 0, .int x1, .int x2, .int x3, .int x4, .int x5, .int x6, w7]) (st' := [.int (1 : Int32), .int x4]) (σ' := s) rfl ?_
    rcases wk_ife h with ⟨hc, h⟩ | ⟨hc, h⟩
    · refine wk_Hbt 66 rfl (wk_cne.2 hc) ?_
      refine wk_Hs 5 71 ⟨rfl, rfl⟩ (ls' := [.ref 0, .int x1, .int x2, .int x3, .int x4, .int x5, .int x6, w7]) (st' := [.int (x4 - (2 : Int32)), .int x6, .ref 0]) (σ' := s) rfl ?_
      obtain ⟨v5, hv5, h⟩ := wk_bindE h
      refine wk_Hcall (i2 := 72) (args := [.ref 0, .int x6, .int (x4 - (2 : Int32))]) (rest := []) (r := some (.int (b2i v5))) (σ1 := s) rfl rfl ⟨rfl, rfl, rfl, rfl, rfl⟩ rfl ((t_X12_isHunted hv5).up (by decide)) ?_
      rcases wk_ife h with ⟨hc, h⟩ | ⟨hc, h⟩
      · refine wk_H0t 75 rfl (wk_zne.2 hc) ?_
        refine wk_Hs 1 76 ⟨rfl, rfl⟩ (ls' := [.ref 0, .int x1, .int x2, .int x3, .int x4, .int x5, .int x6, w7]) (st' := [.int (0 : Int32)]) (σ' := s) rfl ?_
        exact tj_j_X12_daysHome_76_l48 h hk
      · refine wk_H0f 75 73 rfl rfl (wk_nf wk_zne hc) ?_
        refine wk_Hs 1 74 ⟨rfl, rfl⟩ (ls' := [.ref 0, .int x1, .int x2, .int x3, .int x4, .int x5, .int x6, w7]) (st' := [.int (1 : Int32)]) (σ' := s) rfl ?_
        refine wk_Hgoto (t := 76) rfl ?_
        exact tj_j_X12_daysHome_76_l48 h hk
    · refine wk_Hbf 66 54 rfl rfl (wk_nf wk_cne hc) ?_
      refine wk_Hs 6 60 ⟨rfl, rfl⟩ (ls' := [.ref 0, .int x1, .int x2, .int x3, .int x4, .int x5, .int x6, w7]) (st' := [.int ((18 : Int32) + x1), .ref 1, .int x6]) (σ' := s) rfl ?_
      obtain ⟨hg, h⟩ := wk_gdE h
      refine wk_Hia 61 rfl rfl rfl hg rfl ?_
      rcases wk_ife h with ⟨hc, h⟩ | ⟨hc, h⟩
      · refine wk_Hbt 64 rfl (wk_cne.2 hc) ?_
        refine wk_Hs 1 65 ⟨rfl, rfl⟩ (ls' := [.ref 0, .int x1, .int x2, .int x3, .int x4, .int x5, .int x6, w7]) (st' := [.int (0 : Int32)]) (σ' := s) rfl ?_
        refine wk_Hgoto (t := 76) rfl ?_
        exact tj_j_X12_daysHome_76_l48 h hk
      · refine wk_Hbf 64 62 rfl rfl (wk_nf wk_cne hc) ?_
        refine wk_Hs 1 63 ⟨rfl, rfl⟩ (ls' := [.ref 0, .int x1, .int x2, .int x3, .int x4, .int x5, .int x6, w7]) (st' := [.int (1 : Int32)]) (σ' := s) rfl ?_
        refine wk_Hgoto (t := 76) rfl ?_
        exact tj_j_X12_daysHome_76_l48 h hk
set_option maxHeartbeats 4000000 in
set_option maxRecDepth 20000 in
theorem tl_S_X12_daysHome_48 {x1 : Int32} {x2 : Int32} {x3 : Int32} {x4 : Int32} {z : wk_R} (n : Nat) : ∀ {x5 : Int32} {x6 : Int32} {w7 : Value} {s : wk_St} {a : Int32 × wk_St} (h : wk_loop (S_X12_daysHome_48 x1 x2 x3 x4) n (x5, x6, s) = some a) (hk : ∀ (u6 u7 : Value), wk_H wk_shM 1 mc_X12_daysHome 101 [.ref 0, .int x1, .int x2, .int x3, .int x4, .int a.1, u6, u7] [] a.2 z), wk_H wk_shM 1 mc_X12_daysHome 48 [.ref 0, .int x1, .int x2, .int x3, .int x4, .int x5, .int x6, w7] [] s z := by
  induction n with
  | zero =>
    intros
    rename_i h _
    exact nomatch (show (none : Option _) = some _ from h)
  | succ n ih =>
    intros
    rename_i h hk
    obtain ⟨o, ho, h⟩ := wk_bindE (show Option.bind _ _ = some _ from h)
    refine ts_S_X12_daysHome_48 ho ?_
    cases o with
    | inl a1 =>
      cases h
      exact hk
    | inr p =>
      obtain ⟨p0, p1, p2⟩ := p
      exact fun _ => ih h hk
set_option maxHeartbeats 4000000 in
set_option maxRecDepth 20000 in
theorem ts_S_X12_daysHome_42 {x1 : Int32} {x2 : Int32} {x3 : Int32} {x4 : Int32} {w5 : Value} {w6 : Value} {w7 : Value} {s : wk_St} {z : wk_R} {o : (wk_St) ⊕ (Int32 × wk_St)} (h : S_X12_daysHome_42 x1 x2 x3 (x4, s) = some o) (hk : match (generalizing := false) o with | Sum.inl a => (∀ (u4 u5 u6 u7 : Value), wk_H wk_shM 1 mc_X12_daysHome 110 [.ref 0, .int x1, .int x2, .int x3, u4, u5, u6, u7] [] a z) | Sum.inr y => ∀ (u5 u6 u7 : Value), wk_H wk_shM 1 mc_X12_daysHome 42 [.ref 0, .int x1, .int x2, .int x3, .int y.1, u5, u6, u7] [] y.2 z) : wk_H wk_shM 1 mc_X12_daysHome 42 [.ref 0, .int x1, .int x2, .int x3, .int x4, w5, w6, w7] [] s z := by
  dsimp only [S_X12_daysHome_42] at h
  refine wk_Hs 1 43 ⟨rfl, rfl⟩ (ls' := [.ref 0, .int x1, .int x2, .int x3, .int x4, w5, w6, w7]) (st' := [.int x4]) (σ' := s) rfl ?_
  rcases wk_ife h with ⟨hc, h⟩ | ⟨hc, h⟩
  · refine wk_H0t 110 rfl (wk_cle.2 hc) ?_
    cases h
    exact hk _ _ _ _
  · refine wk_H0f 110 44 rfl rfl (wk_nf wk_cle hc) ?_
    refine wk_Hs 4 48 ⟨rfl, rfl⟩ (ls' := [.ref 0, .int x1, .int x2, .int x3, .int x4, .int (0 : Int32), .int (0 : Int32), w7]) (st' := []) (σ' := s) rfl ?_
    obtain ⟨v7, hv7, h⟩ := wk_bindE h
    refine tl_S_X12_daysHome_48 wk_F hv7 ?_
    intro g8 g9
    refine wk_Hs 6 107 ⟨rfl, rfl⟩ (ls' := [.ref 0, .int x1, .int x2, .int x3, .int x4, .int v7.1, g8, g9]) (st' := [.int v7.1, .int (x4 - (1 : Int32)), .ref 27]) (σ' := v7.2) rfl ?_
    obtain ⟨hg, h⟩ := wk_gdE h
    refine wk_Hias 108 rfl rfl rfl hg rfl ?_
    refine wk_Hs 1 109 ⟨rfl, rfl⟩ (ls' := [.ref 0, .int x1, .int x2, .int x3, .int (x4 + (-1 : Int32)), .int v7.1, g8, g9]) (st' := []) (σ' := (wk_si v7.2 27 ((x4 - (1 : Int32)).toNatClampNeg) v7.1)) rfl ?_
    refine wk_Hgoto (t := 42) rfl ?_
    cases h
    exact hk _ _ _
set_option maxHeartbeats 4000000 in
set_option maxRecDepth 20000 in
theorem tl_S_X12_daysHome_42 {x1 : Int32} {x2 : Int32} {x3 : Int32} {z : wk_R} (n : Nat) : ∀ {x4 : Int32} {w5 : Value} {w6 : Value} {w7 : Value} {s : wk_St} {a : wk_St} (h : wk_loop (S_X12_daysHome_42 x1 x2 x3) n (x4, s) = some a) (hk : ∀ (u4 u5 u6 u7 : Value), wk_H wk_shM 1 mc_X12_daysHome 110 [.ref 0, .int x1, .int x2, .int x3, u4, u5, u6, u7] [] a z), wk_H wk_shM 1 mc_X12_daysHome 42 [.ref 0, .int x1, .int x2, .int x3, .int x4, w5, w6, w7] [] s z := by
  induction n with
  | zero =>
    intros
    rename_i h _
    exact nomatch (show (none : Option _) = some _ from h)
  | succ n ih =>
    intros
    rename_i h hk
    obtain ⟨o, ho, h⟩ := wk_bindE (show Option.bind _ _ = some _ from h)
    refine ts_S_X12_daysHome_42 ho ?_
    cases o with
    | inl a1 =>
      cases h
      exact hk
    | inr p =>
      obtain ⟨p0, p1⟩ := p
      exact fun _ _ _ => ih h hk
set_option maxHeartbeats 4000000 in
set_option maxRecDepth 20000 in
theorem ts_S_X12_daysHome_9 {x1 : Int32} {x2 : Int32} {x3 : Int32} {w4 : Value} {w5 : Value} {w6 : Value} {w7 : Value} {s : wk_St} {z : wk_R} {o : ((Int32 × wk_St) ⊕ (wk_St)) ⊕ (Int32 × wk_St)} (h : S_X12_daysHome_9 x1 x2 (x3, s) = some o) (hk : match (generalizing := false) o with | Sum.inl a => (match (generalizing := false) a with | Sum.inl r => z = (some (.int r.1), r.2) | Sum.inr y => ∀ (u3 u4 u5 u6 u7 : Value), wk_H wk_shM 1 mc_X12_daysHome 119 [.ref 0, .int x1, .int x2, u3, u4, u5, u6, u7] [] y z) | Sum.inr y => ∀ (u4 u5 u6 u7 : Value), wk_H wk_shM 1 mc_X12_daysHome 9 [.ref 0, .int x1, .int x2, .int y.1, u4, u5, u6, u7] [] y.2 z) : wk_H wk_shM 1 mc_X12_daysHome 9 [.ref 0, .int x1, .int x2, .int x3, w4, w5, w6, w7] [] s z := by
  dsimp only [S_X12_daysHome_9] at h
  refine wk_Hs 2 11 ⟨rfl, rfl⟩ (ls' := [.ref 0, .int x1, .int x2, .int x3, w4, w5, w6, w7]) (st' := [.int (60 : Int32), .int x3]) (σ' := s) rfl ?_
  rcases wk_ife h with ⟨hc, h⟩ | ⟨hc, h⟩
  · refine wk_Hbt 119 rfl (wk_cgt.2 hc) ?_
    cases h
    exact hk _ _ _ _ _
  · refine wk_Hbf 119 12 rfl rfl (wk_nf wk_cgt hc) ?_
    refine wk_Hs 5 17 ⟨rfl, rfl⟩ (ls' := [.ref 0, .int x1, .int x2, .int x3, w4, w5, w6, w7]) (st' := [.int ((9 : Int32) + x1), .ref 1]) (σ' := s) rfl ?_
    obtain ⟨hg, h⟩ := wk_gdE h
    refine wk_Hia 18 rfl rfl rfl hg rfl ?_
    refine wk_Hs 4 22 ⟨rfl, rfl⟩ (ls' := [.ref 0, .int x1, .int x2, .int x3, w4, w5, w6, w7]) (st' := [.int (x3 - (1 : Int32)), .ref 0, .int (s.1 1 (((9 : Int32) + x1).toNatClampNeg))]) (σ' := s) rfl ?_
    refine wk_Hcall (i2 := 23) (args := [.ref 0, .int (x3 - (1 : Int32))]) (rest := [.int (s.1 1 (((9 : Int32) + x1).toNatClampNeg))]) (r := some (.int (f_X12_weekdayIn (x3 - (1 : Int32)) s))) (σ1 := s) rfl rfl ⟨rfl, rfl, rfl, rfl, rfl⟩ rfl ((t_X12_weekdayIn rfl).up (by decide)) ?_
    refine wk_Hcall (i2 := 24) (args := [.int (s.1 1 (((9 : Int32) + x1).toNatClampNeg)), .int (f_X12_weekdayIn (x3 - (1 : Int32)) s)]) (rest := []) (r := some (.int (b2i (f_X12_has (s.1 1 (((9 : Int32) + x1).toNatClampNeg)) (f_X12_weekdayIn (x3 - (1 : Int32)) s))))) (σ1 := s) rfl rfl ⟨rfl, rfl, rfl, rfl, rfl⟩ rfl ((t_X12_has rfl).up (by decide)) ?_
    rcases wk_ife h with ⟨hc, h⟩ | ⟨hc, h⟩
    · refine wk_H0t 117 rfl (wk_zne.2 hc) ?_
      refine wk_Hs 1 118 ⟨rfl, rfl⟩ (ls' := [.ref 0, .int x1, .int x2, .int (x3 + (1 : Int32)), w4, w5, w6, w7]) (st' := []) (σ' := s) rfl ?_
      refine wk_Hgoto (t := 9) rfl ?_
      cases h
      exact hk _ _ _ _
    · refine wk_H0f 117 25 rfl rfl (wk_nf wk_zne hc) ?_
      refine wk_Hs 5 30 ⟨rfl, rfl⟩ (ls' := [.ref 0, .int x1, .int x2, .int x3, w4, w5, w6, w7]) (st' := [.int (x3 - (1 : Int32)), .int x2, .ref 0]) (σ' := s) rfl ?_
      obtain ⟨v4, hv4, h⟩ := wk_bindE h
      refine wk_Hcall (i2 := 31) (args := [.ref 0, .int x2, .int (x3 - (1 : Int32))]) (rest := []) (r := some (.int (b2i v4))) (σ1 := s) rfl rfl ⟨rfl, rfl, rfl, rfl, rfl⟩ rfl ((t_X12_isHunted hv4).up (by decide)) ?_
      rcases wk_ife h with ⟨hc, h⟩ | ⟨hc, h⟩
      · refine wk_H0t 33 rfl (wk_zeq.2 hc) ?_
        refine wk_Hs 6 39 ⟨rfl, rfl⟩ (ls' := [.ref 0, .int x1, .int x2, .int x3, w4, w5, w6, w7]) (st' := [.int ((1 : Int32) <<< (x2 &&& 31)), .int x3, .ref 27]) (σ' := s) rfl ?_
        obtain ⟨hg, h⟩ := wk_gdE h
        refine wk_Hias 40 rfl rfl rfl hg rfl ?_
        refine wk_Hs 2 42 ⟨rfl, rfl⟩ (ls' := [.ref 0, .int x1, .int x2, .int x3, .int x3, w5, w6, w7]) (st' := []) (σ' := (wk_si s 27 (x3.toNatClampNeg) ((1 : Int32) <<< (x2 &&& 31)))) rfl ?_
        obtain ⟨v10, hv10, h⟩ := wk_bindE h
        refine tl_S_X12_daysHome_42 wk_F hv10 ?_
        intro g11 g12 g13 g14
        refine wk_Hs 3 113 ⟨rfl, rfl⟩ (ls' := [.ref 0, .int x1, .int x2, .int x3, g11, g12, g13, g14]) (st' := [.int (0 : Int32), .ref 27]) (σ' := v10) rfl ?_
        refine wk_Hia 114 rfl rfl rfl rfl rfl ?_
        rcases wk_ife h with ⟨hc, h⟩ | ⟨hc, h⟩
        · refine wk_H0t 117 rfl (wk_ceq.2 hc) ?_
          refine wk_Hs 1 118 ⟨rfl, rfl⟩ (ls' := [.ref 0, .int x1, .int x2, .int (x3 + (1 : Int32)), g11, g12, g13, g14]) (st' := []) (σ' := v10) rfl ?_
          refine wk_Hgoto (t := 9) rfl ?_
          cases h
          exact hk _ _ _ _
        · refine wk_H0f 117 115 rfl rfl (wk_nf wk_ceq hc) ?_
          refine wk_Hs 1 116 ⟨rfl, rfl⟩ (ls' := [.ref 0, .int x1, .int x2, .int x3, g11, g12, g13, g14]) (st' := [.int x3]) (σ' := v10) rfl ?_
          cases h
          exact wk_eqz hk (wk_Hret rfl)
      · refine wk_H0f 33 32 rfl rfl (wk_nf wk_zeq hc) ?_
        refine wk_Hgoto (t := 117) rfl ?_
        refine wk_Hs 1 118 ⟨rfl, rfl⟩ (ls' := [.ref 0, .int x1, .int x2, .int (x3 + (1 : Int32)), w4, w5, w6, w7]) (st' := []) (σ' := s) rfl ?_
        refine wk_Hgoto (t := 9) rfl ?_
        cases h
        exact hk _ _ _ _
set_option maxHeartbeats 4000000 in
set_option maxRecDepth 20000 in
theorem tl_S_X12_daysHome_9 {x1 : Int32} {x2 : Int32} {z : wk_R} (n : Nat) : ∀ {x3 : Int32} {w4 : Value} {w5 : Value} {w6 : Value} {w7 : Value} {s : wk_St} {a : (Int32 × wk_St) ⊕ (wk_St)} (h : wk_loop (S_X12_daysHome_9 x1 x2) n (x3, s) = some a) (hk : match (generalizing := false) a with | Sum.inl r => z = (some (.int r.1), r.2) | Sum.inr y => ∀ (u3 u4 u5 u6 u7 : Value), wk_H wk_shM 1 mc_X12_daysHome 119 [.ref 0, .int x1, .int x2, u3, u4, u5, u6, u7] [] y z), wk_H wk_shM 1 mc_X12_daysHome 9 [.ref 0, .int x1, .int x2, .int x3, w4, w5, w6, w7] [] s z := by
  induction n with
  | zero =>
    intros
    rename_i h _
    exact nomatch (show (none : Option _) = some _ from h)
  | succ n ih =>
    intros
    rename_i h hk
    obtain ⟨o, ho, h⟩ := wk_bindE (show Option.bind _ _ = some _ from h)
    refine ts_S_X12_daysHome_9 ho ?_
    cases o with
    | inl a1 =>
      cases h
      exact hk
    | inr p =>
      obtain ⟨p0, p1⟩ := p
      exact fun _ _ _ _ => ih h hk
set_option maxHeartbeats 4000000 in
set_option maxRecDepth 20000 in
theorem t_X12_daysHome {x1 : Int32} {s : wk_St} {r : Int32 × wk_St} (h : f_X12_daysHome x1 s = some r) : wk_T wk_shM 1 113 [.ref 0, .int x1] s (some (.int r.1), r.2) := by
  suffices H : ∀ z, z = (some (.int r.1), r.2) → wk_H wk_shM 1 mc_X12_daysHome 0 [.ref 0, .int x1, wk_U, wk_U, wk_U, wk_U, wk_U, wk_U] [] s z from H _ rfl
  intro z hk
  dsimp only [f_X12_daysHome] at h
  refine wk_Hs 5 5 ⟨rfl, rfl⟩ (ls' := [.ref 0, .int x1, wk_U, wk_U, wk_U, wk_U, wk_U, wk_U]) (st' := [.int ((36 : Int32) + x1), .ref 1]) (σ' := s) rfl ?_
  obtain ⟨hg, h⟩ := wk_gdE h
  refine wk_Hia 6 rfl rfl rfl hg rfl ?_
  replace h := wk_letE h
  refine wk_Hs 3 9 ⟨rfl, rfl⟩ (ls' := [.ref 0, .int x1, .int (s.1 1 (((36 : Int32) + x1).toNatClampNeg)), .int (1 : Int32), wk_U, wk_U, wk_U, wk_U]) (st' := []) (σ' := s) rfl ?_
  obtain ⟨v15, hv15, h⟩ := wk_bindE h
  rcases v15 with v15r | v15
  · cases h
    exact tl_S_X12_daysHome_9 wk_F hv15 hk
  · refine tl_S_X12_daysHome_9 wk_F hv15 ?_
    intro g16 g17 g18 g19 g20
    dsimp only at h ⊢
    refine wk_Hs 1 120 ⟨rfl, rfl⟩ (ls' := [.ref 0, .int x1, .int (s.1 1 (((36 : Int32) + x1).toNatClampNeg)), g16, g17, g18, g19, g20]) (st' := [.int (-1 : Int32)]) (σ' := v15) rfl ?_
    cases h
    exact wk_eqz hk (wk_Hret rfl)
set_option maxHeartbeats 4000000 in
set_option maxRecDepth 20000 in
theorem ts_S_X12_home_59 {x2 : Int32} {x4 : Int32} {x5 : Int32} {x6 : Int32} {w1 : Value} {w3 : Value} {s : wk_St} {z : wk_R} {o : (Int32 × wk_St) ⊕ (Int32 × wk_St)} (h : S_X12_home_59 x2 x4 x5 (x6, s) = some o) (hk : match (generalizing := false) o with | Sum.inl a => (wk_H wk_shM 2 mc_X12_home 80 [.ref 0, w1, .int x2, w3, .int x4, .int x5, .int a.1] [] a.2 z) | Sum.inr y => wk_H wk_shM 2 mc_X12_home 59 [.ref 0, w1, .int x2, w3, .int x4, .int x5, .int y.1] [] y.2 z) : wk_H wk_shM 2 mc_X12_home 59 [.ref 0, w1, .int x2, w3, .int x4, .int x5, .int x6] [] s z := by
  dsimp only [S_X12_home_59] at h
  refine wk_Hs 3 62 ⟨rfl, rfl⟩ (ls' := [.ref 0, w1, .int x2, w3, .int x4, .int x5, .int x6]) (st' := [.int x4, .ref 4]) (σ' := s) rfl ?_
  obtain ⟨hg, h⟩ := wk_gdE h
  refine wk_Hia 63 rfl rfl rfl hg rfl ?_
  refine wk_Hs 7 70 ⟨rfl, rfl⟩ (ls' := [.ref 0, w1, .int x2, w3, .int x4, .int x5, .int x6]) (st' := [.int x5, .ref 27, .int ((s.1 4 (x4.toNatClampNeg)) ||| ((1 : Int32) <<< (x4 &&& 31)))]) (σ' := s) rfl ?_
  obtain ⟨hg, h⟩ := wk_gdE h
  refine wk_Hia 71 rfl rfl rfl hg rfl ?_
  refine wk_Hs 2 73 ⟨rfl, rfl⟩ (ls' := [.ref 0, w1, .int x2, w3, .int x4, .int x5, .int x6]) (st' := [.int x6, .int (((s.1 4 (x4.toNatClampNeg)) ||| ((1 : Int32) <<< (x4 &&& 31))) &&& (s.1 27 (x5.toNatClampNeg)))]) (σ' := s) rfl ?_
  refine wk_Hcall (i2 := 74) (args := [.int (((s.1 4 (x4.toNatClampNeg)) ||| ((1 : Int32) <<< (x4 &&& 31))) &&& (s.1 27 (x5.toNatClampNeg))), .int x6]) (rest := []) (r := some (.int (b2i (f_X12_has (((s.1 4 (x4.toNatClampNeg)) ||| ((1 : Int32) <<< (x4 &&& 31))) &&& (s.1 27 (x5.toNatClampNeg))) x6)))) (σ1 := s) rfl rfl ⟨rfl, rfl, rfl, rfl, rfl⟩ rfl ((t_X12_has rfl).up (by decide)) ?_
  rcases wk_ife h with ⟨hc, h⟩ | ⟨hc, h⟩
  · refine wk_H0t 80 rfl (wk_zne.2 hc) ?_
    cases h
    exact hk
  · refine wk_H0f 80 75 rfl rfl (wk_nf wk_zne hc) ?_
    refine wk_Hs 3 78 ⟨rfl, rfl⟩ (ls' := [.ref 0, w1, .int x2, w3, .int x4, .int x5, .int x6]) (st' := [.int (x6 + (1 : Int32))]) (σ' := s) rfl ?_
    replace h := wk_letE h
    refine wk_Hs 1 79 ⟨rfl, rfl⟩ (ls' := [.ref 0, w1, .int x2, w3, .int x4, .int x5, .int (x6 + (1 : Int32))]) (st' := []) (σ' := s) rfl ?_
    refine wk_Hgoto (t := 59) rfl ?_
    cases h
    exact hk
set_option maxHeartbeats 4000000 in
set_option maxRecDepth 20000 in
theorem tl_S_X12_home_59 {x2 : Int32} {x4 : Int32} {x5 : Int32} {w1 : Value} {w3 : Value} {z : wk_R} (n : Nat) : ∀ {x6 : Int32} {s : wk_St} {a : Int32 × wk_St} (h : wk_loop (S_X12_home_59 x2 x4 x5) n (x6, s) = some a) (hk : wk_H wk_shM 2 mc_X12_home 80 [.ref 0, w1, .int x2, w3, .int x4, .int x5, .int a.1] [] a.2 z), wk_H wk_shM 2 mc_X12_home 59 [.ref 0, w1, .int x2, w3, .int x4, .int x5, .int x6] [] s z := by
  induction n with
  | zero =>
    intros
    rename_i h _
    exact nomatch (show (none : Option _) = some _ from h)
  | succ n ih =>
    intros
    rename_i h hk
    obtain ⟨o, ho, h⟩ := wk_bindE (show Option.bind _ _ = some _ from h)
    refine ts_S_X12_home_59 ho ?_
    cases o with
    | inl a1 =>
      cases h
      exact hk
    | inr p =>
      obtain ⟨p0, p1⟩ := p
      exact ih h hk
set_option maxHeartbeats 4000000 in
set_option maxRecDepth 20000 in
theorem ts_S_X12_home_52 {x2 : Int32} {x4 : Int32} {x5 : Int32} {w1 : Value} {w3 : Value} {w6 : Value} {s : wk_St} {z : wk_R} {o : (Int32 × wk_St) ⊕ (Int32 × Int32 × wk_St)} (h : S_X12_home_52 x2 (x4, x5, s) = some o) (hk : match (generalizing := false) o with | Sum.inl a => (∀ (u3 u5 u6 : Value), wk_H wk_shM 2 mc_X12_home 84 [.ref 0, w1, .int x2, u3, .int a.1, u5, u6] [] a.2 z) | Sum.inr y => ∀ (u3 u6 : Value), wk_H wk_shM 2 mc_X12_home 52 [.ref 0, w1, .int x2, u3, .int y.1, .int y.2.1, u6] [] y.2.2 z) : wk_H wk_shM 2 mc_X12_home 52 [.ref 0, w1, .int x2, w3, .int x4, .int x5, w6] [] s z := by
  dsimp only [S_X12_home_52] at h
  refine wk_Hs 4 56 ⟨rfl, rfl⟩ (ls' := [.ref 0, w1, .int x2, w3, .int x4, .int x5, w6]) (st' := [.int (x2 + (1 : Int32)), .int x5]) (σ' := s) rfl ?_
  rcases wk_ife h with ⟨hc, h⟩ | ⟨hc, h⟩
  · refine wk_Hbt 84 rfl (wk_cgt.2 hc) ?_
    cases h
    exact hk _ _ _
  · refine wk_Hbf 84 57 rfl rfl (wk_nf wk_cgt hc) ?_
    refine wk_Hs 2 59 ⟨rfl, rfl⟩ (ls' := [.ref 0, w1, .int x2, w3, .int x4, .int x5, .int (0 : Int32)]) (st' := []) (σ' := s) rfl ?_
    obtain ⟨v7, hv7, h⟩ := wk_bindE h
    refine tl_S_X12_home_59 wk_F hv7 ?_
    refine wk_Hs 3 83 ⟨rfl, rfl⟩ (ls' := [.ref 0, w1, .int x2, (wk_cl w3), .int v7.1, .int (x5 + (1 : Int32)), .int v7.1]) (st' := []) (σ' := v7.2) rfl ?_
    refine wk_Hgoto (t := 52) rfl ?_
    cases h
    exact hk _ _
set_option maxHeartbeats 4000000 in
set_option maxRecDepth 20000 in
theorem tl_S_X12_home_52 {x2 : Int32} {w1 : Value} {z : wk_R} (n : Nat) : ∀ {x4 : Int32} {x5 : Int32} {w3 : Value} {w6 : Value} {s : wk_St} {a : Int32 × wk_St} (h : wk_loop (S_X12_home_52 x2) n (x4, x5, s) = some a) (hk : ∀ (u3 u5 u6 : Value), wk_H wk_shM 2 mc_X12_home 84 [.ref 0, w1, .int x2, u3, .int a.1, u5, u6] [] a.2 z), wk_H wk_shM 2 mc_X12_home 52 [.ref 0, w1, .int x2, w3, .int x4, .int x5, w6] [] s z := by
  induction n with
  | zero =>
    intros
    rename_i h _
    exact nomatch (show (none : Option _) = some _ from h)
  | succ n ih =>
    intros
    rename_i h hk
    obtain ⟨o, ho, h⟩ := wk_bindE (show Option.bind _ _ = some _ from h)
    refine ts_S_X12_home_52 ho ?_
    cases o with
    | inl a1 =>
      cases h
      exact hk
    | inr p =>
      obtain ⟨p0, p1, p2⟩ := p
      exact fun _ _ => ih h hk
set_option maxHeartbeats 4000000 in
set_option maxRecDepth 20000 in
theorem tj_j_X12_home_14 {x1 : Int32} {x2 : Int32} {w3 : Value} {w4 : Value} {w5 : Value} {w6 : Value} {s : wk_St} {z : wk_R} {o : Int32 × wk_St} (h : j_X12_home_14 x1 x2 s = some o) (hk : z = (some (.int o.1), o.2)) : wk_H wk_shM 2 mc_X12_home 14 [.ref 0, .int x1, .int x2, w3, w4, w5, w6] [] s z := by
  dsimp only [j_X12_home_14] at h
  refine wk_Hs 5 19 ⟨rfl, rfl⟩ (ls' := [.ref 0, .int x1, .int x2, w3, w4, w5, w6]) (st' := [.int ((27 : Int32) + x1), .ref 1]) (σ' := s) rfl ?_
  obtain ⟨hg, h⟩ := wk_gdE h
  refine wk_Hia 20 rfl rfl rfl hg rfl ?_
  refine wk_Hs 1 21 ⟨rfl, rfl⟩ (ls' := [.ref 0, .int x1, .int x2, w3, w4, w5, w6]) (st' := [.int (1 : Int32), .int (s.1 1 (((27 : Int32) + x1).toNatClampNeg))]) (σ' := s) rfl ?_
  rcases wk_ife h with ⟨hc, h⟩ | ⟨hc, h⟩
  · refine wk_Hbt 24 rfl (wk_ceq.2 hc) ?_
    refine wk_Hs 2 26 ⟨rfl, rfl⟩ (ls' := [.ref 0, .int x1, .int x2, w3, w4, w5, w6]) (st' := [.int x1, .ref 0]) (σ' := s) rfl ?_
    obtain ⟨v3, hv3, h⟩ := wk_bindE h
    refine wk_Hcall (i2 := 27) (args := [.ref 0, .int x1]) (rest := []) (r := some (.int v3.1)) (σ1 := v3.2) rfl rfl ⟨rfl, rfl, rfl, rfl, rfl⟩ rfl ((t_X12_daysHome hv3).up (by decide)) ?_
    refine wk_Hs 3 30 ⟨rfl, rfl⟩ (ls' := [.ref 0, .int x1, .int x2, .int v3.1, w4, w5, w6]) (st' := [.int (-1 : Int32), .int v3.1]) (σ' := v3.2) rfl ?_
    rcases wk_ife h with ⟨hc, h⟩ | ⟨hc, h⟩
    · refine wk_Hbt 33 rfl (wk_cne.2 hc) ?_
      refine wk_Hs 2 35 ⟨rfl, rfl⟩ (ls' := [.ref 0, .int x1, .int x2, .int v3.1, w4, w5, w6]) (st' := [.int (100 : Int32), .int x2]) (σ' := v3.2) rfl ?_
      rcases wk_ife h with ⟨hc, h⟩ | ⟨hc, h⟩
      · refine wk_Hbt 38 rfl (wk_cne.2 hc) ?_
        refine wk_Hs 2 40 ⟨rfl, rfl⟩ (ls' := [.ref 0, .int x1, .int x2, .int v3.1, w4, w5, w6]) (st' := [.int v3.1, .int x2]) (σ' := v3.2) rfl ?_
        rcases wk_ife h with ⟨hc, h⟩ | ⟨hc, h⟩
        · refine wk_Hbt 43 rfl (wk_clt.2 hc) ?_
          refine wk_Hs 5 48 ⟨rfl, rfl⟩ (ls' := [.ref 0, .int x1, .int x2, .int v3.1, w4, w5, w6]) (st' := [.int ((18 : Int32) + x1), .ref 1]) (σ' := v3.2) rfl ?_
          obtain ⟨hg, h⟩ := wk_gdE h
          refine wk_Hia 49 rfl rfl rfl hg rfl ?_
          replace h := wk_letE h
          refine wk_Hs 3 52 ⟨rfl, rfl⟩ (ls' := [.ref 0, .int x1, .int x2, .int v3.1, .int (v3.2.1 1 (((18 : Int32) + x1).toNatClampNeg)), .int (1 : Int32), w6]) (st' := []) (σ' := v3.2) rfl ?_
          obtain ⟨v8, hv8, h⟩ := wk_bindE h
          refine tl_S_X12_home_52 wk_F hv8 ?_
          intro g9 g10 g11
          refine wk_Hs 1 85 ⟨rfl, rfl⟩ (ls' := [.ref 0, .int x1, .int x2, g9, .int v8.1, g10, g11]) (st' := [.int v8.1]) (σ' := v8.2) rfl ?_
          cases h
          exact wk_eqz hk (wk_Hret rfl)
        · refine wk_Hbf 43 41 rfl rfl (wk_nf wk_clt hc) ?_
          refine wk_Hs 1 42 ⟨rfl, rfl⟩ (ls' := [.ref 0, .int x1, .int x2, .int v3.1, w4, w5, w6]) (st' := [.int (-4 : Int32)]) (σ' := v3.2) rfl ?_
          cases h
          exact wk_eqz hk (wk_Hret rfl)
      · refine wk_Hbf 38 36 rfl rfl (wk_nf wk_cne hc) ?_
        refine wk_Hs 1 37 ⟨rfl, rfl⟩ (ls' := [.ref 0, .int x1, .int x2, .int v3.1, w4, w5, w6]) (st' := [.int v3.1]) (σ' := v3.2) rfl ?_
        cases h
        exact wk_eqz hk (wk_Hret rfl)
    · refine wk_Hbf 33 31 rfl rfl (wk_nf wk_cne hc) ?_
      refine wk_Hs 1 32 ⟨rfl, rfl⟩ (ls' := [.ref 0, .int x1, .int x2, .int v3.1, w4, w5, w6]) (st' := [.int (-2 : Int32)]) (σ' := v3.2) rfl ?_
      cases h
      exact wk_eqz hk (wk_Hret rfl)
  · refine wk_Hbf 24 22 rfl rfl (wk_nf wk_ceq hc) ?_
    refine wk_Hs 1 23 ⟨rfl, rfl⟩ (ls' := [.ref 0, .int x1, .int x2, w3, w4, w5, w6]) (st' := [.int (-3 : Int32)]) (σ' := s) rfl ?_
    cases h
    exact wk_eqz hk (wk_Hret rfl)
set_option maxHeartbeats 4000000 in
set_option maxRecDepth 20000 in
theorem t_X12_home {x1 : Int32} {x2 : Int32} {s : wk_St} {r : Int32 × wk_St} (h : f_X12_home x1 x2 s = some r) : wk_T wk_shM 2 114 [.ref 0, .int x1, .int x2] s (some (.int r.1), r.2) := by
  suffices H : ∀ z, z = (some (.int r.1), r.2) → wk_H wk_shM 2 mc_X12_home 0 [.ref 0, .int x1, .int x2, wk_U, wk_U, wk_U, wk_U] [] s z from H _ rfl
  intro z hk
  dsimp only [f_X12_home] at h
  refine wk_Hs 2 2 ⟨rfl, rfl⟩ (ls' := [.ref 0, .int x1, .int x2, wk_U, wk_U, wk_U, wk_U]) (st' := [.int x1, .ref 0]) (σ' := s) rfl ?_
  obtain ⟨v1, hv1, h⟩ := wk_bindE h
  refine wk_Hcall (i2 := 3) (args := [.ref 0, .int x1]) (rest := []) (r := some (.int (b2i v1))) (σ1 := s) rfl rfl ⟨rfl, rfl, rfl, rfl, rfl⟩ rfl ((t_X12_isKnight hv1).up (by decide)) ?_
  rcases wk_ife h with ⟨hc, h⟩ | ⟨hc, h⟩
  · refine wk_H0t 12 rfl (wk_zeq.2 hc) ?_
    refine wk_Hs 1 13 ⟨rfl, rfl⟩ (ls' := [.ref 0, .int x1, .int x2, wk_U, wk_U, wk_U, wk_U]) (st' := [.int (-1 : Int32)]) (σ' := s) rfl ?_
    cases h
    exact wk_eqz hk (wk_Hret rfl)
  · refine wk_H0f 12 4 rfl rfl (wk_nf wk_zeq hc) ?_
    refine wk_Hs 3 7 ⟨rfl, rfl⟩ (ls' := [.ref 0, .int x1, .int x2, wk_U, wk_U, wk_U, wk_U]) (st' := [.int (59 : Int32), .int (0 : Int32), .int x2]) (σ' := s) rfl ?_
    refine wk_Hcall (i2 := 8) (args := [.int x2, .int (0 : Int32), .int (59 : Int32)]) (rest := []) (r := some (.int (b2i (f_X12_in x2 (0 : Int32) (59 : Int32))))) (σ1 := s) rfl rfl ⟨rfl, rfl, rfl, rfl, rfl⟩ rfl ((t_X12_in rfl).up (by decide)) ?_
    rcases wk_ife h with ⟨hc, h⟩ | ⟨hc, h⟩
    · refine wk_H0t 14 rfl (wk_zne.2 hc) ?_
      exact tj_j_X12_home_14 h hk
    · refine wk_H0f 14 9 rfl rfl (wk_nf wk_zne hc) ?_
      refine wk_Hs 2 11 ⟨rfl, rfl⟩ (ls' := [.ref 0, .int x1, .int x2, wk_U, wk_U, wk_U, wk_U]) (st' := [.int (100 : Int32), .int x2]) (σ' := s) rfl ?_
      rcases wk_ife h with ⟨hc, h⟩ | ⟨hc, h⟩
      · refine wk_Hbt 14 rfl (wk_ceq.2 hc) ?_
        exact tj_j_X12_home_14 h hk
      · refine wk_Hbf 14 12 rfl rfl (wk_nf wk_ceq hc) ?_
        refine wk_Hs 1 13 ⟨rfl, rfl⟩ (ls' := [.ref 0, .int x1, .int x2, wk_U, wk_U, wk_U, wk_U]) (st' := [.int (-1 : Int32)]) (σ' := s) rfl ?_
        cases h
        exact wk_eqz hk (wk_Hret rfl)
set_option maxHeartbeats 4000000 in
set_option maxRecDepth 20000 in
theorem ts_S_X12_huntsIn_4 {x1 : Int32} {x2 : Int32} {x3 : Int32} {x4 : Int32} {s : wk_St} {z : wk_R} {o : (Int32) ⊕ (Int32 × Int32)} (h : S_X12_huntsIn_4 x1 x2 s (x3, x4) = some o) (hk : match (generalizing := false) o with | Sum.inl a => (∀ (u4 : Value), wk_H wk_shM 1 mc_X12_huntsIn 18 [.ref 0, .int x1, .int x2, .int a, u4] [] s z) | Sum.inr y => wk_H wk_shM 1 mc_X12_huntsIn 4 [.ref 0, .int x1, .int x2, .int y.1, .int y.2] [] s z) : wk_H wk_shM 1 mc_X12_huntsIn 4 [.ref 0, .int x1, .int x2, .int x3, .int x4] [] s z := by
  dsimp only [S_X12_huntsIn_4] at h
  refine wk_Hs 2 6 ⟨rfl, rfl⟩ (ls' := [.ref 0, .int x1, .int x2, .int x3, .int x4]) (st' := [.int x2, .int x4]) (σ' := s) rfl ?_
  rcases wk_ife h with ⟨hc, h⟩ | ⟨hc, h⟩
  · refine wk_Hbt 18 rfl (wk_cge.2 hc) ?_
    cases h
    exact hk _
  · refine wk_Hbf 18 7 rfl rfl (wk_nf wk_cge hc) ?_
    refine wk_Hs 3 10 ⟨rfl, rfl⟩ (ls' := [.ref 0, .int x1, .int x2, .int x3, .int x4]) (st' := [.int x4, .int x1, .ref 0]) (σ' := s) rfl ?_
    obtain ⟨v1, hv1, h⟩ := wk_bindE h
    refine wk_Hcall (i2 := 11) (args := [.ref 0, .int x1, .int x4]) (rest := []) (r := some (.int (b2i v1))) (σ1 := s) rfl rfl ⟨rfl, rfl, rfl, rfl, rfl⟩ rfl ((t_X12_isHunted hv1).up (by decide)) ?_
    rcases wk_ife h with ⟨hc, h⟩ | ⟨hc, h⟩
    · refine wk_H0t 16 rfl (wk_zeq.2 hc) ?_
      refine wk_Hs 1 17 ⟨rfl, rfl⟩ (ls' := [.ref 0, .int x1, .int x2, .int x3, .int (x4 + (1 : Int32))]) (st' := []) (σ' := s) rfl ?_
      refine wk_Hgoto (t := 4) rfl ?_
      cases h
      exact hk
    · refine wk_H0f 16 12 rfl rfl (wk_nf wk_zeq hc) ?_
      refine wk_Hs 3 15 ⟨rfl, rfl⟩ (ls' := [.ref 0, .int x1, .int x2, .int x3, .int x4]) (st' := [.int (x3 + (1 : Int32))]) (σ' := s) rfl ?_
      replace h := wk_letE h
      refine wk_Hs 2 17 ⟨rfl, rfl⟩ (ls' := [.ref 0, .int x1, .int x2, .int (x3 + (1 : Int32)), .int (x4 + (1 : Int32))]) (st' := []) (σ' := s) rfl ?_
      refine wk_Hgoto (t := 4) rfl ?_
      cases h
      exact hk
set_option maxHeartbeats 4000000 in
set_option maxRecDepth 20000 in
theorem tl_S_X12_huntsIn_4 {x1 : Int32} {x2 : Int32} {s : wk_St} {z : wk_R} (n : Nat) : ∀ {x3 : Int32} {x4 : Int32} {a : Int32} (h : wk_loop (S_X12_huntsIn_4 x1 x2 s) n (x3, x4) = some a) (hk : ∀ (u4 : Value), wk_H wk_shM 1 mc_X12_huntsIn 18 [.ref 0, .int x1, .int x2, .int a, u4] [] s z), wk_H wk_shM 1 mc_X12_huntsIn 4 [.ref 0, .int x1, .int x2, .int x3, .int x4] [] s z := by
  induction n with
  | zero =>
    intros
    rename_i h _
    exact nomatch (show (none : Option _) = some _ from h)
  | succ n ih =>
    intros
    rename_i h hk
    obtain ⟨o, ho, h⟩ := wk_bindE (show Option.bind _ _ = some _ from h)
    refine ts_S_X12_huntsIn_4 ho ?_
    cases o with
    | inl a1 =>
      cases h
      exact hk
    | inr p =>
      obtain ⟨p0, p1⟩ := p
      exact ih h hk
set_option maxHeartbeats 4000000 in
set_option maxRecDepth 20000 in
theorem t_X12_huntsIn {x1 : Int32} {x2 : Int32} {s : wk_St} {r : Int32} (h : f_X12_huntsIn x1 x2 s = some r) : wk_T wk_shM 1 115 [.ref 0, .int x1, .int x2] s (some (.int r), s) := by
  suffices H : ∀ z, z = (some (.int r), s) → wk_H wk_shM 1 mc_X12_huntsIn 0 [.ref 0, .int x1, .int x2, wk_U, wk_U] [] s z from H _ rfl
  intro z hk
  dsimp only [f_X12_huntsIn] at h
  refine wk_Hs 4 4 ⟨rfl, rfl⟩ (ls' := [.ref 0, .int x1, .int x2, .int (0 : Int32), .int (0 : Int32)]) (st' := []) (σ' := s) rfl ?_
  obtain ⟨v3, hv3, h⟩ := wk_bindE h
  refine tl_S_X12_huntsIn_4 wk_F hv3 ?_
  intro g4
  refine wk_Hs 1 19 ⟨rfl, rfl⟩ (ls' := [.ref 0, .int x1, .int x2, .int v3, g4]) (st' := [.int v3]) (σ' := s) rfl ?_
  cases h
  exact wk_eqz hk (wk_Hret rfl)
set_option maxHeartbeats 4000000 in
set_option maxRecDepth 20000 in
theorem ts_S_X12_safest_16 {x1 : Int32} {x2 : Int32} {x3 : Int32} {x4 : Int32} {s : wk_St} {z : wk_R} {o : (Int32) ⊕ (Int32 × Int32)} (h : S_X12_safest_16 x1 x2 s (x3, x4) = some o) (hk : match (generalizing := false) o with | Sum.inl a => (∀ (u4 : Value), wk_H wk_shM 2 mc_X12_safest 39 [.ref 0, .int x1, .int x2, .int a, u4] [] s z) | Sum.inr y => wk_H wk_shM 2 mc_X12_safest 16 [.ref 0, .int x1, .int x2, .int y.1, .int y.2] [] s z) : wk_H wk_shM 2 mc_X12_safest 16 [.ref 0, .int x1, .int x2, .int x3, .int x4] [] s z := by
  dsimp only [S_X12_safest_16] at h
  refine wk_Hs 2 18 ⟨rfl, rfl⟩ (ls' := [.ref 0, .int x1, .int x2, .int x3, .int x4]) (st' := [.int (12 : Int32), .int x4]) (σ' := s) rfl ?_
  rcases wk_ife h with ⟨hc, h⟩ | ⟨hc, h⟩
  · refine wk_Hbt 39 rfl (wk_cge.2 hc) ?_
    cases h
    exact hk _
  · refine wk_Hbf 39 19 rfl rfl (wk_nf wk_cge hc) ?_
    refine wk_Hs 2 21 ⟨rfl, rfl⟩ (ls' := [.ref 0, .int x1, .int x2, .int x3, .int x4]) (st' := [.int x4, .ref 0]) (σ' := s) rfl ?_
    refine wk_Hcall (i2 := 22) (args := [.ref 0, .int x4]) (rest := []) (r := some (.int (b2i (f_X12_isPlace x4 s)))) (σ1 := s) rfl rfl ⟨rfl, rfl, rfl, rfl, rfl⟩ rfl ((t_X12_isPlace rfl).up (by decide)) ?_
    rcases wk_ife h with ⟨hc, h⟩ | ⟨hc, h⟩
    · refine wk_H0t 37 rfl (wk_zeq.2 hc) ?_
      refine wk_Hs 1 38 ⟨rfl, rfl⟩ (ls' := [.ref 0, .int x1, .int x2, .int x3, .int (x4 + (1 : Int32))]) (st' := []) (σ' := s) rfl ?_
      refine wk_Hgoto (t := 16) rfl ?_
      cases h
      exact hk
    · refine wk_H0f 37 23 rfl rfl (wk_nf wk_zeq hc) ?_
      refine wk_Hs 2 25 ⟨rfl, rfl⟩ (ls' := [.ref 0, .int x1, .int x2, .int x3, .int x4]) (st' := [.int (-2 : Int32), .int x3]) (σ' := s) rfl ?_
      rcases wk_ife h with ⟨hc, h⟩ | ⟨hc, h⟩
      · refine wk_Hbt 35 rfl (wk_ceq.2 hc) ?_
        refine wk_Hs 3 38 ⟨rfl, rfl⟩ (ls' := [.ref 0, .int x1, .int x2, .int x4, .int (x4 + (1 : Int32))]) (st' := []) (σ' := s) rfl ?_
        refine wk_Hgoto (t := 16) rfl ?_
        cases h
        exact hk
      · refine wk_Hbf 35 26 rfl rfl (wk_nf wk_ceq hc) ?_
        refine wk_Hs 3 29 ⟨rfl, rfl⟩ (ls' := [.ref 0, .int x1, .int x2, .int x3, .int x4]) (st' := [.int x1, .int x4, .ref 0]) (σ' := s) rfl ?_
        obtain ⟨v4, hv4, h⟩ := wk_bindE h
        refine wk_Hcall (i2 := 30) (args := [.ref 0, .int x4, .int x1]) (rest := []) (r := some (.int v4)) (σ1 := s) rfl rfl ⟨rfl, rfl, rfl, rfl, rfl⟩ rfl ((t_X12_huntsIn hv4).up (by decide)) ?_
        refine wk_Hs 3 33 ⟨rfl, rfl⟩ (ls' := [.ref 0, .int x1, .int x2, .int x3, .int x4]) (st' := [.int x1, .int x3, .ref 0, .int v4]) (σ' := s) rfl ?_
        obtain ⟨v5, hv5, h⟩ := wk_bindE h
        refine wk_Hcall (i2 := 34) (args := [.ref 0, .int x3, .int x1]) (rest := [.int v4]) (r := some (.int v5)) (σ1 := s) rfl rfl ⟨rfl, rfl, rfl, rfl, rfl⟩ rfl ((t_X12_huntsIn hv5).up (by decide)) ?_
        rcases wk_ife h with ⟨hc, h⟩ | ⟨hc, h⟩
        · refine wk_Hbt 37 rfl (wk_cge.2 hc) ?_
          refine wk_Hs 1 38 ⟨rfl, rfl⟩ (ls' := [.ref 0, .int x1, .int x2, .int x3, .int (x4 + (1 : Int32))]) (st' := []) (σ' := s) rfl ?_
          refine wk_Hgoto (t := 16) rfl ?_
          cases h
          exact hk
        · refine wk_Hbf 37 35 rfl rfl (wk_nf wk_cge hc) ?_
          refine wk_Hs 3 38 ⟨rfl, rfl⟩ (ls' := [.ref 0, .int x1, .int x2, .int x4, .int (x4 + (1 : Int32))]) (st' := []) (σ' := s) rfl ?_
          refine wk_Hgoto (t := 16) rfl ?_
          cases h
          exact hk
set_option maxHeartbeats 4000000 in
set_option maxRecDepth 20000 in
theorem tl_S_X12_safest_16 {x1 : Int32} {x2 : Int32} {s : wk_St} {z : wk_R} (n : Nat) : ∀ {x3 : Int32} {x4 : Int32} {a : Int32} (h : wk_loop (S_X12_safest_16 x1 x2 s) n (x3, x4) = some a) (hk : ∀ (u4 : Value), wk_H wk_shM 2 mc_X12_safest 39 [.ref 0, .int x1, .int x2, .int a, u4] [] s z), wk_H wk_shM 2 mc_X12_safest 16 [.ref 0, .int x1, .int x2, .int x3, .int x4] [] s z := by
  induction n with
  | zero =>
    intros
    rename_i h _
    exact nomatch (show (none : Option _) = some _ from h)
  | succ n ih =>
    intros
    rename_i h hk
    obtain ⟨o, ho, h⟩ := wk_bindE (show Option.bind _ _ = some _ from h)
    refine ts_S_X12_safest_16 ho ?_
    cases o with
    | inl a1 =>
      cases h
      exact hk
    | inr p =>
      obtain ⟨p0, p1⟩ := p
      exact ih h hk
set_option maxHeartbeats 4000000 in
set_option maxRecDepth 20000 in
theorem t_X12_safest {x1 : Int32} {x2 : Int32} {s : wk_St} {r : Int32} (h : f_X12_safest x1 x2 s = some r) : wk_T wk_shM 2 116 [.ref 0, .int x1, .int x2] s (some (.int r), s) := by
  suffices H : ∀ z, z = (some (.int r), s) → wk_H wk_shM 2 mc_X12_safest 0 [.ref 0, .int x1, .int x2, wk_U, wk_U] [] s z from H _ rfl
  intro z hk
  dsimp only [f_X12_safest] at h
  refine wk_Hs 3 3 ⟨rfl, rfl⟩ (ls' := [.ref 0, .int x1, .int x2, wk_U, wk_U]) (st' := [.int (240 : Int32), .int (1 : Int32), .int x1]) (σ' := s) rfl ?_
  refine wk_Hcall (i2 := 4) (args := [.int x1, .int (1 : Int32), .int (240 : Int32)]) (rest := []) (r := some (.int (b2i (f_X12_in x1 (1 : Int32) (240 : Int32))))) (σ1 := s) rfl rfl ⟨rfl, rfl, rfl, rfl, rfl⟩ rfl ((t_X12_in rfl).up (by decide)) ?_
  rcases wk_ife h with ⟨hc, h⟩ | ⟨hc, h⟩
  · refine wk_H0t 10 rfl (wk_zeq.2 hc) ?_
    refine wk_Hs 1 11 ⟨rfl, rfl⟩ (ls' := [.ref 0, .int x1, .int x2, wk_U, wk_U]) (st' := [.int (-1 : Int32)]) (σ' := s) rfl ?_
    cases h
    exact wk_eqz hk (wk_Hret rfl)
  · refine wk_H0f 10 5 rfl rfl (wk_nf wk_zeq hc) ?_
    refine wk_Hs 3 8 ⟨rfl, rfl⟩ (ls' := [.ref 0, .int x1, .int x2, wk_U, wk_U]) (st' := [.int (1 : Int32), .int (0 : Int32), .int x2]) (σ' := s) rfl ?_
    refine wk_Hcall (i2 := 9) (args := [.int x2, .int (0 : Int32), .int (1 : Int32)]) (rest := []) (r := some (.int (b2i (f_X12_in x2 (0 : Int32) (1 : Int32))))) (σ1 := s) rfl rfl ⟨rfl, rfl, rfl, rfl, rfl⟩ rfl ((t_X12_in rfl).up (by decide)) ?_
    rcases wk_ife h with ⟨hc, h⟩ | ⟨hc, h⟩
    · refine wk_H0t 12 rfl (wk_zne.2 hc) ?_
      refine wk_Hs 4 16 ⟨rfl, rfl⟩ (ls' := [.ref 0, .int x1, .int x2, .int (-2 : Int32), .int (0 : Int32)]) (st' := []) (σ' := s) rfl ?_
      obtain ⟨v6, hv6, h⟩ := wk_bindE h
      refine tl_S_X12_safest_16 wk_F hv6 ?_
      intro g7
      refine wk_Hs 1 40 ⟨rfl, rfl⟩ (ls' := [.ref 0, .int x1, .int x2, .int v6, g7]) (st' := [.int x2]) (σ' := s) rfl ?_
      rcases wk_ife h with ⟨hc, h⟩ | ⟨hc, h⟩
      · refine wk_H0t 44 rfl (wk_ceq.2 hc) ?_
        refine wk_Hs 1 45 ⟨rfl, rfl⟩ (ls' := [.ref 0, .int x1, .int x2, .int v6, g7]) (st' := [.int v6]) (σ' := s) rfl ?_
        refine wk_Hgoto (t := 50) rfl ?_
        cases h
        exact wk_eqz hk (wk_Hret rfl)
      · refine wk_H0f 44 41 rfl rfl (wk_nf wk_ceq hc) ?_
        refine wk_Hs 2 43 ⟨rfl, rfl⟩ (ls' := [.ref 0, .int x1, .int x2, .int v6, g7]) (st' := [.int (-2 : Int32), .int v6]) (σ' := s) rfl ?_
        rcases wk_ife h with ⟨hc, h⟩ | ⟨hc, h⟩
        · refine wk_Hbt 46 rfl (wk_cne.2 hc) ?_
          refine wk_Hs 3 49 ⟨rfl, rfl⟩ (ls' := [.ref 0, .int x1, .int x2, .int v6, g7]) (st' := [.int x1, .int v6, .ref 0]) (σ' := s) rfl ?_
          obtain ⟨v8, hv8, h⟩ := wk_bindE h
          refine wk_Hcall (i2 := 50) (args := [.ref 0, .int v6, .int x1]) (rest := []) (r := some (.int v8)) (σ1 := s) rfl rfl ⟨rfl, rfl, rfl, rfl, rfl⟩ rfl ((t_X12_huntsIn hv8).up (by decide)) ?_
          cases h
          exact wk_eqz hk (wk_Hret rfl)
        · refine wk_Hbf 46 44 rfl rfl (wk_nf wk_cne hc) ?_
          refine wk_Hs 1 45 ⟨rfl, rfl⟩ (ls' := [.ref 0, .int x1, .int x2, .int v6, g7]) (st' := [.int v6]) (σ' := s) rfl ?_
          refine wk_Hgoto (t := 50) rfl ?_
          cases h
          exact wk_eqz hk (wk_Hret rfl)
    · refine wk_H0f 12 10 rfl rfl (wk_nf wk_zne hc) ?_
      refine wk_Hs 1 11 ⟨rfl, rfl⟩ (ls' := [.ref 0, .int x1, .int x2, wk_U, wk_U]) (st' := [.int (-1 : Int32)]) (σ' := s) rfl ?_
      cases h
      exact wk_eqz hk (wk_Hret rfl)
set_option maxHeartbeats 4000000 in
set_option maxRecDepth 20000 in
theorem ts_S_X12_calm_25 {x1 : Int32} {x2 : Int32} {x3 : Int32} {x4 : Int32} {x5 : Int32} {x6 : Int32} {x7 : Int32} {s : wk_St} {z : wk_R} {o : (Int32) ⊕ (Int32 × Int32)} (h : S_X12_calm_25 x1 x2 x3 x4 x5 s (x6, x7) = some o) (hk : match (generalizing := false) o with | Sum.inl a => (∀ (u7 : Value), wk_H wk_shM 3 mc_X12_calm 51 [.ref 0, .int x1, .int x2, .int x3, .int x4, .int x5, .int a, u7] [] s z) | Sum.inr y => wk_H wk_shM 3 mc_X12_calm 25 [.ref 0, .int x1, .int x2, .int x3, .int x4, .int x5, .int y.1, .int y.2] [] s z) : wk_H wk_shM 3 mc_X12_calm 25 [.ref 0, .int x1, .int x2, .int x3, .int x4, .int x5, .int x6, .int x7] [] s z := by
  dsimp only [S_X12_calm_25] at h
  refine wk_Hs 2 27 ⟨rfl, rfl⟩ (ls' := [.ref 0, .int x1, .int x2, .int x3, .int x4, .int x5, .int x6, .int x7]) (st' := [.int (9 : Int32), .int x7]) (σ' := s) rfl ?_
  rcases wk_ife h with ⟨hc, h⟩ | ⟨hc, h⟩
  · refine wk_Hbt 51 rfl (wk_cge.2 hc) ?_
    cases h
    exact hk _
  · refine wk_Hbf 51 28 rfl rfl (wk_nf wk_cge hc) ?_
    refine wk_Hs 1 29 ⟨rfl, rfl⟩ (ls' := [.ref 0, .int x1, .int x2, .int x3, .int x4, .int x5, .int x6, .int x7]) (st' := [.int x6]) (σ' := s) rfl ?_
    rcases wk_ife h with ⟨hc, h⟩ | ⟨hc, h⟩
    · refine wk_H0t 45 rfl (wk_cne.2 hc) ?_
      refine wk_Hs 1 46 ⟨rfl, rfl⟩ (ls' := [.ref 0, .int x1, .int x2, .int x3, .int x4, .int x5, .int x6, .int x7]) (st' := [.int (1 : Int32)]) (σ' := s) rfl ?_
      refine wk_Hgoto (t := 48) rfl ?_
      refine wk_Hs 2 50 ⟨rfl, rfl⟩ (ls' := [.ref 0, .int x1, .int x2, .int x3, .int x4, .int x5, .int (1 : Int32), .int (x7 + (1 : Int32))]) (st' := []) (σ' := s) rfl ?_
      refine wk_Hgoto (t := 25) rfl ?_
      cases h
      exact hk
    · refine wk_H0f 45 30 rfl rfl (wk_nf wk_cne hc) ?_
      refine wk_Hs 2 32 ⟨rfl, rfl⟩ (ls' := [.ref 0, .int x1, .int x2, .int x3, .int x4, .int x5, .int x6, .int x7]) (st' := [.int x7, .ref 0]) (σ' := s) rfl ?_
      obtain ⟨v3, hv3, h⟩ := wk_bindE h
      refine wk_Hcall (i2 := 33) (args := [.ref 0, .int x7]) (rest := []) (r := some (.int (b2i v3))) (σ1 := s) rfl rfl ⟨rfl, rfl, rfl, rfl, rfl⟩ rfl ((t_X12_isLiving hv3).up (by decide)) ?_
      rcases wk_ife h with ⟨hc, h⟩ | ⟨hc, h⟩
      · refine wk_H0t 47 rfl (wk_zeq.2 hc) ?_
        refine wk_Hs 3 50 ⟨rfl, rfl⟩ (ls' := [.ref 0, .int x1, .int x2, .int x3, .int x4, .int x5, .int (0 : Int32), .int (x7 + (1 : Int32))]) (st' := []) (σ' := s) rfl ?_
        refine wk_Hgoto (t := 25) rfl ?_
        cases h
        exact hk
      · refine wk_H0f 47 34 rfl rfl (wk_nf wk_zeq hc) ?_
        refine wk_Hs 5 39 ⟨rfl, rfl⟩ (ls' := [.ref 0, .int x1, .int x2, .int x3, .int x4, .int x5, .int x6, .int x7]) (st' := [.int ((9 : Int32) + x7), .ref 1]) (σ' := s) rfl ?_
        obtain ⟨hg, h⟩ := wk_gdE h
        refine wk_Hia 40 rfl rfl rfl hg rfl ?_
        refine wk_Hs 2 42 ⟨rfl, rfl⟩ (ls' := [.ref 0, .int x1, .int x2, .int x3, .int x4, .int x5, .int x6, .int x7]) (st' := [.int x5, .ref 0, .int (s.1 1 (((9 : Int32) + x7).toNatClampNeg))]) (σ' := s) rfl ?_
        refine wk_Hcall (i2 := 43) (args := [.ref 0, .int x5]) (rest := [.int (s.1 1 (((9 : Int32) + x7).toNatClampNeg))]) (r := some (.int (f_X12_weekdayIn x5 s))) (σ1 := s) rfl rfl ⟨rfl, rfl, rfl, rfl, rfl⟩ rfl ((t_X12_weekdayIn rfl).up (by decide)) ?_
        refine wk_Hcall (i2 := 44) (args := [.int (s.1 1 (((9 : Int32) + x7).toNatClampNeg)), .int (f_X12_weekdayIn x5 s)]) (rest := []) (r := some (.int (b2i (f_X12_has (s.1 1 (((9 : Int32) + x7).toNatClampNeg)) (f_X12_weekdayIn x5 s))))) (σ1 := s) rfl rfl ⟨rfl, rfl, rfl, rfl, rfl⟩ rfl ((t_X12_has rfl).up (by decide)) ?_
        rcases wk_ife h with ⟨hc, h⟩ | ⟨hc, h⟩
        · refine wk_H0t 47 rfl (wk_zeq.2 hc) ?_
          refine wk_Hs 3 50 ⟨rfl, rfl⟩ (ls' := [.ref 0, .int x1, .int x2, .int x3, .int x4, .int x5, .int (0 : Int32), .int (x7 + (1 : Int32))]) (st' := []) (σ' := s) rfl ?_
          refine wk_Hgoto (t := 25) rfl ?_
          cases h
          exact hk
        · refine wk_H0f 47 45 rfl rfl (wk_nf wk_zeq hc) ?_
          refine wk_Hs 1 46 ⟨rfl, rfl⟩ (ls' := [.ref 0, .int x1, .int x2, .int x3, .int x4, .int x5, .int x6, .int x7]) (st' := [.int (1 : Int32)]) (σ' := s) rfl ?_
          refine wk_Hgoto (t := 48) rfl ?_
          refine wk_Hs 2 50 ⟨rfl, rfl⟩ (ls' := [.ref 0, .int x1, .int x2, .int x3, .int x4, .int x5, .int (1 : Int32), .int (x7 + (1 : Int32))]) (st' := []) (σ' := s) rfl ?_
          refine wk_Hgoto (t := 25) rfl ?_
          cases h
          exact hk
set_option maxHeartbeats 4000000 in
set_option maxRecDepth 20000 in
theorem tl_S_X12_calm_25 {x1 : Int32} {x2 : Int32} {x3 : Int32} {x4 : Int32} {x5 : Int32} {s : wk_St} {z : wk_R} (n : Nat) : ∀ {x6 : Int32} {x7 : Int32} {a : Int32} (h : wk_loop (S_X12_calm_25 x1 x2 x3 x4 x5 s) n (x6, x7) = some a) (hk : ∀ (u7 : Value), wk_H wk_shM 3 mc_X12_calm 51 [.ref 0, .int x1, .int x2, .int x3, .int x4, .int x5, .int a, u7] [] s z), wk_H wk_shM 3 mc_X12_calm 25 [.ref 0, .int x1, .int x2, .int x3, .int x4, .int x5, .int x6, .int x7] [] s z := by
  induction n with
  | zero =>
    intros
    rename_i h _
    exact nomatch (show (none : Option _) = some _ from h)
  | succ n ih =>
    intros
    rename_i h hk
    obtain ⟨o, ho, h⟩ := wk_bindE (show Option.bind _ _ = some _ from h)
    refine ts_S_X12_calm_25 ho ?_
    cases o with
    | inl a1 =>
      cases h
      exact hk
    | inr p =>
      obtain ⟨p0, p1⟩ := p
      exact ih h hk
set_option maxHeartbeats 4000000 in
set_option maxRecDepth 20000 in
theorem ts_S_X12_calm_18 {x1 : Int32} {x2 : Int32} {x3 : Int32} {x4 : Int32} {x5 : Int32} {w6 : Value} {w7 : Value} {s : wk_St} {z : wk_R} {o : (Int32 × Int32) ⊕ (Int32 × Int32 × Int32)} (h : S_X12_calm_18 x1 x2 s (x3, x4, x5) = some o) (hk : match (generalizing := false) o with | Sum.inl a => (∀ (u5 u6 u7 : Value), wk_H wk_shM 3 mc_X12_calm 65 [.ref 0, .int x1, .int x2, .int a.1, .int a.2, u5, u6, u7] [] s z) | Sum.inr y => ∀ (u6 u7 : Value), wk_H wk_shM 3 mc_X12_calm 18 [.ref 0, .int x1, .int x2, .int y.1, .int y.2.1, .int y.2.2, u6, u7] [] s z) : wk_H wk_shM 3 mc_X12_calm 18 [.ref 0, .int x1, .int x2, .int x3, .int x4, .int x5, w6, w7] [] s z := by
  dsimp only [S_X12_calm_18] at h
  refine wk_Hs 2 20 ⟨rfl, rfl⟩ (ls' := [.ref 0, .int x1, .int x2, .int x3, .int x4, .int x5, w6, w7]) (st' := [.int x1, .int x5]) (σ' := s) rfl ?_
  rcases wk_ife h with ⟨hc, h⟩ | ⟨hc, h⟩
  · refine wk_Hbt 65 rfl (wk_cge.2 hc) ?_
    cases h
    exact hk _ _ _
  · refine wk_Hbf 65 21 rfl rfl (wk_nf wk_cge hc) ?_
    refine wk_Hs 4 25 ⟨rfl, rfl⟩ (ls' := [.ref 0, .int x1, .int x2, .int x3, .int x4, .int x5, .int (0 : Int32), .int (0 : Int32)]) (st' := []) (σ' := s) rfl ?_
    obtain ⟨v6, hv6, h⟩ := wk_bindE h
    refine tl_S_X12_calm_25 wk_F hv6 ?_
    intro g7
    refine wk_Hs 1 52 ⟨rfl, rfl⟩ (ls' := [.ref 0, .int x1, .int x2, .int x3, .int x4, .int x5, .int v6, g7]) (st' := [.int v6]) (σ' := s) rfl ?_
    rcases wk_ife h with ⟨hc, h⟩ | ⟨hc, h⟩
    · refine wk_H0t 54 rfl (wk_ceq.2 hc) ?_
      refine wk_Hs 3 57 ⟨rfl, rfl⟩ (ls' := [.ref 0, .int x1, .int x2, .int x3, .int x4, .int x5, .int v6, g7]) (st' := [.int (x3 + (1 : Int32))]) (σ' := s) rfl ?_
      replace h := wk_letE h
      refine wk_Hs 3 60 ⟨rfl, rfl⟩ (ls' := [.ref 0, .int x1, .int x2, .int (x3 + (1 : Int32)), .int x4, .int x5, .int v6, g7]) (st' := [.int (-2 : Int32), .int x4]) (σ' := s) rfl ?_
      rcases wk_ife h with ⟨hc, h⟩ | ⟨hc, h⟩
      · refine wk_Hbt 63 rfl (wk_cne.2 hc) ?_
        refine wk_Hs 1 64 ⟨rfl, rfl⟩ (ls' := [.ref 0, .int x1, .int x2, .int (x3 + (1 : Int32)), .int x4, .int (x5 + (1 : Int32)), .int v6, g7]) (st' := []) (σ' := s) rfl ?_
        refine wk_Hgoto (t := 18) rfl ?_
        cases h
        exact hk _ _
      · refine wk_Hbf 63 61 rfl rfl (wk_nf wk_cne hc) ?_
        refine wk_Hs 3 64 ⟨rfl, rfl⟩ (ls' := [.ref 0, .int x1, .int x2, .int (x3 + (1 : Int32)), .int x5, .int (x5 + (1 : Int32)), .int v6, g7]) (st' := []) (σ' := s) rfl ?_
        refine wk_Hgoto (t := 18) rfl ?_
        cases h
        exact hk _ _
    · refine wk_H0f 54 53 rfl rfl (wk_nf wk_ceq hc) ?_
      refine wk_Hgoto (t := 63) rfl ?_
      refine wk_Hs 1 64 ⟨rfl, rfl⟩ (ls' := [.ref 0, .int x1, .int x2, .int x3, .int x4, .int (x5 + (1 : Int32)), .int v6, g7]) (st' := []) (σ' := s) rfl ?_
      refine wk_Hgoto (t := 18) rfl ?_
      cases h
      exact hk _ _
