set_option maxHeartbeats 4000000 in
set_option maxRecDepth 20000 in
theorem ts_S_X9_bootsBits_4 {x1 : Int32} {x2 : Int32} {s : wk_St} {z : wk_R} {o : (Int32) ⊕ (Int32 × Int32)} (h : S_X9_bootsBits_4 s (x1, x2) = some o) (hk : match (generalizing := false) o with | Sum.inl a => (∀ (u2 : Value), wk_H wk_shC 0 mc_X9_bootsBits 24 [.ref 25, .int a, u2] [] s z) | Sum.inr y => wk_H wk_shC 0 mc_X9_bootsBits 4 [.ref 25, .int y.1, .int y.2] [] s z) : wk_H wk_shC 0 mc_X9_bootsBits 4 [.ref 25, .int x1, .int x2] [] s z := by
  dsimp only [S_X9_bootsBits_4] at h
  refine wk_Hs 2 6 ⟨rfl, rfl⟩ (ls' := [.ref 25, .int x1, .int x2]) (st' := [.int (12 : Int32), .int x2]) (σ' := s) rfl ?_
  rcases wk_ife h with ⟨hc, h⟩ | ⟨hc, h⟩
  · refine wk_Hbt 24 rfl (wk_cge.2 hc) ?_
    cases h
    exact hk _
  · refine wk_Hbf 24 7 rfl rfl (wk_nf wk_cge hc) ?_
    refine wk_Hs 4 11 ⟨rfl, rfl⟩ (ls' := [.ref 25, .int x1, .int x2]) (st' := [.int x2, .ref 29, .int x1]) (σ' := s) rfl ?_
    obtain ⟨hg, h⟩ := wk_gdE h
    refine wk_Hla 12 rfl rfl rfl hg rfl ?_
    refine wk_Hs 2 14 ⟨rfl, rfl⟩ (ls' := [.ref 25, .int x1, .int x2]) (st' := [.int (wk_lcmp (s.2 29 (x2.toNatClampNeg)) (0 : Int64)), .int x1]) (σ' := s) rfl ?_
    rcases wk_ife h with ⟨hc, h⟩ | ⟨hc, h⟩
    · refine wk_H0t 19 rfl (wk_cle.2 hc) ?_
      refine wk_Hs 2 21 ⟨rfl, rfl⟩ (ls' := [.ref 25, .int x1, .int x2]) (st' := [.int (x1 ||| (0 : Int32))]) (σ' := s) rfl ?_
      replace h := wk_letE h
      refine wk_Hs 2 23 ⟨rfl, rfl⟩ (ls' := [.ref 25, .int (x1 ||| (0 : Int32)), .int (x2 + (1 : Int32))]) (st' := []) (σ' := s) rfl ?_
      refine wk_Hgoto (t := 4) rfl ?_
      cases h
      exact hk
    · refine wk_H0f 19 15 rfl rfl (wk_nf wk_cle hc) ?_
      refine wk_Hs 3 18 ⟨rfl, rfl⟩ (ls' := [.ref 25, .int x1, .int x2]) (st' := [.int ((1 : Int32) <<< (x2 &&& 31)), .int x1]) (σ' := s) rfl ?_
      refine wk_Hgoto (t := 20) rfl ?_
      refine wk_Hs 1 21 ⟨rfl, rfl⟩ (ls' := [.ref 25, .int x1, .int x2]) (st' := [.int (x1 ||| ((1 : Int32) <<< (x2 &&& 31)))]) (σ' := s) rfl ?_
      replace h := wk_letE h
      refine wk_Hs 2 23 ⟨rfl, rfl⟩ (ls' := [.ref 25, .int (x1 ||| ((1 : Int32) <<< (x2 &&& 31))), .int (x2 + (1 : Int32))]) (st' := []) (σ' := s) rfl ?_
      refine wk_Hgoto (t := 4) rfl ?_
      cases h
      exact hk
set_option maxHeartbeats 4000000 in
set_option maxRecDepth 20000 in
theorem tl_S_X9_bootsBits_4 {s : wk_St} {z : wk_R} (n : Nat) : ∀ {x1 : Int32} {x2 : Int32} {a : Int32} (h : wk_loop (S_X9_bootsBits_4 s) n (x1, x2) = some a) (hk : ∀ (u2 : Value), wk_H wk_shC 0 mc_X9_bootsBits 24 [.ref 25, .int a, u2] [] s z), wk_H wk_shC 0 mc_X9_bootsBits 4 [.ref 25, .int x1, .int x2] [] s z := by
  induction n with
  | zero =>
    intros
    rename_i h _
    exact nomatch (show (none : Option _) = some _ from h)
  | succ n ih =>
    intros
    rename_i h hk
    obtain ⟨o, ho, h⟩ := wk_bindE (show Option.bind _ _ = some _ from h)
    refine ts_S_X9_bootsBits_4 ho ?_
    cases o with
    | inl a1 =>
      cases h
      exact hk
    | inr p =>
      obtain ⟨p0, p1⟩ := p
      exact ih h hk
set_option maxHeartbeats 4000000 in
set_option maxRecDepth 20000 in
theorem t_X9_bootsBits {s : wk_St} {r : Int32} (h : f_X9_bootsBits s = some r) : wk_T wk_shC 0 245 [.ref 25] s (some (.int r), s) := by
  suffices H : ∀ z, z = (some (.int r), s) → wk_H wk_shC 0 mc_X9_bootsBits 0 [.ref 25, wk_U, wk_U] [] s z from H _ rfl
  intro z hk
  dsimp only [f_X9_bootsBits] at h
  refine wk_Hs 4 4 ⟨rfl, rfl⟩ (ls' := [.ref 25, .int (0 : Int32), .int (0 : Int32)]) (st' := []) (σ' := s) rfl ?_
  obtain ⟨v3, hv3, h⟩ := wk_bindE h
  refine tl_S_X9_bootsBits_4 wk_F hv3 ?_
  intro g4
  refine wk_Hs 1 25 ⟨rfl, rfl⟩ (ls' := [.ref 25, .int v3, g4]) (st' := [.int v3]) (σ' := s) rfl ?_
  cases h
  exact wk_eqz hk (wk_Hret rfl)
set_option maxHeartbeats 4000000 in
set_option maxRecDepth 20000 in
theorem ts_S_X9_bootsWays_4 {x1 : Int64} {x3 : Int32} {w2 : Value} {s : wk_St} {z : wk_R} {o : (Int64) ⊕ (Int64 × Int32)} (h : S_X9_bootsWays_4 s (x1, x3) = some o) (hk : match (generalizing := false) o with | Sum.inl a => (∀ (u2 u3 : Value), wk_H wk_shC 1 mc_X9_bootsWays 16 [.ref 25, .long a, u2, u3] [] s z) | Sum.inr y => ∀ (u2 : Value), wk_H wk_shC 1 mc_X9_bootsWays 4 [.ref 25, .long y.1, u2, .int y.2] [] s z) : wk_H wk_shC 1 mc_X9_bootsWays 4 [.ref 25, .long x1, w2, .int x3] [] s z := by
  dsimp only [S_X9_bootsWays_4] at h
  refine wk_Hs 2 6 ⟨rfl, rfl⟩ (ls' := [.ref 25, .long x1, w2, .int x3]) (st' := [.int (12 : Int32), .int x3]) (σ' := s) rfl ?_
  rcases wk_ife h with ⟨hc, h⟩ | ⟨hc, h⟩
  · refine wk_Hbt 16 rfl (wk_cge.2 hc) ?_
    cases h
    exact hk _ _
  · refine wk_Hbf 16 7 rfl rfl (wk_nf wk_cge hc) ?_
    refine wk_Hs 4 11 ⟨rfl, rfl⟩ (ls' := [.ref 25, .long x1, w2, .int x3]) (st' := [.int x3, .ref 29, .long x1]) (σ' := s) rfl ?_
    obtain ⟨hg, h⟩ := wk_gdE h
    refine wk_Hla 12 rfl rfl rfl hg rfl ?_
    refine wk_Hs 1 13 ⟨rfl, rfl⟩ (ls' := [.ref 25, .long x1, w2, .int x3]) (st' := [.long (x1 + (s.2 29 (x3.toNatClampNeg)))]) (σ' := s) rfl ?_
    replace h := wk_letE h
    refine wk_Hs 2 15 ⟨rfl, rfl⟩ (ls' := [.ref 25, .long (x1 + (s.2 29 (x3.toNatClampNeg))), wk_U, .int (x3 + (1 : Int32))]) (st' := []) (σ' := s) rfl ?_
    refine wk_Hgoto (t := 4) rfl ?_
    cases h
    exact hk _
set_option maxHeartbeats 4000000 in
set_option maxRecDepth 20000 in
theorem tl_S_X9_bootsWays_4 {s : wk_St} {z : wk_R} (n : Nat) : ∀ {x1 : Int64} {x3 : Int32} {w2 : Value} {a : Int64} (h : wk_loop (S_X9_bootsWays_4 s) n (x1, x3) = some a) (hk : ∀ (u2 u3 : Value), wk_H wk_shC 1 mc_X9_bootsWays 16 [.ref 25, .long a, u2, u3] [] s z), wk_H wk_shC 1 mc_X9_bootsWays 4 [.ref 25, .long x1, w2, .int x3] [] s z := by
  induction n with
  | zero =>
    intros
    rename_i h _
    exact nomatch (show (none : Option _) = some _ from h)
  | succ n ih =>
    intros
    rename_i h hk
    obtain ⟨o, ho, h⟩ := wk_bindE (show Option.bind _ _ = some _ from h)
    refine ts_S_X9_bootsWays_4 ho ?_
    cases o with
    | inl a1 =>
      cases h
      exact hk
    | inr p =>
      obtain ⟨p0, p1⟩ := p
      exact fun _ => ih h hk
set_option maxHeartbeats 4000000 in
set_option maxRecDepth 20000 in
theorem t_X9_bootsWays {s : wk_St} {r : Int32} (h : f_X9_bootsWays s = some r) : wk_T wk_shC 1 246 [.ref 25] s (some (.int r), s) := by
  suffices H : ∀ z, z = (some (.int r), s) → wk_H wk_shC 1 mc_X9_bootsWays 0 [.ref 25, wk_U, wk_U, wk_U] [] s z from H _ rfl
  intro z hk
  dsimp only [f_X9_bootsWays] at h
  refine wk_Hs 4 4 ⟨rfl, rfl⟩ (ls' := [.ref 25, .long (0 : Int64), wk_U, .int (0 : Int32)]) (st' := []) (σ' := s) rfl ?_
  obtain ⟨v2, hv2, h⟩ := wk_bindE h
  refine tl_S_X9_bootsWays_4 wk_F hv2 ?_
  intro g3 g4
  refine wk_Hs 2 18 ⟨rfl, rfl⟩ (ls' := [.ref 25, .long v2, g3, g4]) (st' := [.long (1000000000 : Int64), .long v2]) (σ' := s) rfl ?_
  refine wk_Hcall (i2 := 19) (args := [.long v2, .long (1000000000 : Int64)]) (rest := []) (r := some (.long (f_J9_min_f86c9 v2 (1000000000 : Int64)))) (σ1 := s) rfl rfl ⟨rfl, rfl, rfl, rfl, rfl⟩ rfl ((t_J9_min_f86c9 rfl).up (by decide)) ?_
  refine wk_Hs 1 20 ⟨rfl, rfl⟩ (ls' := [.ref 25, .long v2, g3, g4]) (st' := [.int ((f_J9_min_f86c9 v2 (1000000000 : Int64)).toInt32)]) (σ' := s) rfl ?_
  cases h
  exact wk_eqz hk (wk_Hret rfl)
set_option maxHeartbeats 4000000 in
set_option maxRecDepth 20000 in
theorem t_X11_boots {x1 : Int32} {x2 : Int32} {x3 : Int32} {s : wk_St} {r : Int32 × wk_St} (h : f_X11_boots x1 x2 x3 s = some r) : wk_T wk_shC 4 22 [.ref 0, .int x1, .int x2, .int x3] s (some (.int r.1), r.2) := by
  suffices H : ∀ z, z = (some (.int r.1), r.2) → wk_H wk_shC 4 mc_X11_boots 0 [.ref 0, .int x1, .int x2, .int x3, wk_U] [] s z from H _ rfl
  intro z hk
  dsimp only [f_X11_boots] at h
  refine wk_Hs 3 3 ⟨rfl, rfl⟩ (ls' := [.ref 0, .int x1, .int x2, .int x3, wk_U]) (st' := [.int x1, .ref 3]) (σ' := s) rfl ?_
  refine wk_Hcall (i2 := 4) (args := [.ref 3, .int x1]) (rest := []) (r := some (.int (b2i (f_X2_isTold x1 s)))) (σ1 := s) rfl rfl ⟨rfl, rfl, rfl, rfl, rfl⟩ rfl ((t_X2_isTold rfl).up (by decide)) ?_
  rcases wk_ife h with ⟨hc, h⟩ | ⟨hc, h⟩
  · refine wk_H0t 17 rfl (wk_zeq.2 hc) ?_
    refine wk_Hs 1 18 ⟨rfl, rfl⟩ (ls' := [.ref 0, .int x1, .int x2, .int x3, wk_U]) (st' := [.int (-1 : Int32)]) (σ' := s) rfl ?_
    cases h
    exact wk_eqz hk (wk_Hret rfl)
  · refine wk_H0f 17 5 rfl rfl (wk_nf wk_zeq hc) ?_
    refine wk_Hs 5 10 ⟨rfl, rfl⟩ (ls' := [.ref 0, .int x1, .int x2, .int x3, wk_U]) (st' := [.int (20 : Int32), .int (1 : Int32), .int x2, .ref 1]) (σ' := s) rfl ?_
    refine wk_Hcall (i2 := 11) (args := [.ref 1, .int x2, .int (1 : Int32), .int (20 : Int32)]) (rest := []) (r := some (.int (b2i (f_X8_has x2 (1 : Int32) (20 : Int32) s)))) (σ1 := s) rfl rfl ⟨rfl, rfl, rfl, rfl, rfl⟩ rfl ((t_X8_has rfl).up (by decide)) ?_
    rcases wk_ife h with ⟨hc, h⟩ | ⟨hc, h⟩
    · refine wk_H0t 17 rfl (wk_zeq.2 hc) ?_
      refine wk_Hs 1 18 ⟨rfl, rfl⟩ (ls' := [.ref 0, .int x1, .int x2, .int x3, wk_U]) (st' := [.int (-1 : Int32)]) (σ' := s) rfl ?_
      cases h
      exact wk_eqz hk (wk_Hret rfl)
    · refine wk_H0f 17 12 rfl rfl (wk_nf wk_zeq hc) ?_
      refine wk_Hs 3 15 ⟨rfl, rfl⟩ (ls' := [.ref 0, .int x1, .int x2, .int x3, wk_U]) (st' := [.int (1 : Int32), .int (0 : Int32), .int x3]) (σ' := s) rfl ?_
      refine wk_Hcall (i2 := 16) (args := [.int x3, .int (0 : Int32), .int (1 : Int32)]) (rest := []) (r := some (.int (b2i (f_X11_isWithin x3 (0 : Int32) (1 : Int32))))) (σ1 := s) rfl rfl ⟨rfl, rfl, rfl, rfl, rfl⟩ rfl ((t_X11_isWithin rfl).up (by decide)) ?_
      rcases wk_ife h with ⟨hc, h⟩ | ⟨hc, h⟩
      · refine wk_H0t 19 rfl (wk_zne.2 hc) ?_
        refine wk_Hs 8 27 ⟨rfl, rfl⟩ (ls' := [.ref 0, .int x1, .int x2, .int x3, wk_U]) (st' := [.ref 3, .ref 1, .int x2, .int x1, .ref 25]) (σ' := s) rfl ?_
        obtain ⟨v4, hv4, h⟩ := wk_bindE h
        refine wk_Hcall (i2 := 28) (args := [.ref 25, .int x1, .int x2, .ref 1, .ref 3]) (rest := []) (r := some (.int v4.1)) (σ1 := v4.2) rfl rfl ⟨rfl, rfl, rfl, rfl, rfl⟩ rfl ((t_X9_followBoots hv4).up (by decide)) ?_
        refine wk_Hs 3 31 ⟨rfl, rfl⟩ (ls' := [.ref 0, .int x1, .int x2, .int x3, .int v4.1]) (st' := [.ref 1]) (σ' := v4.2) rfl ?_
        replace h := wk_letE h
        refine wk_Hcall (i2 := 32) (args := [.ref 1]) (rest := []) (r := none) (σ1 := (f_X8_clear v4.2)) rfl rfl ⟨rfl, rfl, rfl, rfl, rfl⟩ rfl ((t_X8_clear rfl).up (by decide)) ?_
        refine wk_Hs 1 33 ⟨rfl, rfl⟩ (ls' := [.ref 0, .int x1, .int x2, .int x3, .int v4.1]) (st' := [.int v4.1]) (σ' := (f_X8_clear v4.2)) rfl ?_
        rcases wk_ife h with ⟨hc, h⟩ | ⟨hc, h⟩
        · refine wk_H0t 36 rfl (wk_cge.2 hc) ?_
          refine wk_Hs 1 37 ⟨rfl, rfl⟩ (ls' := [.ref 0, .int x1, .int x2, .int x3, .int v4.1]) (st' := [.int x3]) (σ' := (f_X8_clear v4.2)) rfl ?_
          rcases wk_ife h with ⟨hc, h⟩ | ⟨hc, h⟩
          · refine wk_H0t 42 rfl (wk_cne.2 hc) ?_
            refine wk_Hs 2 44 ⟨rfl, rfl⟩ (ls' := [.ref 0, .int x1, .int x2, .int x3, .int v4.1]) (st' := [.ref 25]) (σ' := (f_X8_clear v4.2)) rfl ?_
            obtain ⟨v6, hv6, h⟩ := wk_bindE h
            refine wk_Hcall (i2 := 45) (args := [.ref 25]) (rest := []) (r := some (.int v6)) (σ1 := (f_X8_clear v4.2)) rfl rfl ⟨rfl, rfl, rfl, rfl, rfl⟩ rfl ((t_X9_bootsWays hv6).up (by decide)) ?_
            cases h
            exact wk_eqz hk (wk_Hret rfl)
          · refine wk_H0f 42 38 rfl rfl (wk_nf wk_cne hc) ?_
            refine wk_Hs 2 40 ⟨rfl, rfl⟩ (ls' := [.ref 0, .int x1, .int x2, .int x3, .int v4.1]) (st' := [.ref 25]) (σ' := (f_X8_clear v4.2)) rfl ?_
            obtain ⟨v7, hv7, h⟩ := wk_bindE h
            refine wk_Hcall (i2 := 41) (args := [.ref 25]) (rest := []) (r := some (.int v7)) (σ1 := (f_X8_clear v4.2)) rfl rfl ⟨rfl, rfl, rfl, rfl, rfl⟩ rfl ((t_X9_bootsBits hv7).up (by decide)) ?_
            refine wk_Hgoto (t := 45) rfl ?_
            cases h
            exact wk_eqz hk (wk_Hret rfl)
        · refine wk_H0f 36 34 rfl rfl (wk_nf wk_cge hc) ?_
          refine wk_Hs 1 35 ⟨rfl, rfl⟩ (ls' := [.ref 0, .int x1, .int x2, .int x3, .int v4.1]) (st' := [.int v4.1]) (σ' := (f_X8_clear v4.2)) rfl ?_
          cases h
          exact wk_eqz hk (wk_Hret rfl)
      · refine wk_H0f 19 17 rfl rfl (wk_nf wk_zne hc) ?_
        refine wk_Hs 1 18 ⟨rfl, rfl⟩ (ls' := [.ref 0, .int x1, .int x2, .int x3, wk_U]) (st' := [.int (-1 : Int32)]) (σ' := s) rfl ?_
        cases h
        exact wk_eqz hk (wk_Hret rfl)
set_option maxHeartbeats 4000000 in
set_option maxRecDepth 20000 in
theorem tj_j_X11_knightsMeant_25_l4 {x1 : Int32} {x2 : Int32} {x3 : Int32} {x4 : Int32} {s_0 : Int32} {w5 : Value} {w6 : Value} {s : wk_St} {z : wk_R} {o : (Int32) ⊕ (Int32 × Int32)} (h : j_X11_knightsMeant_25_l4 x1 x2 x3 x4 s_0 s = some o) (hk : match (generalizing := false) o with | Sum.inl a => (∀ (u4 u5 u6 : Value), wk_H wk_shC 2 mc_X11_knightsMeant 41 [.ref 0, .int x1, .int x2, .int a, u4, u5, u6] [] s z) | Sum.inr y => ∀ (u5 u6 : Value), wk_H wk_shC 2 mc_X11_knightsMeant 4 [.ref 0, .int x1, .int x2, .int y.1, .int y.2, u5, u6] [] s z) : wk_H wk_shC 2 mc_X11_knightsMeant 25 [.ref 0, .int x1, .int x2, .int x3, .int x4, w5, w6] [.int s_0] s z := by
  dsimp only [j_X11_knightsMeant_25_l4] at h
  refine wk_Hs 4 29 ⟨rfl, rfl⟩ (ls' := [.ref 0, .int x1, .int x2, .int x3, .int x4, (wk_cl w5), .int s_0]) (st' := [.int x4, .ref 8]) (σ' := s) rfl ?_
  refine wk_Hcall (i2 := 30) (args := [.ref 8, .int x4]) (rest := []) (r := some (.int (b2i (f_X0_isTold 8 x4 s)))) (σ1 := s) rfl rfl ⟨rfl, rfl, rfl, rfl, rfl⟩ rfl ((t_X0_isTold_8 rfl).up (by decide)) ?_
  rcases wk_ife h with ⟨hc, h⟩ | ⟨hc, h⟩
  · refine wk_H0t 39 rfl (wk_zeq.2 hc) ?_
    refine wk_Hs 1 40 ⟨rfl, rfl⟩ (ls' := [.ref 0, .int x1, .int x2, .int x3, .int (x4 + (1 : Int32)), (wk_cl w5), .int s_0]) (st' := []) (σ' := s) rfl ?_
    refine wk_Hgoto (t := 4) rfl ?_
    cases h
    exact hk _ _
  · refine wk_H0f 39 31 rfl rfl (wk_nf wk_zeq hc) ?_
    refine wk_Hs 1 32 ⟨rfl, rfl⟩ (ls' := [.ref 0, .int x1, .int x2, .int x3, .int x4, (wk_cl w5), .int s_0]) (st' := [.int s_0]) (σ' := s) rfl ?_
    rcases wk_ife h with ⟨hc, h⟩ | ⟨hc, h⟩
    · refine wk_H0t 39 rfl (wk_ceq.2 hc) ?_
      refine wk_Hs 1 40 ⟨rfl, rfl⟩ (ls' := [.ref 0, .int x1, .int x2, .int x3, .int (x4 + (1 : Int32)), (wk_cl w5), .int s_0]) (st' := []) (σ' := s) rfl ?_
      refine wk_Hgoto (t := 4) rfl ?_
      cases h
      exact hk _ _
    · refine wk_H0f 39 33 rfl rfl (wk_nf wk_ceq hc) ?_
      refine wk_Hs 5 38 ⟨rfl, rfl⟩ (ls' := [.ref 0, .int x1, .int x2, .int x3, .int x4, (wk_cl w5), .int s_0]) (st' := [.int (x3 ||| ((1 : Int32) <<< (x4 &&& 31)))]) (σ' := s) rfl ?_
      replace h := wk_letE h
      refine wk_Hs 2 40 ⟨rfl, rfl⟩ (ls' := [.ref 0, .int x1, .int x2, .int (x3 ||| ((1 : Int32) <<< (x4 &&& 31))), .int (x4 + (1 : Int32)), (wk_cl w5), .int s_0]) (st' := []) (σ' := s) rfl ?_
      refine wk_Hgoto (t := 4) rfl ?_
      cases h
      exact hk _ _
set_option maxHeartbeats 4000000 in
set_option maxRecDepth 20000 in
theorem ts_S_X11_knightsMeant_4 {x1 : Int32} {x2 : Int32} {x3 : Int32} {x4 : Int32} {w5 : Value} {w6 : Value} {s : wk_St} {z : wk_R} {o : (Int32) ⊕ (Int32 × Int32)} (h : S_X11_knightsMeant_4 x1 x2 s (x3, x4) = some o) (hk : match (generalizing := false) o with | Sum.inl a => (∀ (u4 u5 u6 : Value), wk_H wk_shC 2 mc_X11_knightsMeant 41 [.ref 0, .int x1, .int x2, .int a, u4, u5, u6] [] s z) | Sum.inr y => ∀ (u5 u6 : Value), wk_H wk_shC 2 mc_X11_knightsMeant 4 [.ref 0, .int x1, .int x2, .int y.1, .int y.2, u5, u6] [] s z) : wk_H wk_shC 2 mc_X11_knightsMeant 4 [.ref 0, .int x1, .int x2, .int x3, .int x4, w5, w6] [] s z := by
  dsimp only [S_X11_knightsMeant_4] at h
  refine wk_Hs 2 6 ⟨rfl, rfl⟩ (ls' := [.ref 0, .int x1, .int x2, .int x3, .int x4, w5, w6]) (st' := [.int (9 : Int32), .int x4]) (σ' := s) rfl ?_
  rcases wk_ife h with ⟨hc, h⟩ | ⟨hc, h⟩
  · refine wk_Hbt 41 rfl (wk_cge.2 hc) ?_
    cases h
    exact hk _ _ _
  · refine wk_Hbf 41 7 rfl rfl (wk_nf wk_cge hc) ?_
    refine wk_Hs 3 10 ⟨rfl, rfl⟩ (ls' := [.ref 0, .int x1, .int x2, .int x3, .int x4, w5, w6]) (st' := [.int x4, .ref 8]) (σ' := s) rfl ?_
    obtain ⟨v1, hv1, h⟩ := wk_bindE h
    refine wk_Hcall (i2 := 11) (args := [.ref 8, .int x4]) (rest := []) (r := some (.int v1)) (σ1 := s) rfl rfl ⟨rfl, rfl, rfl, rfl, rfl⟩ rfl ((t_X0_wolfDaysOf_8 hv1).up (by decide)) ?_
    refine wk_Hs 4 15 ⟨rfl, rfl⟩ (ls' := [.ref 0, .int x1, .int x2, .int x3, .int x4, .int v1, w6]) (st' := [.int (v1 &&& x1)]) (σ' := s) rfl ?_
    rcases wk_ife h with ⟨hc, h⟩ | ⟨hc, h⟩
    · refine wk_H0t 24 rfl (wk_cne.2 hc) ?_
      refine wk_Hs 1 25 ⟨rfl, rfl⟩ (ls' := [.ref 0, .int x1, .int x2, .int x3, .int x4, .int v1, w6]) (st' := [.int (0 : Int32)]) (σ' := s) rfl ?_
      exact tj_j_X11_knightsMeant_25_l4 h hk
    · refine wk_H0f 24 16 rfl rfl (wk_nf wk_cne hc) ?_
      refine wk_Hs 5 21 ⟨rfl, rfl⟩ (ls' := [.ref 0, .int x1, .int x2, .int x3, .int x4, .int v1, w6]) (st' := [.int (x2 &&& (v1 ^^^ (-1 : Int32)))]) (σ' := s) rfl ?_
      rcases wk_ife h with ⟨hc, h⟩ | ⟨hc, h⟩
      · refine wk_H0t 24 rfl (wk_cne.2 hc) ?_
        refine wk_Hs 1 25 ⟨rfl, rfl⟩ (ls' := [.ref 0, .int x1, .int x2, .int x3, .int x4, .int v1, w6]) (st' := [.int (0 : Int32)]) (σ' := s) rfl ?_
        exact tj_j_X11_knightsMeant_25_l4 h hk
      · refine wk_H0f 24 22 rfl rfl (wk_nf wk_cne hc) ?_
        refine wk_Hs 1 23 ⟨rfl, rfl⟩ (ls' := [.ref 0, .int x1, .int x2, .int x3, .int x4, .int v1, w6]) (st' := [.int (1 : Int32)]) (σ' := s) rfl ?_
        refine wk_Hgoto (t := 25) rfl ?_
        exact tj_j_X11_knightsMeant_25_l4 h hk
set_option maxHeartbeats 4000000 in
set_option maxRecDepth 20000 in
theorem tl_S_X11_knightsMeant_4 {x1 : Int32} {x2 : Int32} {s : wk_St} {z : wk_R} (n : Nat) : ∀ {x3 : Int32} {x4 : Int32} {w5 : Value} {w6 : Value} {a : Int32} (h : wk_loop (S_X11_knightsMeant_4 x1 x2 s) n (x3, x4) = some a) (hk : ∀ (u4 u5 u6 : Value), wk_H wk_shC 2 mc_X11_knightsMeant 41 [.ref 0, .int x1, .int x2, .int a, u4, u5, u6] [] s z), wk_H wk_shC 2 mc_X11_knightsMeant 4 [.ref 0, .int x1, .int x2, .int x3, .int x4, w5, w6] [] s z := by
  induction n with
  | zero =>
    intros
    rename_i h _
    exact nomatch (show (none : Option _) = some _ from h)
  | succ n ih =>
    intros
    rename_i h hk
    obtain ⟨o, ho, h⟩ := wk_bindE (show Option.bind _ _ = some _ from h)
    refine ts_S_X11_knightsMeant_4 ho ?_
    cases o with
    | inl a1 =>
      cases h
      exact hk
    | inr p =>
      obtain ⟨p0, p1⟩ := p
      exact fun _ _ => ih h hk
set_option maxHeartbeats 4000000 in
set_option maxRecDepth 20000 in
theorem t_X11_knightsMeant {x1 : Int32} {x2 : Int32} {s : wk_St} {r : Int32} (h : f_X11_knightsMeant x1 x2 s = some r) : wk_T wk_shC 2 24 [.ref 0, .int x1, .int x2] s (some (.int r), s) := by
  suffices H : ∀ z, z = (some (.int r), s) → wk_H wk_shC 2 mc_X11_knightsMeant 0 [.ref 0, .int x1, .int x2, wk_U, wk_U, wk_U, wk_U] [] s z from H _ rfl
  intro z hk
  dsimp only [f_X11_knightsMeant] at h
  refine wk_Hs 4 4 ⟨rfl, rfl⟩ (ls' := [.ref 0, .int x1, .int x2, .int (0 : Int32), .int (0 : Int32), wk_U, wk_U]) (st' := []) (σ' := s) rfl ?_
  obtain ⟨v4, hv4, h⟩ := wk_bindE h
  refine tl_S_X11_knightsMeant_4 wk_F hv4 ?_
  intro g5 g6 g7
  refine wk_Hs 1 42 ⟨rfl, rfl⟩ (ls' := [.ref 0, .int x1, .int x2, .int v4, g5, g6, g7]) (st' := [.int v4]) (σ' := s) rfl ?_
  cases h
  exact wk_eqz hk (wk_Hret rfl)
set_option maxHeartbeats 4000000 in
set_option maxRecDepth 20000 in
theorem ts_S_X11_weekdaysMeant_4 {x0 : Int32} {x1 : Int32} {x2 : Int32} {w3 : Value} {s : wk_St} {z : wk_R} {o : (Int32) ⊕ (Int32 × Int32)} (h : S_X11_weekdaysMeant_4 x0 (x1, x2) = some o) (hk : match (generalizing := false) o with | Sum.inl a => (∀ (u2 u3 : Value), wk_H wk_shC 0 mc_X11_weekdaysMeant 39 [.int x0, .int a, u2, u3] [] s z) | Sum.inr y => ∀ (u3 : Value), wk_H wk_shC 0 mc_X11_weekdaysMeant 4 [.int x0, .int y.1, .int y.2, u3] [] s z) : wk_H wk_shC 0 mc_X11_weekdaysMeant 4 [.int x0, .int x1, .int x2, w3] [] s z := by
  dsimp only [S_X11_weekdaysMeant_4] at h
  refine wk_Hs 2 6 ⟨rfl, rfl⟩ (ls' := [.int x0, .int x1, .int x2, w3]) (st' := [.int (7 : Int32), .int x2]) (σ' := s) rfl ?_
  rcases wk_ife h with ⟨hc, h⟩ | ⟨hc, h⟩
  · refine wk_Hbt 39 rfl (wk_cge.2 hc) ?_
    cases h
    exact hk _ _
  · refine wk_Hbf 39 7 rfl rfl (wk_nf wk_cge hc) ?_
    refine wk_Hs 8 15 ⟨rfl, rfl⟩ (ls' := [.int x0, .int x1, .int x2, w3]) (st' := [.int (7 : Int32), .int (x2 + (1 : Int32)), .int (1 : Int32), .int ((1 : Int32) <<< (x2 &&& 31))]) (σ' := s) rfl ?_
    refine wk_Hrem 16 rfl rfl (by decide) ?_
    refine wk_Hs 7 23 ⟨rfl, rfl⟩ (ls' := [.int x0, .int x1, .int x2, w3]) (st' := [.int (7 : Int32), .int (x2 + (2 : Int32)), .int (1 : Int32), .int (((1 : Int32) <<< (x2 &&& 31)) ||| ((1 : Int32) <<< ((wk_rem (x2 + (1 : Int32)) (7 : Int32)) &&& 31)))]) (σ' := s) rfl ?_
    refine wk_Hrem 24 rfl rfl (by decide) ?_
    refine wk_Hs 2 26 ⟨rfl, rfl⟩ (ls' := [.int x0, .int x1, .int x2, w3]) (st' := [.int ((((1 : Int32) <<< (x2 &&& 31)) ||| ((1 : Int32) <<< ((wk_rem (x2 + (1 : Int32)) (7 : Int32)) &&& 31))) ||| ((1 : Int32) <<< ((wk_rem (x2 + (2 : Int32)) (7 : Int32)) &&& 31)))]) (σ' := s) rfl ?_
    replace h := wk_letE h
    refine wk_Hs 4 30 ⟨rfl, rfl⟩ (ls' := [.int x0, .int x1, .int x2, .int ((((1 : Int32) <<< (x2 &&& 31)) ||| ((1 : Int32) <<< ((wk_rem (x2 + (1 : Int32)) (7 : Int32)) &&& 31))) ||| ((1 : Int32) <<< ((wk_rem (x2 + (2 : Int32)) (7 : Int32)) &&& 31)))]) (st' := [.int (((((1 : Int32) <<< (x2 &&& 31)) ||| ((1 : Int32) <<< ((wk_rem (x2 + (1 : Int32)) (7 : Int32)) &&& 31))) ||| ((1 : Int32) <<< ((wk_rem (x2 + (2 : Int32)) (7 : Int32)) &&& 31))) &&& x0)]) (σ' := s) rfl ?_
    rcases wk_ife h with ⟨hc, h⟩ | ⟨hc, h⟩
    · refine wk_H0t 37 rfl (wk_cne.2 hc) ?_
      refine wk_Hs 1 38 ⟨rfl, rfl⟩ (ls' := [.int x0, .int x1, .int (x2 + (1 : Int32)), .int ((((1 : Int32) <<< (x2 &&& 31)) ||| ((1 : Int32) <<< ((wk_rem (x2 + (1 : Int32)) (7 : Int32)) &&& 31))) ||| ((1 : Int32) <<< ((wk_rem (x2 + (2 : Int32)) (7 : Int32)) &&& 31)))]) (st' := []) (σ' := s) rfl ?_
      refine wk_Hgoto (t := 4) rfl ?_
      cases h
      exact hk _
    · refine wk_H0f 37 31 rfl rfl (wk_nf wk_cne hc) ?_
      refine wk_Hs 5 36 ⟨rfl, rfl⟩ (ls' := [.int x0, .int x1, .int x2, .int ((((1 : Int32) <<< (x2 &&& 31)) ||| ((1 : Int32) <<< ((wk_rem (x2 + (1 : Int32)) (7 : Int32)) &&& 31))) ||| ((1 : Int32) <<< ((wk_rem (x2 + (2 : Int32)) (7 : Int32)) &&& 31)))]) (st' := [.int (x1 ||| ((1 : Int32) <<< (x2 &&& 31)))]) (σ' := s) rfl ?_
      replace h := wk_letE h
      refine wk_Hs 2 38 ⟨rfl, rfl⟩ (ls' := [.int x0, .int (x1 ||| ((1 : Int32) <<< (x2 &&& 31))), .int (x2 + (1 : Int32)), .int ((((1 : Int32) <<< (x2 &&& 31)) ||| ((1 : Int32) <<< ((wk_rem (x2 + (1 : Int32)) (7 : Int32)) &&& 31))) ||| ((1 : Int32) <<< ((wk_rem (x2 + (2 : Int32)) (7 : Int32)) &&& 31)))]) (st' := []) (σ' := s) rfl ?_
      refine wk_Hgoto (t := 4) rfl ?_
      cases h
      exact hk _
set_option maxHeartbeats 4000000 in
set_option maxRecDepth 20000 in
theorem tl_S_X11_weekdaysMeant_4 {x0 : Int32} {s : wk_St} {z : wk_R} (n : Nat) : ∀ {x1 : Int32} {x2 : Int32} {w3 : Value} {a : Int32} (h : wk_loop (S_X11_weekdaysMeant_4 x0) n (x1, x2) = some a) (hk : ∀ (u2 u3 : Value), wk_H wk_shC 0 mc_X11_weekdaysMeant 39 [.int x0, .int a, u2, u3] [] s z), wk_H wk_shC 0 mc_X11_weekdaysMeant 4 [.int x0, .int x1, .int x2, w3] [] s z := by
  induction n with
  | zero =>
    intros
    rename_i h _
    exact nomatch (show (none : Option _) = some _ from h)
  | succ n ih =>
    intros
    rename_i h hk
    obtain ⟨o, ho, h⟩ := wk_bindE (show Option.bind _ _ = some _ from h)
    refine ts_S_X11_weekdaysMeant_4 ho ?_
    cases o with
    | inl a1 =>
      cases h
      exact hk
    | inr p =>
      obtain ⟨p0, p1⟩ := p
      exact fun _ => ih h hk
set_option maxHeartbeats 4000000 in
set_option maxRecDepth 20000 in
theorem t_X11_weekdaysMeant {x0 : Int32} {s : wk_St} {r : Int32} (h : f_X11_weekdaysMeant x0 = some r) : wk_T wk_shC 0 25 [.int x0] s (some (.int r), s) := by
  suffices H : ∀ z, z = (some (.int r), s) → wk_H wk_shC 0 mc_X11_weekdaysMeant 0 [.int x0, wk_U, wk_U, wk_U] [] s z from H _ rfl
  intro z hk
  dsimp only [f_X11_weekdaysMeant] at h
  refine wk_Hs 4 4 ⟨rfl, rfl⟩ (ls' := [.int x0, .int (0 : Int32), .int (0 : Int32), wk_U]) (st' := []) (σ' := s) rfl ?_
  obtain ⟨v3, hv3, h⟩ := wk_bindE h
  refine tl_S_X11_weekdaysMeant_4 wk_F hv3 ?_
  intro g4 g5
  refine wk_Hs 1 40 ⟨rfl, rfl⟩ (ls' := [.int x0, .int v3, g4, g5]) (st' := [.int v3]) (σ' := s) rfl ?_
  cases h
  exact wk_eqz hk (wk_Hret rfl)
set_option maxHeartbeats 4000000 in
set_option maxRecDepth 20000 in
theorem ts_S_X11_absences_20 {x1 : Int32} {x2 : Int32} {x3 : Int32} {x4 : Int32} {x5 : Int32} {w6 : Value} {w7 : Value} {s : wk_St} {z : wk_R} {o : ((Int32 × wk_St) ⊕ (Int32 × Int32 × wk_St)) ⊕ (Int32 × Int32 × Int32 × wk_St)} (h : S_X11_absences_20 x1 x2 (x3, x4, x5, s) = some o) (hk : match (generalizing := false) o with | Sum.inl a => (match (generalizing := false) a with | Sum.inl r => z = (some (.int r.1), r.2) | Sum.inr y => ∀ (u5 u6 u7 : Value), wk_H wk_shC 3 mc_X11_absences 67 [.ref 0, .int x1, .int x2, .int y.1, .int y.2.1, u5, u6, u7] [] y.2.2 z) | Sum.inr y => ∀ (u6 u7 : Value), wk_H wk_shC 3 mc_X11_absences 20 [.ref 0, .int x1, .int x2, .int y.1, .int y.2.1, .int y.2.2.1, u6, u7] [] y.2.2.2 z) : wk_H wk_shC 3 mc_X11_absences 20 [.ref 0, .int x1, .int x2, .int x3, .int x4, .int x5, w6, w7] [] s z := by
  dsimp only [S_X11_absences_20] at h
  refine wk_Hs 2 22 ⟨rfl, rfl⟩ (ls' := [.ref 0, .int x1, .int x2, .int x3, .int x4, .int x5, w6, w7]) (st' := [.int x1, .int x5]) (σ' := s) rfl ?_
  rcases wk_ife h with ⟨hc, h⟩ | ⟨hc, h⟩
  · refine wk_Hbt 67 rfl (wk_cge.2 hc) ?_
    cases h
    exact hk _ _ _
  · refine wk_Hbf 67 23 rfl rfl (wk_nf wk_cge hc) ?_
    refine wk_Hs 3 26 ⟨rfl, rfl⟩ (ls' := [.ref 0, .int x1, .int x2, .int x3, .int x4, .int x5, w6, w7]) (st' := [.int x5, .ref 1]) (σ' := s) rfl ?_
    obtain ⟨v3, hv3, h⟩ := wk_bindE h
    refine wk_Hcall (i2 := 27) (args := [.ref 1, .int x5]) (rest := []) (r := some (.int v3)) (σ1 := s) rfl rfl ⟨rfl, rfl, rfl, rfl, rfl⟩ rfl ((t_X8_byteAt hv3).up (by decide)) ?_
    refine wk_Hs 9 36 ⟨rfl, rfl⟩ (ls' := [.ref 0, .int x1, .int x2, .int x3, .int x4, .int x5, .int v3, w7]) (st' := [.int ((s.1 8 5) - x5), .ref 3, .int (1 : Int32)]) (σ' := s) rfl ?_
    obtain ⟨v4, hv4, h⟩ := wk_bindE h
    refine wk_Hcall (i2 := 37) (args := [.ref 3, .int ((s.1 8 5) - x5)]) (rest := [.int (1 : Int32)]) (r := some (.int v4)) (σ1 := s) rfl rfl ⟨rfl, rfl, rfl, rfl, rfl⟩ rfl ((t_X2_weekdayOf hv4).up (by decide)) ?_
    refine wk_Hs 1 38 ⟨rfl, rfl⟩ (ls' := [.ref 0, .int x1, .int x2, .int x3, .int x4, .int x5, .int v3, w7]) (st' := [.int ((1 : Int32) <<< (v4 &&& 31))]) (σ' := s) rfl ?_
    replace h := wk_letE h
    refine wk_Hs 3 41 ⟨rfl, rfl⟩ (ls' := [.ref 0, .int x1, .int x2, .int x3, .int x4, .int x5, .int v3, .int ((1 : Int32) <<< (v4 &&& 31))]) (st' := [.int (112 : Int32), .int v3]) (σ' := s) rfl ?_
    rcases wk_ife h with ⟨hc, h⟩ | ⟨hc, h⟩
    · refine wk_Hbt 47 rfl (wk_cne.2 hc) ?_
      refine wk_Hs 2 49 ⟨rfl, rfl⟩ (ls' := [.ref 0, .int x1, .int x2, .int x3, .int x4, .int x5, .int v3, .int ((1 : Int32) <<< (v4 &&& 31))]) (st' := [.int (97 : Int32), .int v3]) (σ' := s) rfl ?_
      rcases wk_ife h with ⟨hc, h⟩ | ⟨hc, h⟩
      · refine wk_Hbt 55 rfl (wk_cne.2 hc) ?_
        refine wk_Hs 2 57 ⟨rfl, rfl⟩ (ls' := [.ref 0, .int x1, .int x2, .int x3, .int x4, .int x5, .int v3, .int ((1 : Int32) <<< (v4 &&& 31))]) (st' := [.int (63 : Int32), .int v3]) (σ' := s) rfl ?_
        rcases wk_ife h with ⟨hc, h⟩ | ⟨hc, h⟩
        · refine wk_Hbt 65 rfl (wk_ceq.2 hc) ?_
          refine wk_Hs 1 66 ⟨rfl, rfl⟩ (ls' := [.ref 0, .int x1, .int x2, .int x3, .int x4, .int (x5 + (1 : Int32)), .int v3, .int ((1 : Int32) <<< (v4 &&& 31))]) (st' := []) (σ' := s) rfl ?_
          refine wk_Hgoto (t := 20) rfl ?_
          cases h
          exact hk _ _
        · refine wk_Hbf 65 58 rfl rfl (wk_nf wk_ceq hc) ?_
          refine wk_Hs 2 60 ⟨rfl, rfl⟩ (ls' := [.ref 0, .int x1, .int x2, .int x3, .int x4, .int x5, .int v3, .int ((1 : Int32) <<< (v4 &&& 31))]) (st' := [.ref 1]) (σ' := s) rfl ?_
          replace h := wk_letE h
          refine wk_Hcall (i2 := 61) (args := [.ref 1]) (rest := []) (r := none) (σ1 := (f_X8_clear s)) rfl rfl ⟨rfl, rfl, rfl, rfl, rfl⟩ rfl ((t_X8_clear rfl).up (by decide)) ?_
          refine wk_Hs 2 63 ⟨rfl, rfl⟩ (ls' := [.ref 0, .int x1, .int x2, .int x3, .int x4, .int x5, .int v3, .int ((1 : Int32) <<< (v4 &&& 31))]) (st' := [.int x5, .int (1 : Int32)]) (σ' := (f_X8_clear s)) rfl ?_
          refine wk_Hcall (i2 := 64) (args := [.int (1 : Int32), .int x5]) (rest := []) (r := some (.int (f_X11_faultOf (1 : Int32) x5))) (σ1 := (f_X8_clear s)) rfl rfl ⟨rfl, rfl, rfl, rfl, rfl⟩ rfl ((t_X11_faultOf rfl).up (by decide)) ?_
          cases h
          exact wk_eqz hk (wk_Hret rfl)
      · refine wk_Hbf 55 50 rfl rfl (wk_nf wk_cne hc) ?_
        refine wk_Hs 3 53 ⟨rfl, rfl⟩ (ls' := [.ref 0, .int x1, .int x2, .int x3, .int x4, .int x5, .int v3, .int ((1 : Int32) <<< (v4 &&& 31))]) (st' := [.int (x4 ||| ((1 : Int32) <<< (v4 &&& 31)))]) (σ' := s) rfl ?_
        replace h := wk_letE h
        refine wk_Hs 1 54 ⟨rfl, rfl⟩ (ls' := [.ref 0, .int x1, .int x2, .int x3, .int (x4 ||| ((1 : Int32) <<< (v4 &&& 31))), .int x5, .int v3, .int ((1 : Int32) <<< (v4 &&& 31))]) (st' := []) (σ' := s) rfl ?_
        refine wk_Hgoto (t := 65) rfl ?_
        refine wk_Hs 1 66 ⟨rfl, rfl⟩ (ls' := [.ref 0, .int x1, .int x2, .int x3, .int (x4 ||| ((1 : Int32) <<< (v4 &&& 31))), .int (x5 + (1 : Int32)), .int v3, .int ((1 : Int32) <<< (v4 &&& 31))]) (st' := []) (σ' := s) rfl ?_
        refine wk_Hgoto (t := 20) rfl ?_
        cases h
        exact hk _ _
    · refine wk_Hbf 47 42 rfl rfl (wk_nf wk_cne hc) ?_
      refine wk_Hs 3 45 ⟨rfl, rfl⟩ (ls' := [.ref 0, .int x1, .int x2, .int x3, .int x4, .int x5, .int v3, .int ((1 : Int32) <<< (v4 &&& 31))]) (st' := [.int (x3 ||| ((1 : Int32) <<< (v4 &&& 31)))]) (σ' := s) rfl ?_
      replace h := wk_letE h
      refine wk_Hs 1 46 ⟨rfl, rfl⟩ (ls' := [.ref 0, .int x1, .int x2, .int (x3 ||| ((1 : Int32) <<< (v4 &&& 31))), .int x4, .int x5, .int v3, .int ((1 : Int32) <<< (v4 &&& 31))]) (st' := []) (σ' := s) rfl ?_
      refine wk_Hgoto (t := 65) rfl ?_
      refine wk_Hs 1 66 ⟨rfl, rfl⟩ (ls' := [.ref 0, .int x1, .int x2, .int (x3 ||| ((1 : Int32) <<< (v4 &&& 31))), .int x4, .int (x5 + (1 : Int32)), .int v3, .int ((1 : Int32) <<< (v4 &&& 31))]) (st' := []) (σ' := s) rfl ?_
      refine wk_Hgoto (t := 20) rfl ?_
      cases h
      exact hk _ _
set_option maxHeartbeats 4000000 in
set_option maxRecDepth 20000 in
theorem tl_S_X11_absences_20 {x1 : Int32} {x2 : Int32} {z : wk_R} (n : Nat) : ∀ {x3 : Int32} {x4 : Int32} {x5 : Int32} {w6 : Value} {w7 : Value} {s : wk_St} {a : (Int32 × wk_St) ⊕ (Int32 × Int32 × wk_St)} (h : wk_loop (S_X11_absences_20 x1 x2) n (x3, x4, x5, s) = some a) (hk : match (generalizing := false) a with | Sum.inl r => z = (some (.int r.1), r.2) | Sum.inr y => ∀ (u5 u6 u7 : Value), wk_H wk_shC 3 mc_X11_absences 67 [.ref 0, .int x1, .int x2, .int y.1, .int y.2.1, u5, u6, u7] [] y.2.2 z), wk_H wk_shC 3 mc_X11_absences 20 [.ref 0, .int x1, .int x2, .int x3, .int x4, .int x5, w6, w7] [] s z := by
  induction n with
  | zero =>
    intros
    rename_i h _
    exact nomatch (show (none : Option _) = some _ from h)
  | succ n ih =>
    intros
    rename_i h hk
    obtain ⟨o, ho, h⟩ := wk_bindE (show Option.bind _ _ = some _ from h)
    refine ts_S_X11_absences_20 ho ?_
    cases o with
    | inl a1 =>
      cases h
      exact hk
    | inr p =>
      obtain ⟨p0, p1, p2, p3⟩ := p
      exact fun _ _ => ih h hk
set_option maxHeartbeats 4000000 in
set_option maxRecDepth 20000 in
theorem t_X11_absences {x1 : Int32} {x2 : Int32} {s : wk_St} {r : Int32 × wk_St} (h : f_X11_absences x1 x2 s = some r) : wk_T wk_shC 3 23 [.ref 0, .int x1, .int x2] s (some (.int r.1), r.2) := by
  suffices H : ∀ z, z = (some (.int r.1), r.2) → wk_H wk_shC 3 mc_X11_absences 0 [.ref 0, .int x1, .int x2, wk_U, wk_U, wk_U, wk_U, wk_U] [] s z from H _ rfl
  intro z hk
  dsimp only [f_X11_absences] at h
  refine wk_Hs 5 5 ⟨rfl, rfl⟩ (ls' := [.ref 0, .int x1, .int x2, wk_U, wk_U, wk_U, wk_U, wk_U]) (st' := [.int (60 : Int32), .int (1 : Int32), .int x1, .ref 1]) (σ' := s) rfl ?_
  refine wk_Hcall (i2 := 6) (args := [.ref 1, .int x1, .int (1 : Int32), .int (60 : Int32)]) (rest := []) (r := some (.int (b2i (f_X8_has x1 (1 : Int32) (60 : Int32) s)))) (σ1 := s) rfl rfl ⟨rfl, rfl, rfl, rfl, rfl⟩ rfl ((t_X8_has rfl).up (by decide)) ?_
  rcases wk_ife h with ⟨hc, h⟩ | ⟨hc, h⟩
  · refine wk_H0t 12 rfl (wk_zeq.2 hc) ?_
    refine wk_Hs 1 13 ⟨rfl, rfl⟩ (ls' := [.ref 0, .int x1, .int x2, wk_U, wk_U, wk_U, wk_U, wk_U]) (st' := [.int (-1 : Int32)]) (σ' := s) rfl ?_
    cases h
    exact wk_eqz hk (wk_Hret rfl)
  · refine wk_H0f 12 7 rfl rfl (wk_nf wk_zeq hc) ?_
    refine wk_Hs 3 10 ⟨rfl, rfl⟩ (ls' := [.ref 0, .int x1, .int x2, wk_U, wk_U, wk_U, wk_U, wk_U]) (st' := [.int (2 : Int32), .int (0 : Int32), .int x2]) (σ' := s) rfl ?_
    refine wk_Hcall (i2 := 11) (args := [.int x2, .int (0 : Int32), .int (2 : Int32)]) (rest := []) (r := some (.int (b2i (f_X11_isWithin x2 (0 : Int32) (2 : Int32))))) (σ1 := s) rfl rfl ⟨rfl, rfl, rfl, rfl, rfl⟩ rfl ((t_X11_isWithin rfl).up (by decide)) ?_
    rcases wk_ife h with ⟨hc, h⟩ | ⟨hc, h⟩
    · refine wk_H0t 14 rfl (wk_zne.2 hc) ?_
      refine wk_Hs 6 20 ⟨rfl, rfl⟩ (ls' := [.ref 0, .int x1, .int x2, .int (0 : Int32), .int (0 : Int32), .int (0 : Int32), wk_U, wk_U]) (st' := []) (σ' := s) rfl ?_
      obtain ⟨v10, hv10, h⟩ := wk_bindE h
      rcases v10 with v10r | v10
      · cases h
        exact tl_S_X11_absences_20 wk_F hv10 hk
      · refine tl_S_X11_absences_20 wk_F hv10 ?_
        intro g11 g12 g13
        dsimp only at h ⊢
        refine wk_Hs 2 69 ⟨rfl, rfl⟩ (ls' := [.ref 0, .int x1, .int x2, .int v10.1, .int v10.2.1, g11, g12, g13]) (st' := [.ref 1]) (σ' := v10.2.2) rfl ?_
        replace h := wk_letE h
        refine wk_Hcall (i2 := 70) (args := [.ref 1]) (rest := []) (r := none) (σ1 := (f_X8_clear v10.2.2)) rfl rfl ⟨rfl, rfl, rfl, rfl, rfl⟩ rfl ((t_X8_clear rfl).up (by decide)) ?_
        refine wk_Hs 2 72 ⟨rfl, rfl⟩ (ls' := [.ref 0, .int x1, .int x2, .int v10.1, .int v10.2.1, g11, g12, g13]) (st' := [.int (2 : Int32), .int x2]) (σ' := (f_X8_clear v10.2.2)) rfl ?_
        rcases wk_ife h with ⟨hc, h⟩ | ⟨hc, h⟩
        · refine wk_Hbt 76 rfl (wk_cne.2 hc) ?_
          refine wk_Hs 4 80 ⟨rfl, rfl⟩ (ls' := [.ref 0, .int x1, .int x2, .int v10.1, .int v10.2.1, g11, g12, g13]) (st' := [.int (1 : Int32), .int x2, .int v10.1, .ref 0]) (σ' := (f_X8_clear v10.2.2)) rfl ?_
          rcases wk_ife h with ⟨hc, h⟩ | ⟨hc, h⟩
          · refine wk_Hbt 83 rfl (wk_cne.2 hc) ?_
            refine wk_Hs 1 84 ⟨rfl, rfl⟩ (ls' := [.ref 0, .int x1, .int x2, .int v10.1, .int v10.2.1, g11, g12, g13]) (st' := [.int (0 : Int32), .int v10.1, .ref 0]) (σ' := (f_X8_clear v10.2.2)) rfl ?_
            obtain ⟨v15, hv15, h⟩ := wk_bindE h
            refine wk_Hcall (i2 := 85) (args := [.ref 0, .int v10.1, .int (0 : Int32)]) (rest := []) (r := some (.int v15)) (σ1 := (f_X8_clear v10.2.2)) rfl rfl ⟨rfl, rfl, rfl, rfl, rfl⟩ rfl ((t_X11_knightsMeant hv15).up (by decide)) ?_
            cases h
            exact wk_eqz hk (wk_Hret rfl)
          · refine wk_Hbf 83 81 rfl rfl (wk_nf wk_cne hc) ?_
            refine wk_Hs 1 82 ⟨rfl, rfl⟩ (ls' := [.ref 0, .int x1, .int x2, .int v10.1, .int v10.2.1, g11, g12, g13]) (st' := [.int v10.2.1, .int v10.1, .ref 0]) (σ' := (f_X8_clear v10.2.2)) rfl ?_
            refine wk_Hgoto (t := 84) rfl ?_
            obtain ⟨v16, hv16, h⟩ := wk_bindE h
            refine wk_Hcall (i2 := 85) (args := [.ref 0, .int v10.1, .int v10.2.1]) (rest := []) (r := some (.int v16)) (σ1 := (f_X8_clear v10.2.2)) rfl rfl ⟨rfl, rfl, rfl, rfl, rfl⟩ rfl ((t_X11_knightsMeant hv16).up (by decide)) ?_
            cases h
            exact wk_eqz hk (wk_Hret rfl)
        · refine wk_Hbf 76 73 rfl rfl (wk_nf wk_cne hc) ?_
          refine wk_Hs 1 74 ⟨rfl, rfl⟩ (ls' := [.ref 0, .int x1, .int x2, .int v10.1, .int v10.2.1, g11, g12, g13]) (st' := [.int v10.1]) (σ' := (f_X8_clear v10.2.2)) rfl ?_
          obtain ⟨v17, hv17, h⟩ := wk_bindE h
          refine wk_Hcall (i2 := 75) (args := [.int v10.1]) (rest := []) (r := some (.int v17)) (σ1 := (f_X8_clear v10.2.2)) rfl rfl ⟨rfl, rfl, rfl, rfl, rfl⟩ rfl ((t_X11_weekdaysMeant hv17).up (by decide)) ?_
          refine wk_Hgoto (t := 85) rfl ?_
          cases h
          exact wk_eqz hk (wk_Hret rfl)
    · refine wk_H0f 14 12 rfl rfl (wk_nf wk_zne hc) ?_
      refine wk_Hs 1 13 ⟨rfl, rfl⟩ (ls' := [.ref 0, .int x1, .int x2, wk_U, wk_U, wk_U, wk_U, wk_U]) (st' := [.int (-1 : Int32)]) (σ' := s) rfl ?_
      cases h
      exact wk_eqz hk (wk_Hret rfl)
set_option maxHeartbeats 4000000 in
set_option maxRecDepth 20000 in
theorem t_X8_pairAt {x1 : Int32} {s : wk_St} {r : Int32} (h : f_X8_pairAt x1 s = some r) : wk_T wk_shC 1 235 [.ref 1, .int x1] s (some (.int r), s) := by
  suffices H : ∀ z, z = (some (.int r), s) → wk_H wk_shC 1 mc_X8_pairAt 0 [.ref 1, .int x1] [] s z from H _ rfl
  intro z hk
  dsimp only [f_X8_pairAt] at h
  refine wk_Hs 4 4 ⟨rfl, rfl⟩ (ls' := [.ref 1, .int x1]) (st' := [.int ((2 : Int32) * x1), .ref 1]) (σ' := s) rfl ?_
  obtain ⟨v1, hv1, h⟩ := wk_bindE h
  refine wk_Hcall (i2 := 5) (args := [.ref 1, .int ((2 : Int32) * x1)]) (rest := []) (r := some (.int v1)) (σ1 := s) rfl rfl ⟨rfl, rfl, rfl, rfl, rfl⟩ rfl ((t_X8_byteAt hv1).up (by decide)) ?_
  refine wk_Hs 8 13 ⟨rfl, rfl⟩ (ls' := [.ref 1, .int x1]) (st' := [.int (((2 : Int32) * x1) + (1 : Int32)), .ref 1, .int (v1 <<< ((8 : Int32) &&& 31))]) (σ' := s) rfl ?_
  obtain ⟨v2, hv2, h⟩ := wk_bindE h
  refine wk_Hcall (i2 := 14) (args := [.ref 1, .int (((2 : Int32) * x1) + (1 : Int32))]) (rest := [.int (v1 <<< ((8 : Int32) &&& 31))]) (r := some (.int v2)) (σ1 := s) rfl rfl ⟨rfl, rfl, rfl, rfl, rfl⟩ rfl ((t_X8_byteAt hv2).up (by decide)) ?_
  refine wk_Hs 1 15 ⟨rfl, rfl⟩ (ls' := [.ref 1, .int x1]) (st' := [.int ((v1 <<< ((8 : Int32) &&& 31)) ||| v2)]) (σ' := s) rfl ?_
  cases h
  exact wk_eqz hk (wk_Hret rfl)
set_option maxHeartbeats 4000000 in
set_option maxRecDepth 20000 in
theorem ts_S_X11_canBeHated_2 {x1 : Int32} {x2 : Int32} {x3 : Int32} {w4 : Value} {w5 : Value} {w6 : Value} {s : wk_St} {z : wk_R} {o : ((Bool) ⊕ (Unit)) ⊕ (Int32)} (h : S_X11_canBeHated_2 x1 x2 s x3 = some o) (hk : match (generalizing := false) o with | Sum.inl a => (match (generalizing := false) a with | Sum.inl r => z = (some (.int (b2i r)), s) | Sum.inr _ => ∀ (u3 u4 u5 u6 : Value), wk_H wk_shC 2 mc_X11_canBeHated 29 [.ref 0, .int x1, .int x2, u3, u4, u5, u6] [] s z) | Sum.inr y => ∀ (u4 u5 u6 : Value), wk_H wk_shC 2 mc_X11_canBeHated 2 [.ref 0, .int x1, .int x2, .int y, u4, u5, u6] [] s z) : wk_H wk_shC 2 mc_X11_canBeHated 2 [.ref 0, .int x1, .int x2, .int x3, w4, w5, w6] [] s z := by
  dsimp only [S_X11_canBeHated_2] at h
  refine wk_Hs 2 4 ⟨rfl, rfl⟩ (ls' := [.ref 0, .int x1, .int x2, .int x3, w4, w5, w6]) (st' := [.int x2, .int x3]) (σ' := s) rfl ?_
  rcases wk_ife h with ⟨hc, h⟩ | ⟨hc, h⟩
  · refine wk_Hbt 29 rfl (wk_cge.2 hc) ?_
    cases h
    exact hk _ _ _ _
  · refine wk_Hbf 29 5 rfl rfl (wk_nf wk_cge hc) ?_
    refine wk_Hs 3 8 ⟨rfl, rfl⟩ (ls' := [.ref 0, .int x1, .int x2, .int x3, w4, w5, w6]) (st' := [.int x3, .ref 1]) (σ' := s) rfl ?_
    obtain ⟨v1, hv1, h⟩ := wk_bindE h
    refine wk_Hcall (i2 := 9) (args := [.ref 1, .int x3]) (rest := []) (r := some (.int v1)) (σ1 := s) rfl rfl ⟨rfl, rfl, rfl, rfl, rfl⟩ rfl ((t_X8_pairAt hv1).up (by decide)) ?_
    refine wk_Hs 3 12 ⟨rfl, rfl⟩ (ls' := [.ref 0, .int x1, .int x2, .int x3, .int v1, w5, w6]) (st' := [.int (15 : Int32), .int v1]) (σ' := s) rfl ?_
    refine wk_Hcall (i2 := 13) (args := [.int v1, .int (15 : Int32)]) (rest := []) (r := some (.int (b2i (f_X11_hasBit v1 (15 : Int32))))) (σ1 := s) rfl rfl ⟨rfl, rfl, rfl, rfl, rfl⟩ rfl ((t_X11_hasBit rfl).up (by decide)) ?_
    refine wk_Hs 4 17 ⟨rfl, rfl⟩ (ls' := [.ref 0, .int x1, .int x2, .int x3, .int v1, .int (b2i (f_X11_hasBit v1 (15 : Int32))), w6]) (st' := [.int (v1 &&& x1)]) (σ' := s) rfl ?_
    rcases wk_ife h with ⟨hc, h⟩ | ⟨hc, h⟩
    · refine wk_H0t 20 rfl (wk_ceq.2 hc) ?_
      refine wk_Hs 4 24 ⟨rfl, rfl⟩ (ls' := [.ref 0, .int x1, .int x2, .int x3, .int v1, .int (b2i (f_X11_hasBit v1 (15 : Int32))), .int (0 : Int32)]) (st' := [.int (0 : Int32), .int (b2i (f_X11_hasBit v1 (15 : Int32)))]) (σ' := s) rfl ?_
      rcases wk_ife h with ⟨hc, h⟩ | ⟨hc, h⟩
      · refine wk_Hbt 27 rfl (wk_ceq.2 hc) ?_
        refine wk_Hs 1 28 ⟨rfl, rfl⟩ (ls' := [.ref 0, .int x1, .int x2, .int (x3 + (1 : Int32)), .int v1, .int (b2i (f_X11_hasBit v1 (15 : Int32))), .int (0 : Int32)]) (st' := []) (σ' := s) rfl ?_
        refine wk_Hgoto (t := 2) rfl ?_
        cases h
        exact hk _ _ _
      · refine wk_Hbf 27 25 rfl rfl (wk_nf wk_ceq hc) ?_
        refine wk_Hs 1 26 ⟨rfl, rfl⟩ (ls' := [.ref 0, .int x1, .int x2, .int x3, .int v1, .int (b2i (f_X11_hasBit v1 (15 : Int32))), .int (0 : Int32)]) (st' := [.int (0 : Int32)]) (σ' := s) rfl ?_
        cases h
        exact wk_eqz hk (wk_Hretz rfl (b2i_01 false))
    · refine wk_H0f 20 18 rfl rfl (wk_nf wk_ceq hc) ?_
      refine wk_Hs 1 19 ⟨rfl, rfl⟩ (ls' := [.ref 0, .int x1, .int x2, .int x3, .int v1, .int (b2i (f_X11_hasBit v1 (15 : Int32))), w6]) (st' := [.int (1 : Int32)]) (σ' := s) rfl ?_
      refine wk_Hgoto (t := 21) rfl ?_
      refine wk_Hs 3 24 ⟨rfl, rfl⟩ (ls' := [.ref 0, .int x1, .int x2, .int x3, .int v1, .int (b2i (f_X11_hasBit v1 (15 : Int32))), .int (1 : Int32)]) (st' := [.int (1 : Int32), .int (b2i (f_X11_hasBit v1 (15 : Int32)))]) (σ' := s) rfl ?_
      rcases wk_ife h with ⟨hc, h⟩ | ⟨hc, h⟩
      · refine wk_Hbt 27 rfl (wk_ceq.2 hc) ?_
        refine wk_Hs 1 28 ⟨rfl, rfl⟩ (ls' := [.ref 0, .int x1, .int x2, .int (x3 + (1 : Int32)), .int v1, .int (b2i (f_X11_hasBit v1 (15 : Int32))), .int (1 : Int32)]) (st' := []) (σ' := s) rfl ?_
        refine wk_Hgoto (t := 2) rfl ?_
        cases h
        exact hk _ _ _
      · refine wk_Hbf 27 25 rfl rfl (wk_nf wk_ceq hc) ?_
        refine wk_Hs 1 26 ⟨rfl, rfl⟩ (ls' := [.ref 0, .int x1, .int x2, .int x3, .int v1, .int (b2i (f_X11_hasBit v1 (15 : Int32))), .int (1 : Int32)]) (st' := [.int (0 : Int32)]) (σ' := s) rfl ?_
        cases h
        exact wk_eqz hk (wk_Hretz rfl (b2i_01 false))
set_option maxHeartbeats 4000000 in
set_option maxRecDepth 20000 in
theorem tl_S_X11_canBeHated_2 {x1 : Int32} {x2 : Int32} {s : wk_St} {z : wk_R} (n : Nat) : ∀ {x3 : Int32} {w4 : Value} {w5 : Value} {w6 : Value} {a : (Bool) ⊕ (Unit)} (h : wk_loop (S_X11_canBeHated_2 x1 x2 s) n x3 = some a) (hk : match (generalizing := false) a with | Sum.inl r => z = (some (.int (b2i r)), s) | Sum.inr _ => ∀ (u3 u4 u5 u6 : Value), wk_H wk_shC 2 mc_X11_canBeHated 29 [.ref 0, .int x1, .int x2, u3, u4, u5, u6] [] s z), wk_H wk_shC 2 mc_X11_canBeHated 2 [.ref 0, .int x1, .int x2, .int x3, w4, w5, w6] [] s z := by
  induction n with
  | zero =>
    intros
    rename_i h _
    exact nomatch (show (none : Option _) = some _ from h)
  | succ n ih =>
    intros
    rename_i h hk
    obtain ⟨o, ho, h⟩ := wk_bindE (show Option.bind _ _ = some _ from h)
    refine ts_S_X11_canBeHated_2 ho ?_
    cases o with
    | inl a1 =>
      cases h
      exact hk
    | inr p =>
      exact fun _ _ _ => ih h hk
set_option maxHeartbeats 4000000 in
set_option maxRecDepth 20000 in
theorem t_X11_canBeHated {x1 : Int32} {x2 : Int32} {s : wk_St} {r : Bool} (h : f_X11_canBeHated x1 x2 s = some r) : wk_T wk_shC 2 27 [.ref 0, .int x1, .int x2] s (some (.int (b2i r)), s) := by
  suffices H : ∀ z, z = (some (.int (b2i r)), s) → wk_H wk_shC 2 mc_X11_canBeHated 0 [.ref 0, .int x1, .int x2, wk_U, wk_U, wk_U, wk_U] [] s z from H _ rfl
  intro z hk
  dsimp only [f_X11_canBeHated] at h
  refine wk_Hs 2 2 ⟨rfl, rfl⟩ (ls' := [.ref 0, .int x1, .int x2, .int (0 : Int32), wk_U, wk_U, wk_U]) (st' := []) (σ' := s) rfl ?_
  obtain ⟨v3, hv3, h⟩ := wk_bindE h
  rcases v3 with v3r | v3
  · cases h
    exact tl_S_X11_canBeHated_2 wk_F hv3 hk
  · refine tl_S_X11_canBeHated_2 wk_F hv3 ?_
    intro g4 g5 g6 g7
    dsimp only at h ⊢
    refine wk_Hs 1 30 ⟨rfl, rfl⟩ (ls' := [.ref 0, .int x1, .int x2, g4, g5, g6, g7]) (st' := [.int (1 : Int32)]) (σ' := s) rfl ?_
    cases h
    exact wk_eqz hk (wk_Hretz rfl (b2i_01 true))
set_option maxHeartbeats 4000000 in
set_option maxRecDepth 20000 in
theorem tj_j_X11_hated_55_l36 {x1 : Int32} {x2 : Int32} {x3 : Int32} {x5 : Int32} {x6 : Int32} {x7 : Int32} {s_0 : Int32} {w4 : Value} {s : wk_St} {z : wk_R} {o : (Int32 × Int32 × Int32 × wk_St) ⊕ (Int32 × Int32 × Int32 × Int32 × wk_St)} (h : j_X11_hated_55_l36 x1 x2 x3 x5 x6 x7 s_0 s = some o) (hk : match (generalizing := false) o with | Sum.inl a => (∀ (u7 : Value), wk_H wk_shC 3 mc_X11_hated 65 [.ref 0, .int x1, .int x2, .int a.1, .int a.2.1, .int a.2.2.1, .int x6, u7] [] a.2.2.2 z) | Sum.inr y => wk_H wk_shC 3 mc_X11_hated 36 [.ref 0, .int x1, .int x2, .int y.1, .int y.2.1, .int y.2.2.1, .int x6, .int y.2.2.2.1] [] y.2.2.2.2 z) : wk_H wk_shC 3 mc_X11_hated 55 [.ref 0, .int x1, .int x2, .int x3, w4, .int x5, .int x6, .int x7] [.int s_0] s z := by
  dsimp only [j_X11_hated_55_l36] at h
  refine wk_Hs 2 57 ⟨rfl, rfl⟩ (ls' := [.ref 0, .int x1, .int x2, .int x3, .int s_0, .int x5, .int x6, .int x7]) (st' := [.int x3]) (σ' := s) rfl ?_
  rcases wk_ife h with ⟨hc, h⟩ | ⟨hc, h⟩
  · refine wk_H0t 60 rfl (wk_cne.2 hc) ?_
    refine wk_Hs 4 64 ⟨rfl, rfl⟩ (ls' := [.ref 0, .int x1, .int x2, .int (x3 + (1 : Int32)), .int s_0, .int x5, .int x6, .int (x7 + (1 : Int32))]) (st' := []) (σ' := s) rfl ?_
    refine wk_Hgoto (t := 36) rfl ?_
    cases h
    exact hk
  · refine wk_H0f 60 58 rfl rfl (wk_nf wk_cne hc) ?_
    refine wk_Hs 1 59 ⟨rfl, rfl⟩ (ls' := [.ref 0, .int x1, .int x2, .int x3, .int s_0, .int x5, .int x6, .int x7]) (st' := [.int x7]) (σ' := s) rfl ?_
    refine wk_Hgoto (t := 61) rfl ?_
    refine wk_Hs 3 64 ⟨rfl, rfl⟩ (ls' := [.ref 0, .int x1, .int x2, .int (x3 + (1 : Int32)), .int s_0, .int x7, .int x6, .int (x7 + (1 : Int32))]) (st' := []) (σ' := s) rfl ?_
    refine wk_Hgoto (t := 36) rfl ?_
    cases h
    exact hk
set_option maxHeartbeats 4000000 in
set_option maxRecDepth 20000 in
theorem ts_S_X11_hated_36 {x1 : Int32} {x2 : Int32} {x6 : Int32} {x3 : Int32} {x4 : Int32} {x5 : Int32} {x7 : Int32} {s : wk_St} {z : wk_R} {o : (Int32 × Int32 × Int32 × wk_St) ⊕ (Int32 × Int32 × Int32 × Int32 × wk_St)} (h : S_X11_hated_36 x1 x2 x6 (x3, x4, x5, x7, s) = some o) (hk : match (generalizing := false) o with | Sum.inl a => (∀ (u7 : Value), wk_H wk_shC 3 mc_X11_hated 65 [.ref 0, .int x1, .int x2, .int a.1, .int a.2.1, .int a.2.2.1, .int x6, u7] [] a.2.2.2 z) | Sum.inr y => wk_H wk_shC 3 mc_X11_hated 36 [.ref 0, .int x1, .int x2, .int y.1, .int y.2.1, .int y.2.2.1, .int x6, .int y.2.2.2.1] [] y.2.2.2.2 z) : wk_H wk_shC 3 mc_X11_hated 36 [.ref 0, .int x1, .int x2, .int x3, .int x4, .int x5, .int x6, .int x7] [] s z := by
  dsimp only [S_X11_hated_36] at h
  refine wk_Hs 2 38 ⟨rfl, rfl⟩ (ls' := [.ref 0, .int x1, .int x2, .int x3, .int x4, .int x5, .int x6, .int x7]) (st' := [.int (12 : Int32), .int x7]) (σ' := s) rfl ?_
  rcases wk_ife h with ⟨hc, h⟩ | ⟨hc, h⟩
  · refine wk_Hbt 65 rfl (wk_cge.2 hc) ?_
    cases h
    exact hk _
  · refine wk_Hbf 65 39 rfl rfl (wk_nf wk_cge hc) ?_
    refine wk_Hs 9 48 ⟨rfl, rfl⟩ (ls' := [.ref 0, .int x1, .int x2, .int x3, .int x4, .int x5, .int x6, .int x7]) (st' := [.int x1, .int (((1 : Int32) <<< (x6 &&& 31)) ||| ((1 : Int32) <<< (x7 &&& 31))), .ref 0]) (σ' := s) rfl ?_
    obtain ⟨v5, hv5, h⟩ := wk_bindE h
    refine wk_Hcall (i2 := 49) (args := [.ref 0, .int (((1 : Int32) <<< (x6 &&& 31)) ||| ((1 : Int32) <<< (x7 &&& 31))), .int x1]) (rest := []) (r := some (.int (b2i v5))) (σ1 := s) rfl rfl ⟨rfl, rfl, rfl, rfl, rfl⟩ rfl ((t_X11_canBeHated hv5).up (by decide)) ?_
    rcases wk_ife h with ⟨hc, h⟩ | ⟨hc, h⟩
    · refine wk_H0t 63 rfl (wk_zeq.2 hc) ?_
      refine wk_Hs 1 64 ⟨rfl, rfl⟩ (ls' := [.ref 0, .int x1, .int x2, .int x3, .int x4, .int x5, .int x6, .int (x7 + (1 : Int32))]) (st' := []) (σ' := s) rfl ?_
      refine wk_Hgoto (t := 36) rfl ?_
      cases h
      exact hk
    · refine wk_H0f 63 50 rfl rfl (wk_nf wk_zeq hc) ?_
      refine wk_Hs 1 51 ⟨rfl, rfl⟩ (ls' := [.ref 0, .int x1, .int x2, .int x3, .int x4, .int x5, .int x6, .int x7]) (st' := [.int x3]) (σ' := s) rfl ?_
      rcases wk_ife h with ⟨hc, h⟩ | ⟨hc, h⟩
      · refine wk_H0t 54 rfl (wk_cne.2 hc) ?_
        refine wk_Hs 1 55 ⟨rfl, rfl⟩ (ls' := [.ref 0, .int x1, .int x2, .int x3, .int x4, .int x5, .int x6, .int x7]) (st' := [.int x4]) (σ' := s) rfl ?_
        exact tj_j_X11_hated_55_l36 h hk
      · refine wk_H0f 54 52 rfl rfl (wk_nf wk_cne hc) ?_
        refine wk_Hs 1 53 ⟨rfl, rfl⟩ (ls' := [.ref 0, .int x1, .int x2, .int x3, .int x4, .int x5, .int x6, .int x7]) (st' := [.int x6]) (σ' := s) rfl ?_
        refine wk_Hgoto (t := 55) rfl ?_
        exact tj_j_X11_hated_55_l36 h hk
set_option maxHeartbeats 4000000 in
set_option maxRecDepth 20000 in
theorem tl_S_X11_hated_36 {x1 : Int32} {x2 : Int32} {x6 : Int32} {z : wk_R} (n : Nat) : ∀ {x3 : Int32} {x4 : Int32} {x5 : Int32} {x7 : Int32} {s : wk_St} {a : Int32 × Int32 × Int32 × wk_St} (h : wk_loop (S_X11_hated_36 x1 x2 x6) n (x3, x4, x5, x7, s) = some a) (hk : ∀ (u7 : Value), wk_H wk_shC 3 mc_X11_hated 65 [.ref 0, .int x1, .int x2, .int a.1, .int a.2.1, .int a.2.2.1, .int x6, u7] [] a.2.2.2 z), wk_H wk_shC 3 mc_X11_hated 36 [.ref 0, .int x1, .int x2, .int x3, .int x4, .int x5, .int x6, .int x7] [] s z := by
  induction n with
  | zero =>
    intros
    rename_i h _
    exact nomatch (show (none : Option _) = some _ from h)
  | succ n ih =>
    intros
    rename_i h hk
    obtain ⟨o, ho, h⟩ := wk_bindE (show Option.bind _ _ = some _ from h)
    refine ts_S_X11_hated_36 ho ?_
    cases o with
    | inl a1 =>
      cases h
      exact hk
    | inr p =>
      obtain ⟨p0, p1, p2, p3, p4⟩ := p
      exact ih h hk
set_option maxHeartbeats 4000000 in
set_option maxRecDepth 20000 in
theorem ts_S_X11_hated_29 {x1 : Int32} {x2 : Int32} {x3 : Int32} {x4 : Int32} {x5 : Int32} {x6 : Int32} {w7 : Value} {s : wk_St} {z : wk_R} {o : (Int32 × Int32 × Int32 × wk_St) ⊕ (Int32 × Int32 × Int32 × Int32 × wk_St)} (h : S_X11_hated_29 x1 x2 (x3, x4, x5, x6, s) = some o) (hk : match (generalizing := false) o with | Sum.inl a => (∀ (u6 u7 : Value), wk_H wk_shC 3 mc_X11_hated 67 [.ref 0, .int x1, .int x2, .int a.1, .int a.2.1, .int a.2.2.1, u6, u7] [] a.2.2.2 z) | Sum.inr y => ∀ (u7 : Value), wk_H wk_shC 3 mc_X11_hated 29 [.ref 0, .int x1, .int x2, .int y.1, .int y.2.1, .int y.2.2.1, .int y.2.2.2.1, u7] [] y.2.2.2.2 z) : wk_H wk_shC 3 mc_X11_hated 29 [.ref 0, .int x1, .int x2, .int x3, .int x4, .int x5, .int x6, w7] [] s z := by
  dsimp only [S_X11_hated_29] at h
  refine wk_Hs 2 31 ⟨rfl, rfl⟩ (ls' := [.ref 0, .int x1, .int x2, .int x3, .int x4, .int x5, .int x6, w7]) (st' := [.int (12 : Int32), .int x6]) (σ' := s) rfl ?_
  rcases wk_ife h with ⟨hc, h⟩ | ⟨hc, h⟩
  · refine wk_Hbt 67 rfl (wk_cge.2 hc) ?_
    cases h
    exact hk _ _
  · refine wk_Hbf 67 32 rfl rfl (wk_nf wk_cge hc) ?_
    refine wk_Hs 3 35 ⟨rfl, rfl⟩ (ls' := [.ref 0, .int x1, .int x2, .int x3, .int x4, .int x5, .int x6, w7]) (st' := [.int (x6 + (1 : Int32))]) (σ' := s) rfl ?_
    replace h := wk_letE h
    refine wk_Hs 1 36 ⟨rfl, rfl⟩ (ls' := [.ref 0, .int x1, .int x2, .int x3, .int x4, .int x5, .int x6, .int (x6 + (1 : Int32))]) (st' := []) (σ' := s) rfl ?_
    obtain ⟨v6, hv6, h⟩ := wk_bindE h
    refine tl_S_X11_hated_36 wk_F hv6 ?_
    intro g7
    refine wk_Hs 1 66 ⟨rfl, rfl⟩ (ls' := [.ref 0, .int x1, .int x2, .int v6.1, .int v6.2.1, .int v6.2.2.1, .int (x6 + (1 : Int32)), g7]) (st' := []) (σ' := v6.2.2.2) rfl ?_
    refine wk_Hgoto (t := 29) rfl ?_
    cases h
    exact hk _
set_option maxHeartbeats 4000000 in
set_option maxRecDepth 20000 in
theorem tl_S_X11_hated_29 {x1 : Int32} {x2 : Int32} {z : wk_R} (n : Nat) : ∀ {x3 : Int32} {x4 : Int32} {x5 : Int32} {x6 : Int32} {w7 : Value} {s : wk_St} {a : Int32 × Int32 × Int32 × wk_St} (h : wk_loop (S_X11_hated_29 x1 x2) n (x3, x4, x5, x6, s) = some a) (hk : ∀ (u6 u7 : Value), wk_H wk_shC 3 mc_X11_hated 67 [.ref 0, .int x1, .int x2, .int a.1, .int a.2.1, .int a.2.2.1, u6, u7] [] a.2.2.2 z), wk_H wk_shC 3 mc_X11_hated 29 [.ref 0, .int x1, .int x2, .int x3, .int x4, .int x5, .int x6, w7] [] s z := by
  induction n with
  | zero =>
    intros
    rename_i h _
    exact nomatch (show (none : Option _) = some _ from h)
  | succ n ih =>
    intros
    rename_i h hk
    obtain ⟨o, ho, h⟩ := wk_bindE (show Option.bind _ _ = some _ from h)
    refine ts_S_X11_hated_29 ho ?_
    cases o with
    | inl a1 =>
      cases h
      exact hk
    | inr p =>
      obtain ⟨p0, p1, p2, p3, p4⟩ := p
      exact fun _ => ih h hk
set_option maxHeartbeats 4000000 in
set_option maxRecDepth 20000 in
theorem t_X11_hated {x1 : Int32} {x2 : Int32} {s : wk_St} {r : Int32 × wk_St} (h : f_X11_hated x1 x2 s = some r) : wk_T wk_shC 3 26 [.ref 0, .int x1, .int x2] s (some (.int r.1), r.2) := by
  suffices H : ∀ z, z = (some (.int r.1), r.2) → wk_H wk_shC 3 mc_X11_hated 0 [.ref 0, .int x1, .int x2, wk_U, wk_U, wk_U, wk_U, wk_U] [] s z from H _ rfl
  intro z hk
  dsimp only [f_X11_hated] at h
  refine wk_Hs 3 3 ⟨rfl, rfl⟩ (ls' := [.ref 0, .int x1, .int x2, wk_U, wk_U, wk_U, wk_U, wk_U]) (st' := [.int (16 : Int32), .int (1 : Int32), .int x1]) (σ' := s) rfl ?_
  refine wk_Hcall (i2 := 4) (args := [.int x1, .int (1 : Int32), .int (16 : Int32)]) (rest := []) (r := some (.int (b2i (f_X11_isWithin x1 (1 : Int32) (16 : Int32))))) (σ1 := s) rfl rfl ⟨rfl, rfl, rfl, rfl, rfl⟩ rfl ((t_X11_isWithin rfl).up (by decide)) ?_
  rcases wk_ife h with ⟨hc, h⟩ | ⟨hc, h⟩
  · refine wk_H0t 19 rfl (wk_zeq.2 hc) ?_
    refine wk_Hs 1 20 ⟨rfl, rfl⟩ (ls' := [.ref 0, .int x1, .int x2, wk_U, wk_U, wk_U, wk_U, wk_U]) (st' := [.int (-1 : Int32)]) (σ' := s) rfl ?_
    cases h
    exact wk_eqz hk (wk_Hret rfl)
  · refine wk_H0f 19 5 rfl rfl (wk_nf wk_zeq hc) ?_
    refine wk_Hs 7 12 ⟨rfl, rfl⟩ (ls' := [.ref 0, .int x1, .int x2, wk_U, wk_U, wk_U, wk_U, wk_U]) (st' := [.int (32 : Int32), .int (2 : Int32), .int ((2 : Int32) * x1), .ref 1]) (σ' := s) rfl ?_
    refine wk_Hcall (i2 := 13) (args := [.ref 1, .int ((2 : Int32) * x1), .int (2 : Int32), .int (32 : Int32)]) (rest := []) (r := some (.int (b2i (f_X8_has ((2 : Int32) * x1) (2 : Int32) (32 : Int32) s)))) (σ1 := s) rfl rfl ⟨rfl, rfl, rfl, rfl, rfl⟩ rfl ((t_X8_has rfl).up (by decide)) ?_
    rcases wk_ife h with ⟨hc, h⟩ | ⟨hc, h⟩
    · refine wk_H0t 19 rfl (wk_zeq.2 hc) ?_
      refine wk_Hs 1 20 ⟨rfl, rfl⟩ (ls' := [.ref 0, .int x1, .int x2, wk_U, wk_U, wk_U, wk_U, wk_U]) (st' := [.int (-1 : Int32)]) (σ' := s) rfl ?_
      cases h
      exact wk_eqz hk (wk_Hret rfl)
    · refine wk_H0f 19 14 rfl rfl (wk_nf wk_zeq hc) ?_
      refine wk_Hs 3 17 ⟨rfl, rfl⟩ (ls' := [.ref 0, .int x1, .int x2, wk_U, wk_U, wk_U, wk_U, wk_U]) (st' := [.int (2 : Int32), .int (0 : Int32), .int x2]) (σ' := s) rfl ?_
      refine wk_Hcall (i2 := 18) (args := [.int x2, .int (0 : Int32), .int (2 : Int32)]) (rest := []) (r := some (.int (b2i (f_X11_isWithin x2 (0 : Int32) (2 : Int32))))) (σ1 := s) rfl rfl ⟨rfl, rfl, rfl, rfl, rfl⟩ rfl ((t_X11_isWithin rfl).up (by decide)) ?_
      rcases wk_ife h with ⟨hc, h⟩ | ⟨hc, h⟩
      · refine wk_H0t 21 rfl (wk_zne.2 hc) ?_
        refine wk_Hs 8 29 ⟨rfl, rfl⟩ (ls' := [.ref 0, .int x1, .int x2, .int (0 : Int32), .int (-2 : Int32), .int (-2 : Int32), .int (0 : Int32), wk_U]) (st' := []) (σ' := s) rfl ?_
        obtain ⟨v8, hv8, h⟩ := wk_bindE h
        refine tl_S_X11_hated_29 wk_F hv8 ?_
        intro g9 g10
        refine wk_Hs 2 69 ⟨rfl, rfl⟩ (ls' := [.ref 0, .int x1, .int x2, .int v8.1, .int v8.2.1, .int v8.2.2.1, g9, g10]) (st' := [.ref 1]) (σ' := v8.2.2.2) rfl ?_
        replace h := wk_letE h
        refine wk_Hcall (i2 := 70) (args := [.ref 1]) (rest := []) (r := none) (σ1 := (f_X8_clear v8.2.2.2)) rfl rfl ⟨rfl, rfl, rfl, rfl, rfl⟩ rfl ((t_X8_clear rfl).up (by decide)) ?_
        refine wk_Hs 1 71 ⟨rfl, rfl⟩ (ls' := [.ref 0, .int x1, .int x2, .int v8.1, .int v8.2.1, .int v8.2.2.1, g9, g10]) (st' := [.int x2]) (σ' := (f_X8_clear v8.2.2.2)) rfl ?_
        rcases wk_ife h with ⟨hc, h⟩ | ⟨hc, h⟩
        · refine wk_H0t 74 rfl (wk_cne.2 hc) ?_
          refine wk_Hs 2 76 ⟨rfl, rfl⟩ (ls' := [.ref 0, .int x1, .int x2, .int v8.1, .int v8.2.1, .int v8.2.2.1, g9, g10]) (st' := [.int (1 : Int32), .int x2]) (σ' := (f_X8_clear v8.2.2.2)) rfl ?_
          rcases wk_ife h with ⟨hc, h⟩ | ⟨hc, h⟩
          · refine wk_Hbt 79 rfl (wk_cne.2 hc) ?_
            refine wk_Hs 1 80 ⟨rfl, rfl⟩ (ls' := [.ref 0, .int x1, .int x2, .int v8.1, .int v8.2.1, .int v8.2.2.1, g9, g10]) (st' := [.int v8.2.2.1]) (σ' := (f_X8_clear v8.2.2.2)) rfl ?_
            cases h
            exact wk_eqz hk (wk_Hret rfl)
          · refine wk_Hbf 79 77 rfl rfl (wk_nf wk_cne hc) ?_
            refine wk_Hs 1 78 ⟨rfl, rfl⟩ (ls' := [.ref 0, .int x1, .int x2, .int v8.1, .int v8.2.1, .int v8.2.2.1, g9, g10]) (st' := [.int v8.2.1]) (σ' := (f_X8_clear v8.2.2.2)) rfl ?_
            refine wk_Hgoto (t := 80) rfl ?_
            cases h
            exact wk_eqz hk (wk_Hret rfl)
        · refine wk_H0f 74 72 rfl rfl (wk_nf wk_cne hc) ?_
          refine wk_Hs 1 73 ⟨rfl, rfl⟩ (ls' := [.ref 0, .int x1, .int x2, .int v8.1, .int v8.2.1, .int v8.2.2.1, g9, g10]) (st' := [.int v8.1]) (σ' := (f_X8_clear v8.2.2.2)) rfl ?_
          cases h
          exact wk_eqz hk (wk_Hret rfl)
      · refine wk_H0f 21 19 rfl rfl (wk_nf wk_zne hc) ?_
        refine wk_Hs 1 20 ⟨rfl, rfl⟩ (ls' := [.ref 0, .int x1, .int x2, wk_U, wk_U, wk_U, wk_U, wk_U]) (st' := [.int (-1 : Int32)]) (σ' := s) rfl ?_
        cases h
        exact wk_eqz hk (wk_Hret rfl)
set_option maxHeartbeats 4000000 in
set_option maxRecDepth 20000 in
theorem ts_S_X11_waysToEndWith_4 {x1 : Int32} {x2 : Int32} {x3 : Int32} {x4 : Int32} {w5 : Value} {s : wk_St} {z : wk_R} {o : (Int32) ⊕ (Int32 × Int32)} (h : S_X11_waysToEndWith_4 x1 x2 s (x3, x4) = some o) (hk : match (generalizing := false) o with | Sum.inl a => (∀ (u4 u5 : Value), wk_H wk_shC 1 mc_X11_waysToEndWith 37 [.ref 0, .int x1, .int x2, .int a, u4, u5] [] s z) | Sum.inr y => ∀ (u5 : Value), wk_H wk_shC 1 mc_X11_waysToEndWith 4 [.ref 0, .int x1, .int x2, .int y.1, .int y.2, u5] [] s z) : wk_H wk_shC 1 mc_X11_waysToEndWith 4 [.ref 0, .int x1, .int x2, .int x3, .int x4, w5] [] s z := by
  dsimp only [S_X11_waysToEndWith_4] at h
  refine wk_Hs 2 6 ⟨rfl, rfl⟩ (ls' := [.ref 0, .int x1, .int x2, .int x3, .int x4, w5]) (st' := [.int (9 : Int32), .int x4]) (σ' := s) rfl ?_
  rcases wk_ife h with ⟨hc, h⟩ | ⟨hc, h⟩
  · refine wk_Hbt 37 rfl (wk_cge.2 hc) ?_
    cases h
    exact hk _ _
  · refine wk_Hbf 37 7 rfl rfl (wk_nf wk_cge hc) ?_
    refine wk_Hs 7 14 ⟨rfl, rfl⟩ (ls' := [.ref 0, .int x1, .int x2, .int x3, .int x4, w5]) (st' := [.int (x1 &&& (((1 : Int32) <<< (x4 &&& 31)) ^^^ (-1 : Int32)))]) (σ' := s) rfl ?_
    replace h := wk_letE h
    refine wk_Hs 5 19 ⟨rfl, rfl⟩ (ls' := [.ref 0, .int x1, .int x2, .int x3, .int x4, .int (x1 &&& (((1 : Int32) <<< (x4 &&& 31)) ^^^ (-1 : Int32)))]) (st' := [.int x4, .int (x1 &&& x2)]) (σ' := s) rfl ?_
    refine wk_Hcall (i2 := 20) (args := [.int (x1 &&& x2), .int x4]) (rest := []) (r := some (.int (b2i (f_X11_hasBit (x1 &&& x2) x4)))) (σ1 := s) rfl rfl ⟨rfl, rfl, rfl, rfl, rfl⟩ rfl ((t_X11_hasBit rfl).up (by decide)) ?_
    rcases wk_ife h with ⟨hc, h⟩ | ⟨hc, h⟩
    · refine wk_H0t 35 rfl (wk_zeq.2 hc) ?_
      refine wk_Hs 1 36 ⟨rfl, rfl⟩ (ls' := [.ref 0, .int x1, .int x2, .int x3, .int (x4 + (1 : Int32)), .int (x1 &&& (((1 : Int32) <<< (x4 &&& 31)) ^^^ (-1 : Int32)))]) (st' := []) (σ' := s) rfl ?_
      refine wk_Hgoto (t := 4) rfl ?_
      cases h
      exact hk _
    · refine wk_H0f 35 21 rfl rfl (wk_nf wk_zeq hc) ?_
      refine wk_Hs 1 22 ⟨rfl, rfl⟩ (ls' := [.ref 0, .int x1, .int x2, .int x3, .int x4, .int (x1 &&& (((1 : Int32) <<< (x4 &&& 31)) ^^^ (-1 : Int32)))]) (st' := [.int (x1 &&& (((1 : Int32) <<< (x4 &&& 31)) ^^^ (-1 : Int32)))]) (σ' := s) rfl ?_
      rcases wk_ife h with ⟨hc, h⟩ | ⟨hc, h⟩
      · refine wk_H0t 35 rfl (wk_clt.2 hc) ?_
        refine wk_Hs 1 36 ⟨rfl, rfl⟩ (ls' := [.ref 0, .int x1, .int x2, .int x3, .int (x4 + (1 : Int32)), .int (x1 &&& (((1 : Int32) <<< (x4 &&& 31)) ^^^ (-1 : Int32)))]) (st' := []) (σ' := s) rfl ?_
        refine wk_Hgoto (t := 4) rfl ?_
        cases h
        exact hk _
      · refine wk_H0f 35 23 rfl rfl (wk_nf wk_clt hc) ?_
        refine wk_Hs 4 27 ⟨rfl, rfl⟩ (ls' := [.ref 0, .int x1, .int x2, .int x3, .int x4, .int (x1 &&& (((1 : Int32) <<< (x4 &&& 31)) ^^^ (-1 : Int32)))]) (st' := [.int (512 : Int32), .int (x1 &&& (((1 : Int32) <<< (x4 &&& 31)) ^^^ (-1 : Int32)))]) (σ' := s) rfl ?_
        rcases wk_ife h with ⟨hc, h⟩ | ⟨hc, h⟩
        · refine wk_Hbt 35 rfl (wk_cge.2 hc) ?_
          refine wk_Hs 1 36 ⟨rfl, rfl⟩ (ls' := [.ref 0, .int x1, .int x2, .int x3, .int (x4 + (1 : Int32)), .int (x1 &&& (((1 : Int32) <<< (x4 &&& 31)) ^^^ (-1 : Int32)))]) (st' := []) (σ' := s) rfl ?_
          refine wk_Hgoto (t := 4) rfl ?_
          cases h
          exact hk _
        · refine wk_Hbf 35 28 rfl rfl (wk_nf wk_cge hc) ?_
          refine wk_Hs 4 32 ⟨rfl, rfl⟩ (ls' := [.ref 0, .int x1, .int x2, .int x3, .int x4, .int (x1 &&& (((1 : Int32) <<< (x4 &&& 31)) ^^^ (-1 : Int32)))]) (st' := [.int (x1 &&& (((1 : Int32) <<< (x4 &&& 31)) ^^^ (-1 : Int32))), .ref 36, .int x3]) (σ' := s) rfl ?_
          obtain ⟨hg, h⟩ := wk_gdE h
          refine wk_Hia 33 rfl rfl rfl hg rfl ?_
          refine wk_Hs 1 34 ⟨rfl, rfl⟩ (ls' := [.ref 0, .int x1, .int x2, .int x3, .int x4, .int (x1 &&& (((1 : Int32) <<< (x4 &&& 31)) ^^^ (-1 : Int32)))]) (st' := [.int (x3 + (s.1 36 ((x1 &&& (((1 : Int32) <<< (x4 &&& 31)) ^^^ (-1 : Int32))).toNatClampNeg)))]) (σ' := s) rfl ?_
          replace h := wk_letE h
          refine wk_Hs 2 36 ⟨rfl, rfl⟩ (ls' := [.ref 0, .int x1, .int x2, .int (x3 + (s.1 36 ((x1 &&& (((1 : Int32) <<< (x4 &&& 31)) ^^^ (-1 : Int32))).toNatClampNeg))), .int (x4 + (1 : Int32)), .int (x1 &&& (((1 : Int32) <<< (x4 &&& 31)) ^^^ (-1 : Int32)))]) (st' := []) (σ' := s) rfl ?_
          refine wk_Hgoto (t := 4) rfl ?_
          cases h
          exact hk _
set_option maxHeartbeats 4000000 in
set_option maxRecDepth 20000 in
theorem tl_S_X11_waysToEndWith_4 {x1 : Int32} {x2 : Int32} {s : wk_St} {z : wk_R} (n : Nat) : ∀ {x3 : Int32} {x4 : Int32} {w5 : Value} {a : Int32} (h : wk_loop (S_X11_waysToEndWith_4 x1 x2 s) n (x3, x4) = some a) (hk : ∀ (u4 u5 : Value), wk_H wk_shC 1 mc_X11_waysToEndWith 37 [.ref 0, .int x1, .int x2, .int a, u4, u5] [] s z), wk_H wk_shC 1 mc_X11_waysToEndWith 4 [.ref 0, .int x1, .int x2, .int x3, .int x4, w5] [] s z := by
  induction n with
  | zero =>
    intros
    rename_i h _
    exact nomatch (show (none : Option _) = some _ from h)
  | succ n ih =>
    intros
    rename_i h hk
    obtain ⟨o, ho, h⟩ := wk_bindE (show Option.bind _ _ = some _ from h)
    refine ts_S_X11_waysToEndWith_4 ho ?_
    cases o with
    | inl a1 =>
      cases h
      exact hk
    | inr p =>
      obtain ⟨p0, p1⟩ := p
      exact fun _ => ih h hk
set_option maxHeartbeats 4000000 in
set_option maxRecDepth 20000 in
theorem t_X11_waysToEndWith {x1 : Int32} {x2 : Int32} {s : wk_St} {r : Int32} (h : f_X11_waysToEndWith x1 x2 s = some r) : wk_T wk_shC 1 30 [.ref 0, .int x1, .int x2] s (some (.int r), s) := by
  suffices H : ∀ z, z = (some (.int r), s) → wk_H wk_shC 1 mc_X11_waysToEndWith 0 [.ref 0, .int x1, .int x2, wk_U, wk_U, wk_U] [] s z from H _ rfl
  intro z hk
  dsimp only [f_X11_waysToEndWith] at h
  refine wk_Hs 4 4 ⟨rfl, rfl⟩ (ls' := [.ref 0, .int x1, .int x2, .int (0 : Int32), .int (0 : Int32), wk_U]) (st' := []) (σ' := s) rfl ?_
  obtain ⟨v4, hv4, h⟩ := wk_bindE h
  refine tl_S_X11_waysToEndWith_4 wk_F hv4 ?_
  intro g5 g6
  refine wk_Hs 1 38 ⟨rfl, rfl⟩ (ls' := [.ref 0, .int x1, .int x2, .int v4, g5, g6]) (st' := [.int v4]) (σ' := s) rfl ?_
  cases h
  exact wk_eqz hk (wk_Hret rfl)
set_option maxHeartbeats 4000000 in
set_option maxRecDepth 20000 in
theorem tj_j_X11_waysToDress_42_l4 {x1 : Int32} {x2 : Int32} {x3 : Int32} {x4 : Int32} {x5 : Int32} {s : wk_St} {z : wk_R} {o : (Int32 × wk_St) ⊕ (Int32 × Int32 × wk_St)} (h : j_X11_waysToDress_42_l4 x1 x2 x3 x4 x5 s = some o) (hk : match (generalizing := false) o with | Sum.inl a => (∀ (u4 u5 : Value), wk_H wk_shC 2 mc_X11_waysToDress 54 [.ref 0, .int x1, .int x2, .int a.1, u4, u5] [] a.2 z) | Sum.inr y => ∀ (u5 : Value), wk_H wk_shC 2 mc_X11_waysToDress 4 [.ref 0, .int x1, .int x2, .int y.1, .int y.2.1, u5] [] y.2.2 z) : wk_H wk_shC 2 mc_X11_waysToDress 42 [.ref 0, .int x1, .int x2, .int x3, .int x4, .int x5] [] s z := by
  dsimp only [j_X11_waysToDress_42_l4] at h
  refine wk_Hs 2 44 ⟨rfl, rfl⟩ (ls' := [.ref 0, .int x1, .int x2, .int x3, .int x4, .int x5]) (st' := [.int x1, .int x5]) (σ' := s) rfl ?_
  rcases wk_ife h with ⟨hc, h⟩ | ⟨hc, h⟩
  · refine wk_Hbt 52 rfl (wk_cne.2 hc) ?_
    refine wk_Hs 1 53 ⟨rfl, rfl⟩ (ls' := [.ref 0, .int x1, .int x2, .int x3, .int (x4 + (1 : Int32)), .int x5]) (st' := []) (σ' := s) rfl ?_
    refine wk_Hgoto (t := 4) rfl ?_
    cases h
    exact hk _
  · refine wk_Hbf 52 45 rfl rfl (wk_nf wk_cne hc) ?_
    refine wk_Hs 4 49 ⟨rfl, rfl⟩ (ls' := [.ref 0, .int x1, .int x2, .int x3, .int x4, .int x5]) (st' := [.int x4, .ref 36, .int x3]) (σ' := s) rfl ?_
    obtain ⟨hg, h⟩ := wk_gdE h
    refine wk_Hia 50 rfl rfl rfl hg rfl ?_
    refine wk_Hs 1 51 ⟨rfl, rfl⟩ (ls' := [.ref 0, .int x1, .int x2, .int x3, .int x4, .int x5]) (st' := [.int (x3 + (s.1 36 (x4.toNatClampNeg)))]) (σ' := s) rfl ?_
    replace h := wk_letE h
    refine wk_Hs 2 53 ⟨rfl, rfl⟩ (ls' := [.ref 0, .int x1, .int x2, .int (x3 + (s.1 36 (x4.toNatClampNeg))), .int (x4 + (1 : Int32)), .int x5]) (st' := []) (σ' := s) rfl ?_
    refine wk_Hgoto (t := 4) rfl ?_
    cases h
    exact hk _
set_option maxHeartbeats 4000000 in
set_option maxRecDepth 20000 in
theorem tj_j_X11_waysToDress_20_l4 {x1 : Int32} {x2 : Int32} {x3 : Int32} {x4 : Int32} {x5 : Int32} {s_0 : Int32} {s_1 : Int32} {s : wk_St} {z : wk_R} {o : (Int32 × wk_St) ⊕ (Int32 × Int32 × wk_St)} (h : j_X11_waysToDress_20_l4 x1 x2 x3 x4 x5 s_0 s_1 s = some o) (hk : match (generalizing := false) o with | Sum.inl a => (∀ (u4 u5 : Value), wk_H wk_shC 2 mc_X11_waysToDress 54 [.ref 0, .int x1, .int x2, .int a.1, u4, u5] [] a.2 z) | Sum.inr y => ∀ (u5 : Value), wk_H wk_shC 2 mc_X11_waysToDress 4 [.ref 0, .int x1, .int x2, .int y.1, .int y.2.1, u5] [] y.2.2 z) : wk_H wk_shC 2 mc_X11_waysToDress 20 [.ref 0, .int x1, .int x2, .int x3, .int x4, .int x5] [.int s_0, .int s_1, .ref 36] s z := by
  dsimp only [j_X11_waysToDress_20_l4] at h
  obtain ⟨hg, h⟩ := wk_gdE h
  refine wk_Hias 21 rfl rfl rfl hg rfl ?_
  refine wk_Hs 2 23 ⟨rfl, rfl⟩ (ls' := [.ref 0, .int x1, .int x2, .int x3, .int x4, .int x5]) (st' := [.int (1 : Int32), .int x5]) (σ' := (wk_si s 36 (s_1.toNatClampNeg) s_0)) rfl ?_
  rcases wk_ife h with ⟨hc, h⟩ | ⟨hc, h⟩
  · refine wk_Hbt 42 rfl (wk_clt.2 hc) ?_
    exact tj_j_X11_waysToDress_42_l4 h hk
  · refine wk_Hbf 42 24 rfl rfl (wk_nf wk_clt hc) ?_
    refine wk_Hs 2 26 ⟨rfl, rfl⟩ (ls' := [.ref 0, .int x1, .int x2, .int x3, .int x4, .int x5]) (st' := [.int x1, .int x5]) (σ' := (wk_si s 36 (s_1.toNatClampNeg) s_0)) rfl ?_
    rcases wk_ife h with ⟨hc, h⟩ | ⟨hc, h⟩
    · refine wk_Hbt 42 rfl (wk_cgt.2 hc) ?_
      exact tj_j_X11_waysToDress_42_l4 h hk
    · refine wk_Hbf 42 27 rfl rfl (wk_nf wk_cgt hc) ?_
      refine wk_Hs 10 37 ⟨rfl, rfl⟩ (ls' := [.ref 0, .int x1, .int x2, .int x3, .int x4, .int x5]) (st' := [.int (x5 - (1 : Int32)), .ref 1, .int x4, .ref 0, .int x4, .ref 36]) (σ' := (wk_si s 36 (s_1.toNatClampNeg) s_0)) rfl ?_
      obtain ⟨v4, hv4, h⟩ := wk_bindE h
      refine wk_Hcall (i2 := 38) (args := [.ref 1, .int (x5 - (1 : Int32))]) (rest := [.int x4, .ref 0, .int x4, .ref 36]) (r := some (.int v4)) (σ1 := (wk_si s 36 (s_1.toNatClampNeg) s_0)) rfl rfl ⟨rfl, rfl, rfl, rfl, rfl⟩ rfl ((t_X8_pairAt hv4).up (by decide)) ?_
      refine wk_Hs 2 40 ⟨rfl, rfl⟩ (ls' := [.ref 0, .int x1, .int x2, .int x3, .int x4, .int x5]) (st' := [.int (v4 &&& x2), .int x4, .ref 0, .int x4, .ref 36]) (σ' := (wk_si s 36 (s_1.toNatClampNeg) s_0)) rfl ?_
      obtain ⟨v5, hv5, h⟩ := wk_bindE h
      refine wk_Hcall (i2 := 41) (args := [.ref 0, .int x4, .int (v4 &&& x2)]) (rest := [.int x4, .ref 36]) (r := some (.int v5)) (σ1 := (wk_si s 36 (s_1.toNatClampNeg) s_0)) rfl rfl ⟨rfl, rfl, rfl, rfl, rfl⟩ rfl ((t_X11_waysToEndWith hv5).up (by decide)) ?_
      obtain ⟨hg, h⟩ := wk_gdE h
      refine wk_Hias 42 rfl rfl rfl hg rfl ?_
      exact tj_j_X11_waysToDress_42_l4 h hk
set_option maxHeartbeats 4000000 in
set_option maxRecDepth 20000 in
theorem ts_S_X11_waysToDress_4 {x1 : Int32} {x2 : Int32} {x3 : Int32} {x4 : Int32} {w5 : Value} {s : wk_St} {z : wk_R} {o : (Int32 × wk_St) ⊕ (Int32 × Int32 × wk_St)} (h : S_X11_waysToDress_4 x1 x2 (x3, x4, s) = some o) (hk : match (generalizing := false) o with | Sum.inl a => (∀ (u4 u5 : Value), wk_H wk_shC 2 mc_X11_waysToDress 54 [.ref 0, .int x1, .int x2, .int a.1, u4, u5] [] a.2 z) | Sum.inr y => ∀ (u5 : Value), wk_H wk_shC 2 mc_X11_waysToDress 4 [.ref 0, .int x1, .int x2, .int y.1, .int y.2.1, u5] [] y.2.2 z) : wk_H wk_shC 2 mc_X11_waysToDress 4 [.ref 0, .int x1, .int x2, .int x3, .int x4, w5] [] s z := by
  dsimp only [S_X11_waysToDress_4] at h
  refine wk_Hs 4 8 ⟨rfl, rfl⟩ (ls' := [.ref 0, .int x1, .int x2, .int x3, .int x4, w5]) (st' := [.int (512 : Int32), .int x4]) (σ' := s) rfl ?_
  rcases wk_ife h with ⟨hc, h⟩ | ⟨hc, h⟩
  · refine wk_Hbt 54 rfl (wk_cge.2 hc) ?_
    cases h
    exact hk _ _
  · refine wk_Hbf 54 9 rfl rfl (wk_nf wk_cge hc) ?_
    refine wk_Hs 1 10 ⟨rfl, rfl⟩ (ls' := [.ref 0, .int x1, .int x2, .int x3, .int x4, w5]) (st' := [.int x4]) (σ' := s) rfl ?_
    refine wk_Hcall (i2 := 11) (args := [.int x4]) (rest := []) (r := some (.int (f_J6_bitCount_0f7a4 x4))) (σ1 := s) rfl rfl ⟨rfl, rfl, rfl, rfl, rfl⟩ rfl ((t_J6_bitCount_0f7a4 rfl).up (by decide)) ?_
    replace h := wk_letE h
    refine wk_Hs 5 16 ⟨rfl, rfl⟩ (ls' := [.ref 0, .int x1, .int x2, .int x3, .int x4, .int (f_J6_bitCount_0f7a4 x4)]) (st' := [.int x4, .int x4, .ref 36]) (σ' := s) rfl ?_
    rcases wk_ife h with ⟨hc, h⟩ | ⟨hc, h⟩
    · refine wk_H0t 19 rfl (wk_cne.2 hc) ?_
      refine wk_Hs 1 20 ⟨rfl, rfl⟩ (ls' := [.ref 0, .int x1, .int x2, .int x3, .int x4, .int (f_J6_bitCount_0f7a4 x4)]) (st' := [.int (0 : Int32), .int x4, .ref 36]) (σ' := s) rfl ?_
      exact tj_j_X11_waysToDress_20_l4 h hk
    · refine wk_H0f 19 17 rfl rfl (wk_nf wk_cne hc) ?_
      refine wk_Hs 1 18 ⟨rfl, rfl⟩ (ls' := [.ref 0, .int x1, .int x2, .int x3, .int x4, .int (f_J6_bitCount_0f7a4 x4)]) (st' := [.int (1 : Int32), .int x4, .ref 36]) (σ' := s) rfl ?_
      refine wk_Hgoto (t := 20) rfl ?_
      exact tj_j_X11_waysToDress_20_l4 h hk
set_option maxHeartbeats 4000000 in
set_option maxRecDepth 20000 in
theorem tl_S_X11_waysToDress_4 {x1 : Int32} {x2 : Int32} {z : wk_R} (n : Nat) : ∀ {x3 : Int32} {x4 : Int32} {w5 : Value} {s : wk_St} {a : Int32 × wk_St} (h : wk_loop (S_X11_waysToDress_4 x1 x2) n (x3, x4, s) = some a) (hk : ∀ (u4 u5 : Value), wk_H wk_shC 2 mc_X11_waysToDress 54 [.ref 0, .int x1, .int x2, .int a.1, u4, u5] [] a.2 z), wk_H wk_shC 2 mc_X11_waysToDress 4 [.ref 0, .int x1, .int x2, .int x3, .int x4, w5] [] s z := by
  induction n with
  | zero =>
    intros
    rename_i h _
    exact nomatch (show (none : Option _) = some _ from h)
  | succ n ih =>
    intros
    rename_i h hk
    obtain ⟨o, ho, h⟩ := wk_bindE (show Option.bind _ _ = some _ from h)
    refine ts_S_X11_waysToDress_4 ho ?_
    cases o with
    | inl a1 =>
      cases h
      exact hk
    | inr p =>
      obtain ⟨p0, p1, p2⟩ := p
      exact fun _ => ih h hk
set_option maxHeartbeats 4000000 in
set_option maxRecDepth 20000 in
theorem t_X11_waysToDress {x1 : Int32} {x2 : Int32} {s : wk_St} {r : Int32 × wk_St} (h : f_X11_waysToDress x1 x2 s = some r) : wk_T wk_shC 2 29 [.ref 0, .int x1, .int x2] s (some (.int r.1), r.2) := by
  suffices H : ∀ z, z = (some (.int r.1), r.2) → wk_H wk_shC 2 mc_X11_waysToDress 0 [.ref 0, .int x1, .int x2, wk_U, wk_U, wk_U] [] s z from H _ rfl
  intro z hk
  dsimp only [f_X11_waysToDress] at h
  refine wk_Hs 4 4 ⟨rfl, rfl⟩ (ls' := [.ref 0, .int x1, .int x2, .int (0 : Int32), .int (0 : Int32), wk_U]) (st' := []) (σ' := s) rfl ?_
  obtain ⟨v6, hv6, h⟩ := wk_bindE h
  refine tl_S_X11_waysToDress_4 wk_F hv6 ?_
  intro g7 g8
  refine wk_Hs 1 55 ⟨rfl, rfl⟩ (ls' := [.ref 0, .int x1, .int x2, .int v6.1, g7, g8]) (st' := [.int v6.1]) (σ' := v6.2) rfl ?_
  cases h
  exact wk_eqz hk (wk_Hret rfl)
set_option maxHeartbeats 4000000 in
set_option maxRecDepth 20000 in
theorem t_X11_suits {x1 : Int32} {x2 : Int32} {s : wk_St} {r : Int32 × wk_St} (h : f_X11_suits x1 x2 s = some r) : wk_T wk_shC 3 28 [.ref 0, .int x1, .int x2] s (some (.int r.1), r.2) := by
  suffices H : ∀ z, z = (some (.int r.1), r.2) → wk_H wk_shC 3 mc_X11_suits 0 [.ref 0, .int x1, .int x2, wk_U, wk_U] [] s z from H _ rfl
  intro z hk
  dsimp only [f_X11_suits] at h
  refine wk_Hs 3 3 ⟨rfl, rfl⟩ (ls' := [.ref 0, .int x1, .int x2, wk_U, wk_U]) (st' := [.int (9 : Int32), .int (1 : Int32), .int x1]) (σ' := s) rfl ?_
  refine wk_Hcall (i2 := 4) (args := [.int x1, .int (1 : Int32), .int (9 : Int32)]) (rest := []) (r := some (.int (b2i (f_X11_isWithin x1 (1 : Int32) (9 : Int32))))) (σ1 := s) rfl rfl ⟨rfl, rfl, rfl, rfl, rfl⟩ rfl ((t_X11_isWithin rfl).up (by decide)) ?_
  rcases wk_ife h with ⟨hc, h⟩ | ⟨hc, h⟩
  · refine wk_H0t 14 rfl (wk_zeq.2 hc) ?_
    refine wk_Hs 1 15 ⟨rfl, rfl⟩ (ls' := [.ref 0, .int x1, .int x2, wk_U, wk_U]) (st' := [.int (-1 : Int32)]) (σ' := s) rfl ?_
    cases h
    exact wk_eqz hk (wk_Hret rfl)
  · refine wk_H0f 14 5 rfl rfl (wk_nf wk_zeq hc) ?_
    refine wk_Hs 7 12 ⟨rfl, rfl⟩ (ls' := [.ref 0, .int x1, .int x2, wk_U, wk_U]) (st' := [.int (18 : Int32), .int (2 : Int32), .int ((2 : Int32) * x1), .ref 1]) (σ' := s) rfl ?_
    refine wk_Hcall (i2 := 13) (args := [.ref 1, .int ((2 : Int32) * x1), .int (2 : Int32), .int (18 : Int32)]) (rest := []) (r := some (.int (b2i (f_X8_has ((2 : Int32) * x1) (2 : Int32) (18 : Int32) s)))) (σ1 := s) rfl rfl ⟨rfl, rfl, rfl, rfl, rfl⟩ rfl ((t_X8_has rfl).up (by decide)) ?_
    rcases wk_ife h with ⟨hc, h⟩ | ⟨hc, h⟩
    · refine wk_H0t 16 rfl (wk_zne.2 hc) ?_
      refine wk_Hs 5 21 ⟨rfl, rfl⟩ (ls' := [.ref 0, .int x1, .int x2, .int (-2 : Int32), wk_U]) (st' := [.int (8 : Int32), .int (-1 : Int32), .int x2]) (σ' := s) rfl ?_
      refine wk_Hcall (i2 := 22) (args := [.int x2, .int (-1 : Int32), .int (8 : Int32)]) (rest := []) (r := some (.int (b2i (f_X11_isWithin x2 (-1 : Int32) (8 : Int32))))) (σ1 := s) rfl rfl ⟨rfl, rfl, rfl, rfl, rfl⟩ rfl ((t_X11_isWithin rfl).up (by decide)) ?_
      rcases wk_ife h with ⟨hc, h⟩ | ⟨hc, h⟩
      · refine wk_H0t 41 rfl (wk_zeq.2 hc) ?_
        refine wk_Hs 2 43 ⟨rfl, rfl⟩ (ls' := [.ref 0, .int x1, .int x2, .int (-2 : Int32), wk_U]) (st' := [.ref 1]) (σ' := s) rfl ?_
        replace h := wk_letE h
        refine wk_Hcall (i2 := 44) (args := [.ref 1]) (rest := []) (r := none) (σ1 := (f_X8_clear s)) rfl rfl ⟨rfl, rfl, rfl, rfl, rfl⟩ rfl ((t_X8_clear rfl).up (by decide)) ?_
        refine wk_Hs 1 45 ⟨rfl, rfl⟩ (ls' := [.ref 0, .int x1, .int x2, .int (-2 : Int32), wk_U]) (st' := [.int (-2 : Int32)]) (σ' := (f_X8_clear s)) rfl ?_
        cases h
        exact wk_eqz hk (wk_Hret rfl)
      · refine wk_H0f 41 23 rfl rfl (wk_nf wk_zeq hc) ?_
        refine wk_Hs 6 29 ⟨rfl, rfl⟩ (ls' := [.ref 0, .int x1, .int x2, .int (-2 : Int32), .int (511 : Int32)]) (st' := [.int (-1 : Int32), .int x2, .int x1, .ref 0]) (σ' := s) rfl ?_
        rcases wk_ife h with ⟨hc, h⟩ | ⟨hc, h⟩
        · refine wk_Hbt 32 rfl (wk_cne.2 hc) ?_
          refine wk_Hs 7 39 ⟨rfl, rfl⟩ (ls' := [.ref 0, .int x1, .int x2, .int (-2 : Int32), .int (511 : Int32)]) (st' := [.int ((511 : Int32) &&& (((1 : Int32) <<< (x2 &&& 31)) ^^^ (-1 : Int32))), .int x1, .ref 0]) (σ' := s) rfl ?_
          obtain ⟨v5, hv5, h⟩ := wk_bindE h
          refine wk_Hcall (i2 := 40) (args := [.ref 0, .int x1, .int ((511 : Int32) &&& (((1 : Int32) <<< (x2 &&& 31)) ^^^ (-1 : Int32)))]) (rest := []) (r := some (.int v5.1)) (σ1 := v5.2) rfl rfl ⟨rfl, rfl, rfl, rfl, rfl⟩ rfl ((t_X11_waysToDress hv5).up (by decide)) ?_
          refine wk_Hs 3 43 ⟨rfl, rfl⟩ (ls' := [.ref 0, .int x1, .int x2, .int v5.1, .int (511 : Int32)]) (st' := [.ref 1]) (σ' := v5.2) rfl ?_
          replace h := wk_letE h
          refine wk_Hcall (i2 := 44) (args := [.ref 1]) (rest := []) (r := none) (σ1 := (f_X8_clear v5.2)) rfl rfl ⟨rfl, rfl, rfl, rfl, rfl⟩ rfl ((t_X8_clear rfl).up (by decide)) ?_
          refine wk_Hs 1 45 ⟨rfl, rfl⟩ (ls' := [.ref 0, .int x1, .int x2, .int v5.1, .int (511 : Int32)]) (st' := [.int v5.1]) (σ' := (f_X8_clear v5.2)) rfl ?_
          cases h
          exact wk_eqz hk (wk_Hret rfl)
        · refine wk_Hbf 32 30 rfl rfl (wk_nf wk_cne hc) ?_
          refine wk_Hs 1 31 ⟨rfl, rfl⟩ (ls' := [.ref 0, .int x1, .int x2, .int (-2 : Int32), .int (511 : Int32)]) (st' := [.int (511 : Int32), .int x1, .ref 0]) (σ' := s) rfl ?_
          refine wk_Hgoto (t := 39) rfl ?_
          obtain ⟨v7, hv7, h⟩ := wk_bindE h
          refine wk_Hcall (i2 := 40) (args := [.ref 0, .int x1, .int (511 : Int32)]) (rest := []) (r := some (.int v7.1)) (σ1 := v7.2) rfl rfl ⟨rfl, rfl, rfl, rfl, rfl⟩ rfl ((t_X11_waysToDress hv7).up (by decide)) ?_
          refine wk_Hs 3 43 ⟨rfl, rfl⟩ (ls' := [.ref 0, .int x1, .int x2, .int v7.1, .int (511 : Int32)]) (st' := [.ref 1]) (σ' := v7.2) rfl ?_
          replace h := wk_letE h
          refine wk_Hcall (i2 := 44) (args := [.ref 1]) (rest := []) (r := none) (σ1 := (f_X8_clear v7.2)) rfl rfl ⟨rfl, rfl, rfl, rfl, rfl⟩ rfl ((t_X8_clear rfl).up (by decide)) ?_
          refine wk_Hs 1 45 ⟨rfl, rfl⟩ (ls' := [.ref 0, .int x1, .int x2, .int v7.1, .int (511 : Int32)]) (st' := [.int v7.1]) (σ' := (f_X8_clear v7.2)) rfl ?_
          cases h
          exact wk_eqz hk (wk_Hret rfl)
    · refine wk_H0f 16 14 rfl rfl (wk_nf wk_zne hc) ?_
      refine wk_Hs 1 15 ⟨rfl, rfl⟩ (ls' := [.ref 0, .int x1, .int x2, wk_U, wk_U]) (st' := [.int (-1 : Int32)]) (σ' := s) rfl ?_
      cases h
      exact wk_eqz hk (wk_Hret rfl)
set_option maxHeartbeats 4000000 in
set_option maxRecDepth 20000 in
theorem t_X7_isLeap {x0 : Int32} {s : wk_St} {r : Bool} (h : f_X7_isLeap x0 = r) : wk_T wk_shC 0 223 [.int x0] s (some (.int (b2i r)), s) := by
  suffices H : ∀ z, z = (some (.int (b2i r)), s) → wk_H wk_shC 0 mc_X7_isLeap 0 [.int x0] [] s z from H _ rfl
  intro z hk
  dsimp only [f_X7_isLeap] at h
  refine wk_Hs 2 2 ⟨rfl, rfl⟩ (ls' := [.int x0]) (st' := [.int (4 : Int32), .int x0]) (σ' := s) rfl ?_
  refine wk_Hrem 3 rfl rfl (by decide) ?_
  rcases wk_ife h with ⟨hc, h⟩ | ⟨hc, h⟩
  · refine wk_H0t 8 rfl (wk_cne.2 hc) ?_
    refine wk_Hs 2 10 ⟨rfl, rfl⟩ (ls' := [.int x0]) (st' := [.int (400 : Int32), .int x0]) (σ' := s) rfl ?_
    refine wk_Hrem 11 rfl rfl (by decide) ?_
    rcases wk_ife h with ⟨hc, h⟩ | ⟨hc, h⟩
    · refine wk_H0t 14 rfl (wk_cne.2 hc) ?_
      refine wk_Hs 1 15 ⟨rfl, rfl⟩ (ls' := [.int x0]) (st' := [.int (0 : Int32)]) (σ' := s) rfl ?_
      cases h
      exact wk_eqz hk (wk_Hretz rfl (b2i_01 false))
    · refine wk_H0f 14 12 rfl rfl (wk_nf wk_cne hc) ?_
      refine wk_Hs 1 13 ⟨rfl, rfl⟩ (ls' := [.int x0]) (st' := [.int (1 : Int32)]) (σ' := s) rfl ?_
      refine wk_Hgoto (t := 15) rfl ?_
      cases h
      exact wk_eqz hk (wk_Hretz rfl (b2i_01 true))
  · refine wk_H0f 8 4 rfl rfl (wk_nf wk_cne hc) ?_
    refine wk_Hs 2 6 ⟨rfl, rfl⟩ (ls' := [.int x0]) (st' := [.int (100 : Int32), .int x0]) (σ' := s) rfl ?_
    refine wk_Hrem 7 rfl rfl (by decide) ?_
    rcases wk_ife h with ⟨hc, h⟩ | ⟨hc, h⟩
    · refine wk_H0t 12 rfl (wk_cne.2 hc) ?_
      refine wk_Hs 1 13 ⟨rfl, rfl⟩ (ls' := [.int x0]) (st' := [.int (1 : Int32)]) (σ' := s) rfl ?_
      refine wk_Hgoto (t := 15) rfl ?_
      cases h
      exact wk_eqz hk (wk_Hretz rfl (b2i_01 true))
    · refine wk_H0f 12 8 rfl rfl (wk_nf wk_cne hc) ?_
      refine wk_Hs 2 10 ⟨rfl, rfl⟩ (ls' := [.int x0]) (st' := [.int (400 : Int32), .int x0]) (σ' := s) rfl ?_
      refine wk_Hrem 11 rfl rfl (by decide) ?_
      rcases wk_ife h with ⟨hc, h⟩ | ⟨hc, h⟩
      · refine wk_H0t 14 rfl (wk_cne.2 hc) ?_
        refine wk_Hs 1 15 ⟨rfl, rfl⟩ (ls' := [.int x0]) (st' := [.int (0 : Int32)]) (σ' := s) rfl ?_
        cases h
        exact wk_eqz hk (wk_Hretz rfl (b2i_01 false))
      · refine wk_H0f 14 12 rfl rfl (wk_nf wk_cne hc) ?_
        refine wk_Hs 1 13 ⟨rfl, rfl⟩ (ls' := [.int x0]) (st' := [.int (1 : Int32)]) (σ' := s) rfl ?_
        refine wk_Hgoto (t := 15) rfl ?_
        cases h
        exact wk_eqz hk (wk_Hretz rfl (b2i_01 true))
set_option maxHeartbeats 4000000 in
set_option maxRecDepth 20000 in
theorem t_X7_monthLength {x0 : Int32} {x1 : Int32} {s : wk_St} {r : Int32} (h : f_X7_monthLength x0 x1 s = some r) : wk_T wk_shC 1 225 [.int x0, .int x1] s (some (.int r), s) := by
  suffices H : ∀ z, z = (some (.int r), s) → wk_H wk_shC 1 mc_X7_monthLength 0 [.int x0, .int x1] [] s z from H _ rfl
  intro z hk
  dsimp only [f_X7_monthLength] at h
  refine wk_Hs 2 2 ⟨rfl, rfl⟩ (ls' := [.int x0, .int x1]) (st' := [.int (1 : Int32), .int x1]) (σ' := s) rfl ?_
  rcases wk_ife h with ⟨hc, h⟩ | ⟨hc, h⟩
  · refine wk_Hbt 7 rfl (wk_clt.2 hc) ?_
    refine wk_Hs 1 8 ⟨rfl, rfl⟩ (ls' := [.int x0, .int x1]) (st' := [.int (0 : Int32)]) (σ' := s) rfl ?_
    cases h
    exact wk_eqz hk (wk_Hret rfl)
  · refine wk_Hbf 7 3 rfl rfl (wk_nf wk_clt hc) ?_
    refine wk_Hs 3 6 ⟨rfl, rfl⟩ (ls' := [.int x0, .int x1]) (st' := [.int (12 : Int32), .int x1]) (σ' := s) rfl ?_
    rcases wk_ife h with ⟨hc, h⟩ | ⟨hc, h⟩
    · refine wk_Hbt 9 rfl (wk_cle.2 hc) ?_
      refine wk_Hs 2 11 ⟨rfl, rfl⟩ (ls' := [.int x0, .int x1]) (st' := [.int (2 : Int32), .int x1]) (σ' := s) rfl ?_
      rcases wk_ife h with ⟨hc, h⟩ | ⟨hc, h⟩
      · refine wk_Hbt 17 rfl (wk_cne.2 hc) ?_
        refine wk_Hs 4 21 ⟨rfl, rfl⟩ (ls' := [.int x0, .int x1]) (st' := [.int (x1 - (1 : Int32)), .ref 999]) (σ' := s) rfl ?_
        obtain ⟨hg, h⟩ := wk_gdE h
        refine wk_Hit 22 rfl rfl rfl hg rfl ?_
        cases h
        exact wk_eqz hk (wk_Hret rfl)
      · refine wk_Hbf 17 12 rfl rfl (wk_nf wk_cne hc) ?_
        refine wk_Hs 1 13 ⟨rfl, rfl⟩ (ls' := [.int x0, .int x1]) (st' := [.int x0]) (σ' := s) rfl ?_
        refine wk_Hcall (i2 := 14) (args := [.int x0]) (rest := []) (r := some (.int (b2i (f_X7_isLeap x0)))) (σ1 := s) rfl rfl ⟨rfl, rfl, rfl, rfl, rfl⟩ rfl ((t_X7_isLeap rfl).up (by decide)) ?_
        rcases wk_ife h with ⟨hc, h⟩ | ⟨hc, h⟩
        · refine wk_H0t 17 rfl (wk_zeq.2 hc) ?_
          refine wk_Hs 4 21 ⟨rfl, rfl⟩ (ls' := [.int x0, .int x1]) (st' := [.int (x1 - (1 : Int32)), .ref 999]) (σ' := s) rfl ?_
          obtain ⟨hg, h⟩ := wk_gdE h
          refine wk_Hit 22 rfl rfl rfl hg rfl ?_
          cases h
          exact wk_eqz hk (wk_Hret rfl)
        · refine wk_H0f 17 15 rfl rfl (wk_nf wk_zeq hc) ?_
          refine wk_Hs 1 16 ⟨rfl, rfl⟩ (ls' := [.int x0, .int x1]) (st' := [.int (29 : Int32)]) (σ' := s) rfl ?_
          refine wk_Hgoto (t := 22) rfl ?_
          cases h
          exact wk_eqz hk (wk_Hret rfl)
    · refine wk_Hbf 9 7 rfl rfl (wk_nf wk_cle hc) ?_
      refine wk_Hs 1 8 ⟨rfl, rfl⟩ (ls' := [.int x0, .int x1]) (st' := [.int (0 : Int32)]) (σ' := s) rfl ?_
      cases h
      exact wk_eqz hk (wk_Hret rfl)
set_option maxHeartbeats 4000000 in
set_option maxRecDepth 20000 in
theorem t_X7_isDate {x0 : Int32} {x1 : Int32} {x2 : Int32} {s : wk_St} {r : Bool} (h : f_X7_isDate x0 x1 x2 s = some r) : wk_T wk_shC 2 226 [.int x0, .int x1, .int x2] s (some (.int (b2i r)), s) := by
  suffices H : ∀ z, z = (some (.int (b2i r)), s) → wk_H wk_shC 2 mc_X7_isDate 0 [.int x0, .int x1, .int x2] [] s z from H _ rfl
  intro z hk
  dsimp only [f_X7_isDate] at h
  refine wk_Hs 3 3 ⟨rfl, rfl⟩ (ls' := [.int x0, .int x1, .int x2]) (st' := [.int (9999 : Int32), .int (1 : Int32), .int x0]) (σ' := s) rfl ?_
  refine wk_Hcall (i2 := 4) (args := [.int x0, .int (1 : Int32), .int (9999 : Int32)]) (rest := []) (r := some (.int (b2i (f_X11_isWithin x0 (1 : Int32) (9999 : Int32))))) (σ1 := s) rfl rfl ⟨rfl, rfl, rfl, rfl, rfl⟩ rfl ((t_X11_isWithin rfl).up (by decide)) ?_
  rcases wk_ife h with ⟨hc, h⟩ | ⟨hc, h⟩
  · refine wk_H0t 14 rfl (wk_zeq.2 hc) ?_
    refine wk_Hs 1 15 ⟨rfl, rfl⟩ (ls' := [.int x0, .int x1, .int x2]) (st' := [.int (0 : Int32)]) (σ' := s) rfl ?_
    cases h
    exact wk_eqz hk (wk_Hretz rfl (b2i_01 false))
  · refine wk_H0f 14 5 rfl rfl (wk_nf wk_zeq hc) ?_
    refine wk_Hs 4 9 ⟨rfl, rfl⟩ (ls' := [.int x0, .int x1, .int x2]) (st' := [.int x1, .int x0, .int (1 : Int32), .int x2]) (σ' := s) rfl ?_
    obtain ⟨v2, hv2, h⟩ := wk_bindE h
    refine wk_Hcall (i2 := 10) (args := [.int x0, .int x1]) (rest := [.int (1 : Int32), .int x2]) (r := some (.int v2)) (σ1 := s) rfl rfl ⟨rfl, rfl, rfl, rfl, rfl⟩ rfl ((t_X7_monthLength hv2).up (by decide)) ?_
    refine wk_Hcall (i2 := 11) (args := [.int x2, .int (1 : Int32), .int v2]) (rest := []) (r := some (.int (b2i (f_X11_isWithin x2 (1 : Int32) v2)))) (σ1 := s) rfl rfl ⟨rfl, rfl, rfl, rfl, rfl⟩ rfl ((t_X11_isWithin rfl).up (by decide)) ?_
    rcases wk_ife h with ⟨hc, h⟩ | ⟨hc, h⟩
    · refine wk_H0t 14 rfl (wk_zeq.2 hc) ?_
      refine wk_Hs 1 15 ⟨rfl, rfl⟩ (ls' := [.int x0, .int x1, .int x2]) (st' := [.int (0 : Int32)]) (σ' := s) rfl ?_
      cases h
      exact wk_eqz hk (wk_Hretz rfl (b2i_01 false))
    · refine wk_H0f 14 12 rfl rfl (wk_nf wk_zeq hc) ?_
      refine wk_Hs 1 13 ⟨rfl, rfl⟩ (ls' := [.int x0, .int x1, .int x2]) (st' := [.int (1 : Int32)]) (σ' := s) rfl ?_
      refine wk_Hgoto (t := 15) rfl ?_
      cases h
      exact wk_eqz hk (wk_Hretz rfl (b2i_01 true))
set_option maxHeartbeats 4000000 in
set_option maxRecDepth 20000 in
theorem ts_S_X7_dayNumber_26 {x0 : Int32} {x1 : Int32} {x4 : Int32} {x5 : Int32} {w2 : Value} {w3 : Value} {s : wk_St} {z : wk_R} {o : (Int32) ⊕ (Int32 × Int32)} (h : S_X7_dayNumber_26 x0 x1 s (x4, x5) = some o) (hk : match (generalizing := false) o with | Sum.inl a => (∀ (u3 u5 : Value), wk_H wk_shC 2 mc_X7_dayNumber 40 [.int x0, .int x1, w2, u3, .int a, u5] [] s z) | Sum.inr y => ∀ (u3 : Value), wk_H wk_shC 2 mc_X7_dayNumber 26 [.int x0, .int x1, w2, u3, .int y.1, .int y.2] [] s z) : wk_H wk_shC 2 mc_X7_dayNumber 26 [.int x0, .int x1, w2, w3, .int x4, .int x5] [] s z := by
  dsimp only [S_X7_dayNumber_26] at h
  refine wk_Hs 2 28 ⟨rfl, rfl⟩ (ls' := [.int x0, .int x1, w2, w3, .int x4, .int x5]) (st' := [.int x1, .int x5]) (σ' := s) rfl ?_
  rcases wk_ife h with ⟨hc, h⟩ | ⟨hc, h⟩
  · refine wk_Hbt 40 rfl (wk_cge.2 hc) ?_
    cases h
    exact hk _ _
  · refine wk_Hbf 40 29 rfl rfl (wk_nf wk_cge hc) ?_
    refine wk_Hs 2 31 ⟨rfl, rfl⟩ (ls' := [.int x0, .int x1, w2, w3, .int x4, .int x5]) (st' := [.int (12 : Int32), .int x5]) (σ' := s) rfl ?_
    rcases wk_ife h with ⟨hc, h⟩ | ⟨hc, h⟩
    · refine wk_Hbt 40 rfl (wk_cgt.2 hc) ?_
      cases h
      exact hk _ _
    · refine wk_Hbf 40 32 rfl rfl (wk_nf wk_cgt hc) ?_
      refine wk_Hs 3 35 ⟨rfl, rfl⟩ (ls' := [.int x0, .int x1, w2, w3, .int x4, .int x5]) (st' := [.int x5, .int x0, .int x4]) (σ' := s) rfl ?_
      obtain ⟨v3, hv3, h⟩ := wk_bindE h
      refine wk_Hcall (i2 := 36) (args := [.int x0, .int x5]) (rest := [.int x4]) (r := some (.int v3)) (σ1 := s) rfl rfl ⟨rfl, rfl, rfl, rfl, rfl⟩ rfl ((t_X7_monthLength hv3).up (by decide)) ?_
      refine wk_Hs 3 39 ⟨rfl, rfl⟩ (ls' := [.int x0, .int x1, w2, (wk_cl w3), .int (x4 + v3), .int (x5 + (1 : Int32))]) (st' := []) (σ' := s) rfl ?_
      refine wk_Hgoto (t := 26) rfl ?_
      cases h
      exact hk _
set_option maxHeartbeats 4000000 in
set_option maxRecDepth 20000 in
theorem tl_S_X7_dayNumber_26 {x0 : Int32} {x1 : Int32} {w2 : Value} {s : wk_St} {z : wk_R} (n : Nat) : ∀ {x4 : Int32} {x5 : Int32} {w3 : Value} {a : Int32} (h : wk_loop (S_X7_dayNumber_26 x0 x1 s) n (x4, x5) = some a) (hk : ∀ (u3 u5 : Value), wk_H wk_shC 2 mc_X7_dayNumber 40 [.int x0, .int x1, w2, u3, .int a, u5] [] s z), wk_H wk_shC 2 mc_X7_dayNumber 26 [.int x0, .int x1, w2, w3, .int x4, .int x5] [] s z := by
  induction n with
  | zero =>
    intros
    rename_i h _
    exact nomatch (show (none : Option _) = some _ from h)
  | succ n ih =>
    intros
    rename_i h hk
    obtain ⟨o, ho, h⟩ := wk_bindE (show Option.bind _ _ = some _ from h)
    refine ts_S_X7_dayNumber_26 ho ?_
    cases o with
    | inl a1 =>
      cases h
      exact hk
    | inr p =>
      obtain ⟨p0, p1⟩ := p
      exact fun _ => ih h hk
set_option maxHeartbeats 4000000 in
set_option maxRecDepth 20000 in
theorem t_X7_dayNumber {x0 : Int32} {x1 : Int32} {x2 : Int32} {s : wk_St} {r : Int32} (h : f_X7_dayNumber x0 x1 x2 s = some r) : wk_T wk_shC 2 227 [.int x0, .int x1, .int x2] s (some (.int r), s) := by
  suffices H : ∀ z, z = (some (.int r), s) → wk_H wk_shC 2 mc_X7_dayNumber 0 [.int x0, .int x1, .int x2, wk_U, wk_U, wk_U] [] s z from H _ rfl
  intro z hk
  dsimp only [f_X7_dayNumber] at h
  refine wk_Hs 3 3 ⟨rfl, rfl⟩ (ls' := [.int x0, .int x1, .int x2, wk_U, wk_U, wk_U]) (st' := [.int (x0 - (1 : Int32))]) (σ' := s) rfl ?_
  replace h := wk_letE h
  refine wk_Hs 6 9 ⟨rfl, rfl⟩ (ls' := [.int x0, .int x1, .int x2, .int (x0 - (1 : Int32)), wk_U, wk_U]) (st' := [.int (4 : Int32), .int (x0 - (1 : Int32)), .int ((365 : Int32) * (x0 - (1 : Int32)))]) (σ' := s) rfl ?_
  refine wk_Hdiv 10 rfl rfl (by decide) ?_
  refine wk_Hs 3 13 ⟨rfl, rfl⟩ (ls' := [.int x0, .int x1, .int x2, .int (x0 - (1 : Int32)), wk_U, wk_U]) (st' := [.int (100 : Int32), .int (x0 - (1 : Int32)), .int (((365 : Int32) * (x0 - (1 : Int32))) + ((x0 - (1 : Int32)) / (4 : Int32)))]) (σ' := s) rfl ?_
  refine wk_Hdiv 14 rfl rfl (by decide) ?_
  refine wk_Hs 3 17 ⟨rfl, rfl⟩ (ls' := [.int x0, .int x1, .int x2, .int (x0 - (1 : Int32)), wk_U, wk_U]) (st' := [.int (400 : Int32), .int (x0 - (1 : Int32)), .int ((((365 : Int32) * (x0 - (1 : Int32))) + ((x0 - (1 : Int32)) / (4 : Int32))) - ((x0 - (1 : Int32)) / (100 : Int32)))]) (σ' := s) rfl ?_
  refine wk_Hdiv 18 rfl rfl (by decide) ?_
  refine wk_Hs 5 23 ⟨rfl, rfl⟩ (ls' := [.int x0, .int x1, .int x2, .int (x0 - (1 : Int32)), wk_U, wk_U]) (st' := [.int (((((((365 : Int32) * (x0 - (1 : Int32))) + ((x0 - (1 : Int32)) / (4 : Int32))) - ((x0 - (1 : Int32)) / (100 : Int32))) + ((x0 - (1 : Int32)) / (400 : Int32))) + x2) - (1 : Int32))]) (σ' := s) rfl ?_
  replace h := wk_letE h
  refine wk_Hs 3 26 ⟨rfl, rfl⟩ (ls' := [.int x0, .int x1, .int x2, .int (x0 - (1 : Int32)), .int (((((((365 : Int32) * (x0 - (1 : Int32))) + ((x0 - (1 : Int32)) / (4 : Int32))) - ((x0 - (1 : Int32)) / (100 : Int32))) + ((x0 - (1 : Int32)) / (400 : Int32))) + x2) - (1 : Int32)), .int (1 : Int32)]) (st' := []) (σ' := s) rfl ?_
  obtain ⟨v4, hv4, h⟩ := wk_bindE h
  refine tl_S_X7_dayNumber_26 wk_F hv4 ?_
  intro g5 g6
  refine wk_Hs 1 41 ⟨rfl, rfl⟩ (ls' := [.int x0, .int x1, .int x2, g5, .int v4, g6]) (st' := [.int v4]) (σ' := s) rfl ?_
  cases h
  exact wk_eqz hk (wk_Hret rfl)
set_option maxHeartbeats 4000000 in
set_option maxRecDepth 20000 in
theorem t_X7_weekdayOf {x0 : Int32} {x1 : Int32} {x2 : Int32} {s : wk_St} {r : Int32} (h : f_X7_weekdayOf x0 x1 x2 s = some r) : wk_T wk_shC 3 228 [.int x0, .int x1, .int x2] s (some (.int r), s) := by
  suffices H : ∀ z, z = (some (.int r), s) → wk_H wk_shC 3 mc_X7_weekdayOf 0 [.int x0, .int x1, .int x2] [] s z from H _ rfl
  intro z hk
  dsimp only [f_X7_weekdayOf] at h
  refine wk_Hs 3 3 ⟨rfl, rfl⟩ (ls' := [.int x0, .int x1, .int x2]) (st' := [.int x2, .int x1, .int x0]) (σ' := s) rfl ?_
  obtain ⟨v1, hv1, h⟩ := wk_bindE h
  refine wk_Hcall (i2 := 4) (args := [.int x0, .int x1, .int x2]) (rest := []) (r := some (.int v1)) (σ1 := s) rfl rfl ⟨rfl, rfl, rfl, rfl, rfl⟩ rfl ((t_X7_dayNumber hv1).up (by decide)) ?_
  refine wk_Hs 3 7 ⟨rfl, rfl⟩ (ls' := [.int x0, .int x1, .int x2]) (st' := [.int (7 : Int32), .int (v1 + (1 : Int32))]) (σ' := s) rfl ?_
  refine wk_Hrem 8 rfl rfl (by decide) ?_
  cases h
  exact wk_eqz hk (wk_Hret rfl)
set_option maxHeartbeats 4000000 in
set_option maxRecDepth 20000 in
theorem t_X11_weekday {x1 : Int32} {x2 : Int32} {x3 : Int32} {s : wk_St} {r : Int32} (h : f_X11_weekday x1 x2 x3 s = some r) : wk_T wk_shC 4 31 [.ref 0, .int x1, .int x2, .int x3] s (some (.int r), s) := by
  suffices H : ∀ z, z = (some (.int r), s) → wk_H wk_shC 4 mc_X11_weekday 0 [.ref 0, .int x1, .int x2, .int x3] [] s z from H _ rfl
  intro z hk
  dsimp only [f_X11_weekday] at h
  refine wk_Hs 3 3 ⟨rfl, rfl⟩ (ls' := [.ref 0, .int x1, .int x2, .int x3]) (st' := [.int x3, .int x2, .int x1]) (σ' := s) rfl ?_
  obtain ⟨v1, hv1, h⟩ := wk_bindE h
  refine wk_Hcall (i2 := 4) (args := [.int x1, .int x2, .int x3]) (rest := []) (r := some (.int (b2i v1))) (σ1 := s) rfl rfl ⟨rfl, rfl, rfl, rfl, rfl⟩ rfl ((t_X7_isDate hv1).up (by decide)) ?_
  rcases wk_ife h with ⟨hc, h⟩ | ⟨hc, h⟩
  · refine wk_H0t 7 rfl (wk_zne.2 hc) ?_
    refine wk_Hs 3 10 ⟨rfl, rfl⟩ (ls' := [.ref 0, .int x1, .int x2, .int x3]) (st' := [.int x3, .int x2, .int x1]) (σ' := s) rfl ?_
    obtain ⟨v2, hv2, h⟩ := wk_bindE h
    refine wk_Hcall (i2 := 11) (args := [.int x1, .int x2, .int x3]) (rest := []) (r := some (.int v2)) (σ1 := s) rfl rfl ⟨rfl, rfl, rfl, rfl, rfl⟩ rfl ((t_X7_weekdayOf hv2).up (by decide)) ?_
    cases h
    exact wk_eqz hk (wk_Hret rfl)
  · refine wk_H0f 7 5 rfl rfl (wk_nf wk_zne hc) ?_
    refine wk_Hs 1 6 ⟨rfl, rfl⟩ (ls' := [.ref 0, .int x1, .int x2, .int x3]) (st' := [.int (-1 : Int32)]) (σ' := s) rfl ?_
    cases h
    exact wk_eqz hk (wk_Hret rfl)
set_option maxHeartbeats 4000000 in
set_option maxRecDepth 20000 in
theorem t_X11_daysBetween {x1 : Int32} {x2 : Int32} {x3 : Int32} {x4 : Int32} {x5 : Int32} {x6 : Int32} {s : wk_St} {r : Int32} (h : f_X11_daysBetween x1 x2 x3 x4 x5 x6 s = some r) : wk_T wk_shC 3 32 [.ref 0, .int x1, .int x2, .int x3, .int x4, .int x5, .int x6] s (some (.int r), s) := by
  suffices H : ∀ z, z = (some (.int r), s) → wk_H wk_shC 3 mc_X11_daysBetween 0 [.ref 0, .int x1, .int x2, .int x3, .int x4, .int x5, .int x6] [] s z from H _ rfl
  intro z hk
  dsimp only [f_X11_daysBetween] at h
  refine wk_Hs 3 3 ⟨rfl, rfl⟩ (ls' := [.ref 0, .int x1, .int x2, .int x3, .int x4, .int x5, .int x6]) (st' := [.int x3, .int x2, .int x1]) (σ' := s) rfl ?_
  obtain ⟨v1, hv1, h⟩ := wk_bindE h
  refine wk_Hcall (i2 := 4) (args := [.int x1, .int x2, .int x3]) (rest := []) (r := some (.int (b2i v1))) (σ1 := s) rfl rfl ⟨rfl, rfl, rfl, rfl, rfl⟩ rfl ((t_X7_isDate hv1).up (by decide)) ?_
  rcases wk_ife h with ⟨hc, h⟩ | ⟨hc, h⟩
  · refine wk_H0t 10 rfl (wk_zeq.2 hc) ?_
    refine wk_Hs 1 11 ⟨rfl, rfl⟩ (ls' := [.ref 0, .int x1, .int x2, .int x3, .int x4, .int x5, .int x6]) (st' := [.int (-10000000 : Int32)]) (σ' := s) rfl ?_
    cases h
    exact wk_eqz hk (wk_Hret rfl)
  · refine wk_H0f 10 5 rfl rfl (wk_nf wk_zeq hc) ?_
    refine wk_Hs 3 8 ⟨rfl, rfl⟩ (ls' := [.ref 0, .int x1, .int x2, .int x3, .int x4, .int x5, .int x6]) (st' := [.int x6, .int x5, .int x4]) (σ' := s) rfl ?_
    obtain ⟨v2, hv2, h⟩ := wk_bindE h
    refine wk_Hcall (i2 := 9) (args := [.int x4, .int x5, .int x6]) (rest := []) (r := some (.int (b2i v2))) (σ1 := s) rfl rfl ⟨rfl, rfl, rfl, rfl, rfl⟩ rfl ((t_X7_isDate hv2).up (by decide)) ?_
    rcases wk_ife h with ⟨hc, h⟩ | ⟨hc, h⟩
    · refine wk_H0t 12 rfl (wk_zne.2 hc) ?_
      refine wk_Hs 3 15 ⟨rfl, rfl⟩ (ls' := [.ref 0, .int x1, .int x2, .int x3, .int x4, .int x5, .int x6]) (st' := [.int x6, .int x5, .int x4]) (σ' := s) rfl ?_
      obtain ⟨v3, hv3, h⟩ := wk_bindE h
      refine wk_Hcall (i2 := 16) (args := [.int x4, .int x5, .int x6]) (rest := []) (r := some (.int v3)) (σ1 := s) rfl rfl ⟨rfl, rfl, rfl, rfl, rfl⟩ rfl ((t_X7_dayNumber hv3).up (by decide)) ?_
      refine wk_Hs 3 19 ⟨rfl, rfl⟩ (ls' := [.ref 0, .int x1, .int x2, .int x3, .int x4, .int x5, .int x6]) (st' := [.int x3, .int x2, .int x1, .int v3]) (σ' := s) rfl ?_
      obtain ⟨v4, hv4, h⟩ := wk_bindE h
      refine wk_Hcall (i2 := 20) (args := [.int x1, .int x2, .int x3]) (rest := [.int v3]) (r := some (.int v4)) (σ1 := s) rfl rfl ⟨rfl, rfl, rfl, rfl, rfl⟩ rfl ((t_X7_dayNumber hv4).up (by decide)) ?_
      refine wk_Hs 1 21 ⟨rfl, rfl⟩ (ls' := [.ref 0, .int x1, .int x2, .int x3, .int x4, .int x5, .int x6]) (st' := [.int (v3 - v4)]) (σ' := s) rfl ?_
      cases h
      exact wk_eqz hk (wk_Hret rfl)
    · refine wk_H0f 12 10 rfl rfl (wk_nf wk_zne hc) ?_
      refine wk_Hs 1 11 ⟨rfl, rfl⟩ (ls' := [.ref 0, .int x1, .int x2, .int x3, .int x4, .int x5, .int x6]) (st' := [.int (-10000000 : Int32)]) (σ' := s) rfl ?_
      cases h
      exact wk_eqz hk (wk_Hret rfl)
set_option maxHeartbeats 4000000 in
set_option maxRecDepth 20000 in
theorem t_X11_feast {x1 : Int32} {x2 : Int32} {x3 : Int32} {x4 : Int32} {s : wk_St} {r : Int32} (h : f_X11_feast x1 x2 x3 x4 s = some r) : wk_T wk_shC 4 33 [.ref 0, .int x1, .int x2, .int x3, .int x4] s (some (.int r), s) := by
  suffices H : ∀ z, z = (some (.int r), s) → wk_H wk_shC 4 mc_X11_feast 0 [.ref 0, .int x1, .int x2, .int x3, .int x4, wk_U, wk_U] [] s z from H _ rfl
  intro z hk
  dsimp only [f_X11_feast] at h
  refine wk_Hs 3 3 ⟨rfl, rfl⟩ (ls' := [.ref 0, .int x1, .int x2, .int x3, .int x4, wk_U, wk_U]) (st' := [.int (1 : Int32), .int x2, .int x1]) (σ' := s) rfl ?_
  obtain ⟨v1, hv1, h⟩ := wk_bindE h
  refine wk_Hcall (i2 := 4) (args := [.int x1, .int x2, .int (1 : Int32)]) (rest := []) (r := some (.int (b2i v1))) (σ1 := s) rfl rfl ⟨rfl, rfl, rfl, rfl, rfl⟩ rfl ((t_X7_isDate hv1).up (by decide)) ?_
  rcases wk_ife h with ⟨hc, h⟩ | ⟨hc, h⟩
  · refine wk_H0t 15 rfl (wk_zeq.2 hc) ?_
    refine wk_Hs 1 16 ⟨rfl, rfl⟩ (ls' := [.ref 0, .int x1, .int x2, .int x3, .int x4, wk_U, wk_U]) (st' := [.int (-1 : Int32)]) (σ' := s) rfl ?_
    cases h
    exact wk_eqz hk (wk_Hret rfl)
  · refine wk_H0f 15 5 rfl rfl (wk_nf wk_zeq hc) ?_
    refine wk_Hs 3 8 ⟨rfl, rfl⟩ (ls' := [.ref 0, .int x1, .int x2, .int x3, .int x4, wk_U, wk_U]) (st' := [.int (5 : Int32), .int (1 : Int32), .int x3]) (σ' := s) rfl ?_
    refine wk_Hcall (i2 := 9) (args := [.int x3, .int (1 : Int32), .int (5 : Int32)]) (rest := []) (r := some (.int (b2i (f_X11_isWithin x3 (1 : Int32) (5 : Int32))))) (σ1 := s) rfl rfl ⟨rfl, rfl, rfl, rfl, rfl⟩ rfl ((t_X11_isWithin rfl).up (by decide)) ?_
    rcases wk_ife h with ⟨hc, h⟩ | ⟨hc, h⟩
    · refine wk_H0t 15 rfl (wk_zeq.2 hc) ?_
      refine wk_Hs 1 16 ⟨rfl, rfl⟩ (ls' := [.ref 0, .int x1, .int x2, .int x3, .int x4, wk_U, wk_U]) (st' := [.int (-1 : Int32)]) (σ' := s) rfl ?_
      cases h
      exact wk_eqz hk (wk_Hret rfl)
    · refine wk_H0f 15 10 rfl rfl (wk_nf wk_zeq hc) ?_
      refine wk_Hs 3 13 ⟨rfl, rfl⟩ (ls' := [.ref 0, .int x1, .int x2, .int x3, .int x4, wk_U, wk_U]) (st' := [.int (6 : Int32), .int (0 : Int32), .int x4]) (σ' := s) rfl ?_
      refine wk_Hcall (i2 := 14) (args := [.int x4, .int (0 : Int32), .int (6 : Int32)]) (rest := []) (r := some (.int (b2i (f_X11_isWithin x4 (0 : Int32) (6 : Int32))))) (σ1 := s) rfl rfl ⟨rfl, rfl, rfl, rfl, rfl⟩ rfl ((t_X11_isWithin rfl).up (by decide)) ?_
      rcases wk_ife h with ⟨hc, h⟩ | ⟨hc, h⟩
      · refine wk_H0t 17 rfl (wk_zne.2 hc) ?_
        refine wk_Hs 4 21 ⟨rfl, rfl⟩ (ls' := [.ref 0, .int x1, .int x2, .int x3, .int x4, wk_U, wk_U]) (st' := [.int (1 : Int32), .int x2, .int x1, .int x4]) (σ' := s) rfl ?_
        obtain ⟨v4, hv4, h⟩ := wk_bindE h
        refine wk_Hcall (i2 := 22) (args := [.int x1, .int x2, .int (1 : Int32)]) (rest := [.int x4]) (r := some (.int v4)) (σ1 := s) rfl rfl ⟨rfl, rfl, rfl, rfl, rfl⟩ rfl ((t_X7_weekdayOf hv4).up (by decide)) ?_
        refine wk_Hs 2 24 ⟨rfl, rfl⟩ (ls' := [.ref 0, .int x1, .int x2, .int x3, .int x4, wk_U, wk_U]) (st' := [.int (7 : Int32), .int (x4 - v4)]) (σ' := s) rfl ?_
        obtain ⟨v5, hv5, h⟩ := wk_bindE h
        refine wk_Hcall (i2 := 25) (args := [.int (x4 - v4), .int (7 : Int32)]) (rest := []) (r := some (.int v5)) (σ1 := s) rfl rfl ⟨rfl, rfl, rfl, rfl, rfl⟩ rfl ((t_J9_floorMod_7cf53 hv5).up (by decide)) ?_
        refine wk_Hs 10 35 ⟨rfl, rfl⟩ (ls' := [.ref 0, .int x1, .int x2, .int x3, .int x4, .int v5, wk_U]) (st' := [.int (((1 : Int32) + v5) + ((7 : Int32) * (x3 - (1 : Int32))))]) (σ' := s) rfl ?_
        replace h := wk_letE h
        refine wk_Hs 4 39 ⟨rfl, rfl⟩ (ls' := [.ref 0, .int x1, .int x2, .int x3, .int x4, .int v5, .int (((1 : Int32) + v5) + ((7 : Int32) * (x3 - (1 : Int32))))]) (st' := [.int x2, .int x1, .int (((1 : Int32) + v5) + ((7 : Int32) * (x3 - (1 : Int32))))]) (σ' := s) rfl ?_
        obtain ⟨v7, hv7, h⟩ := wk_bindE h
        refine wk_Hcall (i2 := 40) (args := [.int x1, .int x2]) (rest := [.int (((1 : Int32) + v5) + ((7 : Int32) * (x3 - (1 : Int32))))]) (r := some (.int v7)) (σ1 := s) rfl rfl ⟨rfl, rfl, rfl, rfl, rfl⟩ rfl ((t_X7_monthLength hv7).up (by decide)) ?_
        rcases wk_ife h with ⟨hc, h⟩ | ⟨hc, h⟩
        · refine wk_Hbt 43 rfl (wk_cgt.2 hc) ?_
          refine wk_Hs 1 44 ⟨rfl, rfl⟩ (ls' := [.ref 0, .int x1, .int x2, .int x3, .int x4, .int v5, .int (((1 : Int32) + v5) + ((7 : Int32) * (x3 - (1 : Int32))))]) (st' := [.int (-2 : Int32)]) (σ' := s) rfl ?_
          cases h
          exact wk_eqz hk (wk_Hret rfl)
        · refine wk_Hbf 43 41 rfl rfl (wk_nf wk_cgt hc) ?_
          refine wk_Hs 1 42 ⟨rfl, rfl⟩ (ls' := [.ref 0, .int x1, .int x2, .int x3, .int x4, .int v5, .int (((1 : Int32) + v5) + ((7 : Int32) * (x3 - (1 : Int32))))]) (st' := [.int (((1 : Int32) + v5) + ((7 : Int32) * (x3 - (1 : Int32))))]) (σ' := s) rfl ?_
          refine wk_Hgoto (t := 44) rfl ?_
          cases h
          exact wk_eqz hk (wk_Hret rfl)
      · refine wk_H0f 17 15 rfl rfl (wk_nf wk_zne hc) ?_
        refine wk_Hs 1 16 ⟨rfl, rfl⟩ (ls' := [.ref 0, .int x1, .int x2, .int x3, .int x4, wk_U, wk_U]) (st' := [.int (-1 : Int32)]) (σ' := s) rfl ?_
        cases h
        exact wk_eqz hk (wk_Hret rfl)
set_option maxHeartbeats 4000000 in
set_option maxRecDepth 20000 in
theorem t_X7_easterOf {x0 : Int32} {s : wk_St} {r : Int32} (h : f_X7_easterOf x0 = r) : wk_T wk_shC 0 230 [.int x0] s (some (.int r), s) := by
  suffices H : ∀ z, z = (some (.int r), s) → wk_H wk_shC 0 mc_X7_easterOf 0 [.int x0, wk_U, wk_U, wk_U, wk_U, wk_U, wk_U, wk_U, wk_U] [] s z from H _ rfl
  intro z hk
  dsimp only [f_X7_easterOf] at h
  refine wk_Hs 2 2 ⟨rfl, rfl⟩ (ls' := [.int x0, wk_U, wk_U, wk_U, wk_U, wk_U, wk_U, wk_U, wk_U]) (st' := [.int (19 : Int32), .int x0]) (σ' := s) rfl ?_
  refine wk_Hrem 3 rfl rfl (by decide) ?_
  replace h := wk_letE h
  refine wk_Hs 3 6 ⟨rfl, rfl⟩ (ls' := [.int x0, .int (wk_rem x0 (19 : Int32)), wk_U, wk_U, wk_U, wk_U, wk_U, wk_U, wk_U]) (st' := [.int (100 : Int32), .int x0]) (σ' := s) rfl ?_
  refine wk_Hdiv 7 rfl rfl (by decide) ?_
  replace h := wk_letE h
  refine wk_Hs 3 10 ⟨rfl, rfl⟩ (ls' := [.int x0, .int (wk_rem x0 (19 : Int32)), .int (x0 / (100 : Int32)), wk_U, wk_U, wk_U, wk_U, wk_U, wk_U]) (st' := [.int (100 : Int32), .int x0]) (σ' := s) rfl ?_
  refine wk_Hrem 11 rfl rfl (by decide) ?_
  replace h := wk_letE h
  refine wk_Hs 6 17 ⟨rfl, rfl⟩ (ls' := [.int x0, .int (wk_rem x0 (19 : Int32)), .int (x0 / (100 : Int32)), .int (wk_rem x0 (100 : Int32)), wk_U, wk_U, wk_U, wk_U, wk_U]) (st' := [.int (25 : Int32), .int ((x0 / (100 : Int32)) + (8 : Int32)), .int (x0 / (100 : Int32))]) (σ' := s) rfl ?_
  refine wk_Hdiv 18 rfl rfl (by decide) ?_
  refine wk_Hs 4 22 ⟨rfl, rfl⟩ (ls' := [.int x0, .int (wk_rem x0 (19 : Int32)), .int (x0 / (100 : Int32)), .int (wk_rem x0 (100 : Int32)), wk_U, wk_U, wk_U, wk_U, wk_U]) (st' := [.int (3 : Int32), .int (((x0 / (100 : Int32)) - (((x0 / (100 : Int32)) + (8 : Int32)) / (25 : Int32))) + (1 : Int32))]) (σ' := s) rfl ?_
  refine wk_Hdiv 23 rfl rfl (by decide) ?_
  replace h := wk_letE h
  refine wk_Hs 8 31 ⟨rfl, rfl⟩ (ls' := [.int x0, .int (wk_rem x0 (19 : Int32)), .int (x0 / (100 : Int32)), .int (wk_rem x0 (100 : Int32)), .int ((((x0 / (100 : Int32)) - (((x0 / (100 : Int32)) + (8 : Int32)) / (25 : Int32))) + (1 : Int32)) / (3 : Int32)), wk_U, wk_U, wk_U, wk_U]) (st' := [.int (4 : Int32), .int (x0 / (100 : Int32)), .int (((19 : Int32) * (wk_rem x0 (19 : Int32))) + (x0 / (100 : Int32)))]) (σ' := s) rfl ?_
  refine wk_Hdiv 32 rfl rfl (by decide) ?_
  refine wk_Hs 6 38 ⟨rfl, rfl⟩ (ls' := [.int x0, .int (wk_rem x0 (19 : Int32)), .int (x0 / (100 : Int32)), .int (wk_rem x0 (100 : Int32)), .int ((((x0 / (100 : Int32)) - (((x0 / (100 : Int32)) + (8 : Int32)) / (25 : Int32))) + (1 : Int32)) / (3 : Int32)), wk_U, wk_U, wk_U, wk_U]) (st' := [.int (30 : Int32), .int ((((((19 : Int32) * (wk_rem x0 (19 : Int32))) + (x0 / (100 : Int32))) - ((x0 / (100 : Int32)) / (4 : Int32))) - ((((x0 / (100 : Int32)) - (((x0 / (100 : Int32)) + (8 : Int32)) / (25 : Int32))) + (1 : Int32)) / (3 : Int32))) + (15 : Int32))]) (σ' := s) rfl ?_
  refine wk_Hrem 39 rfl rfl (by decide) ?_
  replace h := wk_letE h
  refine wk_Hs 5 44 ⟨rfl, rfl⟩ (ls' := [.int x0, .int (wk_rem x0 (19 : Int32)), .int (x0 / (100 : Int32)), .int (wk_rem x0 (100 : Int32)), .int ((((x0 / (100 : Int32)) - (((x0 / (100 : Int32)) + (8 : Int32)) / (25 : Int32))) + (1 : Int32)) / (3 : Int32)), .int (wk_rem ((((((19 : Int32) * (wk_rem x0 (19 : Int32))) + (x0 / (100 : Int32))) - ((x0 / (100 : Int32)) / (4 : Int32))) - ((((x0 / (100 : Int32)) - (((x0 / (100 : Int32)) + (8 : Int32)) / (25 : Int32))) + (1 : Int32)) / (3 : Int32))) + (15 : Int32)) (30 : Int32)), wk_U, wk_U, wk_U]) (st' := [.int (4 : Int32), .int (x0 / (100 : Int32)), .int (2 : Int32), .int (32 : Int32)]) (σ' := s) rfl ?_
  refine wk_Hrem 45 rfl rfl (by decide) ?_
  refine wk_Hs 5 50 ⟨rfl, rfl⟩ (ls' := [.int x0, .int (wk_rem x0 (19 : Int32)), .int (x0 / (100 : Int32)), .int (wk_rem x0 (100 : Int32)), .int ((((x0 / (100 : Int32)) - (((x0 / (100 : Int32)) + (8 : Int32)) / (25 : Int32))) + (1 : Int32)) / (3 : Int32)), .int (wk_rem ((((((19 : Int32) * (wk_rem x0 (19 : Int32))) + (x0 / (100 : Int32))) - ((x0 / (100 : Int32)) / (4 : Int32))) - ((((x0 / (100 : Int32)) - (((x0 / (100 : Int32)) + (8 : Int32)) / (25 : Int32))) + (1 : Int32)) / (3 : Int32))) + (15 : Int32)) (30 : Int32)), wk_U, wk_U, wk_U]) (st' := [.int (4 : Int32), .int (wk_rem x0 (100 : Int32)), .int (2 : Int32), .int ((32 : Int32) + ((2 : Int32) * (wk_rem (x0 / (100 : Int32)) (4 : Int32))))]) (σ' := s) rfl ?_
  refine wk_Hdiv 51 rfl rfl (by decide) ?_
  refine wk_Hs 6 57 ⟨rfl, rfl⟩ (ls' := [.int x0, .int (wk_rem x0 (19 : Int32)), .int (x0 / (100 : Int32)), .int (wk_rem x0 (100 : Int32)), .int ((((x0 / (100 : Int32)) - (((x0 / (100 : Int32)) + (8 : Int32)) / (25 : Int32))) + (1 : Int32)) / (3 : Int32)), .int (wk_rem ((((((19 : Int32) * (wk_rem x0 (19 : Int32))) + (x0 / (100 : Int32))) - ((x0 / (100 : Int32)) / (4 : Int32))) - ((((x0 / (100 : Int32)) - (((x0 / (100 : Int32)) + (8 : Int32)) / (25 : Int32))) + (1 : Int32)) / (3 : Int32))) + (15 : Int32)) (30 : Int32)), wk_U, wk_U, wk_U]) (st' := [.int (4 : Int32), .int (wk_rem x0 (100 : Int32)), .int ((((32 : Int32) + ((2 : Int32) * (wk_rem (x0 / (100 : Int32)) (4 : Int32)))) + ((2 : Int32) * ((wk_rem x0 (100 : Int32)) / (4 : Int32)))) - (wk_rem ((((((19 : Int32) * (wk_rem x0 (19 : Int32))) + (x0 / (100 : Int32))) - ((x0 / (100 : Int32)) / (4 : Int32))) - ((((x0 / (100 : Int32)) - (((x0 / (100 : Int32)) + (8 : Int32)) / (25 : Int32))) + (1 : Int32)) / (3 : Int32))) + (15 : Int32)) (30 : Int32)))]) (σ' := s) rfl ?_
  refine wk_Hrem 58 rfl rfl (by decide) ?_
  refine wk_Hs 2 60 ⟨rfl, rfl⟩ (ls' := [.int x0, .int (wk_rem x0 (19 : Int32)), .int (x0 / (100 : Int32)), .int (wk_rem x0 (100 : Int32)), .int ((((x0 / (100 : Int32)) - (((x0 / (100 : Int32)) + (8 : Int32)) / (25 : Int32))) + (1 : Int32)) / (3 : Int32)), .int (wk_rem ((((((19 : Int32) * (wk_rem x0 (19 : Int32))) + (x0 / (100 : Int32))) - ((x0 / (100 : Int32)) / (4 : Int32))) - ((((x0 / (100 : Int32)) - (((x0 / (100 : Int32)) + (8 : Int32)) / (25 : Int32))) + (1 : Int32)) / (3 : Int32))) + (15 : Int32)) (30 : Int32)), wk_U, wk_U, wk_U]) (st' := [.int (7 : Int32), .int (((((32 : Int32) + ((2 : Int32) * (wk_rem (x0 / (100 : Int32)) (4 : Int32)))) + ((2 : Int32) * ((wk_rem x0 (100 : Int32)) / (4 : Int32)))) - (wk_rem ((((((19 : Int32) * (wk_rem x0 (19 : Int32))) + (x0 / (100 : Int32))) - ((x0 / (100 : Int32)) / (4 : Int32))) - ((((x0 / (100 : Int32)) - (((x0 / (100 : Int32)) + (8 : Int32)) / (25 : Int32))) + (1 : Int32)) / (3 : Int32))) + (15 : Int32)) (30 : Int32))) - (wk_rem (wk_rem x0 (100 : Int32)) (4 : Int32)))]) (σ' := s) rfl ?_
  refine wk_Hrem 61 rfl rfl (by decide) ?_
  replace h := wk_letE h
  refine wk_Hs 11 72 ⟨rfl, rfl⟩ (ls' := [.int x0, .int (wk_rem x0 (19 : Int32)), .int (x0 / (100 : Int32)), .int (wk_rem x0 (100 : Int32)), .int ((((x0 / (100 : Int32)) - (((x0 / (100 : Int32)) + (8 : Int32)) / (25 : Int32))) + (1 : Int32)) / (3 : Int32)), .int (wk_rem ((((((19 : Int32) * (wk_rem x0 (19 : Int32))) + (x0 / (100 : Int32))) - ((x0 / (100 : Int32)) / (4 : Int32))) - ((((x0 / (100 : Int32)) - (((x0 / (100 : Int32)) + (8 : Int32)) / (25 : Int32))) + (1 : Int32)) / (3 : Int32))) + (15 : Int32)) (30 : Int32)), .int (wk_rem (((((32 : Int32) + ((2 : Int32) * (wk_rem (x0 / (100 : Int32)) (4 : Int32)))) + ((2 : Int32) * ((wk_rem x0 (100 : Int32)) / (4 : Int32)))) - (wk_rem ((((((19 : Int32) * (wk_rem x0 (19 : Int32))) + (x0 / (100 : Int32))) - ((x0 / (100 : Int32)) / (4 : Int32))) - ((((x0 / (100 : Int32)) - (((x0 / (100 : Int32)) + (8 : Int32)) / (25 : Int32))) + (1 : Int32)) / (3 : Int32))) + (15 : Int32)) (30 : Int32))) - (wk_rem (wk_rem x0 (100 : Int32)) (4 : Int32))) (7 : Int32)), wk_U, wk_U]) (st' := [.int (451 : Int32), .int (((wk_rem x0 (19 : Int32)) + ((11 : Int32) * (wk_rem ((((((19 : Int32) * (wk_rem x0 (19 : Int32))) + (x0 / (100 : Int32))) - ((x0 / (100 : Int32)) / (4 : Int32))) - ((((x0 / (100 : Int32)) - (((x0 / (100 : Int32)) + (8 : Int32)) / (25 : Int32))) + (1 : Int32)) / (3 : Int32))) + (15 : Int32)) (30 : Int32)))) + ((22 : Int32) * (wk_rem (((((32 : Int32) + ((2 : Int32) * (wk_rem (x0 / (100 : Int32)) (4 : Int32)))) + ((2 : Int32) * ((wk_rem x0 (100 : Int32)) / (4 : Int32)))) - (wk_rem ((((((19 : Int32) * (wk_rem x0 (19 : Int32))) + (x0 / (100 : Int32))) - ((x0 / (100 : Int32)) / (4 : Int32))) - ((((x0 / (100 : Int32)) - (((x0 / (100 : Int32)) + (8 : Int32)) / (25 : Int32))) + (1 : Int32)) / (3 : Int32))) + (15 : Int32)) (30 : Int32))) - (wk_rem (wk_rem x0 (100 : Int32)) (4 : Int32))) (7 : Int32))))]) (σ' := s) rfl ?_
  refine wk_Hdiv 73 rfl rfl (by decide) ?_
  replace h := wk_letE h
  refine wk_Hs 10 83 ⟨rfl, rfl⟩ (ls' := [.int x0, .int (wk_rem x0 (19 : Int32)), .int (x0 / (100 : Int32)), .int (wk_rem x0 (100 : Int32)), .int ((((x0 / (100 : Int32)) - (((x0 / (100 : Int32)) + (8 : Int32)) / (25 : Int32))) + (1 : Int32)) / (3 : Int32)), .int (wk_rem ((((((19 : Int32) * (wk_rem x0 (19 : Int32))) + (x0 / (100 : Int32))) - ((x0 / (100 : Int32)) / (4 : Int32))) - ((((x0 / (100 : Int32)) - (((x0 / (100 : Int32)) + (8 : Int32)) / (25 : Int32))) + (1 : Int32)) / (3 : Int32))) + (15 : Int32)) (30 : Int32)), .int (wk_rem (((((32 : Int32) + ((2 : Int32) * (wk_rem (x0 / (100 : Int32)) (4 : Int32)))) + ((2 : Int32) * ((wk_rem x0 (100 : Int32)) / (4 : Int32)))) - (wk_rem ((((((19 : Int32) * (wk_rem x0 (19 : Int32))) + (x0 / (100 : Int32))) - ((x0 / (100 : Int32)) / (4 : Int32))) - ((((x0 / (100 : Int32)) - (((x0 / (100 : Int32)) + (8 : Int32)) / (25 : Int32))) + (1 : Int32)) / (3 : Int32))) + (15 : Int32)) (30 : Int32))) - (wk_rem (wk_rem x0 (100 : Int32)) (4 : Int32))) (7 : Int32)), .int ((((wk_rem x0 (19 : Int32)) + ((11 : Int32) * (wk_rem ((((((19 : Int32) * (wk_rem x0 (19 : Int32))) + (x0 / (100 : Int32))) - ((x0 / (100 : Int32)) / (4 : Int32))) - ((((x0 / (100 : Int32)) - (((x0 / (100 : Int32)) + (8 : Int32)) / (25 : Int32))) + (1 : Int32)) / (3 : Int32))) + (15 : Int32)) (30 : Int32)))) + ((22 : Int32) * (wk_rem (((((32 : Int32) + ((2 : Int32) * (wk_rem (x0 / (100 : Int32)) (4 : Int32)))) + ((2 : Int32) * ((wk_rem x0 (100 : Int32)) / (4 : Int32)))) - (wk_rem ((((((19 : Int32) * (wk_rem x0 (19 : Int32))) + (x0 / (100 : Int32))) - ((x0 / (100 : Int32)) / (4 : Int32))) - ((((x0 / (100 : Int32)) - (((x0 / (100 : Int32)) + (8 : Int32)) / (25 : Int32))) + (1 : Int32)) / (3 : Int32))) + (15 : Int32)) (30 : Int32))) - (wk_rem (wk_rem x0 (100 : Int32)) (4 : Int32))) (7 : Int32)))) / (451 : Int32)), wk_U]) (st' := [.int ((((wk_rem ((((((19 : Int32) * (wk_rem x0 (19 : Int32))) + (x0 / (100 : Int32))) - ((x0 / (100 : Int32)) / (4 : Int32))) - ((((x0 / (100 : Int32)) - (((x0 / (100 : Int32)) + (8 : Int32)) / (25 : Int32))) + (1 : Int32)) / (3 : Int32))) + (15 : Int32)) (30 : Int32)) + (wk_rem (((((32 : Int32) + ((2 : Int32) * (wk_rem (x0 / (100 : Int32)) (4 : Int32)))) + ((2 : Int32) * ((wk_rem x0 (100 : Int32)) / (4 : Int32)))) - (wk_rem ((((((19 : Int32) * (wk_rem x0 (19 : Int32))) + (x0 / (100 : Int32))) - ((x0 / (100 : Int32)) / (4 : Int32))) - ((((x0 / (100 : Int32)) - (((x0 / (100 : Int32)) + (8 : Int32)) / (25 : Int32))) + (1 : Int32)) / (3 : Int32))) + (15 : Int32)) (30 : Int32))) - (wk_rem (wk_rem x0 (100 : Int32)) (4 : Int32))) (7 : Int32))) - ((7 : Int32) * ((((wk_rem x0 (19 : Int32)) + ((11 : Int32) * (wk_rem ((((((19 : Int32) * (wk_rem x0 (19 : Int32))) + (x0 / (100 : Int32))) - ((x0 / (100 : Int32)) / (4 : Int32))) - ((((x0 / (100 : Int32)) - (((x0 / (100 : Int32)) + (8 : Int32)) / (25 : Int32))) + (1 : Int32)) / (3 : Int32))) + (15 : Int32)) (30 : Int32)))) + ((22 : Int32) * (wk_rem (((((32 : Int32) + ((2 : Int32) * (wk_rem (x0 / (100 : Int32)) (4 : Int32)))) + ((2 : Int32) * ((wk_rem x0 (100 : Int32)) / (4 : Int32)))) - (wk_rem ((((((19 : Int32) * (wk_rem x0 (19 : Int32))) + (x0 / (100 : Int32))) - ((x0 / (100 : Int32)) / (4 : Int32))) - ((((x0 / (100 : Int32)) - (((x0 / (100 : Int32)) + (8 : Int32)) / (25 : Int32))) + (1 : Int32)) / (3 : Int32))) + (15 : Int32)) (30 : Int32))) - (wk_rem (wk_rem x0 (100 : Int32)) (4 : Int32))) (7 : Int32)))) / (451 : Int32)))) + (114 : Int32))]) (σ' := s) rfl ?_
  replace h := wk_letE h
  refine wk_Hs 4 87 ⟨rfl, rfl⟩ (ls' := [.int x0, .int (wk_rem x0 (19 : Int32)), .int (x0 / (100 : Int32)), .int (wk_rem x0 (100 : Int32)), .int ((((x0 / (100 : Int32)) - (((x0 / (100 : Int32)) + (8 : Int32)) / (25 : Int32))) + (1 : Int32)) / (3 : Int32)), .int (wk_rem ((((((19 : Int32) * (wk_rem x0 (19 : Int32))) + (x0 / (100 : Int32))) - ((x0 / (100 : Int32)) / (4 : Int32))) - ((((x0 / (100 : Int32)) - (((x0 / (100 : Int32)) + (8 : Int32)) / (25 : Int32))) + (1 : Int32)) / (3 : Int32))) + (15 : Int32)) (30 : Int32)), .int (wk_rem (((((32 : Int32) + ((2 : Int32) * (wk_rem (x0 / (100 : Int32)) (4 : Int32)))) + ((2 : Int32) * ((wk_rem x0 (100 : Int32)) / (4 : Int32)))) - (wk_rem ((((((19 : Int32) * (wk_rem x0 (19 : Int32))) + (x0 / (100 : Int32))) - ((x0 / (100 : Int32)) / (4 : Int32))) - ((((x0 / (100 : Int32)) - (((x0 / (100 : Int32)) + (8 : Int32)) / (25 : Int32))) + (1 : Int32)) / (3 : Int32))) + (15 : Int32)) (30 : Int32))) - (wk_rem (wk_rem x0 (100 : Int32)) (4 : Int32))) (7 : Int32)), .int ((((wk_rem x0 (19 : Int32)) + ((11 : Int32) * (wk_rem ((((((19 : Int32) * (wk_rem x0 (19 : Int32))) + (x0 / (100 : Int32))) - ((x0 / (100 : Int32)) / (4 : Int32))) - ((((x0 / (100 : Int32)) - (((x0 / (100 : Int32)) + (8 : Int32)) / (25 : Int32))) + (1 : Int32)) / (3 : Int32))) + (15 : Int32)) (30 : Int32)))) + ((22 : Int32) * (wk_rem (((((32 : Int32) + ((2 : Int32) * (wk_rem (x0 / (100 : Int32)) (4 : Int32)))) + ((2 : Int32) * ((wk_rem x0 (100 : Int32)) / (4 : Int32)))) - (wk_rem ((((((19 : Int32) * (wk_rem x0 (19 : Int32))) + (x0 / (100 : Int32))) - ((x0 / (100 : Int32)) / (4 : Int32))) - ((((x0 / (100 : Int32)) - (((x0 / (100 : Int32)) + (8 : Int32)) / (25 : Int32))) + (1 : Int32)) / (3 : Int32))) + (15 : Int32)) (30 : Int32))) - (wk_rem (wk_rem x0 (100 : Int32)) (4 : Int32))) (7 : Int32)))) / (451 : Int32)), .int ((((wk_rem ((((((19 : Int32) * (wk_rem x0 (19 : Int32))) + (x0 / (100 : Int32))) - ((x0 / (100 : Int32)) / (4 : Int32))) - ((((x0 / (100 : Int32)) - (((x0 / (100 : Int32)) + (8 : Int32)) / (25 : Int32))) + (1 : Int32)) / (3 : Int32))) + (15 : Int32)) (30 : Int32)) + (wk_rem (((((32 : Int32) + ((2 : Int32) * (wk_rem (x0 / (100 : Int32)) (4 : Int32)))) + ((2 : Int32) * ((wk_rem x0 (100 : Int32)) / (4 : Int32)))) - (wk_rem ((((((19 : Int32) * (wk_rem x0 (19 : Int32))) + (x0 / (100 : Int32))) - ((x0 / (100 : Int32)) / (4 : Int32))) - ((((x0 / (100 : Int32)) - (((x0 / (100 : Int32)) + (8 : Int32)) / (25 : Int32))) + (1 : Int32)) / (3 : Int32))) + (15 : Int32)) (30 : Int32))) - (wk_rem (wk_rem x0 (100 : Int32)) (4 : Int32))) (7 : Int32))) - ((7 : Int32) * ((((wk_rem x0 (19 : Int32)) + ((11 : Int32) * (wk_rem ((((((19 : Int32) * (wk_rem x0 (19 : Int32))) + (x0 / (100 : Int32))) - ((x0 / (100 : Int32)) / (4 : Int32))) - ((((x0 / (100 : Int32)) - (((x0 / (100 : Int32)) + (8 : Int32)) / (25 : Int32))) + (1 : Int32)) / (3 : Int32))) + (15 : Int32)) (30 : Int32)))) + ((22 : Int32) * (wk_rem (((((32 : Int32) + ((2 : Int32) * (wk_rem (x0 / (100 : Int32)) (4 : Int32)))) + ((2 : Int32) * ((wk_rem x0 (100 : Int32)) / (4 : Int32)))) - (wk_rem ((((((19 : Int32) * (wk_rem x0 (19 : Int32))) + (x0 / (100 : Int32))) - ((x0 / (100 : Int32)) / (4 : Int32))) - ((((x0 / (100 : Int32)) - (((x0 / (100 : Int32)) + (8 : Int32)) / (25 : Int32))) + (1 : Int32)) / (3 : Int32))) + (15 : Int32)) (30 : Int32))) - (wk_rem (wk_rem x0 (100 : Int32)) (4 : Int32))) (7 : Int32)))) / (451 : Int32)))) + (114 : Int32))]) (st' := [.int (31 : Int32), .int ((((wk_rem ((((((19 : Int32) * (wk_rem x0 (19 : Int32))) + (x0 / (100 : Int32))) - ((x0 / (100 : Int32)) / (4 : Int32))) - ((((x0 / (100 : Int32)) - (((x0 / (100 : Int32)) + (8 : Int32)) / (25 : Int32))) + (1 : Int32)) / (3 : Int32))) + (15 : Int32)) (30 : Int32)) + (wk_rem (((((32 : Int32) + ((2 : Int32) * (wk_rem (x0 / (100 : Int32)) (4 : Int32)))) + ((2 : Int32) * ((wk_rem x0 (100 : Int32)) / (4 : Int32)))) - (wk_rem ((((((19 : Int32) * (wk_rem x0 (19 : Int32))) + (x0 / (100 : Int32))) - ((x0 / (100 : Int32)) / (4 : Int32))) - ((((x0 / (100 : Int32)) - (((x0 / (100 : Int32)) + (8 : Int32)) / (25 : Int32))) + (1 : Int32)) / (3 : Int32))) + (15 : Int32)) (30 : Int32))) - (wk_rem (wk_rem x0 (100 : Int32)) (4 : Int32))) (7 : Int32))) - ((7 : Int32) * ((((wk_rem x0 (19 : Int32)) + ((11 : Int32) * (wk_rem ((((((19 : Int32) * (wk_rem x0 (19 : Int32))) + (x0 / (100 : Int32))) - ((x0 / (100 : Int32)) / (4 : Int32))) - ((((x0 / (100 : Int32)) - (((x0 / (100 : Int32)) + (8 : Int32)) / (25 : Int32))) + (1 : Int32)) / (3 : Int32))) + (15 : Int32)) (30 : Int32)))) + ((22 : Int32) * (wk_rem (((((32 : Int32) + ((2 : Int32) * (wk_rem (x0 / (100 : Int32)) (4 : Int32)))) + ((2 : Int32) * ((wk_rem x0 (100 : Int32)) / (4 : Int32)))) - (wk_rem ((((((19 : Int32) * (wk_rem x0 (19 : Int32))) + (x0 / (100 : Int32))) - ((x0 / (100 : Int32)) / (4 : Int32))) - ((((x0 / (100 : Int32)) - (((x0 / (100 : Int32)) + (8 : Int32)) / (25 : Int32))) + (1 : Int32)) / (3 : Int32))) + (15 : Int32)) (30 : Int32))) - (wk_rem (wk_rem x0 (100 : Int32)) (4 : Int32))) (7 : Int32)))) / (451 : Int32)))) + (114 : Int32)), .int (100 : Int32)]) (σ' := s) rfl ?_
  refine wk_Hdiv 88 rfl rfl (by decide) ?_
  refine wk_Hs 3 91 ⟨rfl, rfl⟩ (ls' := [.int x0, .int (wk_rem x0 (19 : Int32)), .int (x0 / (100 : Int32)), .int (wk_rem x0 (100 : Int32)), .int ((((x0 / (100 : Int32)) - (((x0 / (100 : Int32)) + (8 : Int32)) / (25 : Int32))) + (1 : Int32)) / (3 : Int32)), .int (wk_rem ((((((19 : Int32) * (wk_rem x0 (19 : Int32))) + (x0 / (100 : Int32))) - ((x0 / (100 : Int32)) / (4 : Int32))) - ((((x0 / (100 : Int32)) - (((x0 / (100 : Int32)) + (8 : Int32)) / (25 : Int32))) + (1 : Int32)) / (3 : Int32))) + (15 : Int32)) (30 : Int32)), .int (wk_rem (((((32 : Int32) + ((2 : Int32) * (wk_rem (x0 / (100 : Int32)) (4 : Int32)))) + ((2 : Int32) * ((wk_rem x0 (100 : Int32)) / (4 : Int32)))) - (wk_rem ((((((19 : Int32) * (wk_rem x0 (19 : Int32))) + (x0 / (100 : Int32))) - ((x0 / (100 : Int32)) / (4 : Int32))) - ((((x0 / (100 : Int32)) - (((x0 / (100 : Int32)) + (8 : Int32)) / (25 : Int32))) + (1 : Int32)) / (3 : Int32))) + (15 : Int32)) (30 : Int32))) - (wk_rem (wk_rem x0 (100 : Int32)) (4 : Int32))) (7 : Int32)), .int ((((wk_rem x0 (19 : Int32)) + ((11 : Int32) * (wk_rem ((((((19 : Int32) * (wk_rem x0 (19 : Int32))) + (x0 / (100 : Int32))) - ((x0 / (100 : Int32)) / (4 : Int32))) - ((((x0 / (100 : Int32)) - (((x0 / (100 : Int32)) + (8 : Int32)) / (25 : Int32))) + (1 : Int32)) / (3 : Int32))) + (15 : Int32)) (30 : Int32)))) + ((22 : Int32) * (wk_rem (((((32 : Int32) + ((2 : Int32) * (wk_rem (x0 / (100 : Int32)) (4 : Int32)))) + ((2 : Int32) * ((wk_rem x0 (100 : Int32)) / (4 : Int32)))) - (wk_rem ((((((19 : Int32) * (wk_rem x0 (19 : Int32))) + (x0 / (100 : Int32))) - ((x0 / (100 : Int32)) / (4 : Int32))) - ((((x0 / (100 : Int32)) - (((x0 / (100 : Int32)) + (8 : Int32)) / (25 : Int32))) + (1 : Int32)) / (3 : Int32))) + (15 : Int32)) (30 : Int32))) - (wk_rem (wk_rem x0 (100 : Int32)) (4 : Int32))) (7 : Int32)))) / (451 : Int32)), .int ((((wk_rem ((((((19 : Int32) * (wk_rem x0 (19 : Int32))) + (x0 / (100 : Int32))) - ((x0 / (100 : Int32)) / (4 : Int32))) - ((((x0 / (100 : Int32)) - (((x0 / (100 : Int32)) + (8 : Int32)) / (25 : Int32))) + (1 : Int32)) / (3 : Int32))) + (15 : Int32)) (30 : Int32)) + (wk_rem (((((32 : Int32) + ((2 : Int32) * (wk_rem (x0 / (100 : Int32)) (4 : Int32)))) + ((2 : Int32) * ((wk_rem x0 (100 : Int32)) / (4 : Int32)))) - (wk_rem ((((((19 : Int32) * (wk_rem x0 (19 : Int32))) + (x0 / (100 : Int32))) - ((x0 / (100 : Int32)) / (4 : Int32))) - ((((x0 / (100 : Int32)) - (((x0 / (100 : Int32)) + (8 : Int32)) / (25 : Int32))) + (1 : Int32)) / (3 : Int32))) + (15 : Int32)) (30 : Int32))) - (wk_rem (wk_rem x0 (100 : Int32)) (4 : Int32))) (7 : Int32))) - ((7 : Int32) * ((((wk_rem x0 (19 : Int32)) + ((11 : Int32) * (wk_rem ((((((19 : Int32) * (wk_rem x0 (19 : Int32))) + (x0 / (100 : Int32))) - ((x0 / (100 : Int32)) / (4 : Int32))) - ((((x0 / (100 : Int32)) - (((x0 / (100 : Int32)) + (8 : Int32)) / (25 : Int32))) + (1 : Int32)) / (3 : Int32))) + (15 : Int32)) (30 : Int32)))) + ((22 : Int32) * (wk_rem (((((32 : Int32) + ((2 : Int32) * (wk_rem (x0 / (100 : Int32)) (4 : Int32)))) + ((2 : Int32) * ((wk_rem x0 (100 : Int32)) / (4 : Int32)))) - (wk_rem ((((((19 : Int32) * (wk_rem x0 (19 : Int32))) + (x0 / (100 : Int32))) - ((x0 / (100 : Int32)) / (4 : Int32))) - ((((x0 / (100 : Int32)) - (((x0 / (100 : Int32)) + (8 : Int32)) / (25 : Int32))) + (1 : Int32)) / (3 : Int32))) + (15 : Int32)) (30 : Int32))) - (wk_rem (wk_rem x0 (100 : Int32)) (4 : Int32))) (7 : Int32)))) / (451 : Int32)))) + (114 : Int32))]) (st' := [.int (31 : Int32), .int ((((wk_rem ((((((19 : Int32) * (wk_rem x0 (19 : Int32))) + (x0 / (100 : Int32))) - ((x0 / (100 : Int32)) / (4 : Int32))) - ((((x0 / (100 : Int32)) - (((x0 / (100 : Int32)) + (8 : Int32)) / (25 : Int32))) + (1 : Int32)) / (3 : Int32))) + (15 : Int32)) (30 : Int32)) + (wk_rem (((((32 : Int32) + ((2 : Int32) * (wk_rem (x0 / (100 : Int32)) (4 : Int32)))) + ((2 : Int32) * ((wk_rem x0 (100 : Int32)) / (4 : Int32)))) - (wk_rem ((((((19 : Int32) * (wk_rem x0 (19 : Int32))) + (x0 / (100 : Int32))) - ((x0 / (100 : Int32)) / (4 : Int32))) - ((((x0 / (100 : Int32)) - (((x0 / (100 : Int32)) + (8 : Int32)) / (25 : Int32))) + (1 : Int32)) / (3 : Int32))) + (15 : Int32)) (30 : Int32))) - (wk_rem (wk_rem x0 (100 : Int32)) (4 : Int32))) (7 : Int32))) - ((7 : Int32) * ((((wk_rem x0 (19 : Int32)) + ((11 : Int32) * (wk_rem ((((((19 : Int32) * (wk_rem x0 (19 : Int32))) + (x0 / (100 : Int32))) - ((x0 / (100 : Int32)) / (4 : Int32))) - ((((x0 / (100 : Int32)) - (((x0 / (100 : Int32)) + (8 : Int32)) / (25 : Int32))) + (1 : Int32)) / (3 : Int32))) + (15 : Int32)) (30 : Int32)))) + ((22 : Int32) * (wk_rem (((((32 : Int32) + ((2 : Int32) * (wk_rem (x0 / (100 : Int32)) (4 : Int32)))) + ((2 : Int32) * ((wk_rem x0 (100 : Int32)) / (4 : Int32)))) - (wk_rem ((((((19 : Int32) * (wk_rem x0 (19 : Int32))) + (x0 / (100 : Int32))) - ((x0 / (100 : Int32)) / (4 : Int32))) - ((((x0 / (100 : Int32)) - (((x0 / (100 : Int32)) + (8 : Int32)) / (25 : Int32))) + (1 : Int32)) / (3 : Int32))) + (15 : Int32)) (30 : Int32))) - (wk_rem (wk_rem x0 (100 : Int32)) (4 : Int32))) (7 : Int32)))) / (451 : Int32)))) + (114 : Int32)), .int ((100 : Int32) * (((((wk_rem ((((((19 : Int32) * (wk_rem x0 (19 : Int32))) + (x0 / (100 : Int32))) - ((x0 / (100 : Int32)) / (4 : Int32))) - ((((x0 / (100 : Int32)) - (((x0 / (100 : Int32)) + (8 : Int32)) / (25 : Int32))) + (1 : Int32)) / (3 : Int32))) + (15 : Int32)) (30 : Int32)) + (wk_rem (((((32 : Int32) + ((2 : Int32) * (wk_rem (x0 / (100 : Int32)) (4 : Int32)))) + ((2 : Int32) * ((wk_rem x0 (100 : Int32)) / (4 : Int32)))) - (wk_rem ((((((19 : Int32) * (wk_rem x0 (19 : Int32))) + (x0 / (100 : Int32))) - ((x0 / (100 : Int32)) / (4 : Int32))) - ((((x0 / (100 : Int32)) - (((x0 / (100 : Int32)) + (8 : Int32)) / (25 : Int32))) + (1 : Int32)) / (3 : Int32))) + (15 : Int32)) (30 : Int32))) - (wk_rem (wk_rem x0 (100 : Int32)) (4 : Int32))) (7 : Int32))) - ((7 : Int32) * ((((wk_rem x0 (19 : Int32)) + ((11 : Int32) * (wk_rem ((((((19 : Int32) * (wk_rem x0 (19 : Int32))) + (x0 / (100 : Int32))) - ((x0 / (100 : Int32)) / (4 : Int32))) - ((((x0 / (100 : Int32)) - (((x0 / (100 : Int32)) + (8 : Int32)) / (25 : Int32))) + (1 : Int32)) / (3 : Int32))) + (15 : Int32)) (30 : Int32)))) + ((22 : Int32) * (wk_rem (((((32 : Int32) + ((2 : Int32) * (wk_rem (x0 / (100 : Int32)) (4 : Int32)))) + ((2 : Int32) * ((wk_rem x0 (100 : Int32)) / (4 : Int32)))) - (wk_rem ((((((19 : Int32) * (wk_rem x0 (19 : Int32))) + (x0 / (100 : Int32))) - ((x0 / (100 : Int32)) / (4 : Int32))) - ((((x0 / (100 : Int32)) - (((x0 / (100 : Int32)) + (8 : Int32)) / (25 : Int32))) + (1 : Int32)) / (3 : Int32))) + (15 : Int32)) (30 : Int32))) - (wk_rem (wk_rem x0 (100 : Int32)) (4 : Int32))) (7 : Int32)))) / (451 : Int32)))) + (114 : Int32)) / (31 : Int32)))]) (σ' := s) rfl ?_
  refine wk_Hrem 92 rfl rfl (by decide) ?_
  refine wk_Hs 3 95 ⟨rfl, rfl⟩ (ls' := [.int x0, .int (wk_rem x0 (19 : Int32)), .int (x0 / (100 : Int32)), .int (wk_rem x0 (100 : Int32)), .int ((((x0 / (100 : Int32)) - (((x0 / (100 : Int32)) + (8 : Int32)) / (25 : Int32))) + (1 : Int32)) / (3 : Int32)), .int (wk_rem ((((((19 : Int32) * (wk_rem x0 (19 : Int32))) + (x0 / (100 : Int32))) - ((x0 / (100 : Int32)) / (4 : Int32))) - ((((x0 / (100 : Int32)) - (((x0 / (100 : Int32)) + (8 : Int32)) / (25 : Int32))) + (1 : Int32)) / (3 : Int32))) + (15 : Int32)) (30 : Int32)), .int (wk_rem (((((32 : Int32) + ((2 : Int32) * (wk_rem (x0 / (100 : Int32)) (4 : Int32)))) + ((2 : Int32) * ((wk_rem x0 (100 : Int32)) / (4 : Int32)))) - (wk_rem ((((((19 : Int32) * (wk_rem x0 (19 : Int32))) + (x0 / (100 : Int32))) - ((x0 / (100 : Int32)) / (4 : Int32))) - ((((x0 / (100 : Int32)) - (((x0 / (100 : Int32)) + (8 : Int32)) / (25 : Int32))) + (1 : Int32)) / (3 : Int32))) + (15 : Int32)) (30 : Int32))) - (wk_rem (wk_rem x0 (100 : Int32)) (4 : Int32))) (7 : Int32)), .int ((((wk_rem x0 (19 : Int32)) + ((11 : Int32) * (wk_rem ((((((19 : Int32) * (wk_rem x0 (19 : Int32))) + (x0 / (100 : Int32))) - ((x0 / (100 : Int32)) / (4 : Int32))) - ((((x0 / (100 : Int32)) - (((x0 / (100 : Int32)) + (8 : Int32)) / (25 : Int32))) + (1 : Int32)) / (3 : Int32))) + (15 : Int32)) (30 : Int32)))) + ((22 : Int32) * (wk_rem (((((32 : Int32) + ((2 : Int32) * (wk_rem (x0 / (100 : Int32)) (4 : Int32)))) + ((2 : Int32) * ((wk_rem x0 (100 : Int32)) / (4 : Int32)))) - (wk_rem ((((((19 : Int32) * (wk_rem x0 (19 : Int32))) + (x0 / (100 : Int32))) - ((x0 / (100 : Int32)) / (4 : Int32))) - ((((x0 / (100 : Int32)) - (((x0 / (100 : Int32)) + (8 : Int32)) / (25 : Int32))) + (1 : Int32)) / (3 : Int32))) + (15 : Int32)) (30 : Int32))) - (wk_rem (wk_rem x0 (100 : Int32)) (4 : Int32))) (7 : Int32)))) / (451 : Int32)), .int ((((wk_rem ((((((19 : Int32) * (wk_rem x0 (19 : Int32))) + (x0 / (100 : Int32))) - ((x0 / (100 : Int32)) / (4 : Int32))) - ((((x0 / (100 : Int32)) - (((x0 / (100 : Int32)) + (8 : Int32)) / (25 : Int32))) + (1 : Int32)) / (3 : Int32))) + (15 : Int32)) (30 : Int32)) + (wk_rem (((((32 : Int32) + ((2 : Int32) * (wk_rem (x0 / (100 : Int32)) (4 : Int32)))) + ((2 : Int32) * ((wk_rem x0 (100 : Int32)) / (4 : Int32)))) - (wk_rem ((((((19 : Int32) * (wk_rem x0 (19 : Int32))) + (x0 / (100 : Int32))) - ((x0 / (100 : Int32)) / (4 : Int32))) - ((((x0 / (100 : Int32)) - (((x0 / (100 : Int32)) + (8 : Int32)) / (25 : Int32))) + (1 : Int32)) / (3 : Int32))) + (15 : Int32)) (30 : Int32))) - (wk_rem (wk_rem x0 (100 : Int32)) (4 : Int32))) (7 : Int32))) - ((7 : Int32) * ((((wk_rem x0 (19 : Int32)) + ((11 : Int32) * (wk_rem ((((((19 : Int32) * (wk_rem x0 (19 : Int32))) + (x0 / (100 : Int32))) - ((x0 / (100 : Int32)) / (4 : Int32))) - ((((x0 / (100 : Int32)) - (((x0 / (100 : Int32)) + (8 : Int32)) / (25 : Int32))) + (1 : Int32)) / (3 : Int32))) + (15 : Int32)) (30 : Int32)))) + ((22 : Int32) * (wk_rem (((((32 : Int32) + ((2 : Int32) * (wk_rem (x0 / (100 : Int32)) (4 : Int32)))) + ((2 : Int32) * ((wk_rem x0 (100 : Int32)) / (4 : Int32)))) - (wk_rem ((((((19 : Int32) * (wk_rem x0 (19 : Int32))) + (x0 / (100 : Int32))) - ((x0 / (100 : Int32)) / (4 : Int32))) - ((((x0 / (100 : Int32)) - (((x0 / (100 : Int32)) + (8 : Int32)) / (25 : Int32))) + (1 : Int32)) / (3 : Int32))) + (15 : Int32)) (30 : Int32))) - (wk_rem (wk_rem x0 (100 : Int32)) (4 : Int32))) (7 : Int32)))) / (451 : Int32)))) + (114 : Int32))]) (st' := [.int ((((100 : Int32) * (((((wk_rem ((((((19 : Int32) * (wk_rem x0 (19 : Int32))) + (x0 / (100 : Int32))) - ((x0 / (100 : Int32)) / (4 : Int32))) - ((((x0 / (100 : Int32)) - (((x0 / (100 : Int32)) + (8 : Int32)) / (25 : Int32))) + (1 : Int32)) / (3 : Int32))) + (15 : Int32)) (30 : Int32)) + (wk_rem (((((32 : Int32) + ((2 : Int32) * (wk_rem (x0 / (100 : Int32)) (4 : Int32)))) + ((2 : Int32) * ((wk_rem x0 (100 : Int32)) / (4 : Int32)))) - (wk_rem ((((((19 : Int32) * (wk_rem x0 (19 : Int32))) + (x0 / (100 : Int32))) - ((x0 / (100 : Int32)) / (4 : Int32))) - ((((x0 / (100 : Int32)) - (((x0 / (100 : Int32)) + (8 : Int32)) / (25 : Int32))) + (1 : Int32)) / (3 : Int32))) + (15 : Int32)) (30 : Int32))) - (wk_rem (wk_rem x0 (100 : Int32)) (4 : Int32))) (7 : Int32))) - ((7 : Int32) * ((((wk_rem x0 (19 : Int32)) + ((11 : Int32) * (wk_rem ((((((19 : Int32) * (wk_rem x0 (19 : Int32))) + (x0 / (100 : Int32))) - ((x0 / (100 : Int32)) / (4 : Int32))) - ((((x0 / (100 : Int32)) - (((x0 / (100 : Int32)) + (8 : Int32)) / (25 : Int32))) + (1 : Int32)) / (3 : Int32))) + (15 : Int32)) (30 : Int32)))) + ((22 : Int32) * (wk_rem (((((32 : Int32) + ((2 : Int32) * (wk_rem (x0 / (100 : Int32)) (4 : Int32)))) + ((2 : Int32) * ((wk_rem x0 (100 : Int32)) / (4 : Int32)))) - (wk_rem ((((((19 : Int32) * (wk_rem x0 (19 : Int32))) + (x0 / (100 : Int32))) - ((x0 / (100 : Int32)) / (4 : Int32))) - ((((x0 / (100 : Int32)) - (((x0 / (100 : Int32)) + (8 : Int32)) / (25 : Int32))) + (1 : Int32)) / (3 : Int32))) + (15 : Int32)) (30 : Int32))) - (wk_rem (wk_rem x0 (100 : Int32)) (4 : Int32))) (7 : Int32)))) / (451 : Int32)))) + (114 : Int32)) / (31 : Int32))) + (wk_rem ((((wk_rem ((((((19 : Int32) * (wk_rem x0 (19 : Int32))) + (x0 / (100 : Int32))) - ((x0 / (100 : Int32)) / (4 : Int32))) - ((((x0 / (100 : Int32)) - (((x0 / (100 : Int32)) + (8 : Int32)) / (25 : Int32))) + (1 : Int32)) / (3 : Int32))) + (15 : Int32)) (30 : Int32)) + (wk_rem (((((32 : Int32) + ((2 : Int32) * (wk_rem (x0 / (100 : Int32)) (4 : Int32)))) + ((2 : Int32) * ((wk_rem x0 (100 : Int32)) / (4 : Int32)))) - (wk_rem ((((((19 : Int32) * (wk_rem x0 (19 : Int32))) + (x0 / (100 : Int32))) - ((x0 / (100 : Int32)) / (4 : Int32))) - ((((x0 / (100 : Int32)) - (((x0 / (100 : Int32)) + (8 : Int32)) / (25 : Int32))) + (1 : Int32)) / (3 : Int32))) + (15 : Int32)) (30 : Int32))) - (wk_rem (wk_rem x0 (100 : Int32)) (4 : Int32))) (7 : Int32))) - ((7 : Int32) * ((((wk_rem x0 (19 : Int32)) + ((11 : Int32) * (wk_rem ((((((19 : Int32) * (wk_rem x0 (19 : Int32))) + (x0 / (100 : Int32))) - ((x0 / (100 : Int32)) / (4 : Int32))) - ((((x0 / (100 : Int32)) - (((x0 / (100 : Int32)) + (8 : Int32)) / (25 : Int32))) + (1 : Int32)) / (3 : Int32))) + (15 : Int32)) (30 : Int32)))) + ((22 : Int32) * (wk_rem (((((32 : Int32) + ((2 : Int32) * (wk_rem (x0 / (100 : Int32)) (4 : Int32)))) + ((2 : Int32) * ((wk_rem x0 (100 : Int32)) / (4 : Int32)))) - (wk_rem ((((((19 : Int32) * (wk_rem x0 (19 : Int32))) + (x0 / (100 : Int32))) - ((x0 / (100 : Int32)) / (4 : Int32))) - ((((x0 / (100 : Int32)) - (((x0 / (100 : Int32)) + (8 : Int32)) / (25 : Int32))) + (1 : Int32)) / (3 : Int32))) + (15 : Int32)) (30 : Int32))) - (wk_rem (wk_rem x0 (100 : Int32)) (4 : Int32))) (7 : Int32)))) / (451 : Int32)))) + (114 : Int32)) (31 : Int32))) + (1 : Int32))]) (σ' := s) rfl ?_
  cases h
  exact wk_eqz hk (wk_Hret rfl)
set_option maxHeartbeats 4000000 in
set_option maxRecDepth 20000 in
theorem t_X11_easter {x1 : Int32} {s : wk_St} {r : Int32} (h : f_X11_easter x1 s = some r) : wk_T wk_shC 3 34 [.ref 0, .int x1] s (some (.int r), s) := by
  suffices H : ∀ z, z = (some (.int r), s) → wk_H wk_shC 3 mc_X11_easter 0 [.ref 0, .int x1] [] s z from H _ rfl
  intro z hk
  dsimp only [f_X11_easter] at h
  refine wk_Hs 3 3 ⟨rfl, rfl⟩ (ls' := [.ref 0, .int x1]) (st' := [.int (1 : Int32), .int (1 : Int32), .int x1]) (σ' := s) rfl ?_
  obtain ⟨v1, hv1, h⟩ := wk_bindE h
  refine wk_Hcall (i2 := 4) (args := [.int x1, .int (1 : Int32), .int (1 : Int32)]) (rest := []) (r := some (.int (b2i v1))) (σ1 := s) rfl rfl ⟨rfl, rfl, rfl, rfl, rfl⟩ rfl ((t_X7_isDate hv1).up (by decide)) ?_
  rcases wk_ife h with ⟨hc, h⟩ | ⟨hc, h⟩
  · refine wk_H0t 8 rfl (wk_zeq.2 hc) ?_
    refine wk_Hs 1 9 ⟨rfl, rfl⟩ (ls' := [.ref 0, .int x1]) (st' := [.int (-1 : Int32)]) (σ' := s) rfl ?_
    cases h
    exact wk_eqz hk (wk_Hret rfl)
  · refine wk_H0f 8 5 rfl rfl (wk_nf wk_zeq hc) ?_
    refine wk_Hs 1 6 ⟨rfl, rfl⟩ (ls' := [.ref 0, .int x1]) (st' := [.int x1]) (σ' := s) rfl ?_
    refine wk_Hcall (i2 := 7) (args := [.int x1]) (rest := []) (r := some (.int (f_X7_easterOf x1))) (σ1 := s) rfl rfl ⟨rfl, rfl, rfl, rfl, rfl⟩ rfl ((t_X7_easterOf rfl).up (by decide)) ?_
    refine wk_Hgoto (t := 9) rfl ?_
    cases h
    exact wk_eqz hk (wk_Hret rfl)
set_option maxHeartbeats 4000000 in
set_option maxRecDepth 20000 in
theorem t_X7_yearLength {x0 : Int32} {s : wk_St} {r : Int32} (h : f_X7_yearLength x0 = r) : wk_T wk_shC 1 224 [.int x0] s (some (.int r), s) := by
  suffices H : ∀ z, z = (some (.int r), s) → wk_H wk_shC 1 mc_X7_yearLength 0 [.int x0] [] s z from H _ rfl
  intro z hk
  dsimp only [f_X7_yearLength] at h
  refine wk_Hs 1 1 ⟨rfl, rfl⟩ (ls' := [.int x0]) (st' := [.int x0]) (σ' := s) rfl ?_
  refine wk_Hcall (i2 := 2) (args := [.int x0]) (rest := []) (r := some (.int (b2i (f_X7_isLeap x0)))) (σ1 := s) rfl rfl ⟨rfl, rfl, rfl, rfl, rfl⟩ rfl ((t_X7_isLeap rfl).up (by decide)) ?_
  rcases wk_ife h with ⟨hc, h⟩ | ⟨hc, h⟩
  · refine wk_H0t 5 rfl (wk_zeq.2 hc) ?_
    refine wk_Hs 1 6 ⟨rfl, rfl⟩ (ls' := [.int x0]) (st' := [.int (365 : Int32)]) (σ' := s) rfl ?_
    cases h
    exact wk_eqz hk (wk_Hret rfl)
  · refine wk_H0f 5 3 rfl rfl (wk_nf wk_zeq hc) ?_
    refine wk_Hs 1 4 ⟨rfl, rfl⟩ (ls' := [.int x0]) (st' := [.int (366 : Int32)]) (σ' := s) rfl ?_
    refine wk_Hgoto (t := 6) rfl ?_
    cases h
    exact wk_eqz hk (wk_Hret rfl)
set_option maxHeartbeats 4000000 in
set_option maxRecDepth 20000 in
theorem ts_S_X7_dateOf_6 {x0 : Int32} {x2 : Int32} {x3 : Int32} {x4 : Int32} {w1 : Value} {s : wk_St} {z : wk_R} {o : (Int32 × Int32) ⊕ (Int32 × Int32 × Int32)} (h : S_X7_dateOf_6 x0 s (x2, x3, x4) = some o) (hk : match (generalizing := false) o with | Sum.inl a => (∀ (u1 u4 : Value), wk_H wk_shC 2 mc_X7_dateOf 26 [.int x0, u1, .int a.1, .int a.2, u4] [] s z) | Sum.inr y => ∀ (u1 : Value), wk_H wk_shC 2 mc_X7_dateOf 6 [.int x0, u1, .int y.1, .int y.2.1, .int y.2.2] [] s z) : wk_H wk_shC 2 mc_X7_dateOf 6 [.int x0, w1, .int x2, .int x3, .int x4] [] s z := by
  dsimp only [S_X7_dateOf_6] at h
  refine wk_Hs 2 8 ⟨rfl, rfl⟩ (ls' := [.int x0, w1, .int x2, .int x3, .int x4]) (st' := [.int (12 : Int32), .int x4]) (σ' := s) rfl ?_
  rcases wk_ife h with ⟨hc, h⟩ | ⟨hc, h⟩
  · refine wk_Hbt 26 rfl (wk_cge.2 hc) ?_
    cases h
    exact hk _ _
  · refine wk_Hbf 26 9 rfl rfl (wk_nf wk_cge hc) ?_
    refine wk_Hs 3 12 ⟨rfl, rfl⟩ (ls' := [.int x0, w1, .int x2, .int x3, .int x4]) (st' := [.int x4, .int x0, .int x2]) (σ' := s) rfl ?_
    obtain ⟨v1, hv1, h⟩ := wk_bindE h
    refine wk_Hcall (i2 := 13) (args := [.int x0, .int x4]) (rest := [.int x2]) (r := some (.int v1)) (σ1 := s) rfl rfl ⟨rfl, rfl, rfl, rfl, rfl⟩ rfl ((t_X7_monthLength hv1).up (by decide)) ?_
    rcases wk_ife h with ⟨hc, h⟩ | ⟨hc, h⟩
    · refine wk_Hbt 26 rfl (wk_clt.2 hc) ?_
      cases h
      exact hk _ _
    · refine wk_Hbf 26 14 rfl rfl (wk_nf wk_clt hc) ?_
      refine wk_Hs 3 17 ⟨rfl, rfl⟩ (ls' := [.int x0, w1, .int x2, .int x3, .int x4]) (st' := [.int x4, .int x0, .int x2]) (σ' := s) rfl ?_
      obtain ⟨v2, hv2, h⟩ := wk_bindE h
      refine wk_Hcall (i2 := 18) (args := [.int x0, .int x4]) (rest := [.int x2]) (r := some (.int v2)) (σ1 := s) rfl rfl ⟨rfl, rfl, rfl, rfl, rfl⟩ rfl ((t_X7_monthLength hv2).up (by decide)) ?_
      refine wk_Hs 5 23 ⟨rfl, rfl⟩ (ls' := [.int x0, (wk_cl w1), .int (x2 - v2), .int x3, .int x4]) (st' := [.int (x4 + (1 : Int32))]) (σ' := s) rfl ?_
      replace h := wk_letE h
      refine wk_Hs 2 25 ⟨rfl, rfl⟩ (ls' := [.int x0, (wk_cl w1), .int (x2 - v2), .int (x4 + (1 : Int32)), .int (x4 + (1 : Int32))]) (st' := []) (σ' := s) rfl ?_
      refine wk_Hgoto (t := 6) rfl ?_
      cases h
      exact hk _
set_option maxHeartbeats 4000000 in
set_option maxRecDepth 20000 in
theorem tl_S_X7_dateOf_6 {x0 : Int32} {s : wk_St} {z : wk_R} (n : Nat) : ∀ {x2 : Int32} {x3 : Int32} {x4 : Int32} {w1 : Value} {a : Int32 × Int32} (h : wk_loop (S_X7_dateOf_6 x0 s) n (x2, x3, x4) = some a) (hk : ∀ (u1 u4 : Value), wk_H wk_shC 2 mc_X7_dateOf 26 [.int x0, u1, .int a.1, .int a.2, u4] [] s z), wk_H wk_shC 2 mc_X7_dateOf 6 [.int x0, w1, .int x2, .int x3, .int x4] [] s z := by
  induction n with
  | zero =>
    intros
    rename_i h _
    exact nomatch (show (none : Option _) = some _ from h)
  | succ n ih =>
    intros
    rename_i h hk
    obtain ⟨o, ho, h⟩ := wk_bindE (show Option.bind _ _ = some _ from h)
    refine ts_S_X7_dateOf_6 ho ?_
    cases o with
    | inl a1 =>
      cases h
      exact hk
    | inr p =>
      obtain ⟨p0, p1, p2⟩ := p
      exact fun _ => ih h hk
set_option maxHeartbeats 4000000 in
set_option maxRecDepth 20000 in
theorem t_X7_dateOf {x0 : Int32} {x1 : Int32} {s : wk_St} {r : Int32} (h : f_X7_dateOf x0 x1 s = some r) : wk_T wk_shC 2 229 [.int x0, .int x1] s (some (.int r), s) := by
  suffices H : ∀ z, z = (some (.int r), s) → wk_H wk_shC 2 mc_X7_dateOf 0 [.int x0, .int x1, wk_U, wk_U, wk_U] [] s z from H _ rfl
  intro z hk
  dsimp only [f_X7_dateOf] at h
  refine wk_Hs 6 6 ⟨rfl, rfl⟩ (ls' := [.int x0, .int x1, .int x1, .int (1 : Int32), .int (1 : Int32)]) (st' := []) (σ' := s) rfl ?_
  obtain ⟨v4, hv4, h⟩ := wk_bindE h
  refine tl_S_X7_dateOf_6 wk_F hv4 ?_
  intro g5 g6
  refine wk_Hs 7 33 ⟨rfl, rfl⟩ (ls' := [.int x0, g5, .int v4.1, .int v4.2, g6]) (st' := [.int ((((100 : Int32) * v4.2) + v4.1) + (1 : Int32))]) (σ' := s) rfl ?_
  cases h
  exact wk_eqz hk (wk_Hret rfl)
set_option maxHeartbeats 4000000 in
set_option maxRecDepth 20000 in
theorem t_X11_date {x1 : Int32} {x2 : Int32} {s : wk_St} {r : Int32} (h : f_X11_date x1 x2 s = some r) : wk_T wk_shC 3 35 [.ref 0, .int x1, .int x2] s (some (.int r), s) := by
  suffices H : ∀ z, z = (some (.int r), s) → wk_H wk_shC 3 mc_X11_date 0 [.ref 0, .int x1, .int x2] [] s z from H _ rfl
  intro z hk
  dsimp only [f_X11_date] at h
  refine wk_Hs 3 3 ⟨rfl, rfl⟩ (ls' := [.ref 0, .int x1, .int x2]) (st' := [.int (1 : Int32), .int (1 : Int32), .int x1]) (σ' := s) rfl ?_
  obtain ⟨v1, hv1, h⟩ := wk_bindE h
  refine wk_Hcall (i2 := 4) (args := [.int x1, .int (1 : Int32), .int (1 : Int32)]) (rest := []) (r := some (.int (b2i v1))) (σ1 := s) rfl rfl ⟨rfl, rfl, rfl, rfl, rfl⟩ rfl ((t_X7_isDate hv1).up (by decide)) ?_
  rcases wk_ife h with ⟨hc, h⟩ | ⟨hc, h⟩
  · refine wk_H0t 13 rfl (wk_zeq.2 hc) ?_
    refine wk_Hs 1 14 ⟨rfl, rfl⟩ (ls' := [.ref 0, .int x1, .int x2]) (st' := [.int (-1 : Int32)]) (σ' := s) rfl ?_
    cases h
    exact wk_eqz hk (wk_Hret rfl)
  · refine wk_H0f 13 5 rfl rfl (wk_nf wk_zeq hc) ?_
    refine wk_Hs 3 8 ⟨rfl, rfl⟩ (ls' := [.ref 0, .int x1, .int x2]) (st' := [.int x1, .int (0 : Int32), .int x2]) (σ' := s) rfl ?_
    refine wk_Hcall (i2 := 9) (args := [.int x1]) (rest := [.int (0 : Int32), .int x2]) (r := some (.int (f_X7_yearLength x1))) (σ1 := s) rfl rfl ⟨rfl, rfl, rfl, rfl, rfl⟩ rfl ((t_X7_yearLength rfl).up (by decide)) ?_
    refine wk_Hs 2 11 ⟨rfl, rfl⟩ (ls' := [.ref 0, .int x1, .int x2]) (st' := [.int ((f_X7_yearLength x1) - (1 : Int32)), .int (0 : Int32), .int x2]) (σ' := s) rfl ?_
    refine wk_Hcall (i2 := 12) (args := [.int x2, .int (0 : Int32), .int ((f_X7_yearLength x1) - (1 : Int32))]) (rest := []) (r := some (.int (b2i (f_X11_isWithin x2 (0 : Int32) ((f_X7_yearLength x1) - (1 : Int32)))))) (σ1 := s) rfl rfl ⟨rfl, rfl, rfl, rfl, rfl⟩ rfl ((t_X11_isWithin rfl).up (by decide)) ?_
    rcases wk_ife h with ⟨hc, h⟩ | ⟨hc, h⟩
    · refine wk_H0t 15 rfl (wk_zne.2 hc) ?_
      refine wk_Hs 2 17 ⟨rfl, rfl⟩ (ls' := [.ref 0, .int x1, .int x2]) (st' := [.int x2, .int x1]) (σ' := s) rfl ?_
      obtain ⟨v4, hv4, h⟩ := wk_bindE h
      refine wk_Hcall (i2 := 18) (args := [.int x1, .int x2]) (rest := []) (r := some (.int v4)) (σ1 := s) rfl rfl ⟨rfl, rfl, rfl, rfl, rfl⟩ rfl ((t_X7_dateOf hv4).up (by decide)) ?_
      cases h
      exact wk_eqz hk (wk_Hret rfl)
    · refine wk_H0f 15 13 rfl rfl (wk_nf wk_zne hc) ?_
      refine wk_Hs 1 14 ⟨rfl, rfl⟩ (ls' := [.ref 0, .int x1, .int x2]) (st' := [.int (-1 : Int32)]) (σ' := s) rfl ?_
      cases h
      exact wk_eqz hk (wk_Hret rfl)
set_option maxHeartbeats 4000000 in
set_option maxRecDepth 20000 in
theorem t_X11_keep {s : wk_St} {r : Int32 × wk_St} (h : f_X11_keep s = some r) : wk_T wk_shC 1 36 [.ref 0] s (some (.int r.1), r.2) := by
  suffices H : ∀ z, z = (some (.int r.1), r.2) → wk_H wk_shC 1 mc_X11_keep 0 [.ref 0] [] s z from H _ rfl
  intro z hk
  dsimp only [f_X11_keep] at h
  refine wk_Hs 4 4 ⟨rfl, rfl⟩ (ls' := [.ref 0]) (st' := [.ref 8, .ref 13]) (σ' := s) rfl ?_
  obtain ⟨v1, hv1, h⟩ := wk_bindE h
  refine wk_Hcall (i2 := 5) (args := [.ref 13, .ref 8]) (rest := []) (r := none) (σ1 := v1) rfl rfl ⟨rfl, rfl, rfl, rfl, rfl⟩ rfl ((t_X0_copyFrom_13_8 hv1).up (by decide)) ?_
  refine wk_Hs 2 7 ⟨rfl, rfl⟩ (ls' := [.ref 0]) (st' := [.int (1 : Int32), .ref 0]) (σ' := v1) rfl ?_
  refine wk_Hpz 8 13 rfl rfl rfl rfl rfl rfl (by decide) ?_
  refine wk_Hs 3 11 ⟨rfl, rfl⟩ (ls' := [.ref 0]) (st' := [.int ((wk_si v1 0 13 (1 : Int32)).1 8 5)]) (σ' := (wk_si v1 0 13 (1 : Int32))) rfl ?_
  cases h
  exact wk_eqz hk (wk_Hret rfl)
set_option maxHeartbeats 4000000 in
set_option maxRecDepth 20000 in
theorem t_X11_undo {s : wk_St} {r : Bool × wk_St} (h : f_X11_undo s = some r) : wk_T wk_shC 1 37 [.ref 0] s (some (.int (b2i r.1)), r.2) := by
  suffices H : ∀ z, z = (some (.int (b2i r.1)), r.2) → wk_H wk_shC 1 mc_X11_undo 0 [.ref 0] [] s z from H _ rfl
  intro z hk
  dsimp only [f_X11_undo] at h
  refine wk_Hs 2 2 ⟨rfl, rfl⟩ (ls' := [.ref 0]) (st' := [.int (s.1 0 13)]) (σ' := s) rfl ?_
  rcases wk_ife h with ⟨hc, h⟩ | ⟨hc, h⟩
  · refine wk_H0t 5 rfl (wk_cne.2 hc) ?_
    refine wk_Hs 4 9 ⟨rfl, rfl⟩ (ls' := [.ref 0]) (st' := [.ref 13, .ref 8]) (σ' := s) rfl ?_
    obtain ⟨v1, hv1, h⟩ := wk_bindE h
    refine wk_Hcall (i2 := 10) (args := [.ref 8, .ref 13]) (rest := []) (r := none) (σ1 := v1) rfl rfl ⟨rfl, rfl, rfl, rfl, rfl⟩ rfl ((t_X0_copyFrom_8_13 hv1).up (by decide)) ?_
    refine wk_Hs 1 11 ⟨rfl, rfl⟩ (ls' := [.ref 0]) (st' := [.int (1 : Int32)]) (σ' := v1) rfl ?_
    cases h
    exact wk_eqz hk (wk_Hretz rfl (b2i_01 true))
  · refine wk_H0f 5 3 rfl rfl (wk_nf wk_cne hc) ?_
    refine wk_Hs 1 4 ⟨rfl, rfl⟩ (ls' := [.ref 0]) (st' := [.int (0 : Int32)]) (σ' := s) rfl ?_
    cases h
    exact wk_eqz hk (wk_Hretz rfl (b2i_01 false))
set_option maxHeartbeats 4000000 in
set_option maxRecDepth 20000 in
theorem tj_j_X11_check_30_l13 {x1 : Int32} {x2 : Int32} {x3 : Int32} {s_0 : Int32} {w4 : Value} {s : wk_St} {z : wk_R} {o : (Int32 × wk_St) ⊕ (Int32 × Int32 × wk_St)} (h : j_X11_check_30_l13 x1 x2 x3 s_0 s = some o) (hk : match (generalizing := false) o with | Sum.inl a => (∀ (u3 u4 : Value), wk_H wk_shC 2 mc_X11_check 41 [.ref 0, .int x1, .int a.1, u3, u4] [] a.2 z) | Sum.inr y => ∀ (u4 : Value), wk_H wk_shC 2 mc_X11_check 13 [.ref 0, .int x1, .int y.1, .int y.2.1, u4] [] y.2.2 z) : wk_H wk_shC 2 mc_X11_check 30 [.ref 0, .int x1, .int x2, .int x3, w4] [.int s_0] s z := by
  dsimp only [j_X11_check_30_l13] at h
  refine wk_Hs 4 34 ⟨rfl, rfl⟩ (ls' := [.ref 0, .int x1, .int x2, .int x3, .int s_0]) (st' := [.int x3, .ref 1]) (σ' := s) rfl ?_
  obtain ⟨v3, hv3, h⟩ := wk_bindE h
  refine wk_Hcall (i2 := 35) (args := [.ref 1, .int x3]) (rest := []) (r := some (.int v3)) (σ1 := s) rfl rfl ⟨rfl, rfl, rfl, rfl, rfl⟩ rfl ((t_X8_byteAt hv3).up (by decide)) ?_
  refine wk_Hs 1 36 ⟨rfl, rfl⟩ (ls' := [.ref 0, .int x1, .int x2, .int x3, .int s_0]) (st' := [.int s_0, .int v3]) (σ' := s) rfl ?_
  rcases wk_ife h with ⟨hc, h⟩ | ⟨hc, h⟩
  · refine wk_Hbt 39 rfl (wk_ceq.2 hc) ?_
    refine wk_Hs 1 40 ⟨rfl, rfl⟩ (ls' := [.ref 0, .int x1, .int x2, .int (x3 + (1 : Int32)), .int s_0]) (st' := []) (σ' := s) rfl ?_
    refine wk_Hgoto (t := 13) rfl ?_
    cases h
    exact hk _
  · refine wk_Hbf 39 37 rfl rfl (wk_nf wk_ceq hc) ?_
    refine wk_Hs 3 40 ⟨rfl, rfl⟩ (ls' := [.ref 0, .int x1, .int x3, .int (x3 + (1 : Int32)), .int s_0]) (st' := []) (σ' := s) rfl ?_
    refine wk_Hgoto (t := 13) rfl ?_
    cases h
    exact hk _
set_option maxHeartbeats 4000000 in
set_option maxRecDepth 20000 in
theorem ts_S_X11_check_13 {x1 : Int32} {x2 : Int32} {x3 : Int32} {w4 : Value} {s : wk_St} {z : wk_R} {o : (Int32 × wk_St) ⊕ (Int32 × Int32 × wk_St)} (h : S_X11_check_13 x1 (x2, x3, s) = some o) (hk : match (generalizing := false) o with | Sum.inl a => (∀ (u3 u4 : Value), wk_H wk_shC 2 mc_X11_check 41 [.ref 0, .int x1, .int a.1, u3, u4] [] a.2 z) | Sum.inr y => ∀ (u4 : Value), wk_H wk_shC 2 mc_X11_check 13 [.ref 0, .int x1, .int y.1, .int y.2.1, u4] [] y.2.2 z) : wk_H wk_shC 2 mc_X11_check 13 [.ref 0, .int x1, .int x2, .int x3, w4] [] s z := by
  dsimp only [S_X11_check_13] at h
  refine wk_Hs 2 15 ⟨rfl, rfl⟩ (ls' := [.ref 0, .int x1, .int x2, .int x3, w4]) (st' := [.int x1, .int x3]) (σ' := s) rfl ?_
  rcases wk_ife h with ⟨hc, h⟩ | ⟨hc, h⟩
  · refine wk_Hbt 41 rfl (wk_cge.2 hc) ?_
    cases h
    exact hk _ _
  · refine wk_Hbf 41 16 rfl rfl (wk_nf wk_cge hc) ?_
    refine wk_Hs 2 18 ⟨rfl, rfl⟩ (ls' := [.ref 0, .int x1, .int x2, .int x3, w4]) (st' := [.int (-1 : Int32), .int x2]) (σ' := s) rfl ?_
    rcases wk_ife h with ⟨hc, h⟩ | ⟨hc, h⟩
    · refine wk_Hbt 41 rfl (wk_cne.2 hc) ?_
      cases h
      exact hk _ _
    · refine wk_Hbf 41 19 rfl rfl (wk_nf wk_cne hc) ?_
      refine wk_Hs 3 22 ⟨rfl, rfl⟩ (ls' := [.ref 0, .int x1, .int x2, .int x3, w4]) (st' := [.int x3, .ref 8]) (σ' := s) rfl ?_
      refine wk_Hcall (i2 := 23) (args := [.ref 8, .int x3]) (rest := []) (r := some (.int (b2i (f_X0_isTold 8 x3 s)))) (σ1 := s) rfl rfl ⟨rfl, rfl, rfl, rfl, rfl⟩ rfl ((t_X0_isTold_8 rfl).up (by decide)) ?_
      rcases wk_ife h with ⟨hc, h⟩ | ⟨hc, h⟩
      · refine wk_H0t 29 rfl (wk_zeq.2 hc) ?_
        refine wk_Hs 1 30 ⟨rfl, rfl⟩ (ls' := [.ref 0, .int x1, .int x2, .int x3, w4]) (st' := [.int (255 : Int32)]) (σ' := s) rfl ?_
        exact tj_j_X11_check_30_l13 h hk
      · refine wk_H0f 29 24 rfl rfl (wk_nf wk_zeq hc) ?_
        refine wk_Hs 3 27 ⟨rfl, rfl⟩ (ls' := [.ref 0, .int x1, .int x2, .int x3, w4]) (st' := [.int x3, .ref 8]) (σ' := s) rfl ?_
        obtain ⟨v4, hv4, h⟩ := wk_bindE h
        refine wk_Hcall (i2 := 28) (args := [.ref 8, .int x3]) (rest := []) (r := some (.int v4)) (σ1 := s) rfl rfl ⟨rfl, rfl, rfl, rfl, rfl⟩ rfl ((t_X0_placeOf_8 hv4).up (by decide)) ?_
        refine wk_Hgoto (t := 30) rfl ?_
        exact tj_j_X11_check_30_l13 h hk
set_option maxHeartbeats 4000000 in
set_option maxRecDepth 20000 in
theorem tl_S_X11_check_13 {x1 : Int32} {z : wk_R} (n : Nat) : ∀ {x2 : Int32} {x3 : Int32} {w4 : Value} {s : wk_St} {a : Int32 × wk_St} (h : wk_loop (S_X11_check_13 x1) n (x2, x3, s) = some a) (hk : ∀ (u3 u4 : Value), wk_H wk_shC 2 mc_X11_check 41 [.ref 0, .int x1, .int a.1, u3, u4] [] a.2 z), wk_H wk_shC 2 mc_X11_check 13 [.ref 0, .int x1, .int x2, .int x3, w4] [] s z := by
  induction n with
  | zero =>
    intros
    rename_i h _
    exact nomatch (show (none : Option _) = some _ from h)
  | succ n ih =>
    intros
    rename_i h hk
    obtain ⟨o, ho, h⟩ := wk_bindE (show Option.bind _ _ = some _ from h)
    refine ts_S_X11_check_13 ho ?_
    cases o with
    | inl a1 =>
      cases h
      exact hk
    | inr p =>
      obtain ⟨p0, p1, p2⟩ := p
      exact fun _ => ih h hk
set_option maxHeartbeats 4000000 in
set_option maxRecDepth 20000 in
theorem t_X11_check {x1 : Int32} {s : wk_St} {r : Int32 × wk_St} (h : f_X11_check x1 s = some r) : wk_T wk_shC 2 38 [.ref 0, .int x1] s (some (.int r.1), r.2) := by
  suffices H : ∀ z, z = (some (.int r.1), r.2) → wk_H wk_shC 2 mc_X11_check 0 [.ref 0, .int x1, wk_U, wk_U, wk_U] [] s z from H _ rfl
  intro z hk
  dsimp only [f_X11_check] at h
  refine wk_Hs 5 5 ⟨rfl, rfl⟩ (ls' := [.ref 0, .int x1, wk_U, wk_U, wk_U]) (st' := [.int (9 : Int32), .int (0 : Int32), .int x1, .ref 1]) (σ' := s) rfl ?_
  refine wk_Hcall (i2 := 6) (args := [.ref 1, .int x1, .int (0 : Int32), .int (9 : Int32)]) (rest := []) (r := some (.int (b2i (f_X8_has x1 (0 : Int32) (9 : Int32) s)))) (σ1 := s) rfl rfl ⟨rfl, rfl, rfl, rfl, rfl⟩ rfl ((t_X8_has rfl).up (by decide)) ?_
  rcases wk_ife h with ⟨hc, h⟩ | ⟨hc, h⟩
  · refine wk_H0t 9 rfl (wk_zne.2 hc) ?_
    refine wk_Hs 4 13 ⟨rfl, rfl⟩ (ls' := [.ref 0, .int x1, .int (-1 : Int32), .int (0 : Int32), wk_U]) (st' := []) (σ' := s) rfl ?_
    obtain ⟨v5, hv5, h⟩ := wk_bindE h
    refine tl_S_X11_check_13 wk_F hv5 ?_
    intro g6 g7
    refine wk_Hs 2 43 ⟨rfl, rfl⟩ (ls' := [.ref 0, .int x1, .int v5.1, g6, g7]) (st' := [.ref 1]) (σ' := v5.2) rfl ?_
    replace h := wk_letE h
    refine wk_Hcall (i2 := 44) (args := [.ref 1]) (rest := []) (r := none) (σ1 := (f_X8_clear v5.2)) rfl rfl ⟨rfl, rfl, rfl, rfl, rfl⟩ rfl ((t_X8_clear rfl).up (by decide)) ?_
    refine wk_Hs 1 45 ⟨rfl, rfl⟩ (ls' := [.ref 0, .int x1, .int v5.1, g6, g7]) (st' := [.int v5.1]) (σ' := (f_X8_clear v5.2)) rfl ?_
    cases h
    exact wk_eqz hk (wk_Hret rfl)
  · refine wk_H0f 9 7 rfl rfl (wk_nf wk_zne hc) ?_
    refine wk_Hs 1 8 ⟨rfl, rfl⟩ (ls' := [.ref 0, .int x1, wk_U, wk_U, wk_U]) (st' := [.int (-2 : Int32)]) (σ' := s) rfl ?_
    cases h
    exact wk_eqz hk (wk_Hret rfl)
set_option maxHeartbeats 4000000 in
set_option maxRecDepth 20000 in
theorem ts_S_X0_bitsOfKind_4 {x1 : Int32} {x2 : Int32} {x3 : Int32} {s : wk_St} {z : wk_R} {o : (Int32) ⊕ (Int32 × Int32)} (h : S_X0_bitsOfKind_4 x1 s (x2, x3) = some o) (hk : match (generalizing := false) o with | Sum.inl a => (∀ (u3 : Value), wk_H wk_shC 2 mc_X0_bitsOfKind 27 [.ref 8, .int x1, .int a, u3] [] s z) | Sum.inr y => wk_H wk_shC 2 mc_X0_bitsOfKind 4 [.ref 8, .int x1, .int y.1, .int y.2] [] s z) : wk_H wk_shC 2 mc_X0_bitsOfKind 4 [.ref 8, .int x1, .int x2, .int x3] [] s z := by
  dsimp only [S_X0_bitsOfKind_4] at h
  refine wk_Hs 2 6 ⟨rfl, rfl⟩ (ls' := [.ref 8, .int x1, .int x2, .int x3]) (st' := [.int (9 : Int32), .int x3]) (σ' := s) rfl ?_
  rcases wk_ife h with ⟨hc, h⟩ | ⟨hc, h⟩
  · refine wk_Hbt 27 rfl (wk_cge.2 hc) ?_
    cases h
    exact hk _
  · refine wk_Hbf 27 7 rfl rfl (wk_nf wk_cge hc) ?_
    refine wk_Hs 3 10 ⟨rfl, rfl⟩ (ls' := [.ref 8, .int x1, .int x2, .int x3]) (st' := [.int x3, .ref 8, .int x2]) (σ' := s) rfl ?_
    refine wk_Hcall (i2 := 11) (args := [.ref 8, .int x3]) (rest := [.int x2]) (r := some (.int (b2i (f_X0_isTold 8 x3 s)))) (σ1 := s) rfl rfl ⟨rfl, rfl, rfl, rfl, rfl⟩ rfl ((t_X0_isTold_8 rfl).up (by decide)) ?_
    rcases wk_ife h with ⟨hc, h⟩ | ⟨hc, h⟩
    · refine wk_H0t 22 rfl (wk_zeq.2 hc) ?_
      refine wk_Hs 2 24 ⟨rfl, rfl⟩ (ls' := [.ref 8, .int x1, .int x2, .int x3]) (st' := [.int (x2 ||| (0 : Int32))]) (σ' := s) rfl ?_
      replace h := wk_letE h
      refine wk_Hs 2 26 ⟨rfl, rfl⟩ (ls' := [.ref 8, .int x1, .int (x2 ||| (0 : Int32)), .int (x3 + (1 : Int32))]) (st' := []) (σ' := s) rfl ?_
      refine wk_Hgoto (t := 4) rfl ?_
      cases h
      exact hk
    · refine wk_H0f 22 12 rfl rfl (wk_nf wk_zeq hc) ?_
      refine wk_Hs 3 15 ⟨rfl, rfl⟩ (ls' := [.ref 8, .int x1, .int x2, .int x3]) (st' := [.int x3, .ref 11, .int x2]) (σ' := s) rfl ?_
      obtain ⟨hg, h⟩ := wk_gdE h
      refine wk_Hia 16 rfl rfl rfl hg rfl ?_
      refine wk_Hs 1 17 ⟨rfl, rfl⟩ (ls' := [.ref 8, .int x1, .int x2, .int x3]) (st' := [.int x1, .int (s.1 11 (x3.toNatClampNeg)), .int x2]) (σ' := s) rfl ?_
      rcases wk_ife h with ⟨hc, h⟩ | ⟨hc, h⟩
      · refine wk_Hbt 22 rfl (wk_cne.2 hc) ?_
        refine wk_Hs 2 24 ⟨rfl, rfl⟩ (ls' := [.ref 8, .int x1, .int x2, .int x3]) (st' := [.int (x2 ||| (0 : Int32))]) (σ' := s) rfl ?_
        replace h := wk_letE h
        refine wk_Hs 2 26 ⟨rfl, rfl⟩ (ls' := [.ref 8, .int x1, .int (x2 ||| (0 : Int32)), .int (x3 + (1 : Int32))]) (st' := []) (σ' := s) rfl ?_
        refine wk_Hgoto (t := 4) rfl ?_
        cases h
        exact hk
      · refine wk_Hbf 22 18 rfl rfl (wk_nf wk_cne hc) ?_
        refine wk_Hs 3 21 ⟨rfl, rfl⟩ (ls' := [.ref 8, .int x1, .int x2, .int x3]) (st' := [.int ((1 : Int32) <<< (x3 &&& 31)), .int x2]) (σ' := s) rfl ?_
        refine wk_Hgoto (t := 23) rfl ?_
        refine wk_Hs 1 24 ⟨rfl, rfl⟩ (ls' := [.ref 8, .int x1, .int x2, .int x3]) (st' := [.int (x2 ||| ((1 : Int32) <<< (x3 &&& 31)))]) (σ' := s) rfl ?_
        replace h := wk_letE h
        refine wk_Hs 2 26 ⟨rfl, rfl⟩ (ls' := [.ref 8, .int x1, .int (x2 ||| ((1 : Int32) <<< (x3 &&& 31))), .int (x3 + (1 : Int32))]) (st' := []) (σ' := s) rfl ?_
        refine wk_Hgoto (t := 4) rfl ?_
        cases h
        exact hk
set_option maxHeartbeats 4000000 in
set_option maxRecDepth 20000 in
theorem tl_S_X0_bitsOfKind_4 {x1 : Int32} {s : wk_St} {z : wk_R} (n : Nat) : ∀ {x2 : Int32} {x3 : Int32} {a : Int32} (h : wk_loop (S_X0_bitsOfKind_4 x1 s) n (x2, x3) = some a) (hk : ∀ (u3 : Value), wk_H wk_shC 2 mc_X0_bitsOfKind 27 [.ref 8, .int x1, .int a, u3] [] s z), wk_H wk_shC 2 mc_X0_bitsOfKind 4 [.ref 8, .int x1, .int x2, .int x3] [] s z := by
  induction n with
  | zero =>
    intros
    rename_i h _
    exact nomatch (show (none : Option _) = some _ from h)
  | succ n ih =>
    intros
    rename_i h hk
    obtain ⟨o, ho, h⟩ := wk_bindE (show Option.bind _ _ = some _ from h)
    refine ts_S_X0_bitsOfKind_4 ho ?_
    cases o with
    | inl a1 =>
      cases h
      exact hk
    | inr p =>
      obtain ⟨p0, p1⟩ := p
      exact ih h hk
set_option maxHeartbeats 4000000 in
set_option maxRecDepth 20000 in
theorem t_X0_bitsOfKind {x1 : Int32} {s : wk_St} {r : Int32} (h : f_X0_bitsOfKind x1 s = some r) : wk_T wk_shC 2 161 [.ref 8, .int x1] s (some (.int r), s) := by
  suffices H : ∀ z, z = (some (.int r), s) → wk_H wk_shC 2 mc_X0_bitsOfKind 0 [.ref 8, .int x1, wk_U, wk_U] [] s z from H _ rfl
  intro z hk
  dsimp only [f_X0_bitsOfKind] at h
  refine wk_Hs 4 4 ⟨rfl, rfl⟩ (ls' := [.ref 8, .int x1, .int (0 : Int32), .int (0 : Int32)]) (st' := []) (σ' := s) rfl ?_
  obtain ⟨v5, hv5, h⟩ := wk_bindE h
  refine tl_S_X0_bitsOfKind_4 wk_F hv5 ?_
  intro g6
  refine wk_Hs 1 28 ⟨rfl, rfl⟩ (ls' := [.ref 8, .int x1, .int v5, g6]) (st' := [.int v5]) (σ' := s) rfl ?_
  cases h
  exact wk_eqz hk (wk_Hret rfl)
set_option maxHeartbeats 4000000 in
set_option maxRecDepth 20000 in
theorem t_X2_huntLength {x1 : Int32} {s : wk_St} {r : Int32} (h : f_X2_huntLength x1 s = some r) : wk_T wk_shC 1 181 [.ref 3, .int x1] s (some (.int r), s) := by
  suffices H : ∀ z, z = (some (.int r), s) → wk_H wk_shC 1 mc_X2_huntLength 0 [.ref 3, .int x1] [] s z from H _ rfl
  intro z hk
  dsimp only [f_X2_huntLength] at h
  refine wk_Hs 3 3 ⟨rfl, rfl⟩ (ls' := [.ref 3, .int x1]) (st' := [.int (11 : Int32), .int (0 : Int32), .int x1]) (σ' := s) rfl ?_
  refine wk_Hcall (i2 := 4) (args := [.int x1, .int (0 : Int32), .int (11 : Int32)]) (rest := []) (r := some (.int (b2i (f_X11_isWithin x1 (0 : Int32) (11 : Int32))))) (σ1 := s) rfl rfl ⟨rfl, rfl, rfl, rfl, rfl⟩ rfl ((t_X11_isWithin rfl).up (by decide)) ?_
  rcases wk_ife h with ⟨hc, h⟩ | ⟨hc, h⟩
  · refine wk_H0t 10 rfl (wk_zeq.2 hc) ?_
    refine wk_Hs 1 11 ⟨rfl, rfl⟩ (ls' := [.ref 3, .int x1]) (st' := [.int (0 : Int32)]) (σ' := s) rfl ?_
    cases h
    exact wk_eqz hk (wk_Hret rfl)
  · refine wk_H0f 10 5 rfl rfl (wk_nf wk_zeq hc) ?_
    refine wk_Hs 3 8 ⟨rfl, rfl⟩ (ls' := [.ref 3, .int x1]) (st' := [.int x1, .ref 6]) (σ' := s) rfl ?_
    obtain ⟨hg, h⟩ := wk_gdE h
    refine wk_Hia 9 rfl rfl rfl hg rfl ?_
    refine wk_Hgoto (t := 11) rfl ?_
    cases h
    exact wk_eqz hk (wk_Hret rfl)
set_option maxHeartbeats 4000000 in
set_option maxRecDepth 20000 in
theorem t_X11_count {x1 : Int32} {s : wk_St} {r : Int32} (h : f_X11_count x1 s = some r) : wk_T wk_shC 3 39 [.ref 0, .int x1] s (some (.int r), s) := by
  suffices H : ∀ z, z = (some (.int r), s) → wk_H wk_shC 3 mc_X11_count 0 [.ref 0, .int x1] [] s z from H _ rfl
  intro z hk
  dsimp only [f_X11_count] at h
  refine wk_Hs 1 1 ⟨rfl, rfl⟩ (ls' := [.ref 0, .int x1]) (st' := [.int x1]) (σ' := s) rfl ?_
  rcases wk_ife h with ⟨hc0, h⟩ | ⟨hc0, h⟩
  · refine wk_Hts (t := 2) rfl (wk_tswE hc0 (by decide)) ?_
    refine wk_Hs 3 5 ⟨rfl, rfl⟩ (ls' := [.ref 0, .int x1]) (st' := [.int (s.1 8 5)]) (σ' := s) rfl ?_
    cases h
    exact wk_eqz hk (wk_Hret rfl)
  rcases wk_ife h with ⟨hc1, h⟩ | ⟨hc1, h⟩
  · refine wk_Hts (t := 6) rfl (wk_tswE hc1 (by decide)) ?_
    refine wk_Hs 5 11 ⟨rfl, rfl⟩ (ls' := [.ref 0, .int x1]) (st' := [.int (s.1 8 5), .ref 3]) (σ' := s) rfl ?_
    obtain ⟨v1, hv1, h⟩ := wk_bindE h
    refine wk_Hcall (i2 := 12) (args := [.ref 3, .int (s.1 8 5)]) (rest := []) (r := some (.int v1)) (σ1 := s) rfl rfl ⟨rfl, rfl, rfl, rfl, rfl⟩ rfl ((t_X2_weekdayOf hv1).up (by decide)) ?_
    cases h
    exact wk_eqz hk (wk_Hret rfl)
  rcases wk_ife h with ⟨hc2, h⟩ | ⟨hc2, h⟩
  · refine wk_Hts (t := 13) rfl (wk_tswE hc2 (by decide)) ?_
    refine wk_Hs 3 16 ⟨rfl, rfl⟩ (ls' := [.ref 0, .int x1]) (st' := [.int (s.1 3 4)]) (σ' := s) rfl ?_
    cases h
    exact wk_eqz hk (wk_Hret rfl)
  rcases wk_ife h with ⟨hc3, h⟩ | ⟨hc3, h⟩
  · refine wk_Hts (t := 17) rfl (wk_tswE hc3 (by decide)) ?_
    refine wk_Hs 3 20 ⟨rfl, rfl⟩ (ls' := [.ref 0, .int x1]) (st' := [.int (s.1 8 4)]) (σ' := s) rfl ?_
    cases h
    exact wk_eqz hk (wk_Hret rfl)
  rcases wk_ife h with ⟨hc4, h⟩ | ⟨hc4, h⟩
  · refine wk_Hts (t := 21) rfl (wk_tswE hc4 (by decide)) ?_
    refine wk_Hs 3 24 ⟨rfl, rfl⟩ (ls' := [.ref 0, .int x1]) (st' := [.int (1 : Int32), .ref 8]) (σ' := s) rfl ?_
    obtain ⟨v2, hv2, h⟩ := wk_bindE h
    refine wk_Hcall (i2 := 25) (args := [.ref 8, .int (1 : Int32)]) (rest := []) (r := some (.int v2)) (σ1 := s) rfl rfl ⟨rfl, rfl, rfl, rfl, rfl⟩ rfl ((t_X0_bitsOfKind hv2).up (by decide)) ?_
    cases h
    exact wk_eqz hk (wk_Hret rfl)
  rcases wk_ife h with ⟨hc5, h⟩ | ⟨hc5, h⟩
  · refine wk_Hts (t := 26) rfl (wk_tswE hc5 (by decide)) ?_
    refine wk_Hs 3 29 ⟨rfl, rfl⟩ (ls' := [.ref 0, .int x1]) (st' := [.int (2 : Int32), .ref 8]) (σ' := s) rfl ?_
    obtain ⟨v3, hv3, h⟩ := wk_bindE h
    refine wk_Hcall (i2 := 30) (args := [.ref 8, .int (2 : Int32)]) (rest := []) (r := some (.int v3)) (σ1 := s) rfl rfl ⟨rfl, rfl, rfl, rfl, rfl⟩ rfl ((t_X0_bitsOfKind hv3).up (by decide)) ?_
    cases h
    exact wk_eqz hk (wk_Hret rfl)
  rcases wk_ife h with ⟨hc6, h⟩ | ⟨hc6, h⟩
  · refine wk_Hts (t := 31) rfl (wk_tswE hc6 (by decide)) ?_
    refine wk_Hs 3 34 ⟨rfl, rfl⟩ (ls' := [.ref 0, .int x1]) (st' := [.int (s.1 37 7)]) (σ' := s) rfl ?_
    cases h
    exact wk_eqz hk (wk_Hret rfl)
  rcases wk_ife h with ⟨hc7, h⟩ | ⟨hc7, h⟩
  · refine wk_Hts (t := 35) rfl (wk_tswE hc7 (by decide)) ?_
    refine wk_Hs 3 38 ⟨rfl, rfl⟩ (ls' := [.ref 0, .int x1]) (st' := [.int (s.1 1 1)]) (σ' := s) rfl ?_
    cases h
    exact wk_eqz hk (wk_Hret rfl)
  rcases wk_ife h with ⟨hc8, h⟩ | ⟨hc8, h⟩
  · refine wk_Hts (t := 39) rfl (wk_tswE hc8 (by decide)) ?_
    refine wk_Hs 3 42 ⟨rfl, rfl⟩ (ls' := [.ref 0, .int x1]) (st' := [.int (s.1 8 6)]) (σ' := s) rfl ?_
    cases h
    exact wk_eqz hk (wk_Hret rfl)
  refine wk_Hts (t := 43) rfl (wk_tswD (L := [0, 1, 2, 3, 4, 5, 6, 7, 8]) (by decide) (List.forall_mem_cons.2 ⟨wk_nt hc0 (by decide), (List.forall_mem_cons.2 ⟨wk_nt hc1 (by decide), (List.forall_mem_cons.2 ⟨wk_nt hc2 (by decide), (List.forall_mem_cons.2 ⟨wk_nt hc3 (by decide), (List.forall_mem_cons.2 ⟨wk_nt hc4 (by decide), (List.forall_mem_cons.2 ⟨wk_nt hc5 (by decide), (List.forall_mem_cons.2 ⟨wk_nt hc6 (by decide), (List.forall_mem_cons.2 ⟨wk_nt hc7 (by decide), (List.forall_mem_cons.2 ⟨wk_nt hc8 (by decide), (fun _ hq => absurd hq List.not_mem_nil)⟩)⟩)⟩)⟩)⟩)⟩)⟩)⟩)⟩)) ?_
  refine wk_Hs 5 48 ⟨rfl, rfl⟩ (ls' := [.ref 0, .int x1]) (st' := [.int (x1 - (20 : Int32)), .ref 3]) (σ' := s) rfl ?_
  refine wk_Hcall (i2 := 49) (args := [.ref 3, .int (x1 - (20 : Int32))]) (rest := []) (r := some (.int (b2i (f_X2_isTold (x1 - (20 : Int32)) s)))) (σ1 := s) rfl rfl ⟨rfl, rfl, rfl, rfl, rfl⟩ rfl ((t_X2_isTold rfl).up (by decide)) ?_
  rcases wk_ife h with ⟨hc, h⟩ | ⟨hc, h⟩
  · refine wk_H0t 57 rfl (wk_zeq.2 hc) ?_
    refine wk_Hs 3 60 ⟨rfl, rfl⟩ (ls' := [.ref 0, .int x1]) (st' := [.int (51 : Int32), .int (40 : Int32), .int x1]) (σ' := s) rfl ?_
    refine wk_Hcall (i2 := 61) (args := [.int x1, .int (40 : Int32), .int (51 : Int32)]) (rest := []) (r := some (.int (b2i (f_X11_isWithin x1 (40 : Int32) (51 : Int32))))) (σ1 := s) rfl rfl ⟨rfl, rfl, rfl, rfl, rfl⟩ rfl ((t_X11_isWithin rfl).up (by decide)) ?_
    rcases wk_ife h with ⟨hc, h⟩ | ⟨hc, h⟩
    · refine wk_H0t 69 rfl (wk_zeq.2 hc) ?_
      refine wk_Hs 1 70 ⟨rfl, rfl⟩ (ls' := [.ref 0, .int x1]) (st' := [.int (-1 : Int32)]) (σ' := s) rfl ?_
      cases h
      exact wk_eqz hk (wk_Hret rfl)
    · refine wk_H0f 69 62 rfl rfl (wk_nf wk_zeq hc) ?_
      refine wk_Hs 5 67 ⟨rfl, rfl⟩ (ls' := [.ref 0, .int x1]) (st' := [.int (x1 - (40 : Int32)), .ref 3]) (σ' := s) rfl ?_
      obtain ⟨v6, hv6, h⟩ := wk_bindE h
      refine wk_Hcall (i2 := 68) (args := [.ref 3, .int (x1 - (40 : Int32))]) (rest := []) (r := some (.int v6)) (σ1 := s) rfl rfl ⟨rfl, rfl, rfl, rfl, rfl⟩ rfl ((t_X2_huntLength hv6).up (by decide)) ?_
      refine wk_Hgoto (t := 70) rfl ?_
      cases h
      exact wk_eqz hk (wk_Hret rfl)
  · refine wk_H0f 57 50 rfl rfl (wk_nf wk_zeq hc) ?_
    refine wk_Hs 5 55 ⟨rfl, rfl⟩ (ls' := [.ref 0, .int x1]) (st' := [.int (x1 - (20 : Int32)), .ref 3]) (σ' := s) rfl ?_
    obtain ⟨v7, hv7, h⟩ := wk_bindE h
    refine wk_Hcall (i2 := 56) (args := [.ref 3, .int (x1 - (20 : Int32))]) (rest := []) (r := some (.int v7)) (σ1 := s) rfl rfl ⟨rfl, rfl, rfl, rfl, rfl⟩ rfl ((t_X2_nextTo hv7).up (by decide)) ?_
    cases h
    exact wk_eqz hk (wk_Hret rfl)
