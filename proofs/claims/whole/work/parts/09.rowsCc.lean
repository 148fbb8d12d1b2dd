set_option maxHeartbeats 4000000 in
set_option maxRecDepth 20000 in
theorem t_X10_isSpared_18 {x1 : Int32} {s : wk_St} {r : Bool × wk_St} (h : f_X10_isSpared 18 x1 s = some r) : wk_T wk_shC 3 252 [.ref 23, .int x1, .ref 3, .ref 37, .ref 18] s (some (.int (b2i r.1)), r.2) := by
  suffices H : ∀ z, z = (some (.int (b2i r.1)), r.2) → wk_H wk_shC 3 mc_X10_isSpared 0 [.ref 23, .int x1, .ref 3, .ref 37, .ref 18] [] s z from H _ rfl
  intro z hk
  dsimp only [f_X10_isSpared] at h
  refine wk_Hs 4 4 ⟨rfl, rfl⟩ (ls' := [.ref 23, .int x1, .ref 3, .ref 37, .ref 18]) (st' := [.int x1, .ref 18, .int x1, .ref 23]) (σ' := s) rfl ?_
  obtain ⟨v1, hv1, h⟩ := wk_bindE h
  refine wk_Hcall (i2 := 5) (args := [.ref 18, .int x1]) (rest := [.int x1, .ref 23]) (r := some (.int v1)) (σ1 := s) rfl rfl ⟨rfl, rfl, rfl, rfl, rfl⟩ rfl ((t_X0_placeOf_18 hv1).up (by decide)) ?_
  refine wk_Hs 2 7 ⟨rfl, rfl⟩ (ls' := [.ref 23, .int x1, .ref 3, .ref 37, .ref 18]) (st' := [.ref 18, .ref 3, .int v1, .int x1, .ref 23]) (σ' := s) rfl ?_
  obtain ⟨v2, hv2, h⟩ := wk_bindE h
  refine wk_Hcall (i2 := 8) (args := [.ref 23, .int x1, .int v1, .ref 3, .ref 18]) (rest := []) (r := none) (σ1 := v2) rfl rfl ⟨rfl, rfl, rfl, rfl, rfl⟩ rfl ((t_X10_look_18 hv2).up (by decide)) ?_
  refine wk_Hs 3 11 ⟨rfl, rfl⟩ (ls' := [.ref 23, .int x1, .ref 3, .ref 37, .ref 18]) (st' := [.ref 24, .ref 37]) (σ' := v2) rfl ?_
  obtain ⟨v3, hv3, h⟩ := wk_bindE h
  refine wk_Hcall (i2 := 12) (args := [.ref 37, .ref 24]) (rest := []) (r := some (.int (b2i v3.1))) (σ1 := v3.2) rfl rfl ⟨rfl, rfl, rfl, rfl, rfl⟩ rfl ((t_X4_spares hv3).up (by decide)) ?_
  cases h
  exact wk_eqz hk (wk_Hretz rfl (b2i_01 _))
set_option maxHeartbeats 4000000 in
set_option maxRecDepth 20000 in
theorem t_X0_draw_8 {s : wk_St} {r : Int32 × wk_St} (h : f_X0_draw 8 s = r) : wk_T wk_shC 0 164 [.ref 8] s (some (.int r.1), r.2) := by
  suffices H : ∀ z, z = (some (.int r.1), r.2) → wk_H wk_shC 0 mc_X0_draw 0 [.ref 8] [] s z from H _ rfl
  intro z hk
  dsimp only [f_X0_draw] at h
  refine wk_Hs 8 8 ⟨rfl, rfl⟩ (ls' := [.ref 8]) (st' := [.int (65536 : Int32), .int (((25173 : Int32) * (s.1 8 6)) + (13849 : Int32)), .ref 8]) (σ' := s) rfl ?_
  refine wk_Hrem 9 rfl rfl (by decide) ?_
  refine wk_Hs 4 13 ⟨rfl, rfl⟩ (ls' := [.ref 8]) (st' := [.int (10 : Int32), .int ((wk_si s 8 6 (wk_rem (((25173 : Int32) * (s.1 8 6)) + (13849 : Int32)) (65536 : Int32))).1 8 6)]) (σ' := (wk_si s 8 6 (wk_rem (((25173 : Int32) * (s.1 8 6)) + (13849 : Int32)) (65536 : Int32)))) rfl ?_
  refine wk_Hrem 14 rfl rfl (by decide) ?_
  cases h
  exact wk_eqz hk (wk_Hret rfl)
set_option maxHeartbeats 4000000 in
set_option maxRecDepth 20000 in
theorem t_X0_draw_18 {s : wk_St} {r : Int32 × wk_St} (h : f_X0_draw 18 s = r) : wk_T wk_shC 0 164 [.ref 18] s (some (.int r.1), r.2) := by
  suffices H : ∀ z, z = (some (.int r.1), r.2) → wk_H wk_shC 0 mc_X0_draw 0 [.ref 18] [] s z from H _ rfl
  intro z hk
  dsimp only [f_X0_draw] at h
  refine wk_Hs 8 8 ⟨rfl, rfl⟩ (ls' := [.ref 18]) (st' := [.int (65536 : Int32), .int (((25173 : Int32) * (s.1 18 6)) + (13849 : Int32)), .ref 18]) (σ' := s) rfl ?_
  refine wk_Hrem 9 rfl rfl (by decide) ?_
  refine wk_Hs 4 13 ⟨rfl, rfl⟩ (ls' := [.ref 18]) (st' := [.int (10 : Int32), .int ((wk_si s 18 6 (wk_rem (((25173 : Int32) * (s.1 18 6)) + (13849 : Int32)) (65536 : Int32))).1 18 6)]) (σ' := (wk_si s 18 6 (wk_rem (((25173 : Int32) * (s.1 18 6)) + (13849 : Int32)) (65536 : Int32)))) rfl ?_
  refine wk_Hrem 14 rfl rfl (by decide) ?_
  cases h
  exact wk_eqz hk (wk_Hret rfl)
set_option maxHeartbeats 4000000 in
set_option maxRecDepth 20000 in
theorem tj_j_J6_numberOfTrailingZeros_0f7a4_40 {x0 : Int32} {x1 : Int32} {s : wk_St} {z : wk_R} {o : Int32} (h : j_J6_numberOfTrailingZeros_0f7a4_40 x0 x1 = o) (hk : z = (some (.int o), s)) : wk_H wk_shC 0 mc_J6_numberOfTrailingZeros_0f7a4 40 [.int x0, .int x1] [] s z := by
  dsimp only [j_J6_numberOfTrailingZeros_0f7a4_40] at h
  refine wk_Hs 2 42 ⟨rfl, rfl⟩ (ls' := [.int x0, .int x1]) (st' := [.int (4 : Int32), .int x0]) (σ' := s) rfl ?_
  rcases wk_ife h with ⟨hc, h⟩ | ⟨hc, h⟩
  · refine wk_Hbt 48 rfl (wk_cle.2 hc) ?_
    refine wk_Hs 5 53 ⟨rfl, rfl⟩ (ls' := [.int x0, .int x1]) (st' := [.int (x1 + (wk_ushr x0 (1 : Int32)))]) (σ' := s) rfl ?_
    cases h
    exact wk_eqz hk (wk_Hret rfl)
  · refine wk_Hbf 48 43 rfl rfl (wk_nf wk_cle hc) ?_
    refine wk_Hs 4 47 ⟨rfl, rfl⟩ (ls' := [.int x0, .int (x1 + (2 : Int32))]) (st' := [.int (wk_ushr x0 (2 : Int32))]) (σ' := s) rfl ?_
    replace h := wk_letE h
    refine wk_Hs 6 53 ⟨rfl, rfl⟩ (ls' := [.int (wk_ushr x0 (2 : Int32)), .int (x1 + (2 : Int32))]) (st' := [.int ((x1 + (2 : Int32)) + (wk_ushr (wk_ushr x0 (2 : Int32)) (1 : Int32)))]) (σ' := s) rfl ?_
    cases h
    exact wk_eqz hk (wk_Hret rfl)
set_option maxHeartbeats 4000000 in
set_option maxRecDepth 20000 in
theorem tj_j_J6_numberOfTrailingZeros_0f7a4_24 {x0 : Int32} {x1 : Int32} {s : wk_St} {z : wk_R} {o : Int32} (h : j_J6_numberOfTrailingZeros_0f7a4_24 x0 x1 = o) (hk : z = (some (.int o), s)) : wk_H wk_shC 0 mc_J6_numberOfTrailingZeros_0f7a4 24 [.int x0, .int x1] [] s z := by
  dsimp only [j_J6_numberOfTrailingZeros_0f7a4_24] at h
  refine wk_Hs 2 26 ⟨rfl, rfl⟩ (ls' := [.int x0, .int x1]) (st' := [.int (256 : Int32), .int x0]) (σ' := s) rfl ?_
  rcases wk_ife h with ⟨hc, h⟩ | ⟨hc, h⟩
  · refine wk_Hbt 32 rfl (wk_cle.2 hc) ?_
    refine wk_Hs 2 34 ⟨rfl, rfl⟩ (ls' := [.int x0, .int x1]) (st' := [.int (16 : Int32), .int x0]) (σ' := s) rfl ?_
    rcases wk_ife h with ⟨hc, h⟩ | ⟨hc, h⟩
    · refine wk_Hbt 40 rfl (wk_cle.2 hc) ?_
      exact tj_j_J6_numberOfTrailingZeros_0f7a4_40 h hk
    · refine wk_Hbf 40 35 rfl rfl (wk_nf wk_cle hc) ?_
      refine wk_Hs 4 39 ⟨rfl, rfl⟩ (ls' := [.int x0, .int (x1 + (4 : Int32))]) (st' := [.int (wk_ushr x0 (4 : Int32))]) (σ' := s) rfl ?_
      replace h := wk_letE h
      refine wk_Hs 1 40 ⟨rfl, rfl⟩ (ls' := [.int (wk_ushr x0 (4 : Int32)), .int (x1 + (4 : Int32))]) (st' := []) (σ' := s) rfl ?_
      exact tj_j_J6_numberOfTrailingZeros_0f7a4_40 h hk
  · refine wk_Hbf 32 27 rfl rfl (wk_nf wk_cle hc) ?_
    refine wk_Hs 4 31 ⟨rfl, rfl⟩ (ls' := [.int x0, .int (x1 + (8 : Int32))]) (st' := [.int (wk_ushr x0 (8 : Int32))]) (σ' := s) rfl ?_
    replace h := wk_letE h
    refine wk_Hs 3 34 ⟨rfl, rfl⟩ (ls' := [.int (wk_ushr x0 (8 : Int32)), .int (x1 + (8 : Int32))]) (st' := [.int (16 : Int32), .int (wk_ushr x0 (8 : Int32))]) (σ' := s) rfl ?_
    rcases wk_ife h with ⟨hc, h⟩ | ⟨hc, h⟩
    · refine wk_Hbt 40 rfl (wk_cle.2 hc) ?_
      exact tj_j_J6_numberOfTrailingZeros_0f7a4_40 h hk
    · refine wk_Hbf 40 35 rfl rfl (wk_nf wk_cle hc) ?_
      refine wk_Hs 4 39 ⟨rfl, rfl⟩ (ls' := [.int (wk_ushr x0 (8 : Int32)), .int ((x1 + (8 : Int32)) + (4 : Int32))]) (st' := [.int (wk_ushr (wk_ushr x0 (8 : Int32)) (4 : Int32))]) (σ' := s) rfl ?_
      replace h := wk_letE h
      refine wk_Hs 1 40 ⟨rfl, rfl⟩ (ls' := [.int (wk_ushr (wk_ushr x0 (8 : Int32)) (4 : Int32)), .int ((x1 + (8 : Int32)) + (4 : Int32))]) (st' := []) (σ' := s) rfl ?_
      exact tj_j_J6_numberOfTrailingZeros_0f7a4_40 h hk
set_option maxHeartbeats 4000000 in
set_option maxRecDepth 20000 in
theorem t_J6_numberOfTrailingZeros_0f7a4 {x0 : Int32} {s : wk_St} {r : Int32} (h : f_J6_numberOfTrailingZeros_0f7a4 x0 = r) : wk_T wk_shC 0 256 [.int x0] s (some (.int r), s) := by
  suffices H : ∀ z, z = (some (.int r), s) → wk_H wk_shC 0 mc_J6_numberOfTrailingZeros_0f7a4 0 [.int x0, wk_U] [] s z from H _ rfl
  intro z hk
  dsimp only [f_J6_numberOfTrailingZeros_0f7a4] at h
  refine wk_Hs 7 7 ⟨rfl, rfl⟩ (ls' := [.int x0, wk_U]) (st' := [.int ((x0 ^^^ (-1 : Int32)) &&& (x0 - (1 : Int32)))]) (σ' := s) rfl ?_
  replace h := wk_letE h
  refine wk_Hs 2 9 ⟨rfl, rfl⟩ (ls' := [.int ((x0 ^^^ (-1 : Int32)) &&& (x0 - (1 : Int32))), wk_U]) (st' := [.int ((x0 ^^^ (-1 : Int32)) &&& (x0 - (1 : Int32)))]) (σ' := s) rfl ?_
  rcases wk_ife h with ⟨hc, h⟩ | ⟨hc, h⟩
  · refine wk_H0t 14 rfl (wk_cgt.2 hc) ?_
    refine wk_Hs 4 18 ⟨rfl, rfl⟩ (ls' := [.int ((x0 ^^^ (-1 : Int32)) &&& (x0 - (1 : Int32))), .int (1 : Int32)]) (st' := [.int (65536 : Int32), .int ((x0 ^^^ (-1 : Int32)) &&& (x0 - (1 : Int32)))]) (σ' := s) rfl ?_
    rcases wk_ife h with ⟨hc, h⟩ | ⟨hc, h⟩
    · refine wk_Hbt 24 rfl (wk_cle.2 hc) ?_
      exact tj_j_J6_numberOfTrailingZeros_0f7a4_24 h hk
    · refine wk_Hbf 24 19 rfl rfl (wk_nf wk_cle hc) ?_
      refine wk_Hs 4 23 ⟨rfl, rfl⟩ (ls' := [.int ((x0 ^^^ (-1 : Int32)) &&& (x0 - (1 : Int32))), .int (17 : Int32)]) (st' := [.int (wk_ushr ((x0 ^^^ (-1 : Int32)) &&& (x0 - (1 : Int32))) (16 : Int32))]) (σ' := s) rfl ?_
      replace h := wk_letE h
      refine wk_Hs 1 24 ⟨rfl, rfl⟩ (ls' := [.int (wk_ushr ((x0 ^^^ (-1 : Int32)) &&& (x0 - (1 : Int32))) (16 : Int32)), .int (17 : Int32)]) (st' := []) (σ' := s) rfl ?_
      exact tj_j_J6_numberOfTrailingZeros_0f7a4_24 h hk
  · refine wk_H0f 14 10 rfl rfl (wk_nf wk_cgt hc) ?_
    refine wk_Hs 3 13 ⟨rfl, rfl⟩ (ls' := [.int ((x0 ^^^ (-1 : Int32)) &&& (x0 - (1 : Int32))), wk_U]) (st' := [.int (((x0 ^^^ (-1 : Int32)) &&& (x0 - (1 : Int32))) &&& (32 : Int32))]) (σ' := s) rfl ?_
    cases h
    exact wk_eqz hk (wk_Hret rfl)
set_option maxHeartbeats 4000000 in
set_option maxRecDepth 20000 in
theorem t_X10_tempt_8 {x1 : Int32} {s : wk_St} {r : wk_St} (h : f_X10_tempt 8 x1 s = some r) : wk_T wk_shC 3 253 [.ref 23, .int x1, .ref 3, .ref 37, .ref 8] s (none, r) := by
  suffices H : ∀ z, z = (none, r) → wk_H wk_shC 3 mc_X10_tempt 0 [.ref 23, .int x1, .ref 3, .ref 37, .ref 8, wk_U, wk_U, wk_U] [] s z from H _ rfl
  intro z hk
  dsimp only [f_X10_tempt] at h
  refine wk_Hs 2 2 ⟨rfl, rfl⟩ (ls' := [.ref 23, .int x1, .ref 3, .ref 37, .ref 8, wk_U, wk_U, wk_U]) (st' := [.int x1, .ref 8]) (σ' := s) rfl ?_
  obtain ⟨v1, hv1, h⟩ := wk_bindE h
  refine wk_Hcall (i2 := 3) (args := [.ref 8, .int x1]) (rest := []) (r := some (.int v1)) (σ1 := s) rfl rfl ⟨rfl, rfl, rfl, rfl, rfl⟩ rfl ((t_X0_clothesOf_8 hv1).up (by decide)) ?_
  refine wk_Hs 6 9 ⟨rfl, rfl⟩ (ls' := [.ref 23, .int x1, .ref 3, .ref 37, .ref 8, .int v1, wk_U, wk_U]) (st' := [.ref 8, .ref 3, .int v1, .int x1, .ref 23]) (σ' := s) rfl ?_
  obtain ⟨v2, hv2, h⟩ := wk_bindE h
  refine wk_Hcall (i2 := 10) (args := [.ref 23, .int x1, .int v1, .ref 3, .ref 8]) (rest := []) (r := none) (σ1 := v2) rfl rfl ⟨rfl, rfl, rfl, rfl, rfl⟩ rfl ((t_X10_look_8 hv2).up (by decide)) ?_
  refine wk_Hs 5 15 ⟨rfl, rfl⟩ (ls' := [.ref 23, .int x1, .ref 3, .ref 37, .ref 8, .int v1, wk_U, wk_U]) (st' := [.int (10 : Int32), .ref 24, .int (104 : Int32), .ref 37]) (σ' := v2) rfl ?_
  obtain ⟨v3, hv3, h⟩ := wk_bindE h
  refine wk_Hcall (i2 := 16) (args := [.ref 37, .int (104 : Int32), .ref 24, .int (10 : Int32)]) (rest := []) (r := some (.int v3.1)) (σ1 := v3.2) rfl rfl ⟨rfl, rfl, rfl, rfl, rfl⟩ rfl ((t_X4_valueOf hv3).up (by decide)) ?_
  refine wk_Hs 3 19 ⟨rfl, rfl⟩ (ls' := [.ref 23, .int x1, .ref 3, .ref 37, .ref 8, .int v1, .int v3.1, wk_U]) (st' := [.int v1, .ref 3]) (σ' := v3.2) rfl ?_
  obtain ⟨v4, hv4, h⟩ := wk_bindE h
  refine wk_Hcall (i2 := 20) (args := [.ref 3, .int v1]) (rest := []) (r := some (.int v4)) (σ1 := v3.2) rfl rfl ⟨rfl, rfl, rfl, rfl, rfl⟩ rfl ((t_X2_nextTo hv4).up (by decide)) ?_
  refine wk_Hs 2 22 ⟨rfl, rfl⟩ (ls' := [.ref 23, .int x1, .ref 3, .ref 37, .ref 8, .int v1, .int v3.1, .int v4]) (st' := [.ref 8]) (σ' := v3.2) rfl ?_
  replace h := wk_letE h
  refine wk_Hcall (i2 := 23) (args := [.ref 8]) (rest := []) (r := some (.int ((f_X0_draw 8 v3.2).1))) (σ1 := (f_X0_draw 8 v3.2).2) rfl rfl ⟨rfl, rfl, rfl, rfl, rfl⟩ rfl ((t_X0_draw_8 rfl).up (by decide)) ?_
  refine wk_Hs 1 24 ⟨rfl, rfl⟩ (ls' := [.ref 23, .int x1, .ref 3, .ref 37, .ref 8, .int v1, .int v3.1, .int v4]) (st' := [.int v3.1, .int ((f_X0_draw 8 v3.2).1)]) (σ' := (f_X0_draw 8 v3.2).2) rfl ?_
  rcases wk_ife h with ⟨hc, h⟩ | ⟨hc, h⟩
  · refine wk_Hbt 38 rfl (wk_cge.2 hc) ?_
    cases h
    exact wk_eqz hk (wk_Hretv rfl)
  · refine wk_Hbf 38 25 rfl rfl (wk_nf wk_cge hc) ?_
    refine wk_Hs 1 26 ⟨rfl, rfl⟩ (ls' := [.ref 23, .int x1, .ref 3, .ref 37, .ref 8, .int v1, .int v3.1, .int v4]) (st' := [.int v4]) (σ' := (f_X0_draw 8 v3.2).2) rfl ?_
    rcases wk_ife h with ⟨hc, h⟩ | ⟨hc, h⟩
    · refine wk_H0t 38 rfl (wk_ceq.2 hc) ?_
      cases h
      exact wk_eqz hk (wk_Hretv rfl)
    · refine wk_H0f 38 27 rfl rfl (wk_nf wk_ceq hc) ?_
      refine wk_Hs 3 30 ⟨rfl, rfl⟩ (ls' := [.ref 23, .int x1, .ref 3, .ref 37, .ref 8, .int v1, .int v3.1, .int v4]) (st' := [.int v4, .int x1, .ref 8]) (σ' := (f_X0_draw 8 v3.2).2) rfl ?_
      refine wk_Hcall (i2 := 31) (args := [.int v4]) (rest := [.int x1, .ref 8]) (r := some (.int (f_J6_numberOfTrailingZeros_0f7a4 v4))) (σ1 := (f_X0_draw 8 v3.2).2) rfl rfl ⟨rfl, rfl, rfl, rfl, rfl⟩ rfl ((t_J6_numberOfTrailingZeros_0f7a4 rfl).up (by decide)) ?_
      obtain ⟨v7, hv7, h⟩ := wk_bindE h
      refine wk_Hcall (i2 := 32) (args := [.ref 8, .int x1, .int (f_J6_numberOfTrailingZeros_0f7a4 v4)]) (rest := []) (r := none) (σ1 := v7) rfl rfl ⟨rfl, rfl, rfl, rfl, rfl⟩ rfl ((t_X0_layClothes_8 hv7).up (by decide)) ?_
      refine wk_Hs 6 38 ⟨rfl, rfl⟩ (ls' := [.ref 23, .int x1, .ref 3, .ref 37, .ref 8, .int v1, .int v3.1, .int v4]) (st' := []) (σ' := (wk_si v7 23 4 ((v7.1 23 4) + (1 : Int32)))) rfl ?_
      cases h
      exact wk_eqz hk (wk_Hretv rfl)
set_option maxHeartbeats 4000000 in
set_option maxRecDepth 20000 in
theorem t_X10_tempt_18 {x1 : Int32} {s : wk_St} {r : wk_St} (h : f_X10_tempt 18 x1 s = some r) : wk_T wk_shC 3 253 [.ref 23, .int x1, .ref 3, .ref 37, .ref 18] s (none, r) := by
  suffices H : ∀ z, z = (none, r) → wk_H wk_shC 3 mc_X10_tempt 0 [.ref 23, .int x1, .ref 3, .ref 37, .ref 18, wk_U, wk_U, wk_U] [] s z from H _ rfl
  intro z hk
  dsimp only [f_X10_tempt] at h
  refine wk_Hs 2 2 ⟨rfl, rfl⟩ (ls' := [.ref 23, .int x1, .ref 3, .ref 37, .ref 18, wk_U, wk_U, wk_U]) (st' := [.int x1, .ref 18]) (σ' := s) rfl ?_
  obtain ⟨v1, hv1, h⟩ := wk_bindE h
  refine wk_Hcall (i2 := 3) (args := [.ref 18, .int x1]) (rest := []) (r := some (.int v1)) (σ1 := s) rfl rfl ⟨rfl, rfl, rfl, rfl, rfl⟩ rfl ((t_X0_clothesOf_18 hv1).up (by decide)) ?_
  refine wk_Hs 6 9 ⟨rfl, rfl⟩ (ls' := [.ref 23, .int x1, .ref 3, .ref 37, .ref 18, .int v1, wk_U, wk_U]) (st' := [.ref 18, .ref 3, .int v1, .int x1, .ref 23]) (σ' := s) rfl ?_
  obtain ⟨v2, hv2, h⟩ := wk_bindE h
  refine wk_Hcall (i2 := 10) (args := [.ref 23, .int x1, .int v1, .ref 3, .ref 18]) (rest := []) (r := none) (σ1 := v2) rfl rfl ⟨rfl, rfl, rfl, rfl, rfl⟩ rfl ((t_X10_look_18 hv2).up (by decide)) ?_
  refine wk_Hs 5 15 ⟨rfl, rfl⟩ (ls' := [.ref 23, .int x1, .ref 3, .ref 37, .ref 18, .int v1, wk_U, wk_U]) (st' := [.int (10 : Int32), .ref 24, .int (104 : Int32), .ref 37]) (σ' := v2) rfl ?_
  obtain ⟨v3, hv3, h⟩ := wk_bindE h
  refine wk_Hcall (i2 := 16) (args := [.ref 37, .int (104 : Int32), .ref 24, .int (10 : Int32)]) (rest := []) (r := some (.int v3.1)) (σ1 := v3.2) rfl rfl ⟨rfl, rfl, rfl, rfl, rfl⟩ rfl ((t_X4_valueOf hv3).up (by decide)) ?_
  refine wk_Hs 3 19 ⟨rfl, rfl⟩ (ls' := [.ref 23, .int x1, .ref 3, .ref 37, .ref 18, .int v1, .int v3.1, wk_U]) (st' := [.int v1, .ref 3]) (σ' := v3.2) rfl ?_
  obtain ⟨v4, hv4, h⟩ := wk_bindE h
  refine wk_Hcall (i2 := 20) (args := [.ref 3, .int v1]) (rest := []) (r := some (.int v4)) (σ1 := v3.2) rfl rfl ⟨rfl, rfl, rfl, rfl, rfl⟩ rfl ((t_X2_nextTo hv4).up (by decide)) ?_
  refine wk_Hs 2 22 ⟨rfl, rfl⟩ (ls' := [.ref 23, .int x1, .ref 3, .ref 37, .ref 18, .int v1, .int v3.1, .int v4]) (st' := [.ref 18]) (σ' := v3.2) rfl ?_
  replace h := wk_letE h
  refine wk_Hcall (i2 := 23) (args := [.ref 18]) (rest := []) (r := some (.int ((f_X0_draw 18 v3.2).1))) (σ1 := (f_X0_draw 18 v3.2).2) rfl rfl ⟨rfl, rfl, rfl, rfl, rfl⟩ rfl ((t_X0_draw_18 rfl).up (by decide)) ?_
  refine wk_Hs 1 24 ⟨rfl, rfl⟩ (ls' := [.ref 23, .int x1, .ref 3, .ref 37, .ref 18, .int v1, .int v3.1, .int v4]) (st' := [.int v3.1, .int ((f_X0_draw 18 v3.2).1)]) (σ' := (f_X0_draw 18 v3.2).2) rfl ?_
  rcases wk_ife h with ⟨hc, h⟩ | ⟨hc, h⟩
  · refine wk_Hbt 38 rfl (wk_cge.2 hc) ?_
    cases h
    exact wk_eqz hk (wk_Hretv rfl)
  · refine wk_Hbf 38 25 rfl rfl (wk_nf wk_cge hc) ?_
    refine wk_Hs 1 26 ⟨rfl, rfl⟩ (ls' := [.ref 23, .int x1, .ref 3, .ref 37, .ref 18, .int v1, .int v3.1, .int v4]) (st' := [.int v4]) (σ' := (f_X0_draw 18 v3.2).2) rfl ?_
    rcases wk_ife h with ⟨hc, h⟩ | ⟨hc, h⟩
    · refine wk_H0t 38 rfl (wk_ceq.2 hc) ?_
      cases h
      exact wk_eqz hk (wk_Hretv rfl)
    · refine wk_H0f 38 27 rfl rfl (wk_nf wk_ceq hc) ?_
      refine wk_Hs 3 30 ⟨rfl, rfl⟩ (ls' := [.ref 23, .int x1, .ref 3, .ref 37, .ref 18, .int v1, .int v3.1, .int v4]) (st' := [.int v4, .int x1, .ref 18]) (σ' := (f_X0_draw 18 v3.2).2) rfl ?_
      refine wk_Hcall (i2 := 31) (args := [.int v4]) (rest := [.int x1, .ref 18]) (r := some (.int (f_J6_numberOfTrailingZeros_0f7a4 v4))) (σ1 := (f_X0_draw 18 v3.2).2) rfl rfl ⟨rfl, rfl, rfl, rfl, rfl⟩ rfl ((t_J6_numberOfTrailingZeros_0f7a4 rfl).up (by decide)) ?_
      obtain ⟨v7, hv7, h⟩ := wk_bindE h
      refine wk_Hcall (i2 := 32) (args := [.ref 18, .int x1, .int (f_J6_numberOfTrailingZeros_0f7a4 v4)]) (rest := []) (r := none) (σ1 := v7) rfl rfl ⟨rfl, rfl, rfl, rfl, rfl⟩ rfl ((t_X0_layClothes_18 hv7).up (by decide)) ?_
      refine wk_Hs 6 38 ⟨rfl, rfl⟩ (ls' := [.ref 23, .int x1, .ref 3, .ref 37, .ref 18, .int v1, .int v3.1, .int v4]) (st' := []) (σ' := (wk_si v7 23 4 ((v7.1 23 4) + (1 : Int32)))) rfl ?_
      cases h
      exact wk_eqz hk (wk_Hretv rfl)
set_option maxHeartbeats 4000000 in
set_option maxRecDepth 20000 in
theorem tj_j_X10_goKnight_75_8 {x1 : Int32} {x5 : Int32} {x6 : Int32} {s : wk_St} {z : wk_R} {o : wk_St} (h : j_X10_goKnight_75 8 x1 x5 x6 s = some o) (hk : z = (none, o)) : wk_H wk_shC 5 mc_X10_goKnight 75 [.ref 23, .int x1, .ref 3, .ref 37, .ref 8, .int x5, .int x6] [] s z := by
  dsimp only [j_X10_goKnight_75] at h
  refine wk_Hs 1 76 ⟨rfl, rfl⟩ (ls' := [.ref 23, .int x1, .ref 3, .ref 37, .ref 8, .int x5, .int x6]) (st' := [.int x5]) (σ' := s) rfl ?_
  rcases wk_ife h with ⟨hc, h⟩ | ⟨hc, h⟩
  · refine wk_H0t 92 rfl (wk_cne.2 hc) ?_
    refine wk_Hs 5 97 ⟨rfl, rfl⟩ (ls' := [.ref 23, .int x1, .ref 3, .ref 37, .ref 8, .int x5, .int x6]) (st' := [.ref 8, .ref 37, .ref 3, .int x1, .ref 23]) (σ' := s) rfl ?_
    obtain ⟨v9, hv9, h⟩ := wk_bindE h
    refine wk_Hcall (i2 := 98) (args := [.ref 23, .int x1, .ref 3, .ref 37, .ref 8]) (rest := []) (r := none) (σ1 := v9) rfl rfl ⟨rfl, rfl, rfl, rfl, rfl⟩ rfl ((t_X10_tempt_8 hv9).up (by decide)) ?_
    cases h
    exact wk_eqz hk (wk_Hretv rfl)
  · refine wk_H0f 92 77 rfl rfl (wk_nf wk_cne hc) ?_
    refine wk_Hs 3 80 ⟨rfl, rfl⟩ (ls' := [.ref 23, .int x1, .ref 3, .ref 37, .ref 8, .int x5, .int x6]) (st' := [.int x1, .ref 8, .int x6]) (σ' := s) rfl ?_
    obtain ⟨v10, hv10, h⟩ := wk_bindE h
    refine wk_Hcall (i2 := 81) (args := [.ref 8, .int x1]) (rest := [.int x6]) (r := some (.int v10)) (σ1 := s) rfl rfl ⟨rfl, rfl, rfl, rfl, rfl⟩ rfl ((t_X0_clothesOf_8 hv10).up (by decide)) ?_
    rcases wk_ife h with ⟨hc, h⟩ | ⟨hc, h⟩
    · refine wk_Hbt 92 rfl (wk_cne.2 hc) ?_
      refine wk_Hs 5 97 ⟨rfl, rfl⟩ (ls' := [.ref 23, .int x1, .ref 3, .ref 37, .ref 8, .int x5, .int x6]) (st' := [.ref 8, .ref 37, .ref 3, .int x1, .ref 23]) (σ' := s) rfl ?_
      obtain ⟨v11, hv11, h⟩ := wk_bindE h
      refine wk_Hcall (i2 := 98) (args := [.ref 23, .int x1, .ref 3, .ref 37, .ref 8]) (rest := []) (r := none) (σ1 := v11) rfl rfl ⟨rfl, rfl, rfl, rfl, rfl⟩ rfl ((t_X10_tempt_8 hv11).up (by decide)) ?_
      cases h
      exact wk_eqz hk (wk_Hretv rfl)
    · refine wk_Hbf 92 82 rfl rfl (wk_nf wk_cne hc) ?_
      refine wk_Hs 2 84 ⟨rfl, rfl⟩ (ls' := [.ref 23, .int x1, .ref 3, .ref 37, .ref 8, .int x5, .int x6]) (st' := [.int x1, .ref 8]) (σ' := s) rfl ?_
      obtain ⟨v12, hv12, h⟩ := wk_bindE h
      refine wk_Hcall (i2 := 85) (args := [.ref 8, .int x1]) (rest := []) (r := none) (σ1 := v12) rfl rfl ⟨rfl, rfl, rfl, rfl, rfl⟩ rfl ((t_X0_turnMan_8 hv12).up (by decide)) ?_
      refine wk_Hs 6 91 ⟨rfl, rfl⟩ (ls' := [.ref 23, .int x1, .ref 3, .ref 37, .ref 8, .int x5, .int x6]) (st' := []) (σ' := (wk_si v12 23 3 ((v12.1 23 3) + (1 : Int32)))) rfl ?_
      cases h
      exact wk_eqz hk (wk_Hretv rfl)
set_option maxHeartbeats 4000000 in
set_option maxRecDepth 20000 in
theorem tj_j_X10_goKnight_67_8 {x1 : Int32} {s_0 : Int32} {w5 : Value} {w6 : Value} {s : wk_St} {z : wk_R} {o : wk_St} (h : j_X10_goKnight_67 8 x1 s_0 s = some o) (hk : z = (none, o)) : wk_H wk_shC 5 mc_X10_goKnight 67 [.ref 23, .int x1, .ref 3, .ref 37, .ref 8, w5, w6] [.int s_0, .ref 23] s z := by
  dsimp only [j_X10_goKnight_67] at h
  refine wk_Hs 7 74 ⟨rfl, rfl⟩ (ls' := [.ref 23, .int x1, .ref 3, .ref 37, .ref 8, w5, w6]) (st' := []) (σ' := (wk_si (wk_si s 23 5 s_0) 23 1 (((wk_si s 23 5 s_0).1 23 1) + (1 : Int32)))) rfl ?_
  refine wk_Hgoto (t := 92) rfl ?_
  refine wk_Hs 5 97 ⟨rfl, rfl⟩ (ls' := [.ref 23, .int x1, .ref 3, .ref 37, .ref 8, w5, w6]) (st' := [.ref 8, .ref 37, .ref 3, .int x1, .ref 23]) (σ' := (wk_si (wk_si s 23 5 s_0) 23 1 (((wk_si s 23 5 s_0).1 23 1) + (1 : Int32)))) rfl ?_
  obtain ⟨v15, hv15, h⟩ := wk_bindE h
  refine wk_Hcall (i2 := 98) (args := [.ref 23, .int x1, .ref 3, .ref 37, .ref 8]) (rest := []) (r := none) (σ1 := v15) rfl rfl ⟨rfl, rfl, rfl, rfl, rfl⟩ rfl ((t_X10_tempt_8 hv15).up (by decide)) ?_
  cases h
  exact wk_eqz hk (wk_Hretv rfl)
set_option maxHeartbeats 4000000 in
set_option maxRecDepth 20000 in
theorem tj_j_X10_goKnight_24_8 {x1 : Int32} {x5 : Int32} {w6 : Value} {s : wk_St} {z : wk_R} {o : wk_St} (h : j_X10_goKnight_24 8 x1 x5 s = some o) (hk : z = (none, o)) : wk_H wk_shC 5 mc_X10_goKnight 24 [.ref 23, .int x1, .ref 3, .ref 37, .ref 8, .int x5, w6] [] s z := by
  dsimp only [j_X10_goKnight_24] at h
  refine wk_Hs 2 26 ⟨rfl, rfl⟩ (ls' := [.ref 23, .int x1, .ref 3, .ref 37, .ref 8, .int x5, w6]) (st' := [.int x1, .ref 8]) (σ' := s) rfl ?_
  obtain ⟨v4, hv4, h⟩ := wk_bindE h
  refine wk_Hcall (i2 := 27) (args := [.ref 8, .int x1]) (rest := []) (r := some (.int v4)) (σ1 := s) rfl rfl ⟨rfl, rfl, rfl, rfl, rfl⟩ rfl ((t_X0_kindOf_8 hv4).up (by decide)) ?_
  refine wk_Hs 1 28 ⟨rfl, rfl⟩ (ls' := [.ref 23, .int x1, .ref 3, .ref 37, .ref 8, .int x5, w6]) (st' := [.int (1 : Int32), .int v4]) (σ' := s) rfl ?_
  rcases wk_ife h with ⟨hc, h⟩ | ⟨hc, h⟩
  · refine wk_Hbt 30 rfl (wk_ceq.2 hc) ?_
    refine wk_Hs 7 37 ⟨rfl, rfl⟩ (ls' := [.ref 23, .int x1, .ref 3, .ref 37, .ref 8, .int x5, w6]) (st' := [.ref 8, .ref 37, .ref 3, .int x1, .ref 23, .int x1, .ref 8]) (σ' := s) rfl ?_
    obtain ⟨v5, hv5, h⟩ := wk_bindE h
    refine wk_Hcall (i2 := 38) (args := [.ref 23, .int x1, .ref 3, .ref 37, .ref 8]) (rest := [.int x1, .ref 8]) (r := some (.int v5.1)) (σ1 := v5.2) rfl rfl ⟨rfl, rfl, rfl, rfl, rfl⟩ rfl ((t_X10_goalOf_8 hv5).up (by decide)) ?_
    obtain ⟨v6, hv6, h⟩ := wk_bindE h
    refine wk_Hcall (i2 := 39) (args := [.ref 8, .int x1, .int v5.1]) (rest := []) (r := none) (σ1 := v6) rfl rfl ⟨rfl, rfl, rfl, rfl, rfl⟩ rfl ((t_X0_moveTo_8 hv6).up (by decide)) ?_
    refine wk_Hs 2 41 ⟨rfl, rfl⟩ (ls' := [.ref 23, .int x1, .ref 3, .ref 37, .ref 8, .int x5, w6]) (st' := [.int x1, .ref 8]) (σ' := v6) rfl ?_
    obtain ⟨v7, hv7, h⟩ := wk_bindE h
    refine wk_Hcall (i2 := 42) (args := [.ref 8, .int x1]) (rest := []) (r := some (.int v7)) (σ1 := v6) rfl rfl ⟨rfl, rfl, rfl, rfl, rfl⟩ rfl ((t_X0_placeOf_8 hv7).up (by decide)) ?_
    refine wk_Hs 5 47 ⟨rfl, rfl⟩ (ls' := [.ref 23, .int x1, .ref 3, .ref 37, .ref 8, .int x5, .int v7]) (st' := [.int (v6.1 8 5), .int v7, .ref 3]) (σ' := v6) rfl ?_
    obtain ⟨v8, hv8, h⟩ := wk_bindE h
    refine wk_Hcall (i2 := 48) (args := [.ref 3, .int v7, .int (v6.1 8 5)]) (rest := []) (r := some (.int (b2i v8))) (σ1 := v6) rfl rfl ⟨rfl, rfl, rfl, rfl, rfl⟩ rfl ((t_X2_isHunted hv8).up (by decide)) ?_
    rcases wk_ife h with ⟨hc, h⟩ | ⟨hc, h⟩
    · refine wk_H0t 75 rfl (wk_zeq.2 hc) ?_
      exact tj_j_X10_goKnight_75_8 h hk
    · refine wk_H0f 75 49 rfl rfl (wk_nf wk_zeq hc) ?_
      refine wk_Hs 5 54 ⟨rfl, rfl⟩ (ls' := [.ref 23, .int x1, .ref 3, .ref 37, .ref 8, .int x5, .int v7]) (st' := [.ref 8, .ref 37, .ref 3, .int x1, .ref 23]) (σ' := v6) rfl ?_
      obtain ⟨v13, hv13, h⟩ := wk_bindE h
      refine wk_Hcall (i2 := 55) (args := [.ref 23, .int x1, .ref 3, .ref 37, .ref 8]) (rest := []) (r := some (.int (b2i v13.1))) (σ1 := v13.2) rfl rfl ⟨rfl, rfl, rfl, rfl, rfl⟩ rfl ((t_X10_isSpared_8 hv13).up (by decide)) ?_
      rcases wk_ife h with ⟨hc, h⟩ | ⟨hc, h⟩
      · refine wk_H0t 75 rfl (wk_zne.2 hc) ?_
        exact tj_j_X10_goKnight_75_8 h hk
      · refine wk_H0f 75 56 rfl rfl (wk_nf wk_zne hc) ?_
        refine wk_Hs 2 58 ⟨rfl, rfl⟩ (ls' := [.ref 23, .int x1, .ref 3, .ref 37, .ref 8, .int x5, .int v7]) (st' := [.int x1, .ref 8]) (σ' := v13.2) rfl ?_
        obtain ⟨v14, hv14, h⟩ := wk_bindE h
        refine wk_Hcall (i2 := 59) (args := [.ref 8, .int x1]) (rest := []) (r := none) (σ1 := v14) rfl rfl ⟨rfl, rfl, rfl, rfl, rfl⟩ rfl ((t_X0_die_8 hv14).up (by decide)) ?_
        refine wk_Hs 3 62 ⟨rfl, rfl⟩ (ls' := [.ref 23, .int x1, .ref 3, .ref 37, .ref 8, .int x5, .int v7]) (st' := [.int (v14.1 23 1), .ref 23]) (σ' := v14) rfl ?_
        rcases wk_ife h with ⟨hc, h⟩ | ⟨hc, h⟩
        · refine wk_H0t 65 rfl (wk_cne.2 hc) ?_
          refine wk_Hs 2 67 ⟨rfl, rfl⟩ (ls' := [.ref 23, .int x1, .ref 3, .ref 37, .ref 8, .int x5, .int v7]) (st' := [.int (v14.1 23 5), .ref 23]) (σ' := v14) rfl ?_
          exact tj_j_X10_goKnight_67_8 h hk
        · refine wk_H0f 65 63 rfl rfl (wk_nf wk_cne hc) ?_
          refine wk_Hs 1 64 ⟨rfl, rfl⟩ (ls' := [.ref 23, .int x1, .ref 3, .ref 37, .ref 8, .int x5, .int v7]) (st' := [.int x1, .ref 23]) (σ' := v14) rfl ?_
          refine wk_Hgoto (t := 67) rfl ?_
          exact tj_j_X10_goKnight_67_8 h hk
  · refine wk_Hbf 30 29 rfl rfl (wk_nf wk_ceq hc) ?_
    cases h
    exact wk_eqz hk (wk_Hretv rfl)
set_option maxHeartbeats 4000000 in
set_option maxRecDepth 20000 in
theorem t_X10_goKnight_8 {x1 : Int32} {s : wk_St} {r : wk_St} (h : f_X10_goKnight 8 x1 s = some r) : wk_T wk_shC 5 249 [.ref 23, .int x1, .ref 3, .ref 37, .ref 8] s (none, r) := by
  suffices H : ∀ z, z = (none, r) → wk_H wk_shC 5 mc_X10_goKnight 0 [.ref 23, .int x1, .ref 3, .ref 37, .ref 8, wk_U, wk_U] [] s z from H _ rfl
  intro z hk
  dsimp only [f_X10_goKnight] at h
  refine wk_Hs 2 2 ⟨rfl, rfl⟩ (ls' := [.ref 23, .int x1, .ref 3, .ref 37, .ref 8, wk_U, wk_U]) (st' := [.int x1, .ref 8]) (σ' := s) rfl ?_
  obtain ⟨v1, hv1, h⟩ := wk_bindE h
  refine wk_Hcall (i2 := 3) (args := [.ref 8, .int x1]) (rest := []) (r := some (.int v1)) (σ1 := s) rfl rfl ⟨rfl, rfl, rfl, rfl, rfl⟩ rfl ((t_X0_wolfDaysOf_8 hv1).up (by decide)) ?_
  refine wk_Hs 3 6 ⟨rfl, rfl⟩ (ls' := [.ref 23, .int x1, .ref 3, .ref 37, .ref 8, wk_U, wk_U]) (st' := [.int (s.1 8 5), .ref 3, .int v1]) (σ' := s) rfl ?_
  obtain ⟨v2, hv2, h⟩ := wk_bindE h
  refine wk_Hcall (i2 := 7) (args := [.ref 3, .int (s.1 8 5)]) (rest := [.int v1]) (r := some (.int v2)) (σ1 := s) rfl rfl ⟨rfl, rfl, rfl, rfl, rfl⟩ rfl ((t_X2_weekdayOf hv2).up (by decide)) ?_
  refine wk_Hcall (i2 := 8) (args := [.int v1, .int v2]) (rest := []) (r := some (.int (b2i (f_X11_hasBit v1 v2)))) (σ1 := s) rfl rfl ⟨rfl, rfl, rfl, rfl, rfl⟩ rfl ((t_X11_hasBit rfl).up (by decide)) ?_
  refine wk_Hs 2 10 ⟨rfl, rfl⟩ (ls' := [.ref 23, .int x1, .ref 3, .ref 37, .ref 8, .int (b2i (f_X11_hasBit v1 v2)), wk_U]) (st' := [.int (b2i (f_X11_hasBit v1 v2))]) (σ' := s) rfl ?_
  rcases wk_ife h with ⟨hc, h⟩ | ⟨hc, h⟩
  · refine wk_H0t 24 rfl (wk_zeq.2 hc) ?_
    exact tj_j_X10_goKnight_24_8 h hk
  · refine wk_H0f 24 11 rfl rfl (wk_nf wk_zeq hc) ?_
    refine wk_Hs 2 13 ⟨rfl, rfl⟩ (ls' := [.ref 23, .int x1, .ref 3, .ref 37, .ref 8, .int (b2i (f_X11_hasBit v1 v2)), wk_U]) (st' := [.int x1, .ref 8]) (σ' := s) rfl ?_
    obtain ⟨v16, hv16, h⟩ := wk_bindE h
    refine wk_Hcall (i2 := 14) (args := [.ref 8, .int x1]) (rest := []) (r := some (.int v16)) (σ1 := s) rfl rfl ⟨rfl, rfl, rfl, rfl, rfl⟩ rfl ((t_X0_kindOf_8 hv16).up (by decide)) ?_
    rcases wk_ife h with ⟨hc, h⟩ | ⟨hc, h⟩
    · refine wk_H0t 24 rfl (wk_cne.2 hc) ?_
      exact tj_j_X10_goKnight_24_8 h hk
    · refine wk_H0f 24 15 rfl rfl (wk_nf wk_cne hc) ?_
      refine wk_Hs 2 17 ⟨rfl, rfl⟩ (ls' := [.ref 23, .int x1, .ref 3, .ref 37, .ref 8, .int (b2i (f_X11_hasBit v1 v2)), wk_U]) (st' := [.int x1, .ref 8]) (σ' := s) rfl ?_
      obtain ⟨v17, hv17, h⟩ := wk_bindE h
      refine wk_Hcall (i2 := 18) (args := [.ref 8, .int x1]) (rest := []) (r := none) (σ1 := v17) rfl rfl ⟨rfl, rfl, rfl, rfl, rfl⟩ rfl ((t_X0_turnWolf_8 hv17).up (by decide)) ?_
      refine wk_Hs 6 24 ⟨rfl, rfl⟩ (ls' := [.ref 23, .int x1, .ref 3, .ref 37, .ref 8, .int (b2i (f_X11_hasBit v1 v2)), wk_U]) (st' := []) (σ' := (wk_si v17 23 2 ((v17.1 23 2) + (1 : Int32)))) rfl ?_
      exact tj_j_X10_goKnight_24_8 h hk
set_option maxHeartbeats 4000000 in
set_option maxRecDepth 20000 in
theorem tj_j_X10_goKnight_75_18 {x1 : Int32} {x5 : Int32} {x6 : Int32} {s : wk_St} {z : wk_R} {o : wk_St} (h : j_X10_goKnight_75 18 x1 x5 x6 s = some o) (hk : z = (none, o)) : wk_H wk_shC 5 mc_X10_goKnight 75 [.ref 23, .int x1, .ref 3, .ref 37, .ref 18, .int x5, .int x6] [] s z := by
  dsimp only [j_X10_goKnight_75] at h
  refine wk_Hs 1 76 ⟨rfl, rfl⟩ (ls' := [.ref 23, .int x1, .ref 3, .ref 37, .ref 18, .int x5, .int x6]) (st' := [.int x5]) (σ' := s) rfl ?_
  rcases wk_ife h with ⟨hc, h⟩ | ⟨hc, h⟩
  · refine wk_H0t 92 rfl (wk_cne.2 hc) ?_
    refine wk_Hs 5 97 ⟨rfl, rfl⟩ (ls' := [.ref 23, .int x1, .ref 3, .ref 37, .ref 18, .int x5, .int x6]) (st' := [.ref 18, .ref 37, .ref 3, .int x1, .ref 23]) (σ' := s) rfl ?_
    obtain ⟨v9, hv9, h⟩ := wk_bindE h
    refine wk_Hcall (i2 := 98) (args := [.ref 23, .int x1, .ref 3, .ref 37, .ref 18]) (rest := []) (r := none) (σ1 := v9) rfl rfl ⟨rfl, rfl, rfl, rfl, rfl⟩ rfl ((t_X10_tempt_18 hv9).up (by decide)) ?_
    cases h
    exact wk_eqz hk (wk_Hretv rfl)
  · refine wk_H0f 92 77 rfl rfl (wk_nf wk_cne hc) ?_
    refine wk_Hs 3 80 ⟨rfl, rfl⟩ (ls' := [.ref 23, .int x1, .ref 3, .ref 37, .ref 18, .int x5, .int x6]) (st' := [.int x1, .ref 18, .int x6]) (σ' := s) rfl ?_
    obtain ⟨v10, hv10, h⟩ := wk_bindE h
    refine wk_Hcall (i2 := 81) (args := [.ref 18, .int x1]) (rest := [.int x6]) (r := some (.int v10)) (σ1 := s) rfl rfl ⟨rfl, rfl, rfl, rfl, rfl⟩ rfl ((t_X0_clothesOf_18 hv10).up (by decide)) ?_
    rcases wk_ife h with ⟨hc, h⟩ | ⟨hc, h⟩
    · refine wk_Hbt 92 rfl (wk_cne.2 hc) ?_
      refine wk_Hs 5 97 ⟨rfl, rfl⟩ (ls' := [.ref 23, .int x1, .ref 3, .ref 37, .ref 18, .int x5, .int x6]) (st' := [.ref 18, .ref 37, .ref 3, .int x1, .ref 23]) (σ' := s) rfl ?_
      obtain ⟨v11, hv11, h⟩ := wk_bindE h
      refine wk_Hcall (i2 := 98) (args := [.ref 23, .int x1, .ref 3, .ref 37, .ref 18]) (rest := []) (r := none) (σ1 := v11) rfl rfl ⟨rfl, rfl, rfl, rfl, rfl⟩ rfl ((t_X10_tempt_18 hv11).up (by decide)) ?_
      cases h
      exact wk_eqz hk (wk_Hretv rfl)
    · refine wk_Hbf 92 82 rfl rfl (wk_nf wk_cne hc) ?_
      refine wk_Hs 2 84 ⟨rfl, rfl⟩ (ls' := [.ref 23, .int x1, .ref 3, .ref 37, .ref 18, .int x5, .int x6]) (st' := [.int x1, .ref 18]) (σ' := s) rfl ?_
      obtain ⟨v12, hv12, h⟩ := wk_bindE h
      refine wk_Hcall (i2 := 85) (args := [.ref 18, .int x1]) (rest := []) (r := none) (σ1 := v12) rfl rfl ⟨rfl, rfl, rfl, rfl, rfl⟩ rfl ((t_X0_turnMan_18 hv12).up (by decide)) ?_
      refine wk_Hs 6 91 ⟨rfl, rfl⟩ (ls' := [.ref 23, .int x1, .ref 3, .ref 37, .ref 18, .int x5, .int x6]) (st' := []) (σ' := (wk_si v12 23 3 ((v12.1 23 3) + (1 : Int32)))) rfl ?_
      cases h
      exact wk_eqz hk (wk_Hretv rfl)
set_option maxHeartbeats 4000000 in
set_option maxRecDepth 20000 in
theorem tj_j_X10_goKnight_67_18 {x1 : Int32} {s_0 : Int32} {w5 : Value} {w6 : Value} {s : wk_St} {z : wk_R} {o : wk_St} (h : j_X10_goKnight_67 18 x1 s_0 s = some o) (hk : z = (none, o)) : wk_H wk_shC 5 mc_X10_goKnight 67 [.ref 23, .int x1, .ref 3, .ref 37, .ref 18, w5, w6] [.int s_0, .ref 23] s z := by
  dsimp only [j_X10_goKnight_67] at h
  refine wk_Hs 7 74 ⟨rfl, rfl⟩ (ls' := [.ref 23, .int x1, .ref 3, .ref 37, .ref 18, w5, w6]) (st' := []) (σ' := (wk_si (wk_si s 23 5 s_0) 23 1 (((wk_si s 23 5 s_0).1 23 1) + (1 : Int32)))) rfl ?_
  refine wk_Hgoto (t := 92) rfl ?_
  refine wk_Hs 5 97 ⟨rfl, rfl⟩ (ls' := [.ref 23, .int x1, .ref 3, .ref 37, .ref 18, w5, w6]) (st' := [.ref 18, .ref 37, .ref 3, .int x1, .ref 23]) (σ' := (wk_si (wk_si s 23 5 s_0) 23 1 (((wk_si s 23 5 s_0).1 23 1) + (1 : Int32)))) rfl ?_
  obtain ⟨v15, hv15, h⟩ := wk_bindE h
  refine wk_Hcall (i2 := 98) (args := [.ref 23, .int x1, .ref 3, .ref 37, .ref 18]) (rest := []) (r := none) (σ1 := v15) rfl rfl ⟨rfl, rfl, rfl, rfl, rfl⟩ rfl ((t_X10_tempt_18 hv15).up (by decide)) ?_
  cases h
  exact wk_eqz hk (wk_Hretv rfl)
set_option maxHeartbeats 4000000 in
set_option maxRecDepth 20000 in
theorem tj_j_X10_goKnight_24_18 {x1 : Int32} {x5 : Int32} {w6 : Value} {s : wk_St} {z : wk_R} {o : wk_St} (h : j_X10_goKnight_24 18 x1 x5 s = some o) (hk : z = (none, o)) : wk_H wk_shC 5 mc_X10_goKnight 24 [.ref 23, .int x1, .ref 3, .ref 37, .ref 18, .int x5, w6] [] s z := by
  dsimp only [j_X10_goKnight_24] at h
  refine wk_Hs 2 26 ⟨rfl, rfl⟩ (ls' := [.ref 23, .int x1, .ref 3, .ref 37, .ref 18, .int x5, w6]) (st' := [.int x1, .ref 18]) (σ' := s) rfl ?_
  obtain ⟨v4, hv4, h⟩ := wk_bindE h
  refine wk_Hcall (i2 := 27) (args := [.ref 18, .int x1]) (rest := []) (r := some (.int v4)) (σ1 := s) rfl rfl ⟨rfl, rfl, rfl, rfl, rfl⟩ rfl ((t_X0_kindOf_18 hv4).up (by decide)) ?_
  refine wk_Hs 1 28 ⟨rfl, rfl⟩ (ls' := [.ref 23, .int x1, .ref 3, .ref 37, .ref 18, .int x5, w6]) (st' := [.int (1 : Int32), .int v4]) (σ' := s) rfl ?_
  rcases wk_ife h with ⟨hc, h⟩ | ⟨hc, h⟩
  · refine wk_Hbt 30 rfl (wk_ceq.2 hc) ?_
    refine wk_Hs 7 37 ⟨rfl, rfl⟩ (ls' := [.ref 23, .int x1, .ref 3, .ref 37, .ref 18, .int x5, w6]) (st' := [.ref 18, .ref 37, .ref 3, .int x1, .ref 23, .int x1, .ref 18]) (σ' := s) rfl ?_
    obtain ⟨v5, hv5, h⟩ := wk_bindE h
    refine wk_Hcall (i2 := 38) (args := [.ref 23, .int x1, .ref 3, .ref 37, .ref 18]) (rest := [.int x1, .ref 18]) (r := some (.int v5.1)) (σ1 := v5.2) rfl rfl ⟨rfl, rfl, rfl, rfl, rfl⟩ rfl ((t_X10_goalOf_18 hv5).up (by decide)) ?_
    obtain ⟨v6, hv6, h⟩ := wk_bindE h
    refine wk_Hcall (i2 := 39) (args := [.ref 18, .int x1, .int v5.1]) (rest := []) (r := none) (σ1 := v6) rfl rfl ⟨rfl, rfl, rfl, rfl, rfl⟩ rfl ((t_X0_moveTo_18 hv6).up (by decide)) ?_
    refine wk_Hs 2 41 ⟨rfl, rfl⟩ (ls' := [.ref 23, .int x1, .ref 3, .ref 37, .ref 18, .int x5, w6]) (st' := [.int x1, .ref 18]) (σ' := v6) rfl ?_
    obtain ⟨v7, hv7, h⟩ := wk_bindE h
    refine wk_Hcall (i2 := 42) (args := [.ref 18, .int x1]) (rest := []) (r := some (.int v7)) (σ1 := v6) rfl rfl ⟨rfl, rfl, rfl, rfl, rfl⟩ rfl ((t_X0_placeOf_18 hv7).up (by decide)) ?_
    refine wk_Hs 5 47 ⟨rfl, rfl⟩ (ls' := [.ref 23, .int x1, .ref 3, .ref 37, .ref 18, .int x5, .int v7]) (st' := [.int (v6.1 18 5), .int v7, .ref 3]) (σ' := v6) rfl ?_
    obtain ⟨v8, hv8, h⟩ := wk_bindE h
    refine wk_Hcall (i2 := 48) (args := [.ref 3, .int v7, .int (v6.1 18 5)]) (rest := []) (r := some (.int (b2i v8))) (σ1 := v6) rfl rfl ⟨rfl, rfl, rfl, rfl, rfl⟩ rfl ((t_X2_isHunted hv8).up (by decide)) ?_
    rcases wk_ife h with ⟨hc, h⟩ | ⟨hc, h⟩
    · refine wk_H0t 75 rfl (wk_zeq.2 hc) ?_
      exact tj_j_X10_goKnight_75_18 h hk
    · refine wk_H0f 75 49 rfl rfl (wk_nf wk_zeq hc) ?_
      refine wk_Hs 5 54 ⟨rfl, rfl⟩ (ls' := [.ref 23, .int x1, .ref 3, .ref 37, .ref 18, .int x5, .int v7]) (st' := [.ref 18, .ref 37, .ref 3, .int x1, .ref 23]) (σ' := v6) rfl ?_
      obtain ⟨v13, hv13, h⟩ := wk_bindE h
      refine wk_Hcall (i2 := 55) (args := [.ref 23, .int x1, .ref 3, .ref 37, .ref 18]) (rest := []) (r := some (.int (b2i v13.1))) (σ1 := v13.2) rfl rfl ⟨rfl, rfl, rfl, rfl, rfl⟩ rfl ((t_X10_isSpared_18 hv13).up (by decide)) ?_
      rcases wk_ife h with ⟨hc, h⟩ | ⟨hc, h⟩
      · refine wk_H0t 75 rfl (wk_zne.2 hc) ?_
        exact tj_j_X10_goKnight_75_18 h hk
      · refine wk_H0f 75 56 rfl rfl (wk_nf wk_zne hc) ?_
        refine wk_Hs 2 58 ⟨rfl, rfl⟩ (ls' := [.ref 23, .int x1, .ref 3, .ref 37, .ref 18, .int x5, .int v7]) (st' := [.int x1, .ref 18]) (σ' := v13.2) rfl ?_
        obtain ⟨v14, hv14, h⟩ := wk_bindE h
        refine wk_Hcall (i2 := 59) (args := [.ref 18, .int x1]) (rest := []) (r := none) (σ1 := v14) rfl rfl ⟨rfl, rfl, rfl, rfl, rfl⟩ rfl ((t_X0_die_18 hv14).up (by decide)) ?_
        refine wk_Hs 3 62 ⟨rfl, rfl⟩ (ls' := [.ref 23, .int x1, .ref 3, .ref 37, .ref 18, .int x5, .int v7]) (st' := [.int (v14.1 23 1), .ref 23]) (σ' := v14) rfl ?_
        rcases wk_ife h with ⟨hc, h⟩ | ⟨hc, h⟩
        · refine wk_H0t 65 rfl (wk_cne.2 hc) ?_
          refine wk_Hs 2 67 ⟨rfl, rfl⟩ (ls' := [.ref 23, .int x1, .ref 3, .ref 37, .ref 18, .int x5, .int v7]) (st' := [.int (v14.1 23 5), .ref 23]) (σ' := v14) rfl ?_
          exact tj_j_X10_goKnight_67_18 h hk
        · refine wk_H0f 65 63 rfl rfl (wk_nf wk_cne hc) ?_
          refine wk_Hs 1 64 ⟨rfl, rfl⟩ (ls' := [.ref 23, .int x1, .ref 3, .ref 37, .ref 18, .int x5, .int v7]) (st' := [.int x1, .ref 23]) (σ' := v14) rfl ?_
          refine wk_Hgoto (t := 67) rfl ?_
          exact tj_j_X10_goKnight_67_18 h hk
  · refine wk_Hbf 30 29 rfl rfl (wk_nf wk_ceq hc) ?_
    cases h
    exact wk_eqz hk (wk_Hretv rfl)
set_option maxHeartbeats 4000000 in
set_option maxRecDepth 20000 in
theorem t_X10_goKnight_18 {x1 : Int32} {s : wk_St} {r : wk_St} (h : f_X10_goKnight 18 x1 s = some r) : wk_T wk_shC 5 249 [.ref 23, .int x1, .ref 3, .ref 37, .ref 18] s (none, r) := by
  suffices H : ∀ z, z = (none, r) → wk_H wk_shC 5 mc_X10_goKnight 0 [.ref 23, .int x1, .ref 3, .ref 37, .ref 18, wk_U, wk_U] [] s z from H _ rfl
  intro z hk
  dsimp only [f_X10_goKnight] at h
  refine wk_Hs 2 2 ⟨rfl, rfl⟩ (ls' := [.ref 23, .int x1, .ref 3, .ref 37, .ref 18, wk_U, wk_U]) (st' := [.int x1, .ref 18]) (σ' := s) rfl ?_
  obtain ⟨v1, hv1, h⟩ := wk_bindE h
  refine wk_Hcall (i2 := 3) (args := [.ref 18, .int x1]) (rest := []) (r := some (.int v1)) (σ1 := s) rfl rfl ⟨rfl, rfl, rfl, rfl, rfl⟩ rfl ((t_X0_wolfDaysOf_18 hv1).up (by decide)) ?_
  refine wk_Hs 3 6 ⟨rfl, rfl⟩ (ls' := [.ref 23, .int x1, .ref 3, .ref 37, .ref 18, wk_U, wk_U]) (st' := [.int (s.1 18 5), .ref 3, .int v1]) (σ' := s) rfl ?_
  obtain ⟨v2, hv2, h⟩ := wk_bindE h
  refine wk_Hcall (i2 := 7) (args := [.ref 3, .int (s.1 18 5)]) (rest := [.int v1]) (r := some (.int v2)) (σ1 := s) rfl rfl ⟨rfl, rfl, rfl, rfl, rfl⟩ rfl ((t_X2_weekdayOf hv2).up (by decide)) ?_
  refine wk_Hcall (i2 := 8) (args := [.int v1, .int v2]) (rest := []) (r := some (.int (b2i (f_X11_hasBit v1 v2)))) (σ1 := s) rfl rfl ⟨rfl, rfl, rfl, rfl, rfl⟩ rfl ((t_X11_hasBit rfl).up (by decide)) ?_
  refine wk_Hs 2 10 ⟨rfl, rfl⟩ (ls' := [.ref 23, .int x1, .ref 3, .ref 37, .ref 18, .int (b2i (f_X11_hasBit v1 v2)), wk_U]) (st' := [.int (b2i (f_X11_hasBit v1 v2))]) (σ' := s) rfl ?_
  rcases wk_ife h with ⟨hc, h⟩ | ⟨hc, h⟩
  · refine wk_H0t 24 rfl (wk_zeq.2 hc) ?_
    exact tj_j_X10_goKnight_24_18 h hk
  · refine wk_H0f 24 11 rfl rfl (wk_nf wk_zeq hc) ?_
    refine wk_Hs 2 13 ⟨rfl, rfl⟩ (ls' := [.ref 23, .int x1, .ref 3, .ref 37, .ref 18, .int (b2i (f_X11_hasBit v1 v2)), wk_U]) (st' := [.int x1, .ref 18]) (σ' := s) rfl ?_
    obtain ⟨v16, hv16, h⟩ := wk_bindE h
    refine wk_Hcall (i2 := 14) (args := [.ref 18, .int x1]) (rest := []) (r := some (.int v16)) (σ1 := s) rfl rfl ⟨rfl, rfl, rfl, rfl, rfl⟩ rfl ((t_X0_kindOf_18 hv16).up (by decide)) ?_
    rcases wk_ife h with ⟨hc, h⟩ | ⟨hc, h⟩
    · refine wk_H0t 24 rfl (wk_cne.2 hc) ?_
      exact tj_j_X10_goKnight_24_18 h hk
    · refine wk_H0f 24 15 rfl rfl (wk_nf wk_cne hc) ?_
      refine wk_Hs 2 17 ⟨rfl, rfl⟩ (ls' := [.ref 23, .int x1, .ref 3, .ref 37, .ref 18, .int (b2i (f_X11_hasBit v1 v2)), wk_U]) (st' := [.int x1, .ref 18]) (σ' := s) rfl ?_
      obtain ⟨v17, hv17, h⟩ := wk_bindE h
      refine wk_Hcall (i2 := 18) (args := [.ref 18, .int x1]) (rest := []) (r := none) (σ1 := v17) rfl rfl ⟨rfl, rfl, rfl, rfl, rfl⟩ rfl ((t_X0_turnWolf_18 hv17).up (by decide)) ?_
      refine wk_Hs 6 24 ⟨rfl, rfl⟩ (ls' := [.ref 23, .int x1, .ref 3, .ref 37, .ref 18, .int (b2i (f_X11_hasBit v1 v2)), wk_U]) (st' := []) (σ' := (wk_si v17 23 2 ((v17.1 23 2) + (1 : Int32)))) rfl ?_
      exact tj_j_X10_goKnight_24_18 h hk
set_option maxHeartbeats 4000000 in
set_option maxRecDepth 20000 in
theorem ts_S_X10_goDay_7_8 {x4 : Int32} {s : wk_St} {z : wk_R} {o : (wk_St) ⊕ (Int32 × wk_St)} (h : S_X10_goDay_7 8 (x4, s) = some o) (hk : match (generalizing := false) o with | Sum.inl a => (∀ (u4 : Value), wk_H wk_shC 6 mc_X10_goDay 22 [.ref 23, .ref 3, .ref 37, .ref 8, u4] [] a z) | Sum.inr y => wk_H wk_shC 6 mc_X10_goDay 7 [.ref 23, .ref 3, .ref 37, .ref 8, .int y.1] [] y.2 z) : wk_H wk_shC 6 mc_X10_goDay 7 [.ref 23, .ref 3, .ref 37, .ref 8, .int x4] [] s z := by
  dsimp only [S_X10_goDay_7] at h
  refine wk_Hs 2 9 ⟨rfl, rfl⟩ (ls' := [.ref 23, .ref 3, .ref 37, .ref 8, .int x4]) (st' := [.int (9 : Int32), .int x4]) (σ' := s) rfl ?_
  rcases wk_ife h with ⟨hc, h⟩ | ⟨hc, h⟩
  · refine wk_Hbt 22 rfl (wk_cge.2 hc) ?_
    cases h
    exact hk _
  · refine wk_Hbf 22 10 rfl rfl (wk_nf wk_cge hc) ?_
    refine wk_Hs 2 12 ⟨rfl, rfl⟩ (ls' := [.ref 23, .ref 3, .ref 37, .ref 8, .int x4]) (st' := [.int x4, .ref 8]) (σ' := s) rfl ?_
    obtain ⟨v1, hv1, h⟩ := wk_bindE h
    refine wk_Hcall (i2 := 13) (args := [.ref 8, .int x4]) (rest := []) (r := some (.int (b2i v1))) (σ1 := s) rfl rfl ⟨rfl, rfl, rfl, rfl, rfl⟩ rfl ((t_X0_isLiving_8 hv1).up (by decide)) ?_
    rcases wk_ife h with ⟨hc, h⟩ | ⟨hc, h⟩
    · refine wk_H0t 20 rfl (wk_zeq.2 hc) ?_
      refine wk_Hs 1 21 ⟨rfl, rfl⟩ (ls' := [.ref 23, .ref 3, .ref 37, .ref 8, .int (x4 + (1 : Int32))]) (st' := []) (σ' := s) rfl ?_
      refine wk_Hgoto (t := 7) rfl ?_
      cases h
      exact hk
    · refine wk_H0f 20 14 rfl rfl (wk_nf wk_zeq hc) ?_
      refine wk_Hs 5 19 ⟨rfl, rfl⟩ (ls' := [.ref 23, .ref 3, .ref 37, .ref 8, .int x4]) (st' := [.ref 8, .ref 37, .ref 3, .int x4, .ref 23]) (σ' := s) rfl ?_
      obtain ⟨v2, hv2, h⟩ := wk_bindE h
      refine wk_Hcall (i2 := 20) (args := [.ref 23, .int x4, .ref 3, .ref 37, .ref 8]) (rest := []) (r := none) (σ1 := v2) rfl rfl ⟨rfl, rfl, rfl, rfl, rfl⟩ rfl ((t_X10_goKnight_8 hv2).up (by decide)) ?_
      refine wk_Hs 1 21 ⟨rfl, rfl⟩ (ls' := [.ref 23, .ref 3, .ref 37, .ref 8, .int (x4 + (1 : Int32))]) (st' := []) (σ' := v2) rfl ?_
      refine wk_Hgoto (t := 7) rfl ?_
      cases h
      exact hk
set_option maxHeartbeats 4000000 in
set_option maxRecDepth 20000 in
theorem tl_S_X10_goDay_7_8 {z : wk_R} (n : Nat) : ∀ {x4 : Int32} {s : wk_St} {a : wk_St} (h : wk_loop (S_X10_goDay_7 8) n (x4, s) = some a) (hk : ∀ (u4 : Value), wk_H wk_shC 6 mc_X10_goDay 22 [.ref 23, .ref 3, .ref 37, .ref 8, u4] [] a z), wk_H wk_shC 6 mc_X10_goDay 7 [.ref 23, .ref 3, .ref 37, .ref 8, .int x4] [] s z := by
  induction n with
  | zero =>
    intros
    rename_i h _
    exact nomatch (show (none : Option _) = some _ from h)
  | succ n ih =>
    intros
    rename_i h hk
    obtain ⟨o, ho, h⟩ := wk_bindE (show Option.bind _ _ = some _ from h)
    refine ts_S_X10_goDay_7_8 ho ?_
    cases o with
    | inl a1 =>
      cases h
      exact hk
    | inr p =>
      obtain ⟨p0, p1⟩ := p
      exact ih h hk
set_option maxHeartbeats 4000000 in
set_option maxRecDepth 20000 in
theorem t_X10_goDay_8 {s : wk_St} {r : wk_St} (h : f_X10_goDay 8 s = some r) : wk_T wk_shC 6 248 [.ref 23, .ref 3, .ref 37, .ref 8] s (none, r) := by
  suffices H : ∀ z, z = (none, r) → wk_H wk_shC 6 mc_X10_goDay 0 [.ref 23, .ref 3, .ref 37, .ref 8, wk_U] [] s z from H _ rfl
  intro z hk
  dsimp only [f_X10_goDay] at h
  refine wk_Hs 3 3 ⟨rfl, rfl⟩ (ls' := [.ref 23, .ref 3, .ref 37, .ref 8, wk_U]) (st' := [.int (9999 : Int32), .int (s.1 8 5)]) (σ' := s) rfl ?_
  rcases wk_ife h with ⟨hc, h⟩ | ⟨hc, h⟩
  · refine wk_Hbt 5 rfl (wk_clt.2 hc) ?_
    refine wk_Hs 2 7 ⟨rfl, rfl⟩ (ls' := [.ref 23, .ref 3, .ref 37, .ref 8, .int (0 : Int32)]) (st' := []) (σ' := s) rfl ?_
    obtain ⟨v3, hv3, h⟩ := wk_bindE h
    refine tl_S_X10_goDay_7_8 wk_F hv3 ?_
    intro g4
    refine wk_Hs 6 28 ⟨rfl, rfl⟩ (ls' := [.ref 23, .ref 3, .ref 37, .ref 8, g4]) (st' := []) (σ' := (wk_si v3 8 5 ((v3.1 8 5) + (1 : Int32)))) rfl ?_
    cases h
    exact wk_eqz hk (wk_Hretv rfl)
  · refine wk_Hbf 5 4 rfl rfl (wk_nf wk_clt hc) ?_
    cases h
    exact wk_eqz hk (wk_Hretv rfl)
set_option maxHeartbeats 4000000 in
set_option maxRecDepth 20000 in
theorem ts_S_X10_goDay_7_18 {x4 : Int32} {s : wk_St} {z : wk_R} {o : (wk_St) ⊕ (Int32 × wk_St)} (h : S_X10_goDay_7 18 (x4, s) = some o) (hk : match (generalizing := false) o with | Sum.inl a => (∀ (u4 : Value), wk_H wk_shC 6 mc_X10_goDay 22 [.ref 23, .ref 3, .ref 37, .ref 18, u4] [] a z) | Sum.inr y => wk_H wk_shC 6 mc_X10_goDay 7 [.ref 23, .ref 3, .ref 37, .ref 18, .int y.1] [] y.2 z) : wk_H wk_shC 6 mc_X10_goDay 7 [.ref 23, .ref 3, .ref 37, .ref 18, .int x4] [] s z := by
  dsimp only [S_X10_goDay_7] at h
  refine wk_Hs 2 9 ⟨rfl, rfl⟩ (ls' := [.ref 23, .ref 3, .ref 37, .ref 18, .int x4]) (st' := [.int (9 : Int32), .int x4]) (σ' := s) rfl ?_
  rcases wk_ife h with ⟨hc, h⟩ | ⟨hc, h⟩
  · refine wk_Hbt 22 rfl (wk_cge.2 hc) ?_
    cases h
    exact hk _
  · refine wk_Hbf 22 10 rfl rfl (wk_nf wk_cge hc) ?_
    refine wk_Hs 2 12 ⟨rfl, rfl⟩ (ls' := [.ref 23, .ref 3, .ref 37, .ref 18, .int x4]) (st' := [.int x4, .ref 18]) (σ' := s) rfl ?_
    obtain ⟨v1, hv1, h⟩ := wk_bindE h
    refine wk_Hcall (i2 := 13) (args := [.ref 18, .int x4]) (rest := []) (r := some (.int (b2i v1))) (σ1 := s) rfl rfl ⟨rfl, rfl, rfl, rfl, rfl⟩ rfl ((t_X0_isLiving_18 hv1).up (by decide)) ?_
    rcases wk_ife h with ⟨hc, h⟩ | ⟨hc, h⟩
    · refine wk_H0t 20 rfl (wk_zeq.2 hc) ?_
      refine wk_Hs 1 21 ⟨rfl, rfl⟩ (ls' := [.ref 23, .ref 3, .ref 37, .ref 18, .int (x4 + (1 : Int32))]) (st' := []) (σ' := s) rfl ?_
      refine wk_Hgoto (t := 7) rfl ?_
      cases h
      exact hk
    · refine wk_H0f 20 14 rfl rfl (wk_nf wk_zeq hc) ?_
      refine wk_Hs 5 19 ⟨rfl, rfl⟩ (ls' := [.ref 23, .ref 3, .ref 37, .ref 18, .int x4]) (st' := [.ref 18, .ref 37, .ref 3, .int x4, .ref 23]) (σ' := s) rfl ?_
      obtain ⟨v2, hv2, h⟩ := wk_bindE h
      refine wk_Hcall (i2 := 20) (args := [.ref 23, .int x4, .ref 3, .ref 37, .ref 18]) (rest := []) (r := none) (σ1 := v2) rfl rfl ⟨rfl, rfl, rfl, rfl, rfl⟩ rfl ((t_X10_goKnight_18 hv2).up (by decide)) ?_
      refine wk_Hs 1 21 ⟨rfl, rfl⟩ (ls' := [.ref 23, .ref 3, .ref 37, .ref 18, .int (x4 + (1 : Int32))]) (st' := []) (σ' := v2) rfl ?_
      refine wk_Hgoto (t := 7) rfl ?_
      cases h
      exact hk
set_option maxHeartbeats 4000000 in
set_option maxRecDepth 20000 in
theorem tl_S_X10_goDay_7_18 {z : wk_R} (n : Nat) : ∀ {x4 : Int32} {s : wk_St} {a : wk_St} (h : wk_loop (S_X10_goDay_7 18) n (x4, s) = some a) (hk : ∀ (u4 : Value), wk_H wk_shC 6 mc_X10_goDay 22 [.ref 23, .ref 3, .ref 37, .ref 18, u4] [] a z), wk_H wk_shC 6 mc_X10_goDay 7 [.ref 23, .ref 3, .ref 37, .ref 18, .int x4] [] s z := by
  induction n with
  | zero =>
    intros
    rename_i h _
    exact nomatch (show (none : Option _) = some _ from h)
  | succ n ih =>
    intros
    rename_i h hk
    obtain ⟨o, ho, h⟩ := wk_bindE (show Option.bind _ _ = some _ from h)
    refine ts_S_X10_goDay_7_18 ho ?_
    cases o with
    | inl a1 =>
      cases h
      exact hk
    | inr p =>
      obtain ⟨p0, p1⟩ := p
      exact ih h hk
set_option maxHeartbeats 4000000 in
set_option maxRecDepth 20000 in
theorem t_X10_goDay_18 {s : wk_St} {r : wk_St} (h : f_X10_goDay 18 s = some r) : wk_T wk_shC 6 248 [.ref 23, .ref 3, .ref 37, .ref 18] s (none, r) := by
  suffices H : ∀ z, z = (none, r) → wk_H wk_shC 6 mc_X10_goDay 0 [.ref 23, .ref 3, .ref 37, .ref 18, wk_U] [] s z from H _ rfl
  intro z hk
  dsimp only [f_X10_goDay] at h
  refine wk_Hs 3 3 ⟨rfl, rfl⟩ (ls' := [.ref 23, .ref 3, .ref 37, .ref 18, wk_U]) (st' := [.int (9999 : Int32), .int (s.1 18 5)]) (σ' := s) rfl ?_
  rcases wk_ife h with ⟨hc, h⟩ | ⟨hc, h⟩
  · refine wk_Hbt 5 rfl (wk_clt.2 hc) ?_
    refine wk_Hs 2 7 ⟨rfl, rfl⟩ (ls' := [.ref 23, .ref 3, .ref 37, .ref 18, .int (0 : Int32)]) (st' := []) (σ' := s) rfl ?_
    obtain ⟨v3, hv3, h⟩ := wk_bindE h
    refine tl_S_X10_goDay_7_18 wk_F hv3 ?_
    intro g4
    refine wk_Hs 6 28 ⟨rfl, rfl⟩ (ls' := [.ref 23, .ref 3, .ref 37, .ref 18, g4]) (st' := []) (σ' := (wk_si v3 18 5 ((v3.1 18 5) + (1 : Int32)))) rfl ?_
    cases h
    exact wk_eqz hk (wk_Hretv rfl)
  · refine wk_Hbf 5 4 rfl rfl (wk_nf wk_clt hc) ?_
    cases h
    exact wk_eqz hk (wk_Hretv rfl)
set_option maxHeartbeats 4000000 in
set_option maxRecDepth 20000 in
theorem ts_S_X11_days_12 {x1 : Int32} {x2 : Int32} {s : wk_St} {z : wk_R} {o : (wk_St) ⊕ (Int32 × wk_St)} (h : S_X11_days_12 x1 (x2, s) = some o) (hk : match (generalizing := false) o with | Sum.inl a => (∀ (u2 : Value), wk_H wk_shC 7 mc_X11_days 26 [.ref 0, .int x1, u2] [] a z) | Sum.inr y => wk_H wk_shC 7 mc_X11_days 12 [.ref 0, .int x1, .int y.1] [] y.2 z) : wk_H wk_shC 7 mc_X11_days 12 [.ref 0, .int x1, .int x2] [] s z := by
  dsimp only [S_X11_days_12] at h
  refine wk_Hs 2 14 ⟨rfl, rfl⟩ (ls' := [.ref 0, .int x1, .int x2]) (st' := [.int x1, .int x2]) (σ' := s) rfl ?_
  rcases wk_ife h with ⟨hc, h⟩ | ⟨hc, h⟩
  · refine wk_Hbt 26 rfl (wk_cge.2 hc) ?_
    cases h
    exact hk _
  · refine wk_Hbf 26 15 rfl rfl (wk_nf wk_cge hc) ?_
    refine wk_Hs 8 23 ⟨rfl, rfl⟩ (ls' := [.ref 0, .int x1, .int x2]) (st' := [.ref 8, .ref 37, .ref 3, .ref 23]) (σ' := s) rfl ?_
    obtain ⟨v3, hv3, h⟩ := wk_bindE h
    refine wk_Hcall (i2 := 24) (args := [.ref 23, .ref 3, .ref 37, .ref 8]) (rest := []) (r := none) (σ1 := v3) rfl rfl ⟨rfl, rfl, rfl, rfl, rfl⟩ rfl ((t_X10_goDay_8 hv3).up (by decide)) ?_
    refine wk_Hs 1 25 ⟨rfl, rfl⟩ (ls' := [.ref 0, .int x1, .int (x2 + (1 : Int32))]) (st' := []) (σ' := v3) rfl ?_
    refine wk_Hgoto (t := 12) rfl ?_
    cases h
    exact hk
set_option maxHeartbeats 4000000 in
set_option maxRecDepth 20000 in
theorem tl_S_X11_days_12 {x1 : Int32} {z : wk_R} (n : Nat) : ∀ {x2 : Int32} {s : wk_St} {a : wk_St} (h : wk_loop (S_X11_days_12 x1) n (x2, s) = some a) (hk : ∀ (u2 : Value), wk_H wk_shC 7 mc_X11_days 26 [.ref 0, .int x1, u2] [] a z), wk_H wk_shC 7 mc_X11_days 12 [.ref 0, .int x1, .int x2] [] s z := by
  induction n with
  | zero =>
    intros
    rename_i h _
    exact nomatch (show (none : Option _) = some _ from h)
  | succ n ih =>
    intros
    rename_i h hk
    obtain ⟨o, ho, h⟩ := wk_bindE (show Option.bind _ _ = some _ from h)
    refine ts_S_X11_days_12 ho ?_
    cases o with
    | inl a1 =>
      cases h
      exact hk
    | inr p =>
      obtain ⟨p0, p1⟩ := p
      exact ih h hk
set_option maxHeartbeats 4000000 in
set_option maxRecDepth 20000 in
theorem t_X11_days {x1 : Int32} {s : wk_St} {r : Int32 × wk_St} (h : f_X11_days x1 s = some r) : wk_T wk_shC 7 9 [.ref 0, .int x1] s (some (.int r.1), r.2) := by
  suffices H : ∀ z, z = (some (.int r.1), r.2) → wk_H wk_shC 7 mc_X11_days 0 [.ref 0, .int x1, wk_U] [] s z from H _ rfl
  intro z hk
  dsimp only [f_X11_days] at h
  refine wk_Hs 3 3 ⟨rfl, rfl⟩ (ls' := [.ref 0, .int x1, wk_U]) (st' := [.int (240 : Int32), .int (1 : Int32), .int x1]) (σ' := s) rfl ?_
  refine wk_Hcall (i2 := 4) (args := [.int x1, .int (1 : Int32), .int (240 : Int32)]) (rest := []) (r := some (.int (b2i (f_X11_isWithin x1 (1 : Int32) (240 : Int32))))) (σ1 := s) rfl rfl ⟨rfl, rfl, rfl, rfl, rfl⟩ rfl ((t_X11_isWithin rfl).up (by decide)) ?_
  rcases wk_ife h with ⟨hc, h⟩ | ⟨hc, h⟩
  · refine wk_H0t 7 rfl (wk_zne.2 hc) ?_
    refine wk_Hs 2 9 ⟨rfl, rfl⟩ (ls' := [.ref 0, .int x1, wk_U]) (st' := [.ref 23]) (σ' := s) rfl ?_
    replace h := wk_letE h
    refine wk_Hcall (i2 := 10) (args := [.ref 23]) (rest := []) (r := none) (σ1 := (f_X10_forget s)) rfl rfl ⟨rfl, rfl, rfl, rfl, rfl⟩ rfl ((t_X10_forget rfl).up (by decide)) ?_
    refine wk_Hs 2 12 ⟨rfl, rfl⟩ (ls' := [.ref 0, .int x1, .int (0 : Int32)]) (st' := []) (σ' := (f_X10_forget s)) rfl ?_
    obtain ⟨v4, hv4, h⟩ := wk_bindE h
    refine tl_S_X11_days_12 wk_F hv4 ?_
    intro g5
    refine wk_Hs 3 29 ⟨rfl, rfl⟩ (ls' := [.ref 0, .int x1, g5]) (st' := [.int (v4.1 23 1)]) (σ' := v4) rfl ?_
    cases h
    exact wk_eqz hk (wk_Hret rfl)
  · refine wk_H0f 7 5 rfl rfl (wk_nf wk_zne hc) ?_
    refine wk_Hs 1 6 ⟨rfl, rfl⟩ (ls' := [.ref 0, .int x1, wk_U]) (st' := [.int (-1 : Int32)]) (σ' := s) rfl ?_
    cases h
    exact wk_eqz hk (wk_Hret rfl)
set_option maxHeartbeats 4000000 in
set_option maxRecDepth 20000 in
theorem ts_S_X11_tried_42 {x1 : Int32} {x2 : Int32} {x4 : Int32} {w3 : Value} {s : wk_St} {z : wk_R} {o : (wk_St) ⊕ (Int32 × wk_St)} (h : S_X11_tried_42 x1 x2 (x4, s) = some o) (hk : match (generalizing := false) o with | Sum.inl a => (∀ (u3 u4 : Value), wk_H wk_shC 7 mc_X11_tried 56 [.ref 0, .int x1, .int x2, u3, u4] [] a z) | Sum.inr y => ∀ (u3 : Value), wk_H wk_shC 7 mc_X11_tried 42 [.ref 0, .int x1, .int x2, u3, .int y.1] [] y.2 z) : wk_H wk_shC 7 mc_X11_tried 42 [.ref 0, .int x1, .int x2, w3, .int x4] [] s z := by
  dsimp only [S_X11_tried_42] at h
  refine wk_Hs 2 44 ⟨rfl, rfl⟩ (ls' := [.ref 0, .int x1, .int x2, w3, .int x4]) (st' := [.int x1, .int x4]) (σ' := s) rfl ?_
  rcases wk_ife h with ⟨hc, h⟩ | ⟨hc, h⟩
  · refine wk_Hbt 56 rfl (wk_cge.2 hc) ?_
    cases h
    exact hk _ _
  · refine wk_Hbf 56 45 rfl rfl (wk_nf wk_cge hc) ?_
    refine wk_Hs 8 53 ⟨rfl, rfl⟩ (ls' := [.ref 0, .int x1, .int x2, w3, .int x4]) (st' := [.ref 18, .ref 37, .ref 3, .ref 23]) (σ' := s) rfl ?_
    obtain ⟨v5, hv5, h⟩ := wk_bindE h
    refine wk_Hcall (i2 := 54) (args := [.ref 23, .ref 3, .ref 37, .ref 18]) (rest := []) (r := none) (σ1 := v5) rfl rfl ⟨rfl, rfl, rfl, rfl, rfl⟩ rfl ((t_X10_goDay_18 hv5).up (by decide)) ?_
    refine wk_Hs 1 55 ⟨rfl, rfl⟩ (ls' := [.ref 0, .int x1, .int x2, (wk_cl w3), .int (x4 + (1 : Int32))]) (st' := []) (σ' := v5) rfl ?_
    refine wk_Hgoto (t := 42) rfl ?_
    cases h
    exact hk _
set_option maxHeartbeats 4000000 in
set_option maxRecDepth 20000 in
theorem tl_S_X11_tried_42 {x1 : Int32} {x2 : Int32} {z : wk_R} (n : Nat) : ∀ {x4 : Int32} {w3 : Value} {s : wk_St} {a : wk_St} (h : wk_loop (S_X11_tried_42 x1 x2) n (x4, s) = some a) (hk : ∀ (u3 u4 : Value), wk_H wk_shC 7 mc_X11_tried 56 [.ref 0, .int x1, .int x2, u3, u4] [] a z), wk_H wk_shC 7 mc_X11_tried 42 [.ref 0, .int x1, .int x2, w3, .int x4] [] s z := by
  induction n with
  | zero =>
    intros
    rename_i h _
    exact nomatch (show (none : Option _) = some _ from h)
  | succ n ih =>
    intros
    rename_i h hk
    obtain ⟨o, ho, h⟩ := wk_bindE (show Option.bind _ _ = some _ from h)
    refine ts_S_X11_tried_42 ho ?_
    cases o with
    | inl a1 =>
      cases h
      exact hk
    | inr p =>
      obtain ⟨p0, p1⟩ := p
      exact fun _ => ih h hk
set_option maxHeartbeats 4000000 in
set_option maxRecDepth 20000 in
theorem tj_j_X11_tried_22 {x1 : Int32} {x2 : Int32} {s_0 : Int32} {w3 : Value} {w4 : Value} {s : wk_St} {z : wk_R} {o : Int32 × wk_St} (h : j_X11_tried_22 x1 x2 s_0 s = some o) (hk : z = (some (.int o.1), o.2)) : wk_H wk_shC 7 mc_X11_tried 22 [.ref 0, .int x1, .int x2, w3, w4] [.int s_0] s z := by
  dsimp only [j_X11_tried_22] at h
  refine wk_Hs 4 26 ⟨rfl, rfl⟩ (ls' := [.ref 0, .int x1, .int x2, .int s_0, w4]) (st' := [.int (240 : Int32), .int (1 : Int32), .int x1]) (σ' := s) rfl ?_
  refine wk_Hcall (i2 := 27) (args := [.int x1, .int (1 : Int32), .int (240 : Int32)]) (rest := []) (r := some (.int (b2i (f_X11_isWithin x1 (1 : Int32) (240 : Int32))))) (σ1 := s) rfl rfl ⟨rfl, rfl, rfl, rfl, rfl⟩ rfl ((t_X11_isWithin rfl).up (by decide)) ?_
  rcases wk_ife h with ⟨hc, h⟩ | ⟨hc, h⟩
  · refine wk_H0t 30 rfl (wk_zeq.2 hc) ?_
    refine wk_Hs 1 31 ⟨rfl, rfl⟩ (ls' := [.ref 0, .int x1, .int x2, .int s_0, w4]) (st' := [.int (-1 : Int32)]) (σ' := s) rfl ?_
    cases h
    exact wk_eqz hk (wk_Hret rfl)
  · refine wk_H0f 30 28 rfl rfl (wk_nf wk_zeq hc) ?_
    refine wk_Hs 1 29 ⟨rfl, rfl⟩ (ls' := [.ref 0, .int x1, .int x2, .int s_0, w4]) (st' := [.int s_0]) (σ' := s) rfl ?_
    rcases wk_ife h with ⟨hc, h⟩ | ⟨hc, h⟩
    · refine wk_H0t 32 rfl (wk_cne.2 hc) ?_
      refine wk_Hs 4 36 ⟨rfl, rfl⟩ (ls' := [.ref 0, .int x1, .int x2, .int s_0, w4]) (st' := [.ref 8, .ref 18]) (σ' := s) rfl ?_
      obtain ⟨v3, hv3, h⟩ := wk_bindE h
      refine wk_Hcall (i2 := 37) (args := [.ref 18, .ref 8]) (rest := []) (r := none) (σ1 := v3) rfl rfl ⟨rfl, rfl, rfl, rfl, rfl⟩ rfl ((t_X0_copyFrom_18_8 hv3).up (by decide)) ?_
      refine wk_Hs 2 39 ⟨rfl, rfl⟩ (ls' := [.ref 0, .int x1, .int x2, .int s_0, w4]) (st' := [.ref 23]) (σ' := v3) rfl ?_
      replace h := wk_letE h
      refine wk_Hcall (i2 := 40) (args := [.ref 23]) (rest := []) (r := none) (σ1 := (f_X10_forget v3)) rfl rfl ⟨rfl, rfl, rfl, rfl, rfl⟩ rfl ((t_X10_forget rfl).up (by decide)) ?_
      refine wk_Hs 2 42 ⟨rfl, rfl⟩ (ls' := [.ref 0, .int x1, .int x2, .int s_0, .int (0 : Int32)]) (st' := []) (σ' := (f_X10_forget v3)) rfl ?_
      obtain ⟨v6, hv6, h⟩ := wk_bindE h
      refine tl_S_X11_tried_42 wk_F hv6 ?_
      intro g7 g8
      refine wk_Hs 1 57 ⟨rfl, rfl⟩ (ls' := [.ref 0, .int x1, .int x2, g7, g8]) (st' := [.int x2]) (σ' := v6) rfl ?_
      rcases wk_ife h with ⟨hc0, h⟩ | ⟨hc0, h⟩
      · refine wk_Hts (t := 58) rfl (wk_tswE hc0 (by decide)) ?_
        refine wk_Hs 3 61 ⟨rfl, rfl⟩ (ls' := [.ref 0, .int x1, .int x2, g7, g8]) (st' := [.int (v6.1 23 1)]) (σ' := v6) rfl ?_
        cases h
        exact wk_eqz hk (wk_Hret rfl)
      rcases wk_ife h with ⟨hc1, h⟩ | ⟨hc1, h⟩
      · refine wk_Hts (t := 62) rfl (wk_tswE hc1 (by decide)) ?_
        refine wk_Hs 3 65 ⟨rfl, rfl⟩ (ls' := [.ref 0, .int x1, .int x2, g7, g8]) (st' := [.int (v6.1 23 2)]) (σ' := v6) rfl ?_
        cases h
        exact wk_eqz hk (wk_Hret rfl)
      rcases wk_ife h with ⟨hc2, h⟩ | ⟨hc2, h⟩
      · refine wk_Hts (t := 66) rfl (wk_tswE hc2 (by decide)) ?_
        refine wk_Hs 3 69 ⟨rfl, rfl⟩ (ls' := [.ref 0, .int x1, .int x2, g7, g8]) (st' := [.int (v6.1 23 3)]) (σ' := v6) rfl ?_
        cases h
        exact wk_eqz hk (wk_Hret rfl)
      rcases wk_ife h with ⟨hc3, h⟩ | ⟨hc3, h⟩
      · refine wk_Hts (t := 70) rfl (wk_tswE hc3 (by decide)) ?_
        refine wk_Hs 3 73 ⟨rfl, rfl⟩ (ls' := [.ref 0, .int x1, .int x2, g7, g8]) (st' := [.int (v6.1 23 4)]) (σ' := v6) rfl ?_
        cases h
        exact wk_eqz hk (wk_Hret rfl)
      refine wk_Hts (t := 74) rfl (wk_tswD (L := [0, 1, 2, 3]) (by decide) (List.forall_mem_cons.2 ⟨wk_nt hc0 (by decide), (List.forall_mem_cons.2 ⟨wk_nt hc1 (by decide), (List.forall_mem_cons.2 ⟨wk_nt hc2 (by decide), (List.forall_mem_cons.2 ⟨wk_nt hc3 (by decide), (fun _ hq => absurd hq List.not_mem_nil)⟩)⟩)⟩)⟩)) ?_
      refine wk_Hs 2 76 ⟨rfl, rfl⟩ (ls' := [.ref 0, .int x1, .int x2, g7, g8]) (st' := [.int (20 : Int32), .int x2]) (σ' := v6) rfl ?_
      rcases wk_ife h with ⟨hc, h⟩ | ⟨hc, h⟩
      · refine wk_Hbt 84 rfl (wk_cge.2 hc) ?_
        refine wk_Hs 5 89 ⟨rfl, rfl⟩ (ls' := [.ref 0, .int x1, .int x2, g7, g8]) (st' := [.int (x2 - (20 : Int32)), .ref 18]) (σ' := v6) rfl ?_
        obtain ⟨v9, hv9, h⟩ := wk_bindE h
        refine wk_Hcall (i2 := 90) (args := [.ref 18, .int (x2 - (20 : Int32))]) (rest := []) (r := some (.int v9)) (σ1 := v6) rfl rfl ⟨rfl, rfl, rfl, rfl, rfl⟩ rfl ((t_X0_kindOf_18 hv9).up (by decide)) ?_
        cases h
        exact wk_eqz hk (wk_Hret rfl)
      · refine wk_Hbf 84 77 rfl rfl (wk_nf wk_cge hc) ?_
        refine wk_Hs 5 82 ⟨rfl, rfl⟩ (ls' := [.ref 0, .int x1, .int x2, g7, g8]) (st' := [.int (x2 - (10 : Int32)), .ref 18]) (σ' := v6) rfl ?_
        obtain ⟨v10, hv10, h⟩ := wk_bindE h
        refine wk_Hcall (i2 := 83) (args := [.ref 18, .int (x2 - (10 : Int32))]) (rest := []) (r := some (.int v10)) (σ1 := v6) rfl rfl ⟨rfl, rfl, rfl, rfl, rfl⟩ rfl ((t_X0_placeOf_18 hv10).up (by decide)) ?_
        refine wk_Hgoto (t := 90) rfl ?_
        cases h
        exact wk_eqz hk (wk_Hret rfl)
    · refine wk_H0f 32 30 rfl rfl (wk_nf wk_cne hc) ?_
      refine wk_Hs 1 31 ⟨rfl, rfl⟩ (ls' := [.ref 0, .int x1, .int x2, .int s_0, w4]) (st' := [.int (-1 : Int32)]) (σ' := s) rfl ?_
      cases h
      exact wk_eqz hk (wk_Hret rfl)
set_option maxHeartbeats 4000000 in
set_option maxRecDepth 20000 in
theorem t_X11_tried {x1 : Int32} {x2 : Int32} {s : wk_St} {r : Int32 × wk_St} (h : f_X11_tried x1 x2 s = some r) : wk_T wk_shC 7 10 [.ref 0, .int x1, .int x2] s (some (.int r.1), r.2) := by
  suffices H : ∀ z, z = (some (.int r.1), r.2) → wk_H wk_shC 7 mc_X11_tried 0 [.ref 0, .int x1, .int x2, wk_U, wk_U] [] s z from H _ rfl
  intro z hk
  dsimp only [f_X11_tried] at h
  refine wk_Hs 3 3 ⟨rfl, rfl⟩ (ls' := [.ref 0, .int x1, .int x2, wk_U, wk_U]) (st' := [.int (3 : Int32), .int (0 : Int32), .int x2]) (σ' := s) rfl ?_
  refine wk_Hcall (i2 := 4) (args := [.int x2, .int (0 : Int32), .int (3 : Int32)]) (rest := []) (r := some (.int (b2i (f_X11_isWithin x2 (0 : Int32) (3 : Int32))))) (σ1 := s) rfl rfl ⟨rfl, rfl, rfl, rfl, rfl⟩ rfl ((t_X11_isWithin rfl).up (by decide)) ?_
  rcases wk_ife h with ⟨hc, h⟩ | ⟨hc, h⟩
  · refine wk_H0t 19 rfl (wk_zne.2 hc) ?_
    refine wk_Hs 1 20 ⟨rfl, rfl⟩ (ls' := [.ref 0, .int x1, .int x2, wk_U, wk_U]) (st' := [.int (1 : Int32)]) (σ' := s) rfl ?_
    refine wk_Hgoto (t := 22) rfl ?_
    exact tj_j_X11_tried_22 h hk
  · refine wk_H0f 19 5 rfl rfl (wk_nf wk_zne hc) ?_
    refine wk_Hs 5 10 ⟨rfl, rfl⟩ (ls' := [.ref 0, .int x1, .int x2, wk_U, wk_U]) (st' := [.int (x2 - (10 : Int32)), .ref 8]) (σ' := s) rfl ?_
    refine wk_Hcall (i2 := 11) (args := [.ref 8, .int (x2 - (10 : Int32))]) (rest := []) (r := some (.int (b2i (f_X0_isTold 8 (x2 - (10 : Int32)) s)))) (σ1 := s) rfl rfl ⟨rfl, rfl, rfl, rfl, rfl⟩ rfl ((t_X0_isTold_8 rfl).up (by decide)) ?_
    rcases wk_ife h with ⟨hc, h⟩ | ⟨hc, h⟩
    · refine wk_H0t 19 rfl (wk_zne.2 hc) ?_
      refine wk_Hs 1 20 ⟨rfl, rfl⟩ (ls' := [.ref 0, .int x1, .int x2, wk_U, wk_U]) (st' := [.int (1 : Int32)]) (σ' := s) rfl ?_
      refine wk_Hgoto (t := 22) rfl ?_
      exact tj_j_X11_tried_22 h hk
    · refine wk_H0f 19 12 rfl rfl (wk_nf wk_zne hc) ?_
      refine wk_Hs 5 17 ⟨rfl, rfl⟩ (ls' := [.ref 0, .int x1, .int x2, wk_U, wk_U]) (st' := [.int (x2 - (20 : Int32)), .ref 8]) (σ' := s) rfl ?_
      refine wk_Hcall (i2 := 18) (args := [.ref 8, .int (x2 - (20 : Int32))]) (rest := []) (r := some (.int (b2i (f_X0_isTold 8 (x2 - (20 : Int32)) s)))) (σ1 := s) rfl rfl ⟨rfl, rfl, rfl, rfl, rfl⟩ rfl ((t_X0_isTold_8 rfl).up (by decide)) ?_
      rcases wk_ife h with ⟨hc, h⟩ | ⟨hc, h⟩
      · refine wk_H0t 21 rfl (wk_zeq.2 hc) ?_
        refine wk_Hs 1 22 ⟨rfl, rfl⟩ (ls' := [.ref 0, .int x1, .int x2, wk_U, wk_U]) (st' := [.int (0 : Int32)]) (σ' := s) rfl ?_
        exact tj_j_X11_tried_22 h hk
      · refine wk_H0f 21 19 rfl rfl (wk_nf wk_zeq hc) ?_
        refine wk_Hs 1 20 ⟨rfl, rfl⟩ (ls' := [.ref 0, .int x1, .int x2, wk_U, wk_U]) (st' := [.int (1 : Int32)]) (σ' := s) rfl ?_
        refine wk_Hgoto (t := 22) rfl ?_
        exact tj_j_X11_tried_22 h hk
set_option maxHeartbeats 4000000 in
set_option maxRecDepth 20000 in
theorem t_X11_knightIs {x1 : Int32} {x2 : Int32} {s : wk_St} {r : Int32} (h : f_X11_knightIs x1 x2 s = some r) : wk_T wk_shC 2 11 [.ref 0, .int x1, .int x2] s (some (.int r), s) := by
  suffices H : ∀ z, z = (some (.int r), s) → wk_H wk_shC 2 mc_X11_knightIs 0 [.ref 0, .int x1, .int x2] [] s z from H _ rfl
  intro z hk
  dsimp only [f_X11_knightIs] at h
  refine wk_Hs 3 3 ⟨rfl, rfl⟩ (ls' := [.ref 0, .int x1, .int x2]) (st' := [.int x1, .ref 8]) (σ' := s) rfl ?_
  refine wk_Hcall (i2 := 4) (args := [.ref 8, .int x1]) (rest := []) (r := some (.int (b2i (f_X0_isTold 8 x1 s)))) (σ1 := s) rfl rfl ⟨rfl, rfl, rfl, rfl, rfl⟩ rfl ((t_X0_isTold_8 rfl).up (by decide)) ?_
  rcases wk_ife h with ⟨hc, h⟩ | ⟨hc, h⟩
  · refine wk_H0t 7 rfl (wk_zne.2 hc) ?_
    refine wk_Hs 1 8 ⟨rfl, rfl⟩ (ls' := [.ref 0, .int x1, .int x2]) (st' := [.int x2]) (σ' := s) rfl ?_
    rcases wk_ife h with ⟨hc0, h⟩ | ⟨hc0, h⟩
    · refine wk_Hts (t := 9) rfl (wk_tswE hc0 (by decide)) ?_
      refine wk_Hs 3 12 ⟨rfl, rfl⟩ (ls' := [.ref 0, .int x1, .int x2]) (st' := [.int x1, .ref 8]) (σ' := s) rfl ?_
      obtain ⟨v2, hv2, h⟩ := wk_bindE h
      refine wk_Hcall (i2 := 13) (args := [.ref 8, .int x1]) (rest := []) (r := some (.int v2)) (σ1 := s) rfl rfl ⟨rfl, rfl, rfl, rfl, rfl⟩ rfl ((t_X0_placeOf_8 hv2).up (by decide)) ?_
      cases h
      exact wk_eqz hk (wk_Hret rfl)
    rcases wk_ife h with ⟨hc1, h⟩ | ⟨hc1, h⟩
    · refine wk_Hts (t := 14) rfl (wk_tswE hc1 (by decide)) ?_
      refine wk_Hs 3 17 ⟨rfl, rfl⟩ (ls' := [.ref 0, .int x1, .int x2]) (st' := [.int x1, .ref 8]) (σ' := s) rfl ?_
      obtain ⟨v3, hv3, h⟩ := wk_bindE h
      refine wk_Hcall (i2 := 18) (args := [.ref 8, .int x1]) (rest := []) (r := some (.int v3)) (σ1 := s) rfl rfl ⟨rfl, rfl, rfl, rfl, rfl⟩ rfl ((t_X0_wolfDaysOf_8 hv3).up (by decide)) ?_
      cases h
      exact wk_eqz hk (wk_Hret rfl)
    rcases wk_ife h with ⟨hc2, h⟩ | ⟨hc2, h⟩
    · refine wk_Hts (t := 19) rfl (wk_tswE hc2 (by decide)) ?_
      refine wk_Hs 3 22 ⟨rfl, rfl⟩ (ls' := [.ref 0, .int x1, .int x2]) (st' := [.int x1, .ref 8]) (σ' := s) rfl ?_
      obtain ⟨v4, hv4, h⟩ := wk_bindE h
      refine wk_Hcall (i2 := 23) (args := [.ref 8, .int x1]) (rest := []) (r := some (.int v4)) (σ1 := s) rfl rfl ⟨rfl, rfl, rfl, rfl, rfl⟩ rfl ((t_X0_kindOf_8 hv4).up (by decide)) ?_
      cases h
      exact wk_eqz hk (wk_Hret rfl)
    rcases wk_ife h with ⟨hc3, h⟩ | ⟨hc3, h⟩
    · refine wk_Hts (t := 24) rfl (wk_tswE hc3 (by decide)) ?_
      refine wk_Hs 3 27 ⟨rfl, rfl⟩ (ls' := [.ref 0, .int x1, .int x2]) (st' := [.int x1, .ref 8]) (σ' := s) rfl ?_
      obtain ⟨v5, hv5, h⟩ := wk_bindE h
      refine wk_Hcall (i2 := 28) (args := [.ref 8, .int x1]) (rest := []) (r := some (.int v5)) (σ1 := s) rfl rfl ⟨rfl, rfl, rfl, rfl, rfl⟩ rfl ((t_X0_clothesOf_8 hv5).up (by decide)) ?_
      cases h
      exact wk_eqz hk (wk_Hret rfl)
    rcases wk_ife h with ⟨hc4, h⟩ | ⟨hc4, h⟩
    · refine wk_Hts (t := 29) rfl (wk_tswE hc4 (by decide)) ?_
      refine wk_Hs 5 34 ⟨rfl, rfl⟩ (ls' := [.ref 0, .int x1, .int x2]) (st' := [.int x1, .ref 8, .ref 3]) (σ' := s) rfl ?_
      obtain ⟨v6, hv6, h⟩ := wk_bindE h
      refine wk_Hcall (i2 := 35) (args := [.ref 8, .int x1]) (rest := [.ref 3]) (r := some (.int v6)) (σ1 := s) rfl rfl ⟨rfl, rfl, rfl, rfl, rfl⟩ rfl ((t_X0_placeOf_8 hv6).up (by decide)) ?_
      refine wk_Hs 3 38 ⟨rfl, rfl⟩ (ls' := [.ref 0, .int x1, .int x2]) (st' := [.int x1, .ref 8, .int v6, .ref 3]) (σ' := s) rfl ?_
      obtain ⟨v7, hv7, h⟩ := wk_bindE h
      refine wk_Hcall (i2 := 39) (args := [.ref 8, .int x1]) (rest := [.int v6, .ref 3]) (r := some (.int v7)) (σ1 := s) rfl rfl ⟨rfl, rfl, rfl, rfl, rfl⟩ rfl ((t_X0_clothesOf_8 hv7).up (by decide)) ?_
      obtain ⟨v8, hv8, h⟩ := wk_bindE h
      refine wk_Hcall (i2 := 40) (args := [.ref 3, .int v6, .int v7]) (rest := []) (r := some (.int v8)) (σ1 := s) rfl rfl ⟨rfl, rfl, rfl, rfl, rfl⟩ rfl ((t_X2_stepsBetween hv8).up (by decide)) ?_
      cases h
      exact wk_eqz hk (wk_Hret rfl)
    refine wk_Hts (t := 41) rfl (wk_tswD (L := [0, 1, 2, 3, 4]) (by decide) (List.forall_mem_cons.2 ⟨wk_nt hc0 (by decide), (List.forall_mem_cons.2 ⟨wk_nt hc1 (by decide), (List.forall_mem_cons.2 ⟨wk_nt hc2 (by decide), (List.forall_mem_cons.2 ⟨wk_nt hc3 (by decide), (List.forall_mem_cons.2 ⟨wk_nt hc4 (by decide), (fun _ hq => absurd hq List.not_mem_nil)⟩)⟩)⟩)⟩)⟩)) ?_
    refine wk_Hs 1 42 ⟨rfl, rfl⟩ (ls' := [.ref 0, .int x1, .int x2]) (st' := [.int (-1 : Int32)]) (σ' := s) rfl ?_
    cases h
    exact wk_eqz hk (wk_Hret rfl)
  · refine wk_H0f 7 5 rfl rfl (wk_nf wk_zne hc) ?_
    refine wk_Hs 1 6 ⟨rfl, rfl⟩ (ls' := [.ref 0, .int x1, .int x2]) (st' := [.int (-1 : Int32)]) (σ' := s) rfl ?_
    cases h
    exact wk_eqz hk (wk_Hret rfl)
set_option maxHeartbeats 4000000 in
set_option maxRecDepth 20000 in
theorem t_X11_hunted {x1 : Int32} {x2 : Int32} {s : wk_St} {r : Int32} (h : f_X11_hunted x1 x2 s = some r) : wk_T wk_shC 2 12 [.ref 0, .int x1, .int x2] s (some (.int r), s) := by
  suffices H : ∀ z, z = (some (.int r), s) → wk_H wk_shC 2 mc_X11_hunted 0 [.ref 0, .int x1, .int x2] [] s z from H _ rfl
  intro z hk
  dsimp only [f_X11_hunted] at h
  refine wk_Hs 3 3 ⟨rfl, rfl⟩ (ls' := [.ref 0, .int x1, .int x2]) (st' := [.int (11 : Int32), .int (0 : Int32), .int x1]) (σ' := s) rfl ?_
  refine wk_Hcall (i2 := 4) (args := [.int x1, .int (0 : Int32), .int (11 : Int32)]) (rest := []) (r := some (.int (b2i (f_X11_isWithin x1 (0 : Int32) (11 : Int32))))) (σ1 := s) rfl rfl ⟨rfl, rfl, rfl, rfl, rfl⟩ rfl ((t_X11_isWithin rfl).up (by decide)) ?_
  rcases wk_ife h with ⟨hc, h⟩ | ⟨hc, h⟩
  · refine wk_H0t 10 rfl (wk_zeq.2 hc) ?_
    refine wk_Hs 1 11 ⟨rfl, rfl⟩ (ls' := [.ref 0, .int x1, .int x2]) (st' := [.int (-1 : Int32)]) (σ' := s) rfl ?_
    cases h
    exact wk_eqz hk (wk_Hret rfl)
  · refine wk_H0f 10 5 rfl rfl (wk_nf wk_zeq hc) ?_
    refine wk_Hs 3 8 ⟨rfl, rfl⟩ (ls' := [.ref 0, .int x1, .int x2]) (st' := [.int (9999 : Int32), .int (0 : Int32), .int x2]) (σ' := s) rfl ?_
    refine wk_Hcall (i2 := 9) (args := [.int x2, .int (0 : Int32), .int (9999 : Int32)]) (rest := []) (r := some (.int (b2i (f_X11_isWithin x2 (0 : Int32) (9999 : Int32))))) (σ1 := s) rfl rfl ⟨rfl, rfl, rfl, rfl, rfl⟩ rfl ((t_X11_isWithin rfl).up (by decide)) ?_
    rcases wk_ife h with ⟨hc, h⟩ | ⟨hc, h⟩
    · refine wk_H0t 12 rfl (wk_zne.2 hc) ?_
      refine wk_Hs 8 20 ⟨rfl, rfl⟩ (ls' := [.ref 0, .int x1, .int x2]) (st' := [.int ((s.1 8 5) + x2), .int x1, .ref 3]) (σ' := s) rfl ?_
      obtain ⟨v3, hv3, h⟩ := wk_bindE h
      refine wk_Hcall (i2 := 21) (args := [.ref 3, .int x1, .int ((s.1 8 5) + x2)]) (rest := []) (r := some (.int (b2i v3))) (σ1 := s) rfl rfl ⟨rfl, rfl, rfl, rfl, rfl⟩ rfl ((t_X2_isHunted hv3).up (by decide)) ?_
      rcases wk_ife h with ⟨hc, h⟩ | ⟨hc, h⟩
      · refine wk_H0t 24 rfl (wk_zeq.2 hc) ?_
        refine wk_Hs 1 25 ⟨rfl, rfl⟩ (ls' := [.ref 0, .int x1, .int x2]) (st' := [.int (0 : Int32)]) (σ' := s) rfl ?_
        cases h
        exact wk_eqz hk (wk_Hret rfl)
      · refine wk_H0f 24 22 rfl rfl (wk_nf wk_zeq hc) ?_
        refine wk_Hs 1 23 ⟨rfl, rfl⟩ (ls' := [.ref 0, .int x1, .int x2]) (st' := [.int (1 : Int32)]) (σ' := s) rfl ?_
        refine wk_Hgoto (t := 25) rfl ?_
        cases h
        exact wk_eqz hk (wk_Hret rfl)
    · refine wk_H0f 12 10 rfl rfl (wk_nf wk_zne hc) ?_
      refine wk_Hs 1 11 ⟨rfl, rfl⟩ (ls' := [.ref 0, .int x1, .int x2]) (st' := [.int (-1 : Int32)]) (σ' := s) rfl ?_
      cases h
      exact wk_eqz hk (wk_Hret rfl)
set_option maxHeartbeats 4000000 in
set_option maxRecDepth 20000 in
theorem t_X11_likes {x1 : Int32} {x2 : Int32} {s : wk_St} {r : Int32 × wk_St} (h : f_X11_likes x1 x2 s = some r) : wk_T wk_shC 4 13 [.ref 0, .int x1, .int x2] s (some (.int r.1), r.2) := by
  suffices H : ∀ z, z = (some (.int r.1), r.2) → wk_H wk_shC 4 mc_X11_likes 0 [.ref 0, .int x1, .int x2] [] s z from H _ rfl
  intro z hk
  dsimp only [f_X11_likes] at h
  refine wk_Hs 3 3 ⟨rfl, rfl⟩ (ls' := [.ref 0, .int x1, .int x2]) (st' := [.int x1, .ref 8]) (σ' := s) rfl ?_
  obtain ⟨v1, hv1, h⟩ := wk_bindE h
  refine wk_Hcall (i2 := 4) (args := [.ref 8, .int x1]) (rest := []) (r := some (.int (b2i v1))) (σ1 := s) rfl rfl ⟨rfl, rfl, rfl, rfl, rfl⟩ rfl ((t_X0_isLiving_8 hv1).up (by decide)) ?_
  rcases wk_ife h with ⟨hc, h⟩ | ⟨hc, h⟩
  · refine wk_H0t 10 rfl (wk_zeq.2 hc) ?_
    refine wk_Hs 1 11 ⟨rfl, rfl⟩ (ls' := [.ref 0, .int x1, .int x2]) (st' := [.int (-1 : Int32)]) (σ' := s) rfl ?_
    cases h
    exact wk_eqz hk (wk_Hret rfl)
  · refine wk_H0f 10 5 rfl rfl (wk_nf wk_zeq hc) ?_
    refine wk_Hs 3 8 ⟨rfl, rfl⟩ (ls' := [.ref 0, .int x1, .int x2]) (st' := [.int x2, .ref 3]) (σ' := s) rfl ?_
    refine wk_Hcall (i2 := 9) (args := [.ref 3, .int x2]) (rest := []) (r := some (.int (b2i (f_X2_isTold x2 s)))) (σ1 := s) rfl rfl ⟨rfl, rfl, rfl, rfl, rfl⟩ rfl ((t_X2_isTold rfl).up (by decide)) ?_
    rcases wk_ife h with ⟨hc, h⟩ | ⟨hc, h⟩
    · refine wk_H0t 12 rfl (wk_zne.2 hc) ?_
      refine wk_Hs 10 22 ⟨rfl, rfl⟩ (ls' := [.ref 0, .int x1, .int x2]) (st' := [.ref 8, .ref 37, .ref 3, .int x2, .int x1, .ref 23]) (σ' := s) rfl ?_
      obtain ⟨v3, hv3, h⟩ := wk_bindE h
      refine wk_Hcall (i2 := 23) (args := [.ref 23, .int x1, .int x2, .ref 3, .ref 37, .ref 8]) (rest := []) (r := some (.int v3.1)) (σ1 := v3.2) rfl rfl ⟨rfl, rfl, rfl, rfl, rfl⟩ rfl ((t_X10_liking_8 hv3).up (by decide)) ?_
      cases h
      exact wk_eqz hk (wk_Hret rfl)
    · refine wk_H0f 12 10 rfl rfl (wk_nf wk_zne hc) ?_
      refine wk_Hs 1 11 ⟨rfl, rfl⟩ (ls' := [.ref 0, .int x1, .int x2]) (st' := [.int (-1 : Int32)]) (σ' := s) rfl ?_
      cases h
      exact wk_eqz hk (wk_Hret rfl)
set_option maxHeartbeats 4000000 in
set_option maxRecDepth 20000 in
theorem ts_S_X11_manAgain_27 {x1 : Int32} {x2 : Int32} {x3 : Int32} {s : wk_St} {z : wk_R} {o : ((Int32 × wk_St) ⊕ (wk_St)) ⊕ (Int32 × wk_St)} (h : S_X11_manAgain_27 x1 x2 (x3, s) = some o) (hk : match (generalizing := false) o with | Sum.inl a => (match (generalizing := false) a with | Sum.inl r => z = (some (.int r.1), r.2) | Sum.inr y => ∀ (u3 : Value), wk_H wk_shC 7 mc_X11_manAgain 48 [.ref 0, .int x1, .int x2, u3] [] y z) | Sum.inr y => wk_H wk_shC 7 mc_X11_manAgain 27 [.ref 0, .int x1, .int x2, .int y.1] [] y.2 z) : wk_H wk_shC 7 mc_X11_manAgain 27 [.ref 0, .int x1, .int x2, .int x3] [] s z := by
  dsimp only [S_X11_manAgain_27] at h
  refine wk_Hs 2 29 ⟨rfl, rfl⟩ (ls' := [.ref 0, .int x1, .int x2, .int x3]) (st' := [.int x2, .int x3]) (σ' := s) rfl ?_
  rcases wk_ife h with ⟨hc, h⟩ | ⟨hc, h⟩
  · refine wk_Hbt 48 rfl (wk_cgt.2 hc) ?_
    cases h
    exact hk _
  · refine wk_Hbf 48 30 rfl rfl (wk_nf wk_cgt hc) ?_
    refine wk_Hs 8 38 ⟨rfl, rfl⟩ (ls' := [.ref 0, .int x1, .int x2, .int x3]) (st' := [.ref 18, .ref 37, .ref 3, .ref 23]) (σ' := s) rfl ?_
    obtain ⟨v5, hv5, h⟩ := wk_bindE h
    refine wk_Hcall (i2 := 39) (args := [.ref 23, .ref 3, .ref 37, .ref 18]) (rest := []) (r := none) (σ1 := v5) rfl rfl ⟨rfl, rfl, rfl, rfl, rfl⟩ rfl ((t_X10_goDay_18 hv5).up (by decide)) ?_
    refine wk_Hs 3 42 ⟨rfl, rfl⟩ (ls' := [.ref 0, .int x1, .int x2, .int x3]) (st' := [.int x1, .ref 18]) (σ' := v5) rfl ?_
    obtain ⟨v6, hv6, h⟩ := wk_bindE h
    refine wk_Hcall (i2 := 43) (args := [.ref 18, .int x1]) (rest := []) (r := some (.int v6)) (σ1 := v5) rfl rfl ⟨rfl, rfl, rfl, rfl, rfl⟩ rfl ((t_X0_kindOf_18 hv6).up (by decide)) ?_
    rcases wk_ife h with ⟨hc, h⟩ | ⟨hc, h⟩
    · refine wk_H0t 46 rfl (wk_cne.2 hc) ?_
      refine wk_Hs 1 47 ⟨rfl, rfl⟩ (ls' := [.ref 0, .int x1, .int x2, .int (x3 + (1 : Int32))]) (st' := []) (σ' := v5) rfl ?_
      refine wk_Hgoto (t := 27) rfl ?_
      cases h
      exact hk
    · refine wk_H0f 46 44 rfl rfl (wk_nf wk_cne hc) ?_
      refine wk_Hs 1 45 ⟨rfl, rfl⟩ (ls' := [.ref 0, .int x1, .int x2, .int x3]) (st' := [.int x3]) (σ' := v5) rfl ?_
      cases h
      exact wk_eqz hk (wk_Hret rfl)
set_option maxHeartbeats 4000000 in
set_option maxRecDepth 20000 in
theorem tl_S_X11_manAgain_27 {x1 : Int32} {x2 : Int32} {z : wk_R} (n : Nat) : ∀ {x3 : Int32} {s : wk_St} {a : (Int32 × wk_St) ⊕ (wk_St)} (h : wk_loop (S_X11_manAgain_27 x1 x2) n (x3, s) = some a) (hk : match (generalizing := false) a with | Sum.inl r => z = (some (.int r.1), r.2) | Sum.inr y => ∀ (u3 : Value), wk_H wk_shC 7 mc_X11_manAgain 48 [.ref 0, .int x1, .int x2, u3] [] y z), wk_H wk_shC 7 mc_X11_manAgain 27 [.ref 0, .int x1, .int x2, .int x3] [] s z := by
  induction n with
  | zero =>
    intros
    rename_i h _
    exact nomatch (show (none : Option _) = some _ from h)
  | succ n ih =>
    intros
    rename_i h hk
    obtain ⟨o, ho, h⟩ := wk_bindE (show Option.bind _ _ = some _ from h)
    refine ts_S_X11_manAgain_27 ho ?_
    cases o with
    | inl a1 =>
      cases h
      exact hk
    | inr p =>
      obtain ⟨p0, p1⟩ := p
      exact ih h hk
set_option maxHeartbeats 4000000 in
set_option maxRecDepth 20000 in
theorem t_X11_manAgain {x1 : Int32} {x2 : Int32} {s : wk_St} {r : Int32 × wk_St} (h : f_X11_manAgain x1 x2 s = some r) : wk_T wk_shC 7 14 [.ref 0, .int x1, .int x2] s (some (.int r.1), r.2) := by
  suffices H : ∀ z, z = (some (.int r.1), r.2) → wk_H wk_shC 7 mc_X11_manAgain 0 [.ref 0, .int x1, .int x2, wk_U] [] s z from H _ rfl
  intro z hk
  dsimp only [f_X11_manAgain] at h
  refine wk_Hs 3 3 ⟨rfl, rfl⟩ (ls' := [.ref 0, .int x1, .int x2, wk_U]) (st' := [.int x1, .ref 8]) (σ' := s) rfl ?_
  refine wk_Hcall (i2 := 4) (args := [.ref 8, .int x1]) (rest := []) (r := some (.int (b2i (f_X0_isTold 8 x1 s)))) (σ1 := s) rfl rfl ⟨rfl, rfl, rfl, rfl, rfl⟩ rfl ((t_X0_isTold_8 rfl).up (by decide)) ?_
  rcases wk_ife h with ⟨hc, h⟩ | ⟨hc, h⟩
  · refine wk_H0t 10 rfl (wk_zeq.2 hc) ?_
    refine wk_Hs 1 11 ⟨rfl, rfl⟩ (ls' := [.ref 0, .int x1, .int x2, wk_U]) (st' := [.int (-1 : Int32)]) (σ' := s) rfl ?_
    cases h
    exact wk_eqz hk (wk_Hret rfl)
  · refine wk_H0f 10 5 rfl rfl (wk_nf wk_zeq hc) ?_
    refine wk_Hs 3 8 ⟨rfl, rfl⟩ (ls' := [.ref 0, .int x1, .int x2, wk_U]) (st' := [.int (240 : Int32), .int (1 : Int32), .int x2]) (σ' := s) rfl ?_
    refine wk_Hcall (i2 := 9) (args := [.int x2, .int (1 : Int32), .int (240 : Int32)]) (rest := []) (r := some (.int (b2i (f_X11_isWithin x2 (1 : Int32) (240 : Int32))))) (σ1 := s) rfl rfl ⟨rfl, rfl, rfl, rfl, rfl⟩ rfl ((t_X11_isWithin rfl).up (by decide)) ?_
    rcases wk_ife h with ⟨hc, h⟩ | ⟨hc, h⟩
    · refine wk_H0t 12 rfl (wk_zne.2 hc) ?_
      refine wk_Hs 3 15 ⟨rfl, rfl⟩ (ls' := [.ref 0, .int x1, .int x2, wk_U]) (st' := [.int x1, .ref 8]) (σ' := s) rfl ?_
      obtain ⟨v3, hv3, h⟩ := wk_bindE h
      refine wk_Hcall (i2 := 16) (args := [.ref 8, .int x1]) (rest := []) (r := some (.int v3)) (σ1 := s) rfl rfl ⟨rfl, rfl, rfl, rfl, rfl⟩ rfl ((t_X0_kindOf_8 hv3).up (by decide)) ?_
      refine wk_Hs 1 17 ⟨rfl, rfl⟩ (ls' := [.ref 0, .int x1, .int x2, wk_U]) (st' := [.int (1 : Int32), .int v3]) (σ' := s) rfl ?_
      rcases wk_ife h with ⟨hc, h⟩ | ⟨hc, h⟩
      · refine wk_Hbt 20 rfl (wk_ceq.2 hc) ?_
        refine wk_Hs 4 24 ⟨rfl, rfl⟩ (ls' := [.ref 0, .int x1, .int x2, wk_U]) (st' := [.ref 8, .ref 18]) (σ' := s) rfl ?_
        obtain ⟨v4, hv4, h⟩ := wk_bindE h
        refine wk_Hcall (i2 := 25) (args := [.ref 18, .ref 8]) (rest := []) (r := none) (σ1 := v4) rfl rfl ⟨rfl, rfl, rfl, rfl, rfl⟩ rfl ((t_X0_copyFrom_18_8 hv4).up (by decide)) ?_
        refine wk_Hs 2 27 ⟨rfl, rfl⟩ (ls' := [.ref 0, .int x1, .int x2, .int (1 : Int32)]) (st' := []) (σ' := v4) rfl ?_
        obtain ⟨v7, hv7, h⟩ := wk_bindE h
        rcases v7 with v7r | v7
        · cases h
          exact tl_S_X11_manAgain_27 wk_F hv7 hk
        · refine tl_S_X11_manAgain_27 wk_F hv7 ?_
          intro g8
          dsimp only at h ⊢
          refine wk_Hs 1 49 ⟨rfl, rfl⟩ (ls' := [.ref 0, .int x1, .int x2, g8]) (st' := [.int (-2 : Int32)]) (σ' := v7) rfl ?_
          cases h
          exact wk_eqz hk (wk_Hret rfl)
      · refine wk_Hbf 20 18 rfl rfl (wk_nf wk_ceq hc) ?_
        refine wk_Hs 1 19 ⟨rfl, rfl⟩ (ls' := [.ref 0, .int x1, .int x2, wk_U]) (st' := [.int (-3 : Int32)]) (σ' := s) rfl ?_
        cases h
        exact wk_eqz hk (wk_Hret rfl)
    · refine wk_H0f 12 10 rfl rfl (wk_nf wk_zne hc) ?_
      refine wk_Hs 1 11 ⟨rfl, rfl⟩ (ls' := [.ref 0, .int x1, .int x2, wk_U]) (st' := [.int (-1 : Int32)]) (σ' := s) rfl ?_
      cases h
      exact wk_eqz hk (wk_Hret rfl)
set_option maxHeartbeats 4000000 in
set_option maxRecDepth 20000 in
theorem ts_S_X11_deadFirst_22 {x1 : Int32} {x2 : Int32} {x3 : Int32} {s : wk_St} {z : wk_R} {o : ((Int32 × wk_St) ⊕ (wk_St)) ⊕ (Int32 × wk_St)} (h : S_X11_deadFirst_22 x1 x2 (x3, s) = some o) (hk : match (generalizing := false) o with | Sum.inl a => (match (generalizing := false) a with | Sum.inl r => z = (some (.int r.1), r.2) | Sum.inr y => ∀ (u3 : Value), wk_H wk_shC 7 mc_X11_deadFirst 48 [.ref 0, .int x1, .int x2, u3] [] y z) | Sum.inr y => wk_H wk_shC 7 mc_X11_deadFirst 22 [.ref 0, .int x1, .int x2, .int y.1] [] y.2 z) : wk_H wk_shC 7 mc_X11_deadFirst 22 [.ref 0, .int x1, .int x2, .int x3] [] s z := by
  dsimp only [S_X11_deadFirst_22] at h
  refine wk_Hs 2 24 ⟨rfl, rfl⟩ (ls' := [.ref 0, .int x1, .int x2, .int x3]) (st' := [.int x1, .int x3]) (σ' := s) rfl ?_
  rcases wk_ife h with ⟨hc, h⟩ | ⟨hc, h⟩
  · refine wk_Hbt 48 rfl (wk_cgt.2 hc) ?_
    cases h
    exact hk _
  · refine wk_Hbf 48 25 rfl rfl (wk_nf wk_cgt hc) ?_
    refine wk_Hs 8 33 ⟨rfl, rfl⟩ (ls' := [.ref 0, .int x1, .int x2, .int x3]) (st' := [.ref 18, .ref 37, .ref 3, .ref 23]) (σ' := s) rfl ?_
    obtain ⟨v5, hv5, h⟩ := wk_bindE h
    refine wk_Hcall (i2 := 34) (args := [.ref 23, .ref 3, .ref 37, .ref 18]) (rest := []) (r := none) (σ1 := v5) rfl rfl ⟨rfl, rfl, rfl, rfl, rfl⟩ rfl ((t_X10_goDay_18 hv5).up (by decide)) ?_
    refine wk_Hs 3 37 ⟨rfl, rfl⟩ (ls' := [.ref 0, .int x1, .int x2, .int x3]) (st' := [.int (v5.1 23 1)]) (σ' := v5) rfl ?_
    rcases wk_ife h with ⟨hc, h⟩ | ⟨hc, h⟩
    · refine wk_H0t 46 rfl (wk_cle.2 hc) ?_
      refine wk_Hs 1 47 ⟨rfl, rfl⟩ (ls' := [.ref 0, .int x1, .int x2, .int (x3 + (1 : Int32))]) (st' := []) (σ' := v5) rfl ?_
      refine wk_Hgoto (t := 22) rfl ?_
      cases h
      exact hk
    · refine wk_H0f 46 38 rfl rfl (wk_nf wk_cle hc) ?_
      refine wk_Hs 1 39 ⟨rfl, rfl⟩ (ls' := [.ref 0, .int x1, .int x2, .int x3]) (st' := [.int x2]) (σ' := v5) rfl ?_
      rcases wk_ife h with ⟨hc, h⟩ | ⟨hc, h⟩
      · refine wk_H0t 44 rfl (wk_cne.2 hc) ?_
        refine wk_Hs 1 45 ⟨rfl, rfl⟩ (ls' := [.ref 0, .int x1, .int x2, .int x3]) (st' := [.int x3]) (σ' := v5) rfl ?_
        cases h
        exact wk_eqz hk (wk_Hret rfl)
      · refine wk_H0f 44 40 rfl rfl (wk_nf wk_cne hc) ?_
        refine wk_Hs 3 43 ⟨rfl, rfl⟩ (ls' := [.ref 0, .int x1, .int x2, .int x3]) (st' := [.int (v5.1 23 5)]) (σ' := v5) rfl ?_
        refine wk_Hgoto (t := 45) rfl ?_
        cases h
        exact wk_eqz hk (wk_Hret rfl)
set_option maxHeartbeats 4000000 in
set_option maxRecDepth 20000 in
theorem tl_S_X11_deadFirst_22 {x1 : Int32} {x2 : Int32} {z : wk_R} (n : Nat) : ∀ {x3 : Int32} {s : wk_St} {a : (Int32 × wk_St) ⊕ (wk_St)} (h : wk_loop (S_X11_deadFirst_22 x1 x2) n (x3, s) = some a) (hk : match (generalizing := false) a with | Sum.inl r => z = (some (.int r.1), r.2) | Sum.inr y => ∀ (u3 : Value), wk_H wk_shC 7 mc_X11_deadFirst 48 [.ref 0, .int x1, .int x2, u3] [] y z), wk_H wk_shC 7 mc_X11_deadFirst 22 [.ref 0, .int x1, .int x2, .int x3] [] s z := by
  induction n with
  | zero =>
    intros
    rename_i h _
    exact nomatch (show (none : Option _) = some _ from h)
  | succ n ih =>
    intros
    rename_i h hk
    obtain ⟨o, ho, h⟩ := wk_bindE (show Option.bind _ _ = some _ from h)
    refine ts_S_X11_deadFirst_22 ho ?_
    cases o with
    | inl a1 =>
      cases h
      exact hk
    | inr p =>
      obtain ⟨p0, p1⟩ := p
      exact ih h hk
set_option maxHeartbeats 4000000 in
set_option maxRecDepth 20000 in
theorem t_X11_deadFirst {x1 : Int32} {x2 : Int32} {s : wk_St} {r : Int32 × wk_St} (h : f_X11_deadFirst x1 x2 s = some r) : wk_T wk_shC 7 15 [.ref 0, .int x1, .int x2] s (some (.int r.1), r.2) := by
  suffices H : ∀ z, z = (some (.int r.1), r.2) → wk_H wk_shC 7 mc_X11_deadFirst 0 [.ref 0, .int x1, .int x2, wk_U] [] s z from H _ rfl
  intro z hk
  dsimp only [f_X11_deadFirst] at h
  refine wk_Hs 3 3 ⟨rfl, rfl⟩ (ls' := [.ref 0, .int x1, .int x2, wk_U]) (st' := [.int (240 : Int32), .int (1 : Int32), .int x1]) (σ' := s) rfl ?_
  refine wk_Hcall (i2 := 4) (args := [.int x1, .int (1 : Int32), .int (240 : Int32)]) (rest := []) (r := some (.int (b2i (f_X11_isWithin x1 (1 : Int32) (240 : Int32))))) (σ1 := s) rfl rfl ⟨rfl, rfl, rfl, rfl, rfl⟩ rfl ((t_X11_isWithin rfl).up (by decide)) ?_
  rcases wk_ife h with ⟨hc, h⟩ | ⟨hc, h⟩
  · refine wk_H0t 10 rfl (wk_zeq.2 hc) ?_
    refine wk_Hs 1 11 ⟨rfl, rfl⟩ (ls' := [.ref 0, .int x1, .int x2, wk_U]) (st' := [.int (-1 : Int32)]) (σ' := s) rfl ?_
    cases h
    exact wk_eqz hk (wk_Hret rfl)
  · refine wk_H0f 10 5 rfl rfl (wk_nf wk_zeq hc) ?_
    refine wk_Hs 3 8 ⟨rfl, rfl⟩ (ls' := [.ref 0, .int x1, .int x2, wk_U]) (st' := [.int (1 : Int32), .int (0 : Int32), .int x2]) (σ' := s) rfl ?_
    refine wk_Hcall (i2 := 9) (args := [.int x2, .int (0 : Int32), .int (1 : Int32)]) (rest := []) (r := some (.int (b2i (f_X11_isWithin x2 (0 : Int32) (1 : Int32))))) (σ1 := s) rfl rfl ⟨rfl, rfl, rfl, rfl, rfl⟩ rfl ((t_X11_isWithin rfl).up (by decide)) ?_
    rcases wk_ife h with ⟨hc, h⟩ | ⟨hc, h⟩
    · refine wk_H0t 12 rfl (wk_zne.2 hc) ?_
      refine wk_Hs 4 16 ⟨rfl, rfl⟩ (ls' := [.ref 0, .int x1, .int x2, wk_U]) (st' := [.ref 8, .ref 18]) (σ' := s) rfl ?_
      obtain ⟨v3, hv3, h⟩ := wk_bindE h
      refine wk_Hcall (i2 := 17) (args := [.ref 18, .ref 8]) (rest := []) (r := none) (σ1 := v3) rfl rfl ⟨rfl, rfl, rfl, rfl, rfl⟩ rfl ((t_X0_copyFrom_18_8 hv3).up (by decide)) ?_
      refine wk_Hs 2 19 ⟨rfl, rfl⟩ (ls' := [.ref 0, .int x1, .int x2, wk_U]) (st' := [.ref 23]) (σ' := v3) rfl ?_
      replace h := wk_letE h
      refine wk_Hcall (i2 := 20) (args := [.ref 23]) (rest := []) (r := none) (σ1 := (f_X10_forget v3)) rfl rfl ⟨rfl, rfl, rfl, rfl, rfl⟩ rfl ((t_X10_forget rfl).up (by decide)) ?_
      refine wk_Hs 2 22 ⟨rfl, rfl⟩ (ls' := [.ref 0, .int x1, .int x2, .int (1 : Int32)]) (st' := []) (σ' := (f_X10_forget v3)) rfl ?_
      obtain ⟨v6, hv6, h⟩ := wk_bindE h
      rcases v6 with v6r | v6
      · cases h
        exact tl_S_X11_deadFirst_22 wk_F hv6 hk
      · refine tl_S_X11_deadFirst_22 wk_F hv6 ?_
        intro g7
        dsimp only at h ⊢
        refine wk_Hs 1 49 ⟨rfl, rfl⟩ (ls' := [.ref 0, .int x1, .int x2, g7]) (st' := [.int (-2 : Int32)]) (σ' := v6) rfl ?_
        cases h
        exact wk_eqz hk (wk_Hret rfl)
    · refine wk_H0f 12 10 rfl rfl (wk_nf wk_zne hc) ?_
      refine wk_Hs 1 11 ⟨rfl, rfl⟩ (ls' := [.ref 0, .int x1, .int x2, wk_U]) (st' := [.int (-1 : Int32)]) (σ' := s) rfl ?_
      cases h
      exact wk_eqz hk (wk_Hret rfl)
set_option maxHeartbeats 4000000 in
set_option maxRecDepth 20000 in
theorem ts_S_X2_huntedBits_4 {x1 : Int32} {x2 : Int32} {x3 : Int32} {s : wk_St} {z : wk_R} {o : (Int32) ⊕ (Int32 × Int32)} (h : S_X2_huntedBits_4 x1 s (x2, x3) = some o) (hk : match (generalizing := false) o with | Sum.inl a => (∀ (u3 : Value), wk_H wk_shC 2 mc_X2_huntedBits 22 [.ref 3, .int x1, .int a, u3] [] s z) | Sum.inr y => wk_H wk_shC 2 mc_X2_huntedBits 4 [.ref 3, .int x1, .int y.1, .int y.2] [] s z) : wk_H wk_shC 2 mc_X2_huntedBits 4 [.ref 3, .int x1, .int x2, .int x3] [] s z := by
  dsimp only [S_X2_huntedBits_4] at h
  refine wk_Hs 2 6 ⟨rfl, rfl⟩ (ls' := [.ref 3, .int x1, .int x2, .int x3]) (st' := [.int (12 : Int32), .int x3]) (σ' := s) rfl ?_
  rcases wk_ife h with ⟨hc, h⟩ | ⟨hc, h⟩
  · refine wk_Hbt 22 rfl (wk_cge.2 hc) ?_
    cases h
    exact hk _
  · refine wk_Hbf 22 7 rfl rfl (wk_nf wk_cge hc) ?_
    refine wk_Hs 4 11 ⟨rfl, rfl⟩ (ls' := [.ref 3, .int x1, .int x2, .int x3]) (st' := [.int x1, .int x3, .ref 3, .int x2]) (σ' := s) rfl ?_
    obtain ⟨v1, hv1, h⟩ := wk_bindE h
    refine wk_Hcall (i2 := 12) (args := [.ref 3, .int x3, .int x1]) (rest := [.int x2]) (r := some (.int (b2i v1))) (σ1 := s) rfl rfl ⟨rfl, rfl, rfl, rfl, rfl⟩ rfl ((t_X2_isHunted hv1).up (by decide)) ?_
    rcases wk_ife h with ⟨hc, h⟩ | ⟨hc, h⟩
    · refine wk_H0t 17 rfl (wk_zeq.2 hc) ?_
      refine wk_Hs 2 19 ⟨rfl, rfl⟩ (ls' := [.ref 3, .int x1, .int x2, .int x3]) (st' := [.int (x2 ||| (0 : Int32))]) (σ' := s) rfl ?_
      replace h := wk_letE h
      refine wk_Hs 2 21 ⟨rfl, rfl⟩ (ls' := [.ref 3, .int x1, .int (x2 ||| (0 : Int32)), .int (x3 + (1 : Int32))]) (st' := []) (σ' := s) rfl ?_
      refine wk_Hgoto (t := 4) rfl ?_
      cases h
      exact hk
    · refine wk_H0f 17 13 rfl rfl (wk_nf wk_zeq hc) ?_
      refine wk_Hs 3 16 ⟨rfl, rfl⟩ (ls' := [.ref 3, .int x1, .int x2, .int x3]) (st' := [.int ((1 : Int32) <<< (x3 &&& 31)), .int x2]) (σ' := s) rfl ?_
      refine wk_Hgoto (t := 18) rfl ?_
      refine wk_Hs 1 19 ⟨rfl, rfl⟩ (ls' := [.ref 3, .int x1, .int x2, .int x3]) (st' := [.int (x2 ||| ((1 : Int32) <<< (x3 &&& 31)))]) (σ' := s) rfl ?_
      replace h := wk_letE h
      refine wk_Hs 2 21 ⟨rfl, rfl⟩ (ls' := [.ref 3, .int x1, .int (x2 ||| ((1 : Int32) <<< (x3 &&& 31))), .int (x3 + (1 : Int32))]) (st' := []) (σ' := s) rfl ?_
      refine wk_Hgoto (t := 4) rfl ?_
      cases h
      exact hk
set_option maxHeartbeats 4000000 in
set_option maxRecDepth 20000 in
theorem tl_S_X2_huntedBits_4 {x1 : Int32} {s : wk_St} {z : wk_R} (n : Nat) : ∀ {x2 : Int32} {x3 : Int32} {a : Int32} (h : wk_loop (S_X2_huntedBits_4 x1 s) n (x2, x3) = some a) (hk : ∀ (u3 : Value), wk_H wk_shC 2 mc_X2_huntedBits 22 [.ref 3, .int x1, .int a, u3] [] s z), wk_H wk_shC 2 mc_X2_huntedBits 4 [.ref 3, .int x1, .int x2, .int x3] [] s z := by
  induction n with
  | zero =>
    intros
    rename_i h _
    exact nomatch (show (none : Option _) = some _ from h)
  | succ n ih =>
    intros
    rename_i h hk
    obtain ⟨o, ho, h⟩ := wk_bindE (show Option.bind _ _ = some _ from h)
    refine ts_S_X2_huntedBits_4 ho ?_
    cases o with
    | inl a1 =>
      cases h
      exact hk
    | inr p =>
      obtain ⟨p0, p1⟩ := p
      exact ih h hk
set_option maxHeartbeats 4000000 in
set_option maxRecDepth 20000 in
theorem t_X2_huntedBits {x1 : Int32} {s : wk_St} {r : Int32} (h : f_X2_huntedBits x1 s = some r) : wk_T wk_shC 2 183 [.ref 3, .int x1] s (some (.int r), s) := by
  suffices H : ∀ z, z = (some (.int r), s) → wk_H wk_shC 2 mc_X2_huntedBits 0 [.ref 3, .int x1, wk_U, wk_U] [] s z from H _ rfl
  intro z hk
  dsimp only [f_X2_huntedBits] at h
  refine wk_Hs 4 4 ⟨rfl, rfl⟩ (ls' := [.ref 3, .int x1, .int (0 : Int32), .int (0 : Int32)]) (st' := []) (σ' := s) rfl ?_
  obtain ⟨v4, hv4, h⟩ := wk_bindE h
  refine tl_S_X2_huntedBits_4 wk_F hv4 ?_
  intro g5
  refine wk_Hs 1 23 ⟨rfl, rfl⟩ (ls' := [.ref 3, .int x1, .int v4, g5]) (st' := [.int v4]) (σ' := s) rfl ?_
  cases h
  exact wk_eqz hk (wk_Hret rfl)
set_option maxHeartbeats 4000000 in
set_option maxRecDepth 20000 in
theorem ts_S_X9_spreadOut_16 {x4 : Int32} {x5 : Int32} {x6 : Int32} {x7 : Int32} {w1 : Value} {w8 : Value} {s : wk_St} {z : wk_R} {o : ((Int32 × wk_St) ⊕ (wk_St)) ⊕ (Int32 × Int32 × wk_St)} (h : S_X9_spreadOut_16 x4 x5 (x6, x7, s) = some o) (hk : match (generalizing := false) o with | Sum.inl a => (match (generalizing := false) a with | Sum.inl r => z = (some (.int r.1), r.2) | Sum.inr y => ∀ (u6 u7 u8 : Value), wk_H wk_shC 3 mc_X9_spreadOut 57 [.ref 25, w1, .ref 3, .ref 8, .int x4, .int x5, u6, u7, u8] [] y z) | Sum.inr y => ∀ (u8 : Value), wk_H wk_shC 3 mc_X9_spreadOut 16 [.ref 25, w1, .ref 3, .ref 8, .int x4, .int x5, .int y.1, .int y.2.1, u8] [] y.2.2 z) : wk_H wk_shC 3 mc_X9_spreadOut 16 [.ref 25, w1, .ref 3, .ref 8, .int x4, .int x5, .int x6, .int x7, w8] [] s z := by
  dsimp only [S_X9_spreadOut_16] at h
  refine wk_Hs 4 20 ⟨rfl, rfl⟩ (ls' := [.ref 25, w1, .ref 3, .ref 8, .int x4, .int x5, .int x6, .int x7, w8]) (st' := [.int (61 : Int32), .int x7]) (σ' := s) rfl ?_
  rcases wk_ife h with ⟨hc, h⟩ | ⟨hc, h⟩
  · refine wk_Hbt 57 rfl (wk_cge.2 hc) ?_
    cases h
    exact hk _ _ _
  · refine wk_Hbf 57 21 rfl rfl (wk_nf wk_cge hc) ?_
    refine wk_Hs 6 27 ⟨rfl, rfl⟩ (ls' := [.ref 25, w1, .ref 3, .ref 8, .int x4, .int x5, .int x6, .int x7, w8]) (st' := [.int (((s.1 8 5) + x7) - (1 : Int32))]) (σ' := s) rfl ?_
    replace h := wk_letE h
    refine wk_Hs 3 30 ⟨rfl, rfl⟩ (ls' := [.ref 25, w1, .ref 3, .ref 8, .int x4, .int x5, .int x6, .int x7, .int (((s.1 8 5) + x7) - (1 : Int32))]) (st' := [.int x6, .ref 3]) (σ' := s) rfl ?_
    obtain ⟨v6, hv6, h⟩ := wk_bindE h
    refine wk_Hcall (i2 := 31) (args := [.ref 3, .int x6]) (rest := []) (r := some (.int v6)) (σ1 := s) rfl rfl ⟨rfl, rfl, rfl, rfl, rfl⟩ rfl ((t_X2_spread hv6).up (by decide)) ?_
    refine wk_Hs 2 33 ⟨rfl, rfl⟩ (ls' := [.ref 25, w1, .ref 3, .ref 8, .int x4, .int x5, .int x6, .int x7, .int (((s.1 8 5) + x7) - (1 : Int32))]) (st' := [.int (((s.1 8 5) + x7) - (1 : Int32)), .ref 3, .int v6]) (σ' := s) rfl ?_
    obtain ⟨v7, hv7, h⟩ := wk_bindE h
    refine wk_Hcall (i2 := 34) (args := [.ref 3, .int (((s.1 8 5) + x7) - (1 : Int32))]) (rest := [.int v6]) (r := some (.int v7)) (σ1 := s) rfl rfl ⟨rfl, rfl, rfl, rfl, rfl⟩ rfl ((t_X2_huntedBits hv7).up (by decide)) ?_
    refine wk_Hs 3 37 ⟨rfl, rfl⟩ (ls' := [.ref 25, w1, .ref 3, .ref 8, .int x4, .int x5, .int x6, .int x7, .int (((s.1 8 5) + x7) - (1 : Int32))]) (st' := [.int (v6 &&& (v7 ^^^ (-1 : Int32)))]) (σ' := s) rfl ?_
    replace h := wk_letE h
    refine wk_Hs 5 42 ⟨rfl, rfl⟩ (ls' := [.ref 25, w1, .ref 3, .ref 8, .int x4, .int x5, .int (v6 &&& (v7 ^^^ (-1 : Int32))), .int x7, .int (((s.1 8 5) + x7) - (1 : Int32))]) (st' := [.int (v6 &&& (v7 ^^^ (-1 : Int32))), .int x7, .ref 26]) (σ' := s) rfl ?_
    obtain ⟨hg, h⟩ := wk_gdE h
    refine wk_Hias 43 rfl rfl rfl hg rfl ?_
    refine wk_Hs 2 45 ⟨rfl, rfl⟩ (ls' := [.ref 25, w1, .ref 3, .ref 8, .int x4, .int x5, .int (v6 &&& (v7 ^^^ (-1 : Int32))), .int x7, .int (((s.1 8 5) + x7) - (1 : Int32))]) (st' := [.int x4, .int (v6 &&& (v7 ^^^ (-1 : Int32)))]) (σ' := (wk_si s 26 (x7.toNatClampNeg) (v6 &&& (v7 ^^^ (-1 : Int32))))) rfl ?_
    refine wk_Hcall (i2 := 46) (args := [.int (v6 &&& (v7 ^^^ (-1 : Int32))), .int x4]) (rest := []) (r := some (.int (b2i (f_X11_hasBit (v6 &&& (v7 ^^^ (-1 : Int32))) x4)))) (σ1 := (wk_si s 26 (x7.toNatClampNeg) (v6 &&& (v7 ^^^ (-1 : Int32))))) rfl rfl ⟨rfl, rfl, rfl, rfl, rfl⟩ rfl ((t_X11_hasBit rfl).up (by decide)) ?_
    rcases wk_ife h with ⟨hc, h⟩ | ⟨hc, h⟩
    · refine wk_H0t 55 rfl (wk_zeq.2 hc) ?_
      refine wk_Hs 1 56 ⟨rfl, rfl⟩ (ls' := [.ref 25, w1, .ref 3, .ref 8, .int x4, .int x5, .int (v6 &&& (v7 ^^^ (-1 : Int32))), .int (x7 + (1 : Int32)), .int (((s.1 8 5) + x7) - (1 : Int32))]) (st' := []) (σ' := (wk_si s 26 (x7.toNatClampNeg) (v6 &&& (v7 ^^^ (-1 : Int32))))) rfl ?_
      refine wk_Hgoto (t := 16) rfl ?_
      cases h
      exact hk _
    · refine wk_H0f 55 47 rfl rfl (wk_nf wk_zeq hc) ?_
      refine wk_Hs 3 50 ⟨rfl, rfl⟩ (ls' := [.ref 25, w1, .ref 3, .ref 8, .int x4, .int x5, .int (v6 &&& (v7 ^^^ (-1 : Int32))), .int x7, .int (((s.1 8 5) + x7) - (1 : Int32))]) (st' := [.int (((s.1 8 5) + x7) - (1 : Int32)), .ref 3, .int x5]) (σ' := (wk_si s 26 (x7.toNatClampNeg) (v6 &&& (v7 ^^^ (-1 : Int32))))) rfl ?_
      obtain ⟨v10, hv10, h⟩ := wk_bindE h
      refine wk_Hcall (i2 := 51) (args := [.ref 3, .int (((s.1 8 5) + x7) - (1 : Int32))]) (rest := [.int x5]) (r := some (.int v10)) (σ1 := (wk_si s 26 (x7.toNatClampNeg) (v6 &&& (v7 ^^^ (-1 : Int32))))) rfl rfl ⟨rfl, rfl, rfl, rfl, rfl⟩ rfl ((t_X2_weekdayOf hv10).up (by decide)) ?_
      refine wk_Hcall (i2 := 52) (args := [.int x5, .int v10]) (rest := []) (r := some (.int (b2i (f_X11_hasBit x5 v10)))) (σ1 := (wk_si s 26 (x7.toNatClampNeg) (v6 &&& (v7 ^^^ (-1 : Int32))))) rfl rfl ⟨rfl, rfl, rfl, rfl, rfl⟩ rfl ((t_X11_hasBit rfl).up (by decide)) ?_
      rcases wk_ife h with ⟨hc, h⟩ | ⟨hc, h⟩
      · refine wk_H0t 55 rfl (wk_zne.2 hc) ?_
        refine wk_Hs 1 56 ⟨rfl, rfl⟩ (ls' := [.ref 25, w1, .ref 3, .ref 8, .int x4, .int x5, .int (v6 &&& (v7 ^^^ (-1 : Int32))), .int (x7 + (1 : Int32)), .int (((s.1 8 5) + x7) - (1 : Int32))]) (st' := []) (σ' := (wk_si s 26 (x7.toNatClampNeg) (v6 &&& (v7 ^^^ (-1 : Int32))))) rfl ?_
        refine wk_Hgoto (t := 16) rfl ?_
        cases h
        exact hk _
      · refine wk_H0f 55 53 rfl rfl (wk_nf wk_zne hc) ?_
        refine wk_Hs 1 54 ⟨rfl, rfl⟩ (ls' := [.ref 25, w1, .ref 3, .ref 8, .int x4, .int x5, .int (v6 &&& (v7 ^^^ (-1 : Int32))), .int x7, .int (((s.1 8 5) + x7) - (1 : Int32))]) (st' := [.int x7]) (σ' := (wk_si s 26 (x7.toNatClampNeg) (v6 &&& (v7 ^^^ (-1 : Int32))))) rfl ?_
        cases h
        exact wk_eqz hk (wk_Hret rfl)
set_option maxHeartbeats 4000000 in
set_option maxRecDepth 20000 in
theorem tl_S_X9_spreadOut_16 {x4 : Int32} {x5 : Int32} {w1 : Value} {z : wk_R} (n : Nat) : ∀ {x6 : Int32} {x7 : Int32} {w8 : Value} {s : wk_St} {a : (Int32 × wk_St) ⊕ (wk_St)} (h : wk_loop (S_X9_spreadOut_16 x4 x5) n (x6, x7, s) = some a) (hk : match (generalizing := false) a with | Sum.inl r => z = (some (.int r.1), r.2) | Sum.inr y => ∀ (u6 u7 u8 : Value), wk_H wk_shC 3 mc_X9_spreadOut 57 [.ref 25, w1, .ref 3, .ref 8, .int x4, .int x5, u6, u7, u8] [] y z), wk_H wk_shC 3 mc_X9_spreadOut 16 [.ref 25, w1, .ref 3, .ref 8, .int x4, .int x5, .int x6, .int x7, w8] [] s z := by
  induction n with
  | zero =>
    intros
    rename_i h _
    exact nomatch (show (none : Option _) = some _ from h)
  | succ n ih =>
    intros
    rename_i h hk
    obtain ⟨o, ho, h⟩ := wk_bindE (show Option.bind _ _ = some _ from h)
    refine ts_S_X9_spreadOut_16 ho ?_
    cases o with
    | inl a1 =>
      cases h
      exact hk
    | inr p =>
      obtain ⟨p0, p1, p2⟩ := p
      exact fun _ => ih h hk
set_option maxHeartbeats 4000000 in
set_option maxRecDepth 20000 in
theorem t_X9_spreadOut {x1 : Int32} {s : wk_St} {r : Int32 × wk_St} (h : f_X9_spreadOut x1 s = some r) : wk_T wk_shC 3 238 [.ref 25, .int x1, .ref 3, .ref 8] s (some (.int r.1), r.2) := by
  suffices H : ∀ z, z = (some (.int r.1), r.2) → wk_H wk_shC 3 mc_X9_spreadOut 0 [.ref 25, .int x1, .ref 3, .ref 8, wk_U, wk_U, wk_U, wk_U, wk_U] [] s z from H _ rfl
  intro z hk
  dsimp only [f_X9_spreadOut] at h
  refine wk_Hs 2 2 ⟨rfl, rfl⟩ (ls' := [.ref 25, .int x1, .ref 3, .ref 8, wk_U, wk_U, wk_U, wk_U, wk_U]) (st' := [.int x1, .ref 8]) (σ' := s) rfl ?_
  obtain ⟨v1, hv1, h⟩ := wk_bindE h
  refine wk_Hcall (i2 := 3) (args := [.ref 8, .int x1]) (rest := []) (r := some (.int v1)) (σ1 := s) rfl rfl ⟨rfl, rfl, rfl, rfl, rfl⟩ rfl ((t_X0_clothesOf_8 hv1).up (by decide)) ?_
  refine wk_Hs 3 6 ⟨rfl, rfl⟩ (ls' := [.ref 25, .int x1, .ref 3, .ref 8, .int v1, wk_U, wk_U, wk_U, wk_U]) (st' := [.int x1, .ref 8]) (σ' := s) rfl ?_
  obtain ⟨v2, hv2, h⟩ := wk_bindE h
  refine wk_Hcall (i2 := 7) (args := [.ref 8, .int x1]) (rest := []) (r := some (.int v2)) (σ1 := s) rfl rfl ⟨rfl, rfl, rfl, rfl, rfl⟩ rfl ((t_X0_wolfDaysOf_8 hv2).up (by decide)) ?_
  refine wk_Hs 4 11 ⟨rfl, rfl⟩ (ls' := [.ref 25, .int x1, .ref 3, .ref 8, .int v1, .int v2, wk_U, wk_U, wk_U]) (st' := [.int x1, .ref 8, .int (1 : Int32)]) (σ' := s) rfl ?_
  obtain ⟨v3, hv3, h⟩ := wk_bindE h
  refine wk_Hcall (i2 := 12) (args := [.ref 8, .int x1]) (rest := [.int (1 : Int32)]) (r := some (.int v3)) (σ1 := s) rfl rfl ⟨rfl, rfl, rfl, rfl, rfl⟩ rfl ((t_X0_placeOf_8 hv3).up (by decide)) ?_
  refine wk_Hs 1 13 ⟨rfl, rfl⟩ (ls' := [.ref 25, .int x1, .ref 3, .ref 8, .int v1, .int v2, wk_U, wk_U, wk_U]) (st' := [.int ((1 : Int32) <<< (v3 &&& 31))]) (σ' := s) rfl ?_
  replace h := wk_letE h
  refine wk_Hs 3 16 ⟨rfl, rfl⟩ (ls' := [.ref 25, .int x1, .ref 3, .ref 8, .int v1, .int v2, .int ((1 : Int32) <<< (v3 &&& 31)), .int (1 : Int32), wk_U]) (st' := []) (σ' := s) rfl ?_
  obtain ⟨v12, hv12, h⟩ := wk_bindE h
  rcases v12 with v12r | v12
  · cases h
    exact tl_S_X9_spreadOut_16 wk_F hv12 hk
  · refine tl_S_X9_spreadOut_16 wk_F hv12 ?_
    intro g13 g14 g15
    dsimp only at h ⊢
    refine wk_Hs 1 58 ⟨rfl, rfl⟩ (ls' := [.ref 25, .int x1, .ref 3, .ref 8, .int v1, .int v2, g13, g14, g15]) (st' := [.int (0 : Int32)]) (σ' := v12) rfl ?_
    cases h
    exact wk_eqz hk (wk_Hret rfl)
set_option maxHeartbeats 4000000 in
set_option maxRecDepth 20000 in
theorem ts_S_X9_drawBack_6 {x4 : Int32} {x5 : Int32} {w1 : Value} {w2 : Value} {s : wk_St} {z : wk_R} {o : (wk_St) ⊕ (Int32 × Int32 × wk_St)} (h : S_X9_drawBack_6 (x4, x5, s) = some o) (hk : match (generalizing := false) o with | Sum.inl a => (∀ (u4 u5 : Value), wk_H wk_shC 2 mc_X9_drawBack 30 [.ref 25, w1, w2, .ref 3, u4, u5] [] a z) | Sum.inr y => wk_H wk_shC 2 mc_X9_drawBack 6 [.ref 25, w1, w2, .ref 3, .int y.1, .int y.2.1] [] y.2.2 z) : wk_H wk_shC 2 mc_X9_drawBack 6 [.ref 25, w1, w2, .ref 3, .int x4, .int x5] [] s z := by
  dsimp only [S_X9_drawBack_6] at h
  refine wk_Hs 1 7 ⟨rfl, rfl⟩ (ls' := [.ref 25, w1, w2, .ref 3, .int x4, .int x5]) (st' := [.int x5]) (σ' := s) rfl ?_
  rcases wk_ife h with ⟨hc, h⟩ | ⟨hc, h⟩
  · refine wk_H0t 30 rfl (wk_cle.2 hc) ?_
    cases h
    exact hk _ _
  · refine wk_H0f 30 8 rfl rfl (wk_nf wk_cle hc) ?_
    refine wk_Hs 4 12 ⟨rfl, rfl⟩ (ls' := [.ref 25, w1, w2, .ref 3, .int x4, .int x5]) (st' := [.int (61 : Int32), .int x5]) (σ' := s) rfl ?_
    rcases wk_ife h with ⟨hc, h⟩ | ⟨hc, h⟩
    · refine wk_Hbt 28 rfl (wk_cge.2 hc) ?_
      refine wk_Hs 1 29 ⟨rfl, rfl⟩ (ls' := [.ref 25, w1, w2, .ref 3, .int x4, .int (x5 + (-1 : Int32))]) (st' := []) (σ' := s) rfl ?_
      refine wk_Hgoto (t := 6) rfl ?_
      cases h
      exact hk
    · refine wk_Hbf 28 13 rfl rfl (wk_nf wk_cge hc) ?_
      refine wk_Hs 4 17 ⟨rfl, rfl⟩ (ls' := [.ref 25, w1, w2, .ref 3, .int x4, .int x5]) (st' := [.int x5, .ref 26, .int x5, .ref 26]) (σ' := s) rfl ?_
      obtain ⟨hg, h⟩ := wk_gdE h
      refine wk_Hia 18 rfl rfl rfl hg rfl ?_
      refine wk_Hs 2 20 ⟨rfl, rfl⟩ (ls' := [.ref 25, w1, w2, .ref 3, .int x4, .int x5]) (st' := [.int ((s.1 26 (x5.toNatClampNeg)) &&& x4), .int x5, .ref 26]) (σ' := s) rfl ?_
      obtain ⟨hg, h⟩ := wk_gdE h
      refine wk_Hias 21 rfl rfl rfl hg rfl ?_
      refine wk_Hs 4 25 ⟨rfl, rfl⟩ (ls' := [.ref 25, w1, w2, .ref 3, .int x4, .int x5]) (st' := [.int x5, .ref 26, .ref 3]) (σ' := (wk_si s 26 (x5.toNatClampNeg) ((s.1 26 (x5.toNatClampNeg)) &&& x4))) rfl ?_
      obtain ⟨hg, h⟩ := wk_gdE h
      refine wk_Hia 26 rfl rfl rfl hg rfl ?_
      obtain ⟨v2, hv2, h⟩ := wk_bindE h
      refine wk_Hcall (i2 := 27) (args := [.ref 3, .int ((wk_si s 26 (x5.toNatClampNeg) ((s.1 26 (x5.toNatClampNeg)) &&& x4)).1 26 (x5.toNatClampNeg))]) (rest := []) (r := some (.int v2)) (σ1 := (wk_si s 26 (x5.toNatClampNeg) ((s.1 26 (x5.toNatClampNeg)) &&& x4))) rfl rfl ⟨rfl, rfl, rfl, rfl, rfl⟩ rfl ((t_X2_spread hv2).up (by decide)) ?_
      refine wk_Hs 2 29 ⟨rfl, rfl⟩ (ls' := [.ref 25, w1, w2, .ref 3, .int v2, .int (x5 + (-1 : Int32))]) (st' := []) (σ' := (wk_si s 26 (x5.toNatClampNeg) ((s.1 26 (x5.toNatClampNeg)) &&& x4))) rfl ?_
      refine wk_Hgoto (t := 6) rfl ?_
      cases h
      exact hk
set_option maxHeartbeats 4000000 in
set_option maxRecDepth 20000 in
theorem tl_S_X9_drawBack_6 {w1 : Value} {w2 : Value} {z : wk_R} (n : Nat) : ∀ {x4 : Int32} {x5 : Int32} {s : wk_St} {a : wk_St} (h : wk_loop S_X9_drawBack_6 n (x4, x5, s) = some a) (hk : ∀ (u4 u5 : Value), wk_H wk_shC 2 mc_X9_drawBack 30 [.ref 25, w1, w2, .ref 3, u4, u5] [] a z), wk_H wk_shC 2 mc_X9_drawBack 6 [.ref 25, w1, w2, .ref 3, .int x4, .int x5] [] s z := by
  induction n with
  | zero =>
    intros
    rename_i h _
    exact nomatch (show (none : Option _) = some _ from h)
  | succ n ih =>
    intros
    rename_i h hk
    obtain ⟨o, ho, h⟩ := wk_bindE (show Option.bind _ _ = some _ from h)
    refine ts_S_X9_drawBack_6 ho ?_
    cases o with
    | inl a1 =>
      cases h
      exact hk
    | inr p =>
      obtain ⟨p0, p1, p2⟩ := p
      exact ih h hk
set_option maxHeartbeats 4000000 in
set_option maxRecDepth 20000 in
theorem t_X9_drawBack {x1 : Int32} {x2 : Int32} {s : wk_St} {r : wk_St} (h : f_X9_drawBack x1 x2 s = some r) : wk_T wk_shC 2 239 [.ref 25, .int x1, .int x2, .ref 3] s (none, r) := by
  suffices H : ∀ z, z = (none, r) → wk_H wk_shC 2 mc_X9_drawBack 0 [.ref 25, .int x1, .int x2, .ref 3, wk_U, wk_U] [] s z from H _ rfl
  intro z hk
  dsimp only [f_X9_drawBack] at h
  refine wk_Hs 3 3 ⟨rfl, rfl⟩ (ls' := [.ref 25, .int x1, .int x2, .ref 3, wk_U, wk_U]) (st' := [.int ((1 : Int32) <<< (x2 &&& 31))]) (σ' := s) rfl ?_
  replace h := wk_letE h
  refine wk_Hs 3 6 ⟨rfl, rfl⟩ (ls' := [.ref 25, .int x1, .int x2, .ref 3, .int ((1 : Int32) <<< (x2 &&& 31)), .int x1]) (st' := []) (σ' := s) rfl ?_
  obtain ⟨v3, hv3, h⟩ := wk_bindE h
  refine tl_S_X9_drawBack_6 wk_F hv3 ?_
  intro g4 g5
  cases h
  exact wk_eqz hk (wk_Hretv rfl)
set_option maxHeartbeats 4000000 in
set_option maxRecDepth 20000 in
theorem ts_S_X9_chooseRow_4 {x1 : Int32} {x4 : Int32} {x5 : Int32} {w2 : Value} {s : wk_St} {z : wk_R} {o : (wk_St) ⊕ (Int32 × Int32 × wk_St)} (h : S_X9_chooseRow_4 x1 (x4, x5, s) = some o) (hk : match (generalizing := false) o with | Sum.inl a => (∀ (u4 u5 : Value), wk_H wk_shC 2 mc_X9_chooseRow 40 [.ref 25, .int x1, w2, .ref 3, u4, u5] [] a z) | Sum.inr y => wk_H wk_shC 2 mc_X9_chooseRow 4 [.ref 25, .int x1, w2, .ref 3, .int y.1, .int y.2.1] [] y.2.2 z) : wk_H wk_shC 2 mc_X9_chooseRow 4 [.ref 25, .int x1, w2, .ref 3, .int x4, .int x5] [] s z := by
  dsimp only [S_X9_chooseRow_4] at h
  refine wk_Hs 2 6 ⟨rfl, rfl⟩ (ls' := [.ref 25, .int x1, w2, .ref 3, .int x4, .int x5]) (st' := [.int x1, .int x5]) (σ' := s) rfl ?_
  rcases wk_ife h with ⟨hc, h⟩ | ⟨hc, h⟩
  · refine wk_Hbt 40 rfl (wk_cge.2 hc) ?_
    cases h
    exact hk _ _
  · refine wk_Hbf 40 7 rfl rfl (wk_nf wk_cge hc) ?_
    refine wk_Hs 4 11 ⟨rfl, rfl⟩ (ls' := [.ref 25, .int x1, w2, .ref 3, .int x4, .int x5]) (st' := [.int (60 : Int32), .int x5]) (σ' := s) rfl ?_
    rcases wk_ife h with ⟨hc, h⟩ | ⟨hc, h⟩
    · refine wk_Hbt 40 rfl (wk_cge.2 hc) ?_
      cases h
      exact hk _ _
    · refine wk_Hbf 40 12 rfl rfl (wk_nf wk_cge hc) ?_
      refine wk_Hs 6 18 ⟨rfl, rfl⟩ (ls' := [.ref 25, .int x1, w2, .ref 3, .int x4, .int x5]) (st' := [.int (61 : Int32), .int (x5 + (1 : Int32))]) (σ' := s) rfl ?_
      rcases wk_ife h with ⟨hc, h⟩ | ⟨hc, h⟩
      · refine wk_Hbt 40 rfl (wk_cge.2 hc) ?_
        cases h
        exact hk _ _
      · refine wk_Hbf 40 19 rfl rfl (wk_nf wk_cge hc) ?_
        refine wk_Hs 4 23 ⟨rfl, rfl⟩ (ls' := [.ref 25, .int x1, w2, .ref 3, .int x4, .int x5]) (st' := [.int ((1 : Int32) <<< (x4 &&& 31)), .ref 3]) (σ' := s) rfl ?_
        obtain ⟨v1, hv1, h⟩ := wk_bindE h
        refine wk_Hcall (i2 := 24) (args := [.ref 3, .int ((1 : Int32) <<< (x4 &&& 31))]) (rest := []) (r := some (.int v1)) (σ1 := s) rfl rfl ⟨rfl, rfl, rfl, rfl, rfl⟩ rfl ((t_X2_spread hv1).up (by decide)) ?_
        refine wk_Hs 5 29 ⟨rfl, rfl⟩ (ls' := [.ref 25, .int x1, w2, .ref 3, .int x4, .int x5]) (st' := [.int (x5 + (1 : Int32)), .ref 26, .int v1]) (σ' := s) rfl ?_
        obtain ⟨hg, h⟩ := wk_gdE h
        refine wk_Hia 30 rfl rfl rfl hg rfl ?_
        refine wk_Hs 1 31 ⟨rfl, rfl⟩ (ls' := [.ref 25, .int x1, w2, .ref 3, .int x4, .int x5]) (st' := [.int (v1 &&& (s.1 26 ((x5 + (1 : Int32)).toNatClampNeg)))]) (σ' := s) rfl ?_
        refine wk_Hcall (i2 := 32) (args := [.int (v1 &&& (s.1 26 ((x5 + (1 : Int32)).toNatClampNeg)))]) (rest := []) (r := some (.int (f_J6_numberOfTrailingZeros_0f7a4 (v1 &&& (s.1 26 ((x5 + (1 : Int32)).toNatClampNeg)))))) (σ1 := s) rfl rfl ⟨rfl, rfl, rfl, rfl, rfl⟩ rfl ((t_J6_numberOfTrailingZeros_0f7a4 rfl).up (by decide)) ?_
        replace h := wk_letE h
        refine wk_Hs 5 37 ⟨rfl, rfl⟩ (ls' := [.ref 25, .int x1, w2, .ref 3, .int (f_J6_numberOfTrailingZeros_0f7a4 (v1 &&& (s.1 26 ((x5 + (1 : Int32)).toNatClampNeg)))), .int x5]) (st' := [.int (f_J6_numberOfTrailingZeros_0f7a4 (v1 &&& (s.1 26 ((x5 + (1 : Int32)).toNatClampNeg)))), .int x5, .ref 27]) (σ' := s) rfl ?_
        obtain ⟨hg, h⟩ := wk_gdE h
        refine wk_Hias 38 rfl rfl rfl hg rfl ?_
        refine wk_Hs 1 39 ⟨rfl, rfl⟩ (ls' := [.ref 25, .int x1, w2, .ref 3, .int (f_J6_numberOfTrailingZeros_0f7a4 (v1 &&& (s.1 26 ((x5 + (1 : Int32)).toNatClampNeg)))), .int (x5 + (1 : Int32))]) (st' := []) (σ' := (wk_si s 27 (x5.toNatClampNeg) (f_J6_numberOfTrailingZeros_0f7a4 (v1 &&& (s.1 26 ((x5 + (1 : Int32)).toNatClampNeg)))))) rfl ?_
        refine wk_Hgoto (t := 4) rfl ?_
        cases h
        exact hk
set_option maxHeartbeats 4000000 in
set_option maxRecDepth 20000 in
theorem tl_S_X9_chooseRow_4 {x1 : Int32} {w2 : Value} {z : wk_R} (n : Nat) : ∀ {x4 : Int32} {x5 : Int32} {s : wk_St} {a : wk_St} (h : wk_loop (S_X9_chooseRow_4 x1) n (x4, x5, s) = some a) (hk : ∀ (u4 u5 : Value), wk_H wk_shC 2 mc_X9_chooseRow 40 [.ref 25, .int x1, w2, .ref 3, u4, u5] [] a z), wk_H wk_shC 2 mc_X9_chooseRow 4 [.ref 25, .int x1, w2, .ref 3, .int x4, .int x5] [] s z := by
  induction n with
  | zero =>
    intros
    rename_i h _
    exact nomatch (show (none : Option _) = some _ from h)
  | succ n ih =>
    intros
    rename_i h hk
    obtain ⟨o, ho, h⟩ := wk_bindE (show Option.bind _ _ = some _ from h)
    refine ts_S_X9_chooseRow_4 ho ?_
    cases o with
    | inl a1 =>
      cases h
      exact hk
    | inr p =>
      obtain ⟨p0, p1, p2⟩ := p
      exact ih h hk
set_option maxHeartbeats 4000000 in
set_option maxRecDepth 20000 in
theorem t_X9_chooseRow {x1 : Int32} {x2 : Int32} {s : wk_St} {r : wk_St} (h : f_X9_chooseRow x1 x2 s = some r) : wk_T wk_shC 2 240 [.ref 25, .int x1, .int x2, .ref 3] s (none, r) := by
  suffices H : ∀ z, z = (none, r) → wk_H wk_shC 2 mc_X9_chooseRow 0 [.ref 25, .int x1, .int x2, .ref 3, wk_U, wk_U] [] s z from H _ rfl
  intro z hk
  dsimp only [f_X9_chooseRow] at h
  refine wk_Hs 4 4 ⟨rfl, rfl⟩ (ls' := [.ref 25, .int x1, .int x2, .ref 3, .int x2, .int (0 : Int32)]) (st' := []) (σ' := s) rfl ?_
  obtain ⟨v4, hv4, h⟩ := wk_bindE h
  refine tl_S_X9_chooseRow_4 wk_F hv4 ?_
  intro g5 g6
  cases h
  exact wk_eqz hk (wk_Hretv rfl)
set_option maxHeartbeats 4000000 in
set_option maxRecDepth 20000 in
theorem t_X9_findHome {x1 : Int32} {s : wk_St} {r : Int32 × wk_St} (h : f_X9_findHome x1 s = some r) : wk_T wk_shC 4 237 [.ref 25, .int x1, .ref 3, .ref 8] s (some (.int r.1), r.2) := by
  suffices H : ∀ z, z = (some (.int r.1), r.2) → wk_H wk_shC 4 mc_X9_findHome 0 [.ref 25, .int x1, .ref 3, .ref 8, wk_U] [] s z from H _ rfl
  intro z hk
  dsimp only [f_X9_findHome] at h
  refine wk_Hs 4 4 ⟨rfl, rfl⟩ (ls' := [.ref 25, .int x1, .ref 3, .ref 8, wk_U]) (st' := [.ref 8, .ref 3, .int x1, .ref 25]) (σ' := s) rfl ?_
  obtain ⟨v1, hv1, h⟩ := wk_bindE h
  refine wk_Hcall (i2 := 5) (args := [.ref 25, .int x1, .ref 3, .ref 8]) (rest := []) (r := some (.int v1.1)) (σ1 := v1.2) rfl rfl ⟨rfl, rfl, rfl, rfl, rfl⟩ rfl ((t_X9_spreadOut hv1).up (by decide)) ?_
  refine wk_Hs 2 7 ⟨rfl, rfl⟩ (ls' := [.ref 25, .int x1, .ref 3, .ref 8, .int v1.1]) (st' := [.int v1.1]) (σ' := v1.2) rfl ?_
  rcases wk_ife h with ⟨hc, h⟩ | ⟨hc, h⟩
  · refine wk_H0t 22 rfl (wk_cle.2 hc) ?_
    refine wk_Hs 1 23 ⟨rfl, rfl⟩ (ls' := [.ref 25, .int x1, .ref 3, .ref 8, .int v1.1]) (st' := [.int v1.1]) (σ' := v1.2) rfl ?_
    cases h
    exact wk_eqz hk (wk_Hret rfl)
  · refine wk_H0f 22 8 rfl rfl (wk_nf wk_cle hc) ?_
    refine wk_Hs 4 12 ⟨rfl, rfl⟩ (ls' := [.ref 25, .int x1, .ref 3, .ref 8, .int v1.1]) (st' := [.int x1, .ref 8, .int v1.1, .ref 25]) (σ' := v1.2) rfl ?_
    obtain ⟨v2, hv2, h⟩ := wk_bindE h
    refine wk_Hcall (i2 := 13) (args := [.ref 8, .int x1]) (rest := [.int v1.1, .ref 25]) (r := some (.int v2)) (σ1 := v1.2) rfl rfl ⟨rfl, rfl, rfl, rfl, rfl⟩ rfl ((t_X0_clothesOf_8 hv2).up (by decide)) ?_
    refine wk_Hs 1 14 ⟨rfl, rfl⟩ (ls' := [.ref 25, .int x1, .ref 3, .ref 8, .int v1.1]) (st' := [.ref 3, .int v2, .int v1.1, .ref 25]) (σ' := v1.2) rfl ?_
    obtain ⟨v3, hv3, h⟩ := wk_bindE h
    refine wk_Hcall (i2 := 15) (args := [.ref 25, .int v1.1, .int v2, .ref 3]) (rest := []) (r := none) (σ1 := v3) rfl rfl ⟨rfl, rfl, rfl, rfl, rfl⟩ rfl ((t_X9_drawBack hv3).up (by decide)) ?_
    refine wk_Hs 4 19 ⟨rfl, rfl⟩ (ls' := [.ref 25, .int x1, .ref 3, .ref 8, .int v1.1]) (st' := [.int x1, .ref 8, .int v1.1, .ref 25]) (σ' := v3) rfl ?_
    obtain ⟨v4, hv4, h⟩ := wk_bindE h
    refine wk_Hcall (i2 := 20) (args := [.ref 8, .int x1]) (rest := [.int v1.1, .ref 25]) (r := some (.int v4)) (σ1 := v3) rfl rfl ⟨rfl, rfl, rfl, rfl, rfl⟩ rfl ((t_X0_placeOf_8 hv4).up (by decide)) ?_
    refine wk_Hs 1 21 ⟨rfl, rfl⟩ (ls' := [.ref 25, .int x1, .ref 3, .ref 8, .int v1.1]) (st' := [.ref 3, .int v4, .int v1.1, .ref 25]) (σ' := v3) rfl ?_
    obtain ⟨v5, hv5, h⟩ := wk_bindE h
    refine wk_Hcall (i2 := 22) (args := [.ref 25, .int v1.1, .int v4, .ref 3]) (rest := []) (r := none) (σ1 := v5) rfl rfl ⟨rfl, rfl, rfl, rfl, rfl⟩ rfl ((t_X9_chooseRow hv5).up (by decide)) ?_
    refine wk_Hs 1 23 ⟨rfl, rfl⟩ (ls' := [.ref 25, .int x1, .ref 3, .ref 8, .int v1.1]) (st' := [.int v1.1]) (σ' := v5) rfl ?_
    cases h
    exact wk_eqz hk (wk_Hret rfl)
set_option maxHeartbeats 4000000 in
set_option maxRecDepth 20000 in
theorem t_X9_placeAt {x1 : Int32} {s : wk_St} {r : Int32} (h : f_X9_placeAt x1 s = some r) : wk_T wk_shC 0 241 [.ref 25, .int x1] s (some (.int r), s) := by
  suffices H : ∀ z, z = (some (.int r), s) → wk_H wk_shC 0 mc_X9_placeAt 0 [.ref 25, .int x1] [] s z from H _ rfl
  intro z hk
  dsimp only [f_X9_placeAt] at h
  refine wk_Hs 1 1 ⟨rfl, rfl⟩ (ls' := [.ref 25, .int x1]) (st' := [.int x1]) (σ' := s) rfl ?_
  rcases wk_ife h with ⟨hc, h⟩ | ⟨hc, h⟩
  · refine wk_H0t 12 rfl (wk_clt.2 hc) ?_
    refine wk_Hs 1 13 ⟨rfl, rfl⟩ (ls' := [.ref 25, .int x1]) (st' := [.int (-1 : Int32)]) (σ' := s) rfl ?_
    cases h
    exact wk_eqz hk (wk_Hret rfl)
  · refine wk_H0f 12 2 rfl rfl (wk_nf wk_clt hc) ?_
    refine wk_Hs 4 6 ⟨rfl, rfl⟩ (ls' := [.ref 25, .int x1]) (st' := [.int (60 : Int32), .int x1]) (σ' := s) rfl ?_
    rcases wk_ife h with ⟨hc, h⟩ | ⟨hc, h⟩
    · refine wk_Hbt 12 rfl (wk_cge.2 hc) ?_
      refine wk_Hs 1 13 ⟨rfl, rfl⟩ (ls' := [.ref 25, .int x1]) (st' := [.int (-1 : Int32)]) (σ' := s) rfl ?_
      cases h
      exact wk_eqz hk (wk_Hret rfl)
    · refine wk_Hbf 12 7 rfl rfl (wk_nf wk_cge hc) ?_
      refine wk_Hs 3 10 ⟨rfl, rfl⟩ (ls' := [.ref 25, .int x1]) (st' := [.int x1, .ref 27]) (σ' := s) rfl ?_
      obtain ⟨hg, h⟩ := wk_gdE h
      refine wk_Hia 11 rfl rfl rfl hg rfl ?_
      refine wk_Hgoto (t := 13) rfl ?_
      cases h
      exact wk_eqz hk (wk_Hret rfl)
set_option maxHeartbeats 4000000 in
set_option maxRecDepth 20000 in
theorem tj_j_X11_home_15 {x1 : Int32} {x2 : Int32} {w3 : Value} {s : wk_St} {z : wk_R} {o : Int32 × wk_St} (h : j_X11_home_15 x1 x2 s = some o) (hk : z = (some (.int o.1), o.2)) : wk_H wk_shC 5 mc_X11_home 15 [.ref 0, .int x1, .int x2, w3] [] s z := by
  dsimp only [j_X11_home_15] at h
  refine wk_Hs 3 18 ⟨rfl, rfl⟩ (ls' := [.ref 0, .int x1, .int x2, w3]) (st' := [.int x1, .ref 8]) (σ' := s) rfl ?_
  obtain ⟨v3, hv3, h⟩ := wk_bindE h
  refine wk_Hcall (i2 := 19) (args := [.ref 8, .int x1]) (rest := []) (r := some (.int v3)) (σ1 := s) rfl rfl ⟨rfl, rfl, rfl, rfl, rfl⟩ rfl ((t_X0_kindOf_8 hv3).up (by decide)) ?_
  refine wk_Hs 1 20 ⟨rfl, rfl⟩ (ls' := [.ref 0, .int x1, .int x2, w3]) (st' := [.int (1 : Int32), .int v3]) (σ' := s) rfl ?_
  rcases wk_ife h with ⟨hc, h⟩ | ⟨hc, h⟩
  · refine wk_Hbt 23 rfl (wk_ceq.2 hc) ?_
    refine wk_Hs 7 30 ⟨rfl, rfl⟩ (ls' := [.ref 0, .int x1, .int x2, w3]) (st' := [.ref 8, .ref 3, .int x1, .ref 25]) (σ' := s) rfl ?_
    obtain ⟨v4, hv4, h⟩ := wk_bindE h
    refine wk_Hcall (i2 := 31) (args := [.ref 25, .int x1, .ref 3, .ref 8]) (rest := []) (r := some (.int v4.1)) (σ1 := v4.2) rfl rfl ⟨rfl, rfl, rfl, rfl, rfl⟩ rfl ((t_X9_findHome hv4).up (by decide)) ?_
    refine wk_Hs 2 33 ⟨rfl, rfl⟩ (ls' := [.ref 0, .int x1, .int x2, .int v4.1]) (st' := [.int v4.1]) (σ' := v4.2) rfl ?_
    rcases wk_ife h with ⟨hc, h⟩ | ⟨hc, h⟩
    · refine wk_H0t 36 rfl (wk_cne.2 hc) ?_
      refine wk_Hs 2 38 ⟨rfl, rfl⟩ (ls' := [.ref 0, .int x1, .int x2, .int v4.1]) (st' := [.int (100 : Int32), .int x2]) (σ' := v4.2) rfl ?_
      rcases wk_ife h with ⟨hc, h⟩ | ⟨hc, h⟩
      · refine wk_Hbt 41 rfl (wk_cne.2 hc) ?_
        refine wk_Hs 2 43 ⟨rfl, rfl⟩ (ls' := [.ref 0, .int x1, .int x2, .int v4.1]) (st' := [.int v4.1, .int x2]) (σ' := v4.2) rfl ?_
        rcases wk_ife h with ⟨hc, h⟩ | ⟨hc, h⟩
        · refine wk_Hbt 49 rfl (wk_cge.2 hc) ?_
          refine wk_Hs 1 50 ⟨rfl, rfl⟩ (ls' := [.ref 0, .int x1, .int x2, .int v4.1]) (st' := [.int (-4 : Int32)]) (σ' := v4.2) rfl ?_
          cases h
          exact wk_eqz hk (wk_Hret rfl)
        · refine wk_Hbf 49 44 rfl rfl (wk_nf wk_cge hc) ?_
          refine wk_Hs 3 47 ⟨rfl, rfl⟩ (ls' := [.ref 0, .int x1, .int x2, .int v4.1]) (st' := [.int x2, .ref 25]) (σ' := v4.2) rfl ?_
          obtain ⟨v5, hv5, h⟩ := wk_bindE h
          refine wk_Hcall (i2 := 48) (args := [.ref 25, .int x2]) (rest := []) (r := some (.int v5)) (σ1 := v4.2) rfl rfl ⟨rfl, rfl, rfl, rfl, rfl⟩ rfl ((t_X9_placeAt hv5).up (by decide)) ?_
          refine wk_Hgoto (t := 50) rfl ?_
          cases h
          exact wk_eqz hk (wk_Hret rfl)
      · refine wk_Hbf 41 39 rfl rfl (wk_nf wk_cne hc) ?_
        refine wk_Hs 1 40 ⟨rfl, rfl⟩ (ls' := [.ref 0, .int x1, .int x2, .int v4.1]) (st' := [.int v4.1]) (σ' := v4.2) rfl ?_
        cases h
        exact wk_eqz hk (wk_Hret rfl)
    · refine wk_H0f 36 34 rfl rfl (wk_nf wk_cne hc) ?_
      refine wk_Hs 1 35 ⟨rfl, rfl⟩ (ls' := [.ref 0, .int x1, .int x2, .int v4.1]) (st' := [.int (-2 : Int32)]) (σ' := v4.2) rfl ?_
      cases h
      exact wk_eqz hk (wk_Hret rfl)
  · refine wk_Hbf 23 21 rfl rfl (wk_nf wk_ceq hc) ?_
    refine wk_Hs 1 22 ⟨rfl, rfl⟩ (ls' := [.ref 0, .int x1, .int x2, w3]) (st' := [.int (-3 : Int32)]) (σ' := s) rfl ?_
    cases h
    exact wk_eqz hk (wk_Hret rfl)
set_option maxHeartbeats 4000000 in
set_option maxRecDepth 20000 in
theorem t_X11_home {x1 : Int32} {x2 : Int32} {s : wk_St} {r : Int32 × wk_St} (h : f_X11_home x1 x2 s = some r) : wk_T wk_shC 5 16 [.ref 0, .int x1, .int x2] s (some (.int r.1), r.2) := by
  suffices H : ∀ z, z = (some (.int r.1), r.2) → wk_H wk_shC 5 mc_X11_home 0 [.ref 0, .int x1, .int x2, wk_U] [] s z from H _ rfl
  intro z hk
  dsimp only [f_X11_home] at h
  refine wk_Hs 3 3 ⟨rfl, rfl⟩ (ls' := [.ref 0, .int x1, .int x2, wk_U]) (st' := [.int x1, .ref 8]) (σ' := s) rfl ?_
  refine wk_Hcall (i2 := 4) (args := [.ref 8, .int x1]) (rest := []) (r := some (.int (b2i (f_X0_isTold 8 x1 s)))) (σ1 := s) rfl rfl ⟨rfl, rfl, rfl, rfl, rfl⟩ rfl ((t_X0_isTold_8 rfl).up (by decide)) ?_
  rcases wk_ife h with ⟨hc, h⟩ | ⟨hc, h⟩
  · refine wk_H0t 13 rfl (wk_zeq.2 hc) ?_
    refine wk_Hs 1 14 ⟨rfl, rfl⟩ (ls' := [.ref 0, .int x1, .int x2, wk_U]) (st' := [.int (-1 : Int32)]) (σ' := s) rfl ?_
    cases h
    exact wk_eqz hk (wk_Hret rfl)
  · refine wk_H0f 13 5 rfl rfl (wk_nf wk_zeq hc) ?_
    refine wk_Hs 3 8 ⟨rfl, rfl⟩ (ls' := [.ref 0, .int x1, .int x2, wk_U]) (st' := [.int (59 : Int32), .int (0 : Int32), .int x2]) (σ' := s) rfl ?_
    refine wk_Hcall (i2 := 9) (args := [.int x2, .int (0 : Int32), .int (59 : Int32)]) (rest := []) (r := some (.int (b2i (f_X11_isWithin x2 (0 : Int32) (59 : Int32))))) (σ1 := s) rfl rfl ⟨rfl, rfl, rfl, rfl, rfl⟩ rfl ((t_X11_isWithin rfl).up (by decide)) ?_
    rcases wk_ife h with ⟨hc, h⟩ | ⟨hc, h⟩
    · refine wk_H0t 15 rfl (wk_zne.2 hc) ?_
      exact tj_j_X11_home_15 h hk
    · refine wk_H0f 15 10 rfl rfl (wk_nf wk_zne hc) ?_
      refine wk_Hs 2 12 ⟨rfl, rfl⟩ (ls' := [.ref 0, .int x1, .int x2, wk_U]) (st' := [.int (100 : Int32), .int x2]) (σ' := s) rfl ?_
      rcases wk_ife h with ⟨hc, h⟩ | ⟨hc, h⟩
      · refine wk_Hbt 15 rfl (wk_ceq.2 hc) ?_
        exact tj_j_X11_home_15 h hk
      · refine wk_Hbf 15 13 rfl rfl (wk_nf wk_ceq hc) ?_
        refine wk_Hs 1 14 ⟨rfl, rfl⟩ (ls' := [.ref 0, .int x1, .int x2, wk_U]) (st' := [.int (-1 : Int32)]) (σ' := s) rfl ?_
        cases h
        exact wk_eqz hk (wk_Hret rfl)
set_option maxHeartbeats 4000000 in
set_option maxRecDepth 20000 in
theorem ts_S_X2_huntsFrom_4 {x1 : Int32} {x2 : Int32} {x3 : Int32} {x4 : Int32} {x5 : Int32} {s : wk_St} {z : wk_R} {o : (Int32) ⊕ (Int32 × Int32)} (h : S_X2_huntsFrom_4 x1 x2 x3 s (x4, x5) = some o) (hk : match (generalizing := false) o with | Sum.inl a => (∀ (u5 : Value), wk_H wk_shC 2 mc_X2_huntsFrom 22 [.ref 3, .int x1, .int x2, .int x3, .int a, u5] [] s z) | Sum.inr y => wk_H wk_shC 2 mc_X2_huntsFrom 4 [.ref 3, .int x1, .int x2, .int x3, .int y.1, .int y.2] [] s z) : wk_H wk_shC 2 mc_X2_huntsFrom 4 [.ref 3, .int x1, .int x2, .int x3, .int x4, .int x5] [] s z := by
  dsimp only [S_X2_huntsFrom_4] at h
  refine wk_Hs 2 6 ⟨rfl, rfl⟩ (ls' := [.ref 3, .int x1, .int x2, .int x3, .int x4, .int x5]) (st' := [.int x3, .int x5]) (σ' := s) rfl ?_
  rcases wk_ife h with ⟨hc, h⟩ | ⟨hc, h⟩
  · refine wk_Hbt 22 rfl (wk_cge.2 hc) ?_
    cases h
    exact hk _
  · refine wk_Hbf 22 7 rfl rfl (wk_nf wk_cge hc) ?_
    refine wk_Hs 6 13 ⟨rfl, rfl⟩ (ls' := [.ref 3, .int x1, .int x2, .int x3, .int x4, .int x5]) (st' := [.int (x2 + x5), .int x1, .ref 3, .int x4]) (σ' := s) rfl ?_
    obtain ⟨v1, hv1, h⟩ := wk_bindE h
    refine wk_Hcall (i2 := 14) (args := [.ref 3, .int x1, .int (x2 + x5)]) (rest := [.int x4]) (r := some (.int (b2i v1))) (σ1 := s) rfl rfl ⟨rfl, rfl, rfl, rfl, rfl⟩ rfl ((t_X2_isHunted hv1).up (by decide)) ?_
    rcases wk_ife h with ⟨hc, h⟩ | ⟨hc, h⟩
    · refine wk_H0t 17 rfl (wk_zeq.2 hc) ?_
      refine wk_Hs 2 19 ⟨rfl, rfl⟩ (ls' := [.ref 3, .int x1, .int x2, .int x3, .int x4, .int x5]) (st' := [.int (x4 + (0 : Int32))]) (σ' := s) rfl ?_
      replace h := wk_letE h
      refine wk_Hs 2 21 ⟨rfl, rfl⟩ (ls' := [.ref 3, .int x1, .int x2, .int x3, .int (x4 + (0 : Int32)), .int (x5 + (1 : Int32))]) (st' := []) (σ' := s) rfl ?_
      refine wk_Hgoto (t := 4) rfl ?_
      cases h
      exact hk
    · refine wk_H0f 17 15 rfl rfl (wk_nf wk_zeq hc) ?_
      refine wk_Hs 1 16 ⟨rfl, rfl⟩ (ls' := [.ref 3, .int x1, .int x2, .int x3, .int x4, .int x5]) (st' := [.int (1 : Int32), .int x4]) (σ' := s) rfl ?_
      refine wk_Hgoto (t := 18) rfl ?_
      refine wk_Hs 1 19 ⟨rfl, rfl⟩ (ls' := [.ref 3, .int x1, .int x2, .int x3, .int x4, .int x5]) (st' := [.int (x4 + (1 : Int32))]) (σ' := s) rfl ?_
      replace h := wk_letE h
      refine wk_Hs 2 21 ⟨rfl, rfl⟩ (ls' := [.ref 3, .int x1, .int x2, .int x3, .int (x4 + (1 : Int32)), .int (x5 + (1 : Int32))]) (st' := []) (σ' := s) rfl ?_
      refine wk_Hgoto (t := 4) rfl ?_
      cases h
      exact hk
set_option maxHeartbeats 4000000 in
set_option maxRecDepth 20000 in
theorem tl_S_X2_huntsFrom_4 {x1 : Int32} {x2 : Int32} {x3 : Int32} {s : wk_St} {z : wk_R} (n : Nat) : ∀ {x4 : Int32} {x5 : Int32} {a : Int32} (h : wk_loop (S_X2_huntsFrom_4 x1 x2 x3 s) n (x4, x5) = some a) (hk : ∀ (u5 : Value), wk_H wk_shC 2 mc_X2_huntsFrom 22 [.ref 3, .int x1, .int x2, .int x3, .int a, u5] [] s z), wk_H wk_shC 2 mc_X2_huntsFrom 4 [.ref 3, .int x1, .int x2, .int x3, .int x4, .int x5] [] s z := by
  induction n with
  | zero =>
    intros
    rename_i h _
    exact nomatch (show (none : Option _) = some _ from h)
  | succ n ih =>
    intros
    rename_i h hk
    obtain ⟨o, ho, h⟩ := wk_bindE (show Option.bind _ _ = some _ from h)
    refine ts_S_X2_huntsFrom_4 ho ?_
    cases o with
    | inl a1 =>
      cases h
      exact hk
    | inr p =>
      obtain ⟨p0, p1⟩ := p
      exact ih h hk
set_option maxHeartbeats 4000000 in
set_option maxRecDepth 20000 in
theorem t_X2_huntsFrom {x1 : Int32} {x2 : Int32} {x3 : Int32} {s : wk_St} {r : Int32} (h : f_X2_huntsFrom x1 x2 x3 s = some r) : wk_T wk_shC 2 184 [.ref 3, .int x1, .int x2, .int x3] s (some (.int r), s) := by
  suffices H : ∀ z, z = (some (.int r), s) → wk_H wk_shC 2 mc_X2_huntsFrom 0 [.ref 3, .int x1, .int x2, .int x3, wk_U, wk_U] [] s z from H _ rfl
  intro z hk
  dsimp only [f_X2_huntsFrom] at h
  refine wk_Hs 4 4 ⟨rfl, rfl⟩ (ls' := [.ref 3, .int x1, .int x2, .int x3, .int (0 : Int32), .int (0 : Int32)]) (st' := []) (σ' := s) rfl ?_
  obtain ⟨v4, hv4, h⟩ := wk_bindE h
  refine tl_S_X2_huntsFrom_4 wk_F hv4 ?_
  intro g5
  refine wk_Hs 1 23 ⟨rfl, rfl⟩ (ls' := [.ref 3, .int x1, .int x2, .int x3, .int v4, g5]) (st' := [.int v4]) (σ' := s) rfl ?_
  cases h
  exact wk_eqz hk (wk_Hret rfl)
set_option maxHeartbeats 4000000 in
set_option maxRecDepth 20000 in
theorem tj_j_X11_safest_40_l20 {x1 : Int32} {x2 : Int32} {x3 : Int32} {x4 : Int32} {x5 : Int32} {s_0 : Int32} {w6 : Value} {s : wk_St} {z : wk_R} {o : (Int32 × Int32) ⊕ (Int32 × Int32 × Int32)} (h : j_X11_safest_40_l20 x1 x2 x3 x4 x5 s_0 s = some o) (hk : match (generalizing := false) o with | Sum.inl a => (∀ (u5 u6 : Value), wk_H wk_shC 3 mc_X11_safest 50 [.ref 0, .int x1, .int x2, .int a.1, .int a.2, u5, u6] [] s z) | Sum.inr y => ∀ (u6 : Value), wk_H wk_shC 3 mc_X11_safest 20 [.ref 0, .int x1, .int x2, .int y.1, .int y.2.1, .int y.2.2, u6] [] s z) : wk_H wk_shC 3 mc_X11_safest 40 [.ref 0, .int x1, .int x2, .int x3, .int x4, .int x5, w6] [.int s_0] s z := by
  dsimp only [j_X11_safest_40_l20] at h
  refine wk_Hs 3 43 ⟨rfl, rfl⟩ (ls' := [.ref 0, .int x1, .int x2, .int x3, .int x4, .int x5, .int s_0]) (st' := [.int x4, .int s_0]) (σ' := s) rfl ?_
  rcases wk_ife h with ⟨hc, h⟩ | ⟨hc, h⟩
  · refine wk_Hbt 48 rfl (wk_cge.2 hc) ?_
    refine wk_Hs 1 49 ⟨rfl, rfl⟩ (ls' := [.ref 0, .int x1, .int x2, .int x3, .int x4, .int (x5 + (1 : Int32)), .int s_0]) (st' := []) (σ' := s) rfl ?_
    refine wk_Hgoto (t := 20) rfl ?_
    cases h
    exact hk _
  · refine wk_Hbf 48 44 rfl rfl (wk_nf wk_cge hc) ?_
    refine wk_Hs 5 49 ⟨rfl, rfl⟩ (ls' := [.ref 0, .int x1, .int x2, .int x5, .int s_0, .int (x5 + (1 : Int32)), .int s_0]) (st' := []) (σ' := s) rfl ?_
    refine wk_Hgoto (t := 20) rfl ?_
    cases h
    exact hk _
set_option maxHeartbeats 4000000 in
set_option maxRecDepth 20000 in
theorem ts_S_X11_safest_20 {x1 : Int32} {x2 : Int32} {x3 : Int32} {x4 : Int32} {x5 : Int32} {w6 : Value} {s : wk_St} {z : wk_R} {o : (Int32 × Int32) ⊕ (Int32 × Int32 × Int32)} (h : S_X11_safest_20 x1 x2 s (x3, x4, x5) = some o) (hk : match (generalizing := false) o with | Sum.inl a => (∀ (u5 u6 : Value), wk_H wk_shC 3 mc_X11_safest 50 [.ref 0, .int x1, .int x2, .int a.1, .int a.2, u5, u6] [] s z) | Sum.inr y => ∀ (u6 : Value), wk_H wk_shC 3 mc_X11_safest 20 [.ref 0, .int x1, .int x2, .int y.1, .int y.2.1, .int y.2.2, u6] [] s z) : wk_H wk_shC 3 mc_X11_safest 20 [.ref 0, .int x1, .int x2, .int x3, .int x4, .int x5, w6] [] s z := by
  dsimp only [S_X11_safest_20] at h
  refine wk_Hs 2 22 ⟨rfl, rfl⟩ (ls' := [.ref 0, .int x1, .int x2, .int x3, .int x4, .int x5, w6]) (st' := [.int (12 : Int32), .int x5]) (σ' := s) rfl ?_
  rcases wk_ife h with ⟨hc, h⟩ | ⟨hc, h⟩
  · refine wk_Hbt 50 rfl (wk_cge.2 hc) ?_
    cases h
    exact hk _ _
  · refine wk_Hbf 50 23 rfl rfl (wk_nf wk_cge hc) ?_
    refine wk_Hs 3 26 ⟨rfl, rfl⟩ (ls' := [.ref 0, .int x1, .int x2, .int x3, .int x4, .int x5, w6]) (st' := [.int x5, .ref 3]) (σ' := s) rfl ?_
    refine wk_Hcall (i2 := 27) (args := [.ref 3, .int x5]) (rest := []) (r := some (.int (b2i (f_X2_isTold x5 s)))) (σ1 := s) rfl rfl ⟨rfl, rfl, rfl, rfl, rfl⟩ rfl ((t_X2_isTold rfl).up (by decide)) ?_
    rcases wk_ife h with ⟨hc, h⟩ | ⟨hc, h⟩
    · refine wk_H0t 37 rfl (wk_zeq.2 hc) ?_
      refine wk_Hs 3 40 ⟨rfl, rfl⟩ (ls' := [.ref 0, .int x1, .int x2, .int x3, .int x4, .int x5, w6]) (st' := [.int (x1 + (1 : Int32))]) (σ' := s) rfl ?_
      exact tj_j_X11_safest_40_l20 h hk
    · refine wk_H0f 37 28 rfl rfl (wk_nf wk_zeq hc) ?_
      refine wk_Hs 7 35 ⟨rfl, rfl⟩ (ls' := [.ref 0, .int x1, .int x2, .int x3, .int x4, .int x5, w6]) (st' := [.int x1, .int (s.1 8 5), .int x5, .ref 3]) (σ' := s) rfl ?_
      obtain ⟨v5, hv5, h⟩ := wk_bindE h
      refine wk_Hcall (i2 := 36) (args := [.ref 3, .int x5, .int (s.1 8 5), .int x1]) (rest := []) (r := some (.int v5)) (σ1 := s) rfl rfl ⟨rfl, rfl, rfl, rfl, rfl⟩ rfl ((t_X2_huntsFrom hv5).up (by decide)) ?_
      refine wk_Hgoto (t := 40) rfl ?_
      exact tj_j_X11_safest_40_l20 h hk
set_option maxHeartbeats 4000000 in
set_option maxRecDepth 20000 in
theorem tl_S_X11_safest_20 {x1 : Int32} {x2 : Int32} {s : wk_St} {z : wk_R} (n : Nat) : ∀ {x3 : Int32} {x4 : Int32} {x5 : Int32} {w6 : Value} {a : Int32 × Int32} (h : wk_loop (S_X11_safest_20 x1 x2 s) n (x3, x4, x5) = some a) (hk : ∀ (u5 u6 : Value), wk_H wk_shC 3 mc_X11_safest 50 [.ref 0, .int x1, .int x2, .int a.1, .int a.2, u5, u6] [] s z), wk_H wk_shC 3 mc_X11_safest 20 [.ref 0, .int x1, .int x2, .int x3, .int x4, .int x5, w6] [] s z := by
  induction n with
  | zero =>
    intros
    rename_i h _
    exact nomatch (show (none : Option _) = some _ from h)
  | succ n ih =>
    intros
    rename_i h hk
    obtain ⟨o, ho, h⟩ := wk_bindE (show Option.bind _ _ = some _ from h)
    refine ts_S_X11_safest_20 ho ?_
    cases o with
    | inl a1 =>
      cases h
      exact hk
    | inr p =>
      obtain ⟨p0, p1, p2⟩ := p
      exact fun _ => ih h hk
set_option maxHeartbeats 4000000 in
set_option maxRecDepth 20000 in
theorem t_X11_safest {x1 : Int32} {x2 : Int32} {s : wk_St} {r : Int32} (h : f_X11_safest x1 x2 s = some r) : wk_T wk_shC 3 17 [.ref 0, .int x1, .int x2] s (some (.int r), s) := by
  suffices H : ∀ z, z = (some (.int r), s) → wk_H wk_shC 3 mc_X11_safest 0 [.ref 0, .int x1, .int x2, wk_U, wk_U, wk_U, wk_U] [] s z from H _ rfl
  intro z hk
  dsimp only [f_X11_safest] at h
  refine wk_Hs 3 3 ⟨rfl, rfl⟩ (ls' := [.ref 0, .int x1, .int x2, wk_U, wk_U, wk_U, wk_U]) (st' := [.int (240 : Int32), .int (1 : Int32), .int x1]) (σ' := s) rfl ?_
  refine wk_Hcall (i2 := 4) (args := [.int x1, .int (1 : Int32), .int (240 : Int32)]) (rest := []) (r := some (.int (b2i (f_X11_isWithin x1 (1 : Int32) (240 : Int32))))) (σ1 := s) rfl rfl ⟨rfl, rfl, rfl, rfl, rfl⟩ rfl ((t_X11_isWithin rfl).up (by decide)) ?_
  rcases wk_ife h with ⟨hc, h⟩ | ⟨hc, h⟩
  · refine wk_H0t 10 rfl (wk_zeq.2 hc) ?_
    refine wk_Hs 1 11 ⟨rfl, rfl⟩ (ls' := [.ref 0, .int x1, .int x2, wk_U, wk_U, wk_U, wk_U]) (st' := [.int (-1 : Int32)]) (σ' := s) rfl ?_
    cases h
    exact wk_eqz hk (wk_Hret rfl)
  · refine wk_H0f 10 5 rfl rfl (wk_nf wk_zeq hc) ?_
    refine wk_Hs 3 8 ⟨rfl, rfl⟩ (ls' := [.ref 0, .int x1, .int x2, wk_U, wk_U, wk_U, wk_U]) (st' := [.int (1 : Int32), .int (0 : Int32), .int x2]) (σ' := s) rfl ?_
    refine wk_Hcall (i2 := 9) (args := [.int x2, .int (0 : Int32), .int (1 : Int32)]) (rest := []) (r := some (.int (b2i (f_X11_isWithin x2 (0 : Int32) (1 : Int32))))) (σ1 := s) rfl rfl ⟨rfl, rfl, rfl, rfl, rfl⟩ rfl ((t_X11_isWithin rfl).up (by decide)) ?_
    rcases wk_ife h with ⟨hc, h⟩ | ⟨hc, h⟩
    · refine wk_H0t 12 rfl (wk_zne.2 hc) ?_
      refine wk_Hs 5 17 ⟨rfl, rfl⟩ (ls' := [.ref 0, .int x1, .int x2, .int (-2 : Int32), wk_U, wk_U, wk_U]) (st' := [.int (x1 + (1 : Int32))]) (σ' := s) rfl ?_
      replace h := wk_letE h
      refine wk_Hs 3 20 ⟨rfl, rfl⟩ (ls' := [.ref 0, .int x1, .int x2, .int (-2 : Int32), .int (x1 + (1 : Int32)), .int (0 : Int32), wk_U]) (st' := []) (σ' := s) rfl ?_
      obtain ⟨v6, hv6, h⟩ := wk_bindE h
      refine tl_S_X11_safest_20 wk_F hv6 ?_
      intro g7 g8
      refine wk_Hs 1 51 ⟨rfl, rfl⟩ (ls' := [.ref 0, .int x1, .int x2, .int v6.1, .int v6.2, g7, g8]) (st' := [.int x2]) (σ' := s) rfl ?_
      rcases wk_ife h with ⟨hc, h⟩ | ⟨hc, h⟩
      · refine wk_H0t 54 rfl (wk_ceq.2 hc) ?_
        refine wk_Hs 1 55 ⟨rfl, rfl⟩ (ls' := [.ref 0, .int x1, .int x2, .int v6.1, .int v6.2, g7, g8]) (st' := [.int v6.1]) (σ' := s) rfl ?_
        refine wk_Hgoto (t := 57) rfl ?_
        cases h
        exact wk_eqz hk (wk_Hret rfl)
      · refine wk_H0f 54 52 rfl rfl (wk_nf wk_ceq hc) ?_
        refine wk_Hs 1 53 ⟨rfl, rfl⟩ (ls' := [.ref 0, .int x1, .int x2, .int v6.1, .int v6.2, g7, g8]) (st' := [.int v6.1]) (σ' := s) rfl ?_
        rcases wk_ife h with ⟨hc, h⟩ | ⟨hc, h⟩
        · refine wk_H0t 56 rfl (wk_cge.2 hc) ?_
          refine wk_Hs 1 57 ⟨rfl, rfl⟩ (ls' := [.ref 0, .int x1, .int x2, .int v6.1, .int v6.2, g7, g8]) (st' := [.int v6.2]) (σ' := s) rfl ?_
          cases h
          exact wk_eqz hk (wk_Hret rfl)
        · refine wk_H0f 56 54 rfl rfl (wk_nf wk_cge hc) ?_
          refine wk_Hs 1 55 ⟨rfl, rfl⟩ (ls' := [.ref 0, .int x1, .int x2, .int v6.1, .int v6.2, g7, g8]) (st' := [.int v6.1]) (σ' := s) rfl ?_
          refine wk_Hgoto (t := 57) rfl ?_
          cases h
          exact wk_eqz hk (wk_Hret rfl)
    · refine wk_H0f 12 10 rfl rfl (wk_nf wk_zne hc) ?_
      refine wk_Hs 1 11 ⟨rfl, rfl⟩ (ls' := [.ref 0, .int x1, .int x2, wk_U, wk_U, wk_U, wk_U]) (st' := [.int (-1 : Int32)]) (σ' := s) rfl ?_
      cases h
      exact wk_eqz hk (wk_Hret rfl)
set_option maxHeartbeats 4000000 in
set_option maxRecDepth 20000 in
theorem ts_S_X0_livingWolfDays_4 {x1 : Int32} {x2 : Int32} {s : wk_St} {z : wk_R} {o : (Int32) ⊕ (Int32 × Int32)} (h : S_X0_livingWolfDays_4 s (x1, x2) = some o) (hk : match (generalizing := false) o with | Sum.inl a => (∀ (u2 : Value), wk_H wk_shC 3 mc_X0_livingWolfDays 22 [.ref 8, .int a, u2] [] s z) | Sum.inr y => wk_H wk_shC 3 mc_X0_livingWolfDays 4 [.ref 8, .int y.1, .int y.2] [] s z) : wk_H wk_shC 3 mc_X0_livingWolfDays 4 [.ref 8, .int x1, .int x2] [] s z := by
  dsimp only [S_X0_livingWolfDays_4] at h
  refine wk_Hs 2 6 ⟨rfl, rfl⟩ (ls' := [.ref 8, .int x1, .int x2]) (st' := [.int (9 : Int32), .int x2]) (σ' := s) rfl ?_
  rcases wk_ife h with ⟨hc, h⟩ | ⟨hc, h⟩
  · refine wk_Hbt 22 rfl (wk_cge.2 hc) ?_
    cases h
    exact hk _
  · refine wk_Hbf 22 7 rfl rfl (wk_nf wk_cge hc) ?_
    refine wk_Hs 3 10 ⟨rfl, rfl⟩ (ls' := [.ref 8, .int x1, .int x2]) (st' := [.int x2, .ref 8, .int x1]) (σ' := s) rfl ?_
    obtain ⟨v1, hv1, h⟩ := wk_bindE h
    refine wk_Hcall (i2 := 11) (args := [.ref 8, .int x2]) (rest := [.int x1]) (r := some (.int (b2i v1))) (σ1 := s) rfl rfl ⟨rfl, rfl, rfl, rfl, rfl⟩ rfl ((t_X0_isLiving_8 hv1).up (by decide)) ?_
    rcases wk_ife h with ⟨hc, h⟩ | ⟨hc, h⟩
    · refine wk_H0t 17 rfl (wk_zeq.2 hc) ?_
      refine wk_Hs 2 19 ⟨rfl, rfl⟩ (ls' := [.ref 8, .int x1, .int x2]) (st' := [.int (x1 ||| (0 : Int32))]) (σ' := s) rfl ?_
      replace h := wk_letE h
      refine wk_Hs 2 21 ⟨rfl, rfl⟩ (ls' := [.ref 8, .int (x1 ||| (0 : Int32)), .int (x2 + (1 : Int32))]) (st' := []) (σ' := s) rfl ?_
      refine wk_Hgoto (t := 4) rfl ?_
      cases h
      exact hk
    · refine wk_H0f 17 12 rfl rfl (wk_nf wk_zeq hc) ?_
      refine wk_Hs 3 15 ⟨rfl, rfl⟩ (ls' := [.ref 8, .int x1, .int x2]) (st' := [.int x2, .ref 10, .int x1]) (σ' := s) rfl ?_
      obtain ⟨hg, h⟩ := wk_gdE h
      refine wk_Hia 16 rfl rfl rfl hg rfl ?_
      refine wk_Hgoto (t := 18) rfl ?_
      refine wk_Hs 1 19 ⟨rfl, rfl⟩ (ls' := [.ref 8, .int x1, .int x2]) (st' := [.int (x1 ||| (s.1 10 (x2.toNatClampNeg)))]) (σ' := s) rfl ?_
      replace h := wk_letE h
      refine wk_Hs 2 21 ⟨rfl, rfl⟩ (ls' := [.ref 8, .int (x1 ||| (s.1 10 (x2.toNatClampNeg))), .int (x2 + (1 : Int32))]) (st' := []) (σ' := s) rfl ?_
      refine wk_Hgoto (t := 4) rfl ?_
      cases h
      exact hk
set_option maxHeartbeats 4000000 in
set_option maxRecDepth 20000 in
theorem tl_S_X0_livingWolfDays_4 {s : wk_St} {z : wk_R} (n : Nat) : ∀ {x1 : Int32} {x2 : Int32} {a : Int32} (h : wk_loop (S_X0_livingWolfDays_4 s) n (x1, x2) = some a) (hk : ∀ (u2 : Value), wk_H wk_shC 3 mc_X0_livingWolfDays 22 [.ref 8, .int a, u2] [] s z), wk_H wk_shC 3 mc_X0_livingWolfDays 4 [.ref 8, .int x1, .int x2] [] s z := by
  induction n with
  | zero =>
    intros
    rename_i h _
    exact nomatch (show (none : Option _) = some _ from h)
  | succ n ih =>
    intros
    rename_i h hk
    obtain ⟨o, ho, h⟩ := wk_bindE (show Option.bind _ _ = some _ from h)
    refine ts_S_X0_livingWolfDays_4 ho ?_
    cases o with
    | inl a1 =>
      cases h
      exact hk
    | inr p =>
      obtain ⟨p0, p1⟩ := p
      exact ih h hk
set_option maxHeartbeats 4000000 in
set_option maxRecDepth 20000 in
theorem t_X0_livingWolfDays {s : wk_St} {r : Int32} (h : f_X0_livingWolfDays s = some r) : wk_T wk_shC 3 162 [.ref 8] s (some (.int r), s) := by
  suffices H : ∀ z, z = (some (.int r), s) → wk_H wk_shC 3 mc_X0_livingWolfDays 0 [.ref 8, wk_U, wk_U] [] s z from H _ rfl
  intro z hk
  dsimp only [f_X0_livingWolfDays] at h
  refine wk_Hs 4 4 ⟨rfl, rfl⟩ (ls' := [.ref 8, .int (0 : Int32), .int (0 : Int32)]) (st' := []) (σ' := s) rfl ?_
  obtain ⟨v4, hv4, h⟩ := wk_bindE h
  refine tl_S_X0_livingWolfDays_4 wk_F hv4 ?_
  intro g5
  refine wk_Hs 1 23 ⟨rfl, rfl⟩ (ls' := [.ref 8, .int v4, g5]) (st' := [.int v4]) (σ' := s) rfl ?_
  cases h
  exact wk_eqz hk (wk_Hret rfl)
set_option maxHeartbeats 4000000 in
set_option maxRecDepth 20000 in
theorem ts_S_X11_calm_22 {x1 : Int32} {x2 : Int32} {x3 : Int32} {x4 : Int32} {x5 : Int32} {x6 : Int32} {s : wk_St} {z : wk_R} {o : (Int32 × Int32) ⊕ (Int32 × Int32 × Int32)} (h : S_X11_calm_22 x1 x2 x3 s (x4, x5, x6) = some o) (hk : match (generalizing := false) o with | Sum.inl a => (∀ (u6 : Value), wk_H wk_shC 4 mc_X11_calm 45 [.ref 0, .int x1, .int x2, .int x3, .int a.1, .int a.2, u6] [] s z) | Sum.inr y => wk_H wk_shC 4 mc_X11_calm 22 [.ref 0, .int x1, .int x2, .int x3, .int y.1, .int y.2.1, .int y.2.2] [] s z) : wk_H wk_shC 4 mc_X11_calm 22 [.ref 0, .int x1, .int x2, .int x3, .int x4, .int x5, .int x6] [] s z := by
  dsimp only [S_X11_calm_22] at h
  refine wk_Hs 2 24 ⟨rfl, rfl⟩ (ls' := [.ref 0, .int x1, .int x2, .int x3, .int x4, .int x5, .int x6]) (st' := [.int x1, .int x6]) (σ' := s) rfl ?_
  rcases wk_ife h with ⟨hc, h⟩ | ⟨hc, h⟩
  · refine wk_Hbt 45 rfl (wk_cge.2 hc) ?_
    cases h
    exact hk _
  · refine wk_Hbf 45 25 rfl rfl (wk_nf wk_cge hc) ?_
    refine wk_Hs 8 33 ⟨rfl, rfl⟩ (ls' := [.ref 0, .int x1, .int x2, .int x3, .int x4, .int x5, .int x6]) (st' := [.int ((s.1 8 5) + x6), .ref 3, .int x3]) (σ' := s) rfl ?_
    obtain ⟨v4, hv4, h⟩ := wk_bindE h
    refine wk_Hcall (i2 := 34) (args := [.ref 3, .int ((s.1 8 5) + x6)]) (rest := [.int x3]) (r := some (.int v4)) (σ1 := s) rfl rfl ⟨rfl, rfl, rfl, rfl, rfl⟩ rfl ((t_X2_weekdayOf hv4).up (by decide)) ?_
    refine wk_Hcall (i2 := 35) (args := [.int x3, .int v4]) (rest := []) (r := some (.int (b2i (f_X11_hasBit x3 v4)))) (σ1 := s) rfl rfl ⟨rfl, rfl, rfl, rfl, rfl⟩ rfl ((t_X11_hasBit rfl).up (by decide)) ?_
    rcases wk_ife h with ⟨hc, h⟩ | ⟨hc, h⟩
    · refine wk_H0t 43 rfl (wk_zne.2 hc) ?_
      refine wk_Hs 1 44 ⟨rfl, rfl⟩ (ls' := [.ref 0, .int x1, .int x2, .int x3, .int x4, .int x5, .int (x6 + (1 : Int32))]) (st' := []) (σ' := s) rfl ?_
      refine wk_Hgoto (t := 22) rfl ?_
      cases h
      exact hk
    · refine wk_H0f 43 36 rfl rfl (wk_nf wk_zne hc) ?_
      refine wk_Hs 1 37 ⟨rfl, rfl⟩ (ls' := [.ref 0, .int x1, .int x2, .int x3, .int x4, .int x5, .int x6]) (st' := [.int x4]) (σ' := s) rfl ?_
      rcases wk_ife h with ⟨hc, h⟩ | ⟨hc, h⟩
      · refine wk_H0t 40 rfl (wk_cne.2 hc) ?_
        refine wk_Hs 4 44 ⟨rfl, rfl⟩ (ls' := [.ref 0, .int x1, .int x2, .int x3, .int (x4 + (1 : Int32)), .int x5, .int (x6 + (1 : Int32))]) (st' := []) (σ' := s) rfl ?_
        refine wk_Hgoto (t := 22) rfl ?_
        cases h
        exact hk
      · refine wk_H0f 40 38 rfl rfl (wk_nf wk_cne hc) ?_
        refine wk_Hs 1 39 ⟨rfl, rfl⟩ (ls' := [.ref 0, .int x1, .int x2, .int x3, .int x4, .int x5, .int x6]) (st' := [.int x6]) (σ' := s) rfl ?_
        refine wk_Hgoto (t := 41) rfl ?_
        refine wk_Hs 3 44 ⟨rfl, rfl⟩ (ls' := [.ref 0, .int x1, .int x2, .int x3, .int (x4 + (1 : Int32)), .int x6, .int (x6 + (1 : Int32))]) (st' := []) (σ' := s) rfl ?_
        refine wk_Hgoto (t := 22) rfl ?_
        cases h
        exact hk
set_option maxHeartbeats 4000000 in
set_option maxRecDepth 20000 in
theorem tl_S_X11_calm_22 {x1 : Int32} {x2 : Int32} {x3 : Int32} {s : wk_St} {z : wk_R} (n : Nat) : ∀ {x4 : Int32} {x5 : Int32} {x6 : Int32} {a : Int32 × Int32} (h : wk_loop (S_X11_calm_22 x1 x2 x3 s) n (x4, x5, x6) = some a) (hk : ∀ (u6 : Value), wk_H wk_shC 4 mc_X11_calm 45 [.ref 0, .int x1, .int x2, .int x3, .int a.1, .int a.2, u6] [] s z), wk_H wk_shC 4 mc_X11_calm 22 [.ref 0, .int x1, .int x2, .int x3, .int x4, .int x5, .int x6] [] s z := by
  induction n with
  | zero =>
    intros
    rename_i h _
    exact nomatch (show (none : Option _) = some _ from h)
  | succ n ih =>
    intros
    rename_i h hk
    obtain ⟨o, ho, h⟩ := wk_bindE (show Option.bind _ _ = some _ from h)
    refine ts_S_X11_calm_22 ho ?_
    cases o with
    | inl a1 =>
      cases h
      exact hk
    | inr p =>
      obtain ⟨p0, p1, p2⟩ := p
      exact ih h hk
set_option maxHeartbeats 4000000 in
set_option maxRecDepth 20000 in
theorem t_X11_calm {x1 : Int32} {x2 : Int32} {s : wk_St} {r : Int32} (h : f_X11_calm x1 x2 s = some r) : wk_T wk_shC 4 18 [.ref 0, .int x1, .int x2] s (some (.int r), s) := by
  suffices H : ∀ z, z = (some (.int r), s) → wk_H wk_shC 4 mc_X11_calm 0 [.ref 0, .int x1, .int x2, wk_U, wk_U, wk_U, wk_U] [] s z from H _ rfl
  intro z hk
  dsimp only [f_X11_calm] at h
  refine wk_Hs 3 3 ⟨rfl, rfl⟩ (ls' := [.ref 0, .int x1, .int x2, wk_U, wk_U, wk_U, wk_U]) (st' := [.int (240 : Int32), .int (1 : Int32), .int x1]) (σ' := s) rfl ?_
  refine wk_Hcall (i2 := 4) (args := [.int x1, .int (1 : Int32), .int (240 : Int32)]) (rest := []) (r := some (.int (b2i (f_X11_isWithin x1 (1 : Int32) (240 : Int32))))) (σ1 := s) rfl rfl ⟨rfl, rfl, rfl, rfl, rfl⟩ rfl ((t_X11_isWithin rfl).up (by decide)) ?_
  rcases wk_ife h with ⟨hc, h⟩ | ⟨hc, h⟩
  · refine wk_H0t 10 rfl (wk_zeq.2 hc) ?_
    refine wk_Hs 1 11 ⟨rfl, rfl⟩ (ls' := [.ref 0, .int x1, .int x2, wk_U, wk_U, wk_U, wk_U]) (st' := [.int (-1 : Int32)]) (σ' := s) rfl ?_
    cases h
    exact wk_eqz hk (wk_Hret rfl)
  · refine wk_H0f 10 5 rfl rfl (wk_nf wk_zeq hc) ?_
    refine wk_Hs 3 8 ⟨rfl, rfl⟩ (ls' := [.ref 0, .int x1, .int x2, wk_U, wk_U, wk_U, wk_U]) (st' := [.int (1 : Int32), .int (0 : Int32), .int x2]) (σ' := s) rfl ?_
    refine wk_Hcall (i2 := 9) (args := [.int x2, .int (0 : Int32), .int (1 : Int32)]) (rest := []) (r := some (.int (b2i (f_X11_isWithin x2 (0 : Int32) (1 : Int32))))) (σ1 := s) rfl rfl ⟨rfl, rfl, rfl, rfl, rfl⟩ rfl ((t_X11_isWithin rfl).up (by decide)) ?_
    rcases wk_ife h with ⟨hc, h⟩ | ⟨hc, h⟩
    · refine wk_H0t 12 rfl (wk_zne.2 hc) ?_
      refine wk_Hs 2 14 ⟨rfl, rfl⟩ (ls' := [.ref 0, .int x1, .int x2, wk_U, wk_U, wk_U, wk_U]) (st' := [.ref 8]) (σ' := s) rfl ?_
      obtain ⟨v3, hv3, h⟩ := wk_bindE h
      refine wk_Hcall (i2 := 15) (args := [.ref 8]) (rest := []) (r := some (.int v3)) (σ1 := s) rfl rfl ⟨rfl, rfl, rfl, rfl, rfl⟩ rfl ((t_X0_livingWolfDays hv3).up (by decide)) ?_
      refine wk_Hs 7 22 ⟨rfl, rfl⟩ (ls' := [.ref 0, .int x1, .int x2, .int v3, .int (0 : Int32), .int (-2 : Int32), .int (0 : Int32)]) (st' := []) (σ' := s) rfl ?_
      obtain ⟨v6, hv6, h⟩ := wk_bindE h
      refine tl_S_X11_calm_22 wk_F hv6 ?_
      intro g7
      refine wk_Hs 1 46 ⟨rfl, rfl⟩ (ls' := [.ref 0, .int x1, .int x2, .int v3, .int v6.1, .int v6.2, g7]) (st' := [.int x2]) (σ' := s) rfl ?_
      rcases wk_ife h with ⟨hc, h⟩ | ⟨hc, h⟩
      · refine wk_H0t 49 rfl (wk_cne.2 hc) ?_
        refine wk_Hs 1 50 ⟨rfl, rfl⟩ (ls' := [.ref 0, .int x1, .int x2, .int v3, .int v6.1, .int v6.2, g7]) (st' := [.int v6.2]) (σ' := s) rfl ?_
        cases h
        exact wk_eqz hk (wk_Hret rfl)
      · refine wk_H0f 49 47 rfl rfl (wk_nf wk_cne hc) ?_
        refine wk_Hs 1 48 ⟨rfl, rfl⟩ (ls' := [.ref 0, .int x1, .int x2, .int v3, .int v6.1, .int v6.2, g7]) (st' := [.int v6.1]) (σ' := s) rfl ?_
        refine wk_Hgoto (t := 50) rfl ?_
        cases h
        exact wk_eqz hk (wk_Hret rfl)
    · refine wk_H0f 12 10 rfl rfl (wk_nf wk_zne hc) ?_
      refine wk_Hs 1 11 ⟨rfl, rfl⟩ (ls' := [.ref 0, .int x1, .int x2, wk_U, wk_U, wk_U, wk_U]) (st' := [.int (-1 : Int32)]) (σ' := s) rfl ?_
      cases h
      exact wk_eqz hk (wk_Hret rfl)
set_option maxHeartbeats 4000000 in
set_option maxRecDepth 20000 in
theorem ts_S_X2_reachOf_4 {x1 : Int32} {x2 : Int32} {x3 : Int32} {s : wk_St} {z : wk_R} {o : (Int32) ⊕ (Int32 × Int32)} (h : S_X2_reachOf_4 x1 s (x2, x3) = some o) (hk : match (generalizing := false) o with | Sum.inl a => (∀ (u3 : Value), wk_H wk_shC 2 mc_X2_reachOf 21 [.ref 3, .int x1, .int a, u3] [] s z) | Sum.inr y => wk_H wk_shC 2 mc_X2_reachOf 4 [.ref 3, .int x1, .int y.1, .int y.2] [] s z) : wk_H wk_shC 2 mc_X2_reachOf 4 [.ref 3, .int x1, .int x2, .int x3] [] s z := by
  dsimp only [S_X2_reachOf_4] at h
  refine wk_Hs 2 6 ⟨rfl, rfl⟩ (ls' := [.ref 3, .int x1, .int x2, .int x3]) (st' := [.int (12 : Int32), .int x3]) (σ' := s) rfl ?_
  rcases wk_ife h with ⟨hc, h⟩ | ⟨hc, h⟩
  · refine wk_Hbt 21 rfl (wk_cge.2 hc) ?_
    cases h
    exact hk _
  · refine wk_Hbf 21 7 rfl rfl (wk_nf wk_cge hc) ?_
    refine wk_Hs 4 11 ⟨rfl, rfl⟩ (ls' := [.ref 3, .int x1, .int x2, .int x3]) (st' := [.int x3, .int x1, .ref 3, .int x2]) (σ' := s) rfl ?_
    obtain ⟨v1, hv1, h⟩ := wk_bindE h
    refine wk_Hcall (i2 := 12) (args := [.ref 3, .int x1, .int x3]) (rest := [.int x2]) (r := some (.int v1)) (σ1 := s) rfl rfl ⟨rfl, rfl, rfl, rfl, rfl⟩ rfl ((t_X2_stepsBetween hv1).up (by decide)) ?_
    refine wk_Hs 1 13 ⟨rfl, rfl⟩ (ls' := [.ref 3, .int x1, .int x2, .int x3]) (st' := [.int (99 : Int32), .int v1, .int x2]) (σ' := s) rfl ?_
    rcases wk_ife h with ⟨hc, h⟩ | ⟨hc, h⟩
    · refine wk_Hbt 16 rfl (wk_cge.2 hc) ?_
      refine wk_Hs 2 18 ⟨rfl, rfl⟩ (ls' := [.ref 3, .int x1, .int x2, .int x3]) (st' := [.int (x2 + (0 : Int32))]) (σ' := s) rfl ?_
      replace h := wk_letE h
      refine wk_Hs 2 20 ⟨rfl, rfl⟩ (ls' := [.ref 3, .int x1, .int (x2 + (0 : Int32)), .int (x3 + (1 : Int32))]) (st' := []) (σ' := s) rfl ?_
      refine wk_Hgoto (t := 4) rfl ?_
      cases h
      exact hk
    · refine wk_Hbf 16 14 rfl rfl (wk_nf wk_cge hc) ?_
      refine wk_Hs 1 15 ⟨rfl, rfl⟩ (ls' := [.ref 3, .int x1, .int x2, .int x3]) (st' := [.int (1 : Int32), .int x2]) (σ' := s) rfl ?_
      refine wk_Hgoto (t := 17) rfl ?_
      refine wk_Hs 1 18 ⟨rfl, rfl⟩ (ls' := [.ref 3, .int x1, .int x2, .int x3]) (st' := [.int (x2 + (1 : Int32))]) (σ' := s) rfl ?_
      replace h := wk_letE h
      refine wk_Hs 2 20 ⟨rfl, rfl⟩ (ls' := [.ref 3, .int x1, .int (x2 + (1 : Int32)), .int (x3 + (1 : Int32))]) (st' := []) (σ' := s) rfl ?_
      refine wk_Hgoto (t := 4) rfl ?_
      cases h
      exact hk
set_option maxHeartbeats 4000000 in
set_option maxRecDepth 20000 in
theorem tl_S_X2_reachOf_4 {x1 : Int32} {s : wk_St} {z : wk_R} (n : Nat) : ∀ {x2 : Int32} {x3 : Int32} {a : Int32} (h : wk_loop (S_X2_reachOf_4 x1 s) n (x2, x3) = some a) (hk : ∀ (u3 : Value), wk_H wk_shC 2 mc_X2_reachOf 21 [.ref 3, .int x1, .int a, u3] [] s z), wk_H wk_shC 2 mc_X2_reachOf 4 [.ref 3, .int x1, .int x2, .int x3] [] s z := by
  induction n with
  | zero =>
    intros
    rename_i h _
    exact nomatch (show (none : Option _) = some _ from h)
  | succ n ih =>
    intros
    rename_i h hk
    obtain ⟨o, ho, h⟩ := wk_bindE (show Option.bind _ _ = some _ from h)
    refine ts_S_X2_reachOf_4 ho ?_
    cases o with
    | inl a1 =>
      cases h
      exact hk
    | inr p =>
      obtain ⟨p0, p1⟩ := p
      exact ih h hk
set_option maxHeartbeats 4000000 in
set_option maxRecDepth 20000 in
theorem t_X2_reachOf {x1 : Int32} {s : wk_St} {r : Int32} (h : f_X2_reachOf x1 s = some r) : wk_T wk_shC 2 178 [.ref 3, .int x1] s (some (.int r), s) := by
  suffices H : ∀ z, z = (some (.int r), s) → wk_H wk_shC 2 mc_X2_reachOf 0 [.ref 3, .int x1, wk_U, wk_U] [] s z from H _ rfl
  intro z hk
  dsimp only [f_X2_reachOf] at h
  refine wk_Hs 4 4 ⟨rfl, rfl⟩ (ls' := [.ref 3, .int x1, .int (0 : Int32), .int (0 : Int32)]) (st' := []) (σ' := s) rfl ?_
  obtain ⟨v4, hv4, h⟩ := wk_bindE h
  refine tl_S_X2_reachOf_4 wk_F hv4 ?_
  intro g5
  refine wk_Hs 1 22 ⟨rfl, rfl⟩ (ls' := [.ref 3, .int x1, .int v4, g5]) (st' := [.int v4]) (σ' := s) rfl ?_
  cases h
  exact wk_eqz hk (wk_Hret rfl)
set_option maxHeartbeats 4000000 in
set_option maxRecDepth 20000 in
theorem tj_j_X2_farthestFrom_21_l4 {x1 : Int32} {x2 : Int32} {x3 : Int32} {x4 : Int32} {s_0 : Int32} {w5 : Value} {s : wk_St} {z : wk_R} {o : (Int32) ⊕ (Int32 × Int32)} (h : j_X2_farthestFrom_21_l4 x1 x2 x3 x4 s_0 s = some o) (hk : match (generalizing := false) o with | Sum.inl a => (∀ (u3 u4 u5 : Value), wk_H wk_shC 2 mc_X2_farthestFrom 31 [.ref 3, .int x1, .int a, u3, u4, u5] [] s z) | Sum.inr y => ∀ (u4 u5 : Value), wk_H wk_shC 2 mc_X2_farthestFrom 4 [.ref 3, .int x1, .int y.1, .int y.2, u4, u5] [] s z) : wk_H wk_shC 2 mc_X2_farthestFrom 21 [.ref 3, .int x1, .int x2, .int x3, .int x4, w5] [.int s_0] s z := by
  dsimp only [j_X2_farthestFrom_21_l4] at h
  refine wk_Hs 3 24 ⟨rfl, rfl⟩ (ls' := [.ref 3, .int x1, .int x2, .int x3, .int x4, .int s_0]) (st' := [.int (99 : Int32), .int x4]) (σ' := s) rfl ?_
  rcases wk_ife h with ⟨hc, h⟩ | ⟨hc, h⟩
  · refine wk_Hbt 29 rfl (wk_cge.2 hc) ?_
    refine wk_Hs 1 30 ⟨rfl, rfl⟩ (ls' := [.ref 3, .int x1, .int x2, .int (x3 + (1 : Int32)), .int x4, .int s_0]) (st' := []) (σ' := s) rfl ?_
    refine wk_Hgoto (t := 4) rfl ?_
    cases h
    exact hk _ _
  · refine wk_Hbf 29 25 rfl rfl (wk_nf wk_cge hc) ?_
    refine wk_Hs 1 26 ⟨rfl, rfl⟩ (ls' := [.ref 3, .int x1, .int x2, .int x3, .int x4, .int s_0]) (st' := [.int s_0]) (σ' := s) rfl ?_
    rcases wk_ife h with ⟨hc, h⟩ | ⟨hc, h⟩
    · refine wk_H0t 29 rfl (wk_ceq.2 hc) ?_
      refine wk_Hs 1 30 ⟨rfl, rfl⟩ (ls' := [.ref 3, .int x1, .int x2, .int (x3 + (1 : Int32)), .int x4, .int s_0]) (st' := []) (σ' := s) rfl ?_
      refine wk_Hgoto (t := 4) rfl ?_
      cases h
      exact hk _ _
    · refine wk_H0f 29 27 rfl rfl (wk_nf wk_ceq hc) ?_
      refine wk_Hs 3 30 ⟨rfl, rfl⟩ (ls' := [.ref 3, .int x1, .int x3, .int (x3 + (1 : Int32)), .int x4, .int s_0]) (st' := []) (σ' := s) rfl ?_
      refine wk_Hgoto (t := 4) rfl ?_
      cases h
      exact hk _ _
set_option maxHeartbeats 4000000 in
set_option maxRecDepth 20000 in
theorem ts_S_X2_farthestFrom_4 {x1 : Int32} {x2 : Int32} {x3 : Int32} {w4 : Value} {w5 : Value} {s : wk_St} {z : wk_R} {o : (Int32) ⊕ (Int32 × Int32)} (h : S_X2_farthestFrom_4 x1 s (x2, x3) = some o) (hk : match (generalizing := false) o with | Sum.inl a => (∀ (u3 u4 u5 : Value), wk_H wk_shC 2 mc_X2_farthestFrom 31 [.ref 3, .int x1, .int a, u3, u4, u5] [] s z) | Sum.inr y => ∀ (u4 u5 : Value), wk_H wk_shC 2 mc_X2_farthestFrom 4 [.ref 3, .int x1, .int y.1, .int y.2, u4, u5] [] s z) : wk_H wk_shC 2 mc_X2_farthestFrom 4 [.ref 3, .int x1, .int x2, .int x3, w4, w5] [] s z := by
  dsimp only [S_X2_farthestFrom_4] at h
  refine wk_Hs 2 6 ⟨rfl, rfl⟩ (ls' := [.ref 3, .int x1, .int x2, .int x3, w4, w5]) (st' := [.int (12 : Int32), .int x3]) (σ' := s) rfl ?_
  rcases wk_ife h with ⟨hc, h⟩ | ⟨hc, h⟩
  · refine wk_Hbt 31 rfl (wk_cge.2 hc) ?_
    cases h
    exact hk _ _ _
  · refine wk_Hbf 31 7 rfl rfl (wk_nf wk_cge hc) ?_
    refine wk_Hs 3 10 ⟨rfl, rfl⟩ (ls' := [.ref 3, .int x1, .int x2, .int x3, w4, w5]) (st' := [.int x3, .int x1, .ref 3]) (σ' := s) rfl ?_
    obtain ⟨v1, hv1, h⟩ := wk_bindE h
    refine wk_Hcall (i2 := 11) (args := [.ref 3, .int x1, .int x3]) (rest := []) (r := some (.int v1)) (σ1 := s) rfl rfl ⟨rfl, rfl, rfl, rfl, rfl⟩ rfl ((t_X2_stepsBetween hv1).up (by decide)) ?_
    refine wk_Hs 5 16 ⟨rfl, rfl⟩ (ls' := [.ref 3, .int x1, .int x2, .int x3, .int v1, w5]) (st' := [.int x2, .int x1, .ref 3, .int v1]) (σ' := s) rfl ?_
    obtain ⟨v2, hv2, h⟩ := wk_bindE h
    refine wk_Hcall (i2 := 17) (args := [.ref 3, .int x1, .int x2]) (rest := [.int v1]) (r := some (.int v2)) (σ1 := s) rfl rfl ⟨rfl, rfl, rfl, rfl, rfl⟩ rfl ((t_X2_stepsBetween hv2).up (by decide)) ?_
    rcases wk_ife h with ⟨hc, h⟩ | ⟨hc, h⟩
    · refine wk_Hbt 20 rfl (wk_cle.2 hc) ?_
      refine wk_Hs 1 21 ⟨rfl, rfl⟩ (ls' := [.ref 3, .int x1, .int x2, .int x3, .int v1, w5]) (st' := [.int (0 : Int32)]) (σ' := s) rfl ?_
      exact tj_j_X2_farthestFrom_21_l4 h hk
    · refine wk_Hbf 20 18 rfl rfl (wk_nf wk_cle hc) ?_
      refine wk_Hs 1 19 ⟨rfl, rfl⟩ (ls' := [.ref 3, .int x1, .int x2, .int x3, .int v1, w5]) (st' := [.int (1 : Int32)]) (σ' := s) rfl ?_
      refine wk_Hgoto (t := 21) rfl ?_
      exact tj_j_X2_farthestFrom_21_l4 h hk
set_option maxHeartbeats 4000000 in
set_option maxRecDepth 20000 in
theorem tl_S_X2_farthestFrom_4 {x1 : Int32} {s : wk_St} {z : wk_R} (n : Nat) : ∀ {x2 : Int32} {x3 : Int32} {w4 : Value} {w5 : Value} {a : Int32} (h : wk_loop (S_X2_farthestFrom_4 x1 s) n (x2, x3) = some a) (hk : ∀ (u3 u4 u5 : Value), wk_H wk_shC 2 mc_X2_farthestFrom 31 [.ref 3, .int x1, .int a, u3, u4, u5] [] s z), wk_H wk_shC 2 mc_X2_farthestFrom 4 [.ref 3, .int x1, .int x2, .int x3, w4, w5] [] s z := by
  induction n with
  | zero =>
    intros
    rename_i h _
    exact nomatch (show (none : Option _) = some _ from h)
  | succ n ih =>
    intros
    rename_i h hk
    obtain ⟨o, ho, h⟩ := wk_bindE (show Option.bind _ _ = some _ from h)
    refine ts_S_X2_farthestFrom_4 ho ?_
    cases o with
    | inl a1 =>
      cases h
      exact hk
    | inr p =>
      obtain ⟨p0, p1⟩ := p
      exact fun _ _ => ih h hk
set_option maxHeartbeats 4000000 in
set_option maxRecDepth 20000 in
theorem t_X2_farthestFrom {x1 : Int32} {s : wk_St} {r : Int32} (h : f_X2_farthestFrom x1 s = some r) : wk_T wk_shC 2 179 [.ref 3, .int x1] s (some (.int r), s) := by
  suffices H : ∀ z, z = (some (.int r), s) → wk_H wk_shC 2 mc_X2_farthestFrom 0 [.ref 3, .int x1, wk_U, wk_U, wk_U, wk_U] [] s z from H _ rfl
  intro z hk
  dsimp only [f_X2_farthestFrom] at h
  refine wk_Hs 4 4 ⟨rfl, rfl⟩ (ls' := [.ref 3, .int x1, .int x1, .int (0 : Int32), wk_U, wk_U]) (st' := []) (σ' := s) rfl ?_
  obtain ⟨v3, hv3, h⟩ := wk_bindE h
  refine tl_S_X2_farthestFrom_4 wk_F hv3 ?_
  intro g4 g5 g6
  refine wk_Hs 1 32 ⟨rfl, rfl⟩ (ls' := [.ref 3, .int x1, .int v3, g4, g5, g6]) (st' := [.int v3]) (σ' := s) rfl ?_
  cases h
  exact wk_eqz hk (wk_Hret rfl)
set_option maxHeartbeats 4000000 in
set_option maxRecDepth 20000 in
theorem t_J6_bitCount_0f7a4 {x0 : Int32} {s : wk_St} {r : Int32} (h : f_J6_bitCount_0f7a4 x0 = r) : wk_T wk_shC 0 255 [.int x0] s (some (.int r), s) := by
  suffices H : ∀ z, z = (some (.int r), s) → wk_H wk_shC 0 mc_J6_bitCount_0f7a4 0 [.int x0] [] s z from H _ rfl
  intro z hk
  dsimp only [f_J6_bitCount_0f7a4] at h
  refine wk_Hs 7 7 ⟨rfl, rfl⟩ (ls' := [.int x0]) (st' := [.int (x0 - ((wk_ushr x0 (1 : Int32)) &&& (1431655765 : Int32)))]) (σ' := s) rfl ?_
  replace h := wk_letE h
  refine wk_Hs 10 17 ⟨rfl, rfl⟩ (ls' := [.int (x0 - ((wk_ushr x0 (1 : Int32)) &&& (1431655765 : Int32)))]) (st' := [.int (((x0 - ((wk_ushr x0 (1 : Int32)) &&& (1431655765 : Int32))) &&& (858993459 : Int32)) + ((wk_ushr (x0 - ((wk_ushr x0 (1 : Int32)) &&& (1431655765 : Int32))) (2 : Int32)) &&& (858993459 : Int32)))]) (σ' := s) rfl ?_
  replace h := wk_letE h
  refine wk_Hs 8 25 ⟨rfl, rfl⟩ (ls' := [.int (((x0 - ((wk_ushr x0 (1 : Int32)) &&& (1431655765 : Int32))) &&& (858993459 : Int32)) + ((wk_ushr (x0 - ((wk_ushr x0 (1 : Int32)) &&& (1431655765 : Int32))) (2 : Int32)) &&& (858993459 : Int32)))]) (st' := [.int (((((x0 - ((wk_ushr x0 (1 : Int32)) &&& (1431655765 : Int32))) &&& (858993459 : Int32)) + ((wk_ushr (x0 - ((wk_ushr x0 (1 : Int32)) &&& (1431655765 : Int32))) (2 : Int32)) &&& (858993459 : Int32))) + (wk_ushr (((x0 - ((wk_ushr x0 (1 : Int32)) &&& (1431655765 : Int32))) &&& (858993459 : Int32)) + ((wk_ushr (x0 - ((wk_ushr x0 (1 : Int32)) &&& (1431655765 : Int32))) (2 : Int32)) &&& (858993459 : Int32))) (4 : Int32))) &&& (252645135 : Int32))]) (σ' := s) rfl ?_
  replace h := wk_letE h
  refine wk_Hs 6 31 ⟨rfl, rfl⟩ (ls' := [.int (((((x0 - ((wk_ushr x0 (1 : Int32)) &&& (1431655765 : Int32))) &&& (858993459 : Int32)) + ((wk_ushr (x0 - ((wk_ushr x0 (1 : Int32)) &&& (1431655765 : Int32))) (2 : Int32)) &&& (858993459 : Int32))) + (wk_ushr (((x0 - ((wk_ushr x0 (1 : Int32)) &&& (1431655765 : Int32))) &&& (858993459 : Int32)) + ((wk_ushr (x0 - ((wk_ushr x0 (1 : Int32)) &&& (1431655765 : Int32))) (2 : Int32)) &&& (858993459 : Int32))) (4 : Int32))) &&& (252645135 : Int32))]) (st' := [.int ((((((x0 - ((wk_ushr x0 (1 : Int32)) &&& (1431655765 : Int32))) &&& (858993459 : Int32)) + ((wk_ushr (x0 - ((wk_ushr x0 (1 : Int32)) &&& (1431655765 : Int32))) (2 : Int32)) &&& (858993459 : Int32))) + (wk_ushr (((x0 - ((wk_ushr x0 (1 : Int32)) &&& (1431655765 : Int32))) &&& (858993459 : Int32)) + ((wk_ushr (x0 - ((wk_ushr x0 (1 : Int32)) &&& (1431655765 : Int32))) (2 : Int32)) &&& (858993459 : Int32))) (4 : Int32))) &&& (252645135 : Int32)) + (wk_ushr (((((x0 - ((wk_ushr x0 (1 : Int32)) &&& (1431655765 : Int32))) &&& (858993459 : Int32)) + ((wk_ushr (x0 - ((wk_ushr x0 (1 : Int32)) &&& (1431655765 : Int32))) (2 : Int32)) &&& (858993459 : Int32))) + (wk_ushr (((x0 - ((wk_ushr x0 (1 : Int32)) &&& (1431655765 : Int32))) &&& (858993459 : Int32)) + ((wk_ushr (x0 - ((wk_ushr x0 (1 : Int32)) &&& (1431655765 : Int32))) (2 : Int32)) &&& (858993459 : Int32))) (4 : Int32))) &&& (252645135 : Int32)) (8 : Int32)))]) (σ' := s) rfl ?_
  replace h := wk_letE h
  refine wk_Hs 6 37 ⟨rfl, rfl⟩ (ls' := [.int ((((((x0 - ((wk_ushr x0 (1 : Int32)) &&& (1431655765 : Int32))) &&& (858993459 : Int32)) + ((wk_ushr (x0 - ((wk_ushr x0 (1 : Int32)) &&& (1431655765 : Int32))) (2 : Int32)) &&& (858993459 : Int32))) + (wk_ushr (((x0 - ((wk_ushr x0 (1 : Int32)) &&& (1431655765 : Int32))) &&& (858993459 : Int32)) + ((wk_ushr (x0 - ((wk_ushr x0 (1 : Int32)) &&& (1431655765 : Int32))) (2 : Int32)) &&& (858993459 : Int32))) (4 : Int32))) &&& (252645135 : Int32)) + (wk_ushr (((((x0 - ((wk_ushr x0 (1 : Int32)) &&& (1431655765 : Int32))) &&& (858993459 : Int32)) + ((wk_ushr (x0 - ((wk_ushr x0 (1 : Int32)) &&& (1431655765 : Int32))) (2 : Int32)) &&& (858993459 : Int32))) + (wk_ushr (((x0 - ((wk_ushr x0 (1 : Int32)) &&& (1431655765 : Int32))) &&& (858993459 : Int32)) + ((wk_ushr (x0 - ((wk_ushr x0 (1 : Int32)) &&& (1431655765 : Int32))) (2 : Int32)) &&& (858993459 : Int32))) (4 : Int32))) &&& (252645135 : Int32)) (8 : Int32)))]) (st' := [.int (((((((x0 - ((wk_ushr x0 (1 : Int32)) &&& (1431655765 : Int32))) &&& (858993459 : Int32)) + ((wk_ushr (x0 - ((wk_ushr x0 (1 : Int32)) &&& (1431655765 : Int32))) (2 : Int32)) &&& (858993459 : Int32))) + (wk_ushr (((x0 - ((wk_ushr x0 (1 : Int32)) &&& (1431655765 : Int32))) &&& (858993459 : Int32)) + ((wk_ushr (x0 - ((wk_ushr x0 (1 : Int32)) &&& (1431655765 : Int32))) (2 : Int32)) &&& (858993459 : Int32))) (4 : Int32))) &&& (252645135 : Int32)) + (wk_ushr (((((x0 - ((wk_ushr x0 (1 : Int32)) &&& (1431655765 : Int32))) &&& (858993459 : Int32)) + ((wk_ushr (x0 - ((wk_ushr x0 (1 : Int32)) &&& (1431655765 : Int32))) (2 : Int32)) &&& (858993459 : Int32))) + (wk_ushr (((x0 - ((wk_ushr x0 (1 : Int32)) &&& (1431655765 : Int32))) &&& (858993459 : Int32)) + ((wk_ushr (x0 - ((wk_ushr x0 (1 : Int32)) &&& (1431655765 : Int32))) (2 : Int32)) &&& (858993459 : Int32))) (4 : Int32))) &&& (252645135 : Int32)) (8 : Int32))) + (wk_ushr ((((((x0 - ((wk_ushr x0 (1 : Int32)) &&& (1431655765 : Int32))) &&& (858993459 : Int32)) + ((wk_ushr (x0 - ((wk_ushr x0 (1 : Int32)) &&& (1431655765 : Int32))) (2 : Int32)) &&& (858993459 : Int32))) + (wk_ushr (((x0 - ((wk_ushr x0 (1 : Int32)) &&& (1431655765 : Int32))) &&& (858993459 : Int32)) + ((wk_ushr (x0 - ((wk_ushr x0 (1 : Int32)) &&& (1431655765 : Int32))) (2 : Int32)) &&& (858993459 : Int32))) (4 : Int32))) &&& (252645135 : Int32)) + (wk_ushr (((((x0 - ((wk_ushr x0 (1 : Int32)) &&& (1431655765 : Int32))) &&& (858993459 : Int32)) + ((wk_ushr (x0 - ((wk_ushr x0 (1 : Int32)) &&& (1431655765 : Int32))) (2 : Int32)) &&& (858993459 : Int32))) + (wk_ushr (((x0 - ((wk_ushr x0 (1 : Int32)) &&& (1431655765 : Int32))) &&& (858993459 : Int32)) + ((wk_ushr (x0 - ((wk_ushr x0 (1 : Int32)) &&& (1431655765 : Int32))) (2 : Int32)) &&& (858993459 : Int32))) (4 : Int32))) &&& (252645135 : Int32)) (8 : Int32))) (16 : Int32)))]) (σ' := s) rfl ?_
  replace h := wk_letE h
  refine wk_Hs 4 41 ⟨rfl, rfl⟩ (ls' := [.int (((((((x0 - ((wk_ushr x0 (1 : Int32)) &&& (1431655765 : Int32))) &&& (858993459 : Int32)) + ((wk_ushr (x0 - ((wk_ushr x0 (1 : Int32)) &&& (1431655765 : Int32))) (2 : Int32)) &&& (858993459 : Int32))) + (wk_ushr (((x0 - ((wk_ushr x0 (1 : Int32)) &&& (1431655765 : Int32))) &&& (858993459 : Int32)) + ((wk_ushr (x0 - ((wk_ushr x0 (1 : Int32)) &&& (1431655765 : Int32))) (2 : Int32)) &&& (858993459 : Int32))) (4 : Int32))) &&& (252645135 : Int32)) + (wk_ushr (((((x0 - ((wk_ushr x0 (1 : Int32)) &&& (1431655765 : Int32))) &&& (858993459 : Int32)) + ((wk_ushr (x0 - ((wk_ushr x0 (1 : Int32)) &&& (1431655765 : Int32))) (2 : Int32)) &&& (858993459 : Int32))) + (wk_ushr (((x0 - ((wk_ushr x0 (1 : Int32)) &&& (1431655765 : Int32))) &&& (858993459 : Int32)) + ((wk_ushr (x0 - ((wk_ushr x0 (1 : Int32)) &&& (1431655765 : Int32))) (2 : Int32)) &&& (858993459 : Int32))) (4 : Int32))) &&& (252645135 : Int32)) (8 : Int32))) + (wk_ushr ((((((x0 - ((wk_ushr x0 (1 : Int32)) &&& (1431655765 : Int32))) &&& (858993459 : Int32)) + ((wk_ushr (x0 - ((wk_ushr x0 (1 : Int32)) &&& (1431655765 : Int32))) (2 : Int32)) &&& (858993459 : Int32))) + (wk_ushr (((x0 - ((wk_ushr x0 (1 : Int32)) &&& (1431655765 : Int32))) &&& (858993459 : Int32)) + ((wk_ushr (x0 - ((wk_ushr x0 (1 : Int32)) &&& (1431655765 : Int32))) (2 : Int32)) &&& (858993459 : Int32))) (4 : Int32))) &&& (252645135 : Int32)) + (wk_ushr (((((x0 - ((wk_ushr x0 (1 : Int32)) &&& (1431655765 : Int32))) &&& (858993459 : Int32)) + ((wk_ushr (x0 - ((wk_ushr x0 (1 : Int32)) &&& (1431655765 : Int32))) (2 : Int32)) &&& (858993459 : Int32))) + (wk_ushr (((x0 - ((wk_ushr x0 (1 : Int32)) &&& (1431655765 : Int32))) &&& (858993459 : Int32)) + ((wk_ushr (x0 - ((wk_ushr x0 (1 : Int32)) &&& (1431655765 : Int32))) (2 : Int32)) &&& (858993459 : Int32))) (4 : Int32))) &&& (252645135 : Int32)) (8 : Int32))) (16 : Int32)))]) (st' := [.int ((((((((x0 - ((wk_ushr x0 (1 : Int32)) &&& (1431655765 : Int32))) &&& (858993459 : Int32)) + ((wk_ushr (x0 - ((wk_ushr x0 (1 : Int32)) &&& (1431655765 : Int32))) (2 : Int32)) &&& (858993459 : Int32))) + (wk_ushr (((x0 - ((wk_ushr x0 (1 : Int32)) &&& (1431655765 : Int32))) &&& (858993459 : Int32)) + ((wk_ushr (x0 - ((wk_ushr x0 (1 : Int32)) &&& (1431655765 : Int32))) (2 : Int32)) &&& (858993459 : Int32))) (4 : Int32))) &&& (252645135 : Int32)) + (wk_ushr (((((x0 - ((wk_ushr x0 (1 : Int32)) &&& (1431655765 : Int32))) &&& (858993459 : Int32)) + ((wk_ushr (x0 - ((wk_ushr x0 (1 : Int32)) &&& (1431655765 : Int32))) (2 : Int32)) &&& (858993459 : Int32))) + (wk_ushr (((x0 - ((wk_ushr x0 (1 : Int32)) &&& (1431655765 : Int32))) &&& (858993459 : Int32)) + ((wk_ushr (x0 - ((wk_ushr x0 (1 : Int32)) &&& (1431655765 : Int32))) (2 : Int32)) &&& (858993459 : Int32))) (4 : Int32))) &&& (252645135 : Int32)) (8 : Int32))) + (wk_ushr ((((((x0 - ((wk_ushr x0 (1 : Int32)) &&& (1431655765 : Int32))) &&& (858993459 : Int32)) + ((wk_ushr (x0 - ((wk_ushr x0 (1 : Int32)) &&& (1431655765 : Int32))) (2 : Int32)) &&& (858993459 : Int32))) + (wk_ushr (((x0 - ((wk_ushr x0 (1 : Int32)) &&& (1431655765 : Int32))) &&& (858993459 : Int32)) + ((wk_ushr (x0 - ((wk_ushr x0 (1 : Int32)) &&& (1431655765 : Int32))) (2 : Int32)) &&& (858993459 : Int32))) (4 : Int32))) &&& (252645135 : Int32)) + (wk_ushr (((((x0 - ((wk_ushr x0 (1 : Int32)) &&& (1431655765 : Int32))) &&& (858993459 : Int32)) + ((wk_ushr (x0 - ((wk_ushr x0 (1 : Int32)) &&& (1431655765 : Int32))) (2 : Int32)) &&& (858993459 : Int32))) + (wk_ushr (((x0 - ((wk_ushr x0 (1 : Int32)) &&& (1431655765 : Int32))) &&& (858993459 : Int32)) + ((wk_ushr (x0 - ((wk_ushr x0 (1 : Int32)) &&& (1431655765 : Int32))) (2 : Int32)) &&& (858993459 : Int32))) (4 : Int32))) &&& (252645135 : Int32)) (8 : Int32))) (16 : Int32))) &&& (63 : Int32))]) (σ' := s) rfl ?_
  cases h
  exact wk_eqz hk (wk_Hret rfl)
set_option maxHeartbeats 4000000 in
set_option maxRecDepth 20000 in
theorem t_X11_rumour {x1 : Int32} {x2 : Int32} {s : wk_St} {r : Int32} (h : f_X11_rumour x1 x2 s = some r) : wk_T wk_shC 3 19 [.ref 0, .int x1, .int x2] s (some (.int r), s) := by
  suffices H : ∀ z, z = (some (.int r), s) → wk_H wk_shC 3 mc_X11_rumour 0 [.ref 0, .int x1, .int x2] [] s z from H _ rfl
  intro z hk
  dsimp only [f_X11_rumour] at h
  refine wk_Hs 3 3 ⟨rfl, rfl⟩ (ls' := [.ref 0, .int x1, .int x2]) (st' := [.int x1, .ref 3]) (σ' := s) rfl ?_
  refine wk_Hcall (i2 := 4) (args := [.ref 3, .int x1]) (rest := []) (r := some (.int (b2i (f_X2_isTold x1 s)))) (σ1 := s) rfl rfl ⟨rfl, rfl, rfl, rfl, rfl⟩ rfl ((t_X2_isTold rfl).up (by decide)) ?_
  rcases wk_ife h with ⟨hc, h⟩ | ⟨hc, h⟩
  · refine wk_H0t 7 rfl (wk_zne.2 hc) ?_
    refine wk_Hs 1 8 ⟨rfl, rfl⟩ (ls' := [.ref 0, .int x1, .int x2]) (st' := [.int x2]) (σ' := s) rfl ?_
    rcases wk_ife h with ⟨hc0, h⟩ | ⟨hc0, h⟩
    · refine wk_Hts (t := 9) rfl (wk_tswE hc0 (by decide)) ?_
      refine wk_Hs 6 15 ⟨rfl, rfl⟩ (ls' := [.ref 0, .int x1, .int x2]) (st' := [.int x1, .ref 3, .int x1, .ref 3]) (σ' := s) rfl ?_
      obtain ⟨v2, hv2, h⟩ := wk_bindE h
      refine wk_Hcall (i2 := 16) (args := [.ref 3, .int x1]) (rest := [.int x1, .ref 3]) (r := some (.int v2)) (σ1 := s) rfl rfl ⟨rfl, rfl, rfl, rfl, rfl⟩ rfl ((t_X2_farthestFrom hv2).up (by decide)) ?_
      obtain ⟨v3, hv3, h⟩ := wk_bindE h
      refine wk_Hcall (i2 := 17) (args := [.ref 3, .int x1, .int v2]) (rest := []) (r := some (.int v3)) (σ1 := s) rfl rfl ⟨rfl, rfl, rfl, rfl, rfl⟩ rfl ((t_X2_stepsBetween hv3).up (by decide)) ?_
      cases h
      exact wk_eqz hk (wk_Hret rfl)
    rcases wk_ife h with ⟨hc1, h⟩ | ⟨hc1, h⟩
    · refine wk_Hts (t := 18) rfl (wk_tswE hc1 (by decide)) ?_
      refine wk_Hs 3 21 ⟨rfl, rfl⟩ (ls' := [.ref 0, .int x1, .int x2]) (st' := [.int x1, .ref 3]) (σ' := s) rfl ?_
      obtain ⟨v4, hv4, h⟩ := wk_bindE h
      refine wk_Hcall (i2 := 22) (args := [.ref 3, .int x1]) (rest := []) (r := some (.int v4)) (σ1 := s) rfl rfl ⟨rfl, rfl, rfl, rfl, rfl⟩ rfl ((t_X2_farthestFrom hv4).up (by decide)) ?_
      cases h
      exact wk_eqz hk (wk_Hret rfl)
    rcases wk_ife h with ⟨hc2, h⟩ | ⟨hc2, h⟩
    · refine wk_Hts (t := 23) rfl (wk_tswE hc2 (by decide)) ?_
      refine wk_Hs 3 26 ⟨rfl, rfl⟩ (ls' := [.ref 0, .int x1, .int x2]) (st' := [.int (s.1 3 4)]) (σ' := s) rfl ?_
      refine wk_Hcall (i2 := 27) (args := [.int (s.1 3 4)]) (rest := []) (r := some (.int (f_J6_bitCount_0f7a4 (s.1 3 4)))) (σ1 := s) rfl rfl ⟨rfl, rfl, rfl, rfl, rfl⟩ rfl ((t_J6_bitCount_0f7a4 rfl).up (by decide)) ?_
      refine wk_Hs 3 30 ⟨rfl, rfl⟩ (ls' := [.ref 0, .int x1, .int x2]) (st' := [.int x1, .ref 3, .int (f_J6_bitCount_0f7a4 (s.1 3 4))]) (σ' := s) rfl ?_
      obtain ⟨v6, hv6, h⟩ := wk_bindE h
      refine wk_Hcall (i2 := 31) (args := [.ref 3, .int x1]) (rest := [.int (f_J6_bitCount_0f7a4 (s.1 3 4))]) (r := some (.int v6)) (σ1 := s) rfl rfl ⟨rfl, rfl, rfl, rfl, rfl⟩ rfl ((t_X2_reachOf hv6).up (by decide)) ?_
      refine wk_Hs 1 32 ⟨rfl, rfl⟩ (ls' := [.ref 0, .int x1, .int x2]) (st' := [.int ((f_J6_bitCount_0f7a4 (s.1 3 4)) - v6)]) (σ' := s) rfl ?_
      cases h
      exact wk_eqz hk (wk_Hret rfl)
    refine wk_Hts (t := 33) rfl (wk_tswD (L := [0, 1, 2]) (by decide) (List.forall_mem_cons.2 ⟨wk_nt hc0 (by decide), (List.forall_mem_cons.2 ⟨wk_nt hc1 (by decide), (List.forall_mem_cons.2 ⟨wk_nt hc2 (by decide), (fun _ hq => absurd hq List.not_mem_nil)⟩)⟩)⟩)) ?_
    refine wk_Hs 1 34 ⟨rfl, rfl⟩ (ls' := [.ref 0, .int x1, .int x2]) (st' := [.int (-1 : Int32)]) (σ' := s) rfl ?_
    cases h
    exact wk_eqz hk (wk_Hret rfl)
  · refine wk_H0f 7 5 rfl rfl (wk_nf wk_zne hc) ?_
    refine wk_Hs 1 6 ⟨rfl, rfl⟩ (ls' := [.ref 0, .int x1, .int x2]) (st' := [.int (-1 : Int32)]) (σ' := s) rfl ?_
    cases h
    exact wk_eqz hk (wk_Hret rfl)
set_option maxHeartbeats 4000000 in
set_option maxRecDepth 20000 in
theorem ts_S_X11_middle_8 {x1 : Int32} {x2 : Int32} {x3 : Int32} {x4 : Int32} {w5 : Value} {w6 : Value} {s : wk_St} {z : wk_R} {o : (Int32) ⊕ (Int32 × Int32 × Int32 × Int32)} (h : S_X11_middle_8 s (x1, x2, x3, x4) = some o) (hk : match (generalizing := false) o with | Sum.inl a => (∀ (u2 u3 u4 u5 u6 : Value), wk_H wk_shC 3 mc_X11_middle 47 [.ref 0, .int a, u2, u3, u4, u5, u6] [] s z) | Sum.inr y => ∀ (u5 u6 : Value), wk_H wk_shC 3 mc_X11_middle 8 [.ref 0, .int y.1, .int y.2.1, .int y.2.2.1, .int y.2.2.2, u5, u6] [] s z) : wk_H wk_shC 3 mc_X11_middle 8 [.ref 0, .int x1, .int x2, .int x3, .int x4, w5, w6] [] s z := by
  dsimp only [S_X11_middle_8] at h
  refine wk_Hs 2 10 ⟨rfl, rfl⟩ (ls' := [.ref 0, .int x1, .int x2, .int x3, .int x4, w5, w6]) (st' := [.int (12 : Int32), .int x4]) (σ' := s) rfl ?_
  rcases wk_ife h with ⟨hc, h⟩ | ⟨hc, h⟩
  · refine wk_Hbt 47 rfl (wk_cge.2 hc) ?_
    cases h
    exact hk _ _ _ _ _
  · refine wk_Hbf 47 11 rfl rfl (wk_nf wk_cge hc) ?_
    refine wk_Hs 3 14 ⟨rfl, rfl⟩ (ls' := [.ref 0, .int x1, .int x2, .int x3, .int x4, w5, w6]) (st' := [.int x4, .ref 3]) (σ' := s) rfl ?_
    refine wk_Hcall (i2 := 15) (args := [.ref 3, .int x4]) (rest := []) (r := some (.int (b2i (f_X2_isTold x4 s)))) (σ1 := s) rfl rfl ⟨rfl, rfl, rfl, rfl, rfl⟩ rfl ((t_X2_isTold rfl).up (by decide)) ?_
    rcases wk_ife h with ⟨hc, h⟩ | ⟨hc, h⟩
    · refine wk_H0t 45 rfl (wk_zeq.2 hc) ?_
      refine wk_Hs 1 46 ⟨rfl, rfl⟩ (ls' := [.ref 0, .int x1, .int x2, .int x3, .int (x4 + (1 : Int32)), w5, w6]) (st' := []) (σ' := s) rfl ?_
      refine wk_Hgoto (t := 8) rfl ?_
      cases h
      exact hk _ _
    · refine wk_H0f 45 16 rfl rfl (wk_nf wk_zeq hc) ?_
      refine wk_Hs 3 19 ⟨rfl, rfl⟩ (ls' := [.ref 0, .int x1, .int x2, .int x3, .int x4, w5, w6]) (st' := [.int x4, .ref 3]) (σ' := s) rfl ?_
      obtain ⟨v2, hv2, h⟩ := wk_bindE h
      refine wk_Hcall (i2 := 20) (args := [.ref 3, .int x4]) (rest := []) (r := some (.int v2)) (σ1 := s) rfl rfl ⟨rfl, rfl, rfl, rfl, rfl⟩ rfl ((t_X2_reachOf hv2).up (by decide)) ?_
      refine wk_Hs 7 27 ⟨rfl, rfl⟩ (ls' := [.ref 0, .int x1, .int x2, .int x3, .int x4, .int v2, w6]) (st' := [.int x4, .ref 3, .int x4, .ref 3]) (σ' := s) rfl ?_
      obtain ⟨v3, hv3, h⟩ := wk_bindE h
      refine wk_Hcall (i2 := 28) (args := [.ref 3, .int x4]) (rest := [.int x4, .ref 3]) (r := some (.int v3)) (σ1 := s) rfl rfl ⟨rfl, rfl, rfl, rfl, rfl⟩ rfl ((t_X2_farthestFrom hv3).up (by decide)) ?_
      obtain ⟨v4, hv4, h⟩ := wk_bindE h
      refine wk_Hcall (i2 := 29) (args := [.ref 3, .int x4, .int v3]) (rest := []) (r := some (.int v4)) (σ1 := s) rfl rfl ⟨rfl, rfl, rfl, rfl, rfl⟩ rfl ((t_X2_stepsBetween hv4).up (by decide)) ?_
      refine wk_Hs 3 32 ⟨rfl, rfl⟩ (ls' := [.ref 0, .int x1, .int x2, .int x3, .int x4, .int v2, .int v4]) (st' := [.int x2, .int v2]) (σ' := s) rfl ?_
      rcases wk_ife h with ⟨hc, h⟩ | ⟨hc, h⟩
      · refine wk_Hbt 39 rfl (wk_cgt.2 hc) ?_
        refine wk_Hs 7 46 ⟨rfl, rfl⟩ (ls' := [.ref 0, .int x4, .int v2, .int v4, .int (x4 + (1 : Int32)), .int v2, .int v4]) (st' := []) (σ' := s) rfl ?_
        refine wk_Hgoto (t := 8) rfl ?_
        cases h
        exact hk _ _
      · refine wk_Hbf 39 33 rfl rfl (wk_nf wk_cgt hc) ?_
        refine wk_Hs 2 35 ⟨rfl, rfl⟩ (ls' := [.ref 0, .int x1, .int x2, .int x3, .int x4, .int v2, .int v4]) (st' := [.int x2, .int v2]) (σ' := s) rfl ?_
        rcases wk_ife h with ⟨hc, h⟩ | ⟨hc, h⟩
        · refine wk_Hbt 45 rfl (wk_cne.2 hc) ?_
          refine wk_Hs 1 46 ⟨rfl, rfl⟩ (ls' := [.ref 0, .int x1, .int x2, .int x3, .int (x4 + (1 : Int32)), .int v2, .int v4]) (st' := []) (σ' := s) rfl ?_
          refine wk_Hgoto (t := 8) rfl ?_
          cases h
          exact hk _ _
        · refine wk_Hbf 45 36 rfl rfl (wk_nf wk_cne hc) ?_
          refine wk_Hs 2 38 ⟨rfl, rfl⟩ (ls' := [.ref 0, .int x1, .int x2, .int x3, .int x4, .int v2, .int v4]) (st' := [.int x3, .int v4]) (σ' := s) rfl ?_
          rcases wk_ife h with ⟨hc, h⟩ | ⟨hc, h⟩
          · refine wk_Hbt 45 rfl (wk_cge.2 hc) ?_
            refine wk_Hs 1 46 ⟨rfl, rfl⟩ (ls' := [.ref 0, .int x1, .int x2, .int x3, .int (x4 + (1 : Int32)), .int v2, .int v4]) (st' := []) (σ' := s) rfl ?_
            refine wk_Hgoto (t := 8) rfl ?_
            cases h
            exact hk _ _
          · refine wk_Hbf 45 39 rfl rfl (wk_nf wk_cge hc) ?_
            refine wk_Hs 7 46 ⟨rfl, rfl⟩ (ls' := [.ref 0, .int x4, .int v2, .int v4, .int (x4 + (1 : Int32)), .int v2, .int v4]) (st' := []) (σ' := s) rfl ?_
            refine wk_Hgoto (t := 8) rfl ?_
            cases h
            exact hk _ _
set_option maxHeartbeats 4000000 in
set_option maxRecDepth 20000 in
theorem tl_S_X11_middle_8 {s : wk_St} {z : wk_R} (n : Nat) : ∀ {x1 : Int32} {x2 : Int32} {x3 : Int32} {x4 : Int32} {w5 : Value} {w6 : Value} {a : Int32} (h : wk_loop (S_X11_middle_8 s) n (x1, x2, x3, x4) = some a) (hk : ∀ (u2 u3 u4 u5 u6 : Value), wk_H wk_shC 3 mc_X11_middle 47 [.ref 0, .int a, u2, u3, u4, u5, u6] [] s z), wk_H wk_shC 3 mc_X11_middle 8 [.ref 0, .int x1, .int x2, .int x3, .int x4, w5, w6] [] s z := by
  induction n with
  | zero =>
    intros
    rename_i h _
    exact nomatch (show (none : Option _) = some _ from h)
  | succ n ih =>
    intros
    rename_i h hk
    obtain ⟨o, ho, h⟩ := wk_bindE (show Option.bind _ _ = some _ from h)
    refine ts_S_X11_middle_8 ho ?_
    cases o with
    | inl a1 =>
      cases h
      exact hk
    | inr p =>
      obtain ⟨p0, p1, p2, p3⟩ := p
      exact fun _ _ => ih h hk
set_option maxHeartbeats 4000000 in
set_option maxRecDepth 20000 in
theorem t_X11_middle {s : wk_St} {r : Int32} (h : f_X11_middle s = some r) : wk_T wk_shC 3 20 [.ref 0] s (some (.int r), s) := by
  suffices H : ∀ z, z = (some (.int r), s) → wk_H wk_shC 3 mc_X11_middle 0 [.ref 0, wk_U, wk_U, wk_U, wk_U, wk_U, wk_U] [] s z from H _ rfl
  intro z hk
  dsimp only [f_X11_middle] at h
  refine wk_Hs 8 8 ⟨rfl, rfl⟩ (ls' := [.ref 0, .int (-2 : Int32), .int (0 : Int32), .int (99 : Int32), .int (0 : Int32), wk_U, wk_U]) (st' := []) (σ' := s) rfl ?_
  obtain ⟨v5, hv5, h⟩ := wk_bindE h
  refine tl_S_X11_middle_8 wk_F hv5 ?_
  intro g6 g7 g8 g9 g10
  refine wk_Hs 1 48 ⟨rfl, rfl⟩ (ls' := [.ref 0, .int v5, g6, g7, g8, g9, g10]) (st' := [.int v5]) (σ' := s) rfl ?_
  cases h
  exact wk_eqz hk (wk_Hret rfl)
set_option maxHeartbeats 4000000 in
set_option maxRecDepth 20000 in
theorem ts_S_X11_between_27 {x1 : Int32} {x2 : Int32} {x3 : Int32} {x4 : Int32} {x5 : Int32} {s : wk_St} {z : wk_R} {o : (Int32) ⊕ (Int32 × Int32)} (h : S_X11_between_27 x1 x2 x3 s (x4, x5) = some o) (hk : match (generalizing := false) o with | Sum.inl a => (∀ (u5 : Value), wk_H wk_shC 2 mc_X11_between 51 [.ref 0, .int x1, .int x2, .int x3, .int a, u5] [] s z) | Sum.inr y => wk_H wk_shC 2 mc_X11_between 27 [.ref 0, .int x1, .int x2, .int x3, .int y.1, .int y.2] [] s z) : wk_H wk_shC 2 mc_X11_between 27 [.ref 0, .int x1, .int x2, .int x3, .int x4, .int x5] [] s z := by
  dsimp only [S_X11_between_27] at h
  refine wk_Hs 2 29 ⟨rfl, rfl⟩ (ls' := [.ref 0, .int x1, .int x2, .int x3, .int x4, .int x5]) (st' := [.int (12 : Int32), .int x5]) (σ' := s) rfl ?_
  rcases wk_ife h with ⟨hc, h⟩ | ⟨hc, h⟩
  · refine wk_Hbt 51 rfl (wk_cge.2 hc) ?_
    cases h
    exact hk _
  · refine wk_Hbf 51 30 rfl rfl (wk_nf wk_cge hc) ?_
    refine wk_Hs 4 34 ⟨rfl, rfl⟩ (ls' := [.ref 0, .int x1, .int x2, .int x3, .int x4, .int x5]) (st' := [.int x5, .int x1, .ref 3]) (σ' := s) rfl ?_
    obtain ⟨v4, hv4, h⟩ := wk_bindE h
    refine wk_Hcall (i2 := 35) (args := [.ref 3, .int x1, .int x5]) (rest := []) (r := some (.int v4)) (σ1 := s) rfl rfl ⟨rfl, rfl, rfl, rfl, rfl⟩ rfl ((t_X2_stepsBetween hv4).up (by decide)) ?_
    refine wk_Hs 4 39 ⟨rfl, rfl⟩ (ls' := [.ref 0, .int x1, .int x2, .int x3, .int x4, .int x5]) (st' := [.int x2, .int x5, .ref 3, .int v4]) (σ' := s) rfl ?_
    obtain ⟨v5, hv5, h⟩ := wk_bindE h
    refine wk_Hcall (i2 := 40) (args := [.ref 3, .int x5, .int x2]) (rest := [.int v4]) (r := some (.int v5)) (σ1 := s) rfl rfl ⟨rfl, rfl, rfl, rfl, rfl⟩ rfl ((t_X2_stepsBetween hv5).up (by decide)) ?_
    refine wk_Hs 2 42 ⟨rfl, rfl⟩ (ls' := [.ref 0, .int x1, .int x2, .int x3, .int x4, .int x5]) (st' := [.int x3, .int (v4 + v5)]) (σ' := s) rfl ?_
    rcases wk_ife h with ⟨hc, h⟩ | ⟨hc, h⟩
    · refine wk_Hbt 49 rfl (wk_cne.2 hc) ?_
      refine wk_Hs 1 50 ⟨rfl, rfl⟩ (ls' := [.ref 0, .int x1, .int x2, .int x3, .int x4, .int (x5 + (1 : Int32))]) (st' := []) (σ' := s) rfl ?_
      refine wk_Hgoto (t := 27) rfl ?_
      cases h
      exact hk
    · refine wk_Hbf 49 43 rfl rfl (wk_nf wk_cne hc) ?_
      refine wk_Hs 5 48 ⟨rfl, rfl⟩ (ls' := [.ref 0, .int x1, .int x2, .int x3, .int x4, .int x5]) (st' := [.int (x4 ||| ((1 : Int32) <<< (x5 &&& 31)))]) (σ' := s) rfl ?_
      replace h := wk_letE h
      refine wk_Hs 2 50 ⟨rfl, rfl⟩ (ls' := [.ref 0, .int x1, .int x2, .int x3, .int (x4 ||| ((1 : Int32) <<< (x5 &&& 31))), .int (x5 + (1 : Int32))]) (st' := []) (σ' := s) rfl ?_
      refine wk_Hgoto (t := 27) rfl ?_
      cases h
      exact hk
set_option maxHeartbeats 4000000 in
set_option maxRecDepth 20000 in
theorem tl_S_X11_between_27 {x1 : Int32} {x2 : Int32} {x3 : Int32} {s : wk_St} {z : wk_R} (n : Nat) : ∀ {x4 : Int32} {x5 : Int32} {a : Int32} (h : wk_loop (S_X11_between_27 x1 x2 x3 s) n (x4, x5) = some a) (hk : ∀ (u5 : Value), wk_H wk_shC 2 mc_X11_between 51 [.ref 0, .int x1, .int x2, .int x3, .int a, u5] [] s z), wk_H wk_shC 2 mc_X11_between 27 [.ref 0, .int x1, .int x2, .int x3, .int x4, .int x5] [] s z := by
  induction n with
  | zero =>
    intros
    rename_i h _
    exact nomatch (show (none : Option _) = some _ from h)
  | succ n ih =>
    intros
    rename_i h hk
    obtain ⟨o, ho, h⟩ := wk_bindE (show Option.bind _ _ = some _ from h)
    refine ts_S_X11_between_27 ho ?_
    cases o with
    | inl a1 =>
      cases h
      exact hk
    | inr p =>
      obtain ⟨p0, p1⟩ := p
      exact ih h hk
set_option maxHeartbeats 4000000 in
set_option maxRecDepth 20000 in
theorem t_X11_between {x1 : Int32} {x2 : Int32} {s : wk_St} {r : Int32} (h : f_X11_between x1 x2 s = some r) : wk_T wk_shC 2 21 [.ref 0, .int x1, .int x2] s (some (.int r), s) := by
  suffices H : ∀ z, z = (some (.int r), s) → wk_H wk_shC 2 mc_X11_between 0 [.ref 0, .int x1, .int x2, wk_U, wk_U, wk_U] [] s z from H _ rfl
  intro z hk
  dsimp only [f_X11_between] at h
  refine wk_Hs 3 3 ⟨rfl, rfl⟩ (ls' := [.ref 0, .int x1, .int x2, wk_U, wk_U, wk_U]) (st' := [.int x1, .ref 3]) (σ' := s) rfl ?_
  refine wk_Hcall (i2 := 4) (args := [.ref 3, .int x1]) (rest := []) (r := some (.int (b2i (f_X2_isTold x1 s)))) (σ1 := s) rfl rfl ⟨rfl, rfl, rfl, rfl, rfl⟩ rfl ((t_X2_isTold rfl).up (by decide)) ?_
  rcases wk_ife h with ⟨hc, h⟩ | ⟨hc, h⟩
  · refine wk_H0t 10 rfl (wk_zeq.2 hc) ?_
    refine wk_Hs 1 11 ⟨rfl, rfl⟩ (ls' := [.ref 0, .int x1, .int x2, wk_U, wk_U, wk_U]) (st' := [.int (-1 : Int32)]) (σ' := s) rfl ?_
    cases h
    exact wk_eqz hk (wk_Hret rfl)
  · refine wk_H0f 10 5 rfl rfl (wk_nf wk_zeq hc) ?_
    refine wk_Hs 3 8 ⟨rfl, rfl⟩ (ls' := [.ref 0, .int x1, .int x2, wk_U, wk_U, wk_U]) (st' := [.int x2, .ref 3]) (σ' := s) rfl ?_
    refine wk_Hcall (i2 := 9) (args := [.ref 3, .int x2]) (rest := []) (r := some (.int (b2i (f_X2_isTold x2 s)))) (σ1 := s) rfl rfl ⟨rfl, rfl, rfl, rfl, rfl⟩ rfl ((t_X2_isTold rfl).up (by decide)) ?_
    rcases wk_ife h with ⟨hc, h⟩ | ⟨hc, h⟩
    · refine wk_H0t 12 rfl (wk_zne.2 hc) ?_
      refine wk_Hs 4 16 ⟨rfl, rfl⟩ (ls' := [.ref 0, .int x1, .int x2, wk_U, wk_U, wk_U]) (st' := [.int x2, .int x1, .ref 3]) (σ' := s) rfl ?_
      obtain ⟨v3, hv3, h⟩ := wk_bindE h
      refine wk_Hcall (i2 := 17) (args := [.ref 3, .int x1, .int x2]) (rest := []) (r := some (.int v3)) (σ1 := s) rfl rfl ⟨rfl, rfl, rfl, rfl, rfl⟩ rfl ((t_X2_stepsBetween hv3).up (by decide)) ?_
      refine wk_Hs 3 20 ⟨rfl, rfl⟩ (ls' := [.ref 0, .int x1, .int x2, .int v3, wk_U, wk_U]) (st' := [.int (99 : Int32), .int v3]) (σ' := s) rfl ?_
      rcases wk_ife h with ⟨hc, h⟩ | ⟨hc, h⟩
      · refine wk_Hbt 23 rfl (wk_cne.2 hc) ?_
        refine wk_Hs 4 27 ⟨rfl, rfl⟩ (ls' := [.ref 0, .int x1, .int x2, .int v3, .int (0 : Int32), .int (0 : Int32)]) (st' := []) (σ' := s) rfl ?_
        obtain ⟨v7, hv7, h⟩ := wk_bindE h
        refine tl_S_X11_between_27 wk_F hv7 ?_
        intro g8
        refine wk_Hs 1 52 ⟨rfl, rfl⟩ (ls' := [.ref 0, .int x1, .int x2, .int v3, .int v7, g8]) (st' := [.int v7]) (σ' := s) rfl ?_
        cases h
        exact wk_eqz hk (wk_Hret rfl)
      · refine wk_Hbf 23 21 rfl rfl (wk_nf wk_cne hc) ?_
        refine wk_Hs 1 22 ⟨rfl, rfl⟩ (ls' := [.ref 0, .int x1, .int x2, .int v3, wk_U, wk_U]) (st' := [.int (0 : Int32)]) (σ' := s) rfl ?_
        cases h
        exact wk_eqz hk (wk_Hret rfl)
    · refine wk_H0f 12 10 rfl rfl (wk_nf wk_zne hc) ?_
      refine wk_Hs 1 11 ⟨rfl, rfl⟩ (ls' := [.ref 0, .int x1, .int x2, wk_U, wk_U, wk_U]) (st' := [.int (-1 : Int32)]) (σ' := s) rfl ?_
      cases h
      exact wk_eqz hk (wk_Hret rfl)
set_option maxHeartbeats 4000000 in
set_option maxRecDepth 20000 in
theorem t_X11_faultOf {x0 : Int32} {x1 : Int32} {s : wk_St} {r : Int32} (h : f_X11_faultOf x0 x1 = r) : wk_T wk_shC 0 42 [.int x0, .int x1] s (some (.int r), s) := by
  suffices H : ∀ z, z = (some (.int r), s) → wk_H wk_shC 0 mc_X11_faultOf 0 [.int x0, .int x1] [] s z from H _ rfl
  intro z hk
  dsimp only [f_X11_faultOf] at h
  refine wk_Hs 5 5 ⟨rfl, rfl⟩ (ls' := [.int x0, .int x1]) (st' := [.int (((-1000 : Int32) * x0) - x1)]) (σ' := s) rfl ?_
  cases h
  exact wk_eqz hk (wk_Hret rfl)
set_option maxHeartbeats 4000000 in
set_option maxRecDepth 20000 in
theorem t_J9_min_f86c9 {x0 : Int64} {x2 : Int64} {s : wk_St} {r : Int64} (h : f_J9_min_f86c9 x0 x2 = r) : wk_T wk_shC 0 260 [.long x0, .long x2] s (some (.long r), s) := by
  suffices H : ∀ z, z = (some (.long r), s) → wk_H wk_shC 0 mc_J9_min_f86c9 0 [.long x0, wk_U, .long x2, wk_U] [] s z from H _ rfl
  intro z hk
  dsimp only [f_J9_min_f86c9] at h
  refine wk_Hs 3 3 ⟨rfl, rfl⟩ (ls' := [.long x0, wk_U, .long x2, wk_U]) (st' := [.int (wk_lcmp x0 x2)]) (σ' := s) rfl ?_
  rcases wk_ife h with ⟨hc, h⟩ | ⟨hc, h⟩
  · refine wk_H0t 6 rfl (wk_cgt.2 hc) ?_
    refine wk_Hs 1 7 ⟨rfl, rfl⟩ (ls' := [.long x0, wk_U, .long x2, wk_U]) (st' := [.long x2]) (σ' := s) rfl ?_
    cases h
    exact wk_eqz hk (wk_Hretl rfl)
  · refine wk_H0f 6 4 rfl rfl (wk_nf wk_cgt hc) ?_
    refine wk_Hs 1 5 ⟨rfl, rfl⟩ (ls' := [.long x0, wk_U, .long x2, wk_U]) (st' := [.long x0]) (σ' := s) rfl ?_
    refine wk_Hgoto (t := 7) rfl ?_
    cases h
    exact wk_eqz hk (wk_Hretl rfl)
set_option maxHeartbeats 4000000 in
set_option maxRecDepth 20000 in
theorem ts_S_X9_goOn_2 {x2 : Int32} {w3 : Value} {w4 : Value} {w5 : Value} {w6 : Value} {s : wk_St} {z : wk_R} {o : (wk_St) ⊕ (Int32 × wk_St)} (h : S_X9_goOn_2 (x2, s) = some o) (hk : match (generalizing := false) o with | Sum.inl a => (∀ (u2 : Value), wk_H wk_shC 2 mc_X9_goOn 15 [.ref 25, .ref 3, u2, w3, w4, w5, w6] [] a z) | Sum.inr y => wk_H wk_shC 2 mc_X9_goOn 2 [.ref 25, .ref 3, .int y.1, w3, w4, w5, w6] [] y.2 z) : wk_H wk_shC 2 mc_X9_goOn 2 [.ref 25, .ref 3, .int x2, w3, w4, w5, w6] [] s z := by
  dsimp only [S_X9_goOn_2] at h
  refine wk_Hs 2 4 ⟨rfl, rfl⟩ (ls' := [.ref 25, .ref 3, .int x2, w3, w4, w5, w6]) (st' := [.int (12 : Int32), .int x2]) (σ' := s) rfl ?_
  rcases wk_ife h with ⟨hc, h⟩ | ⟨hc, h⟩
  · refine wk_Hbt 15 rfl (wk_cge.2 hc) ?_
    cases h
    exact hk _
  · refine wk_Hbf 15 5 rfl rfl (wk_nf wk_cge hc) ?_
    refine wk_Hs 6 11 ⟨rfl, rfl⟩ (ls' := [.ref 25, .ref 3, .int x2, w3, w4, w5, w6]) (st' := [.int x2, .ref 29, .int x2, .ref 28]) (σ' := s) rfl ?_
    obtain ⟨hg, h⟩ := wk_gdE h
    refine wk_Hla 12 rfl rfl rfl hg rfl ?_
    obtain ⟨hg, h⟩ := wk_gdE h
    refine wk_Hlas 13 rfl rfl rfl hg rfl ?_
    refine wk_Hs 1 14 ⟨rfl, rfl⟩ (ls' := [.ref 25, .ref 3, .int (x2 + (1 : Int32)), w3, w4, w5, w6]) (st' := []) (σ' := (wk_sl s 28 (x2.toNatClampNeg) (s.2 29 (x2.toNatClampNeg)))) rfl ?_
    refine wk_Hgoto (t := 2) rfl ?_
    cases h
    exact hk
set_option maxHeartbeats 4000000 in
set_option maxRecDepth 20000 in
theorem tl_S_X9_goOn_2 {w3 : Value} {w4 : Value} {w5 : Value} {w6 : Value} {z : wk_R} (n : Nat) : ∀ {x2 : Int32} {s : wk_St} {a : wk_St} (h : wk_loop S_X9_goOn_2 n (x2, s) = some a) (hk : ∀ (u2 : Value), wk_H wk_shC 2 mc_X9_goOn 15 [.ref 25, .ref 3, u2, w3, w4, w5, w6] [] a z), wk_H wk_shC 2 mc_X9_goOn 2 [.ref 25, .ref 3, .int x2, w3, w4, w5, w6] [] s z := by
  induction n with
  | zero =>
    intros
    rename_i h _
    exact nomatch (show (none : Option _) = some _ from h)
  | succ n ih =>
    intros
    rename_i h hk
    obtain ⟨o, ho, h⟩ := wk_bindE (show Option.bind _ _ = some _ from h)
    refine ts_S_X9_goOn_2 ho ?_
    cases o with
    | inl a1 =>
      cases h
      exact hk
    | inr p =>
      obtain ⟨p0, p1⟩ := p
      exact ih h hk
set_option maxHeartbeats 4000000 in
set_option maxRecDepth 20000 in
theorem ts_S_X9_goOn_30 {x2 : Int32} {x3 : Int32} {x4 : Int64} {x6 : Int32} {w5 : Value} {s : wk_St} {z : wk_R} {o : (Int64 × wk_St) ⊕ (Int64 × Int32 × wk_St)} (h : S_X9_goOn_30 x2 x3 (x4, x6, s) = some o) (hk : match (generalizing := false) o with | Sum.inl a => (∀ (u5 u6 : Value), wk_H wk_shC 2 mc_X9_goOn 48 [.ref 25, .ref 3, .int x2, .int x3, .long a.1, u5, u6] [] a.2 z) | Sum.inr y => ∀ (u5 : Value), wk_H wk_shC 2 mc_X9_goOn 30 [.ref 25, .ref 3, .int x2, .int x3, .long y.1, u5, .int y.2.1] [] y.2.2 z) : wk_H wk_shC 2 mc_X9_goOn 30 [.ref 25, .ref 3, .int x2, .int x3, .long x4, w5, .int x6] [] s z := by
  dsimp only [S_X9_goOn_30] at h
  refine wk_Hs 2 32 ⟨rfl, rfl⟩ (ls' := [.ref 25, .ref 3, .int x2, .int x3, .long x4, w5, .int x6]) (st' := [.int (12 : Int32), .int x6]) (σ' := s) rfl ?_
  rcases wk_ife h with ⟨hc, h⟩ | ⟨hc, h⟩
  · refine wk_Hbt 48 rfl (wk_cge.2 hc) ?_
    cases h
    exact hk _ _
  · refine wk_Hbf 48 33 rfl rfl (wk_nf wk_cge hc) ?_
    refine wk_Hs 3 36 ⟨rfl, rfl⟩ (ls' := [.ref 25, .ref 3, .int x2, .int x3, .long x4, w5, .int x6]) (st' := [.int x6, .int x3, .long x4]) (σ' := s) rfl ?_
    refine wk_Hcall (i2 := 37) (args := [.int x3, .int x6]) (rest := [.long x4]) (r := some (.int (b2i (f_X11_hasBit x3 x6)))) (σ1 := s) rfl rfl ⟨rfl, rfl, rfl, rfl, rfl⟩ rfl ((t_X11_hasBit rfl).up (by decide)) ?_
    rcases wk_ife h with ⟨hc, h⟩ | ⟨hc, h⟩
    · refine wk_H0t 43 rfl (wk_zeq.2 hc) ?_
      refine wk_Hs 2 45 ⟨rfl, rfl⟩ (ls' := [.ref 25, .ref 3, .int x2, .int x3, .long x4, w5, .int x6]) (st' := [.long (x4 + (0 : Int64))]) (σ' := s) rfl ?_
      replace h := wk_letE h
      refine wk_Hs 2 47 ⟨rfl, rfl⟩ (ls' := [.ref 25, .ref 3, .int x2, .int x3, .long (x4 + (0 : Int64)), wk_U, .int (x6 + (1 : Int32))]) (st' := []) (σ' := s) rfl ?_
      refine wk_Hgoto (t := 30) rfl ?_
      cases h
      exact hk _
    · refine wk_H0f 43 38 rfl rfl (wk_nf wk_zeq hc) ?_
      refine wk_Hs 3 41 ⟨rfl, rfl⟩ (ls' := [.ref 25, .ref 3, .int x2, .int x3, .long x4, w5, .int x6]) (st' := [.int x6, .ref 28, .long x4]) (σ' := s) rfl ?_
      obtain ⟨hg, h⟩ := wk_gdE h
      refine wk_Hla 42 rfl rfl rfl hg rfl ?_
      refine wk_Hgoto (t := 44) rfl ?_
      refine wk_Hs 1 45 ⟨rfl, rfl⟩ (ls' := [.ref 25, .ref 3, .int x2, .int x3, .long x4, w5, .int x6]) (st' := [.long (x4 + (s.2 28 (x6.toNatClampNeg)))]) (σ' := s) rfl ?_
      replace h := wk_letE h
      refine wk_Hs 2 47 ⟨rfl, rfl⟩ (ls' := [.ref 25, .ref 3, .int x2, .int x3, .long (x4 + (s.2 28 (x6.toNatClampNeg))), wk_U, .int (x6 + (1 : Int32))]) (st' := []) (σ' := s) rfl ?_
      refine wk_Hgoto (t := 30) rfl ?_
      cases h
      exact hk _
set_option maxHeartbeats 4000000 in
set_option maxRecDepth 20000 in
theorem tl_S_X9_goOn_30 {x2 : Int32} {x3 : Int32} {z : wk_R} (n : Nat) : ∀ {x4 : Int64} {x6 : Int32} {w5 : Value} {s : wk_St} {a : Int64 × wk_St} (h : wk_loop (S_X9_goOn_30 x2 x3) n (x4, x6, s) = some a) (hk : ∀ (u5 u6 : Value), wk_H wk_shC 2 mc_X9_goOn 48 [.ref 25, .ref 3, .int x2, .int x3, .long a.1, u5, u6] [] a.2 z), wk_H wk_shC 2 mc_X9_goOn 30 [.ref 25, .ref 3, .int x2, .int x3, .long x4, w5, .int x6] [] s z := by
  induction n with
  | zero =>
    intros
    rename_i h _
    exact nomatch (show (none : Option _) = some _ from h)
  | succ n ih =>
    intros
    rename_i h hk
    obtain ⟨o, ho, h⟩ := wk_bindE (show Option.bind _ _ = some _ from h)
    refine ts_S_X9_goOn_30 ho ?_
    cases o with
    | inl a1 =>
      cases h
      exact hk
    | inr p =>
      obtain ⟨p0, p1, p2⟩ := p
      exact fun _ => ih h hk
set_option maxHeartbeats 4000000 in
set_option maxRecDepth 20000 in
theorem ts_S_X9_goOn_17 {x2 : Int32} {w3 : Value} {w4 : Value} {w5 : Value} {w6 : Value} {s : wk_St} {z : wk_R} {o : (wk_St) ⊕ (Int32 × wk_St)} (h : S_X9_goOn_17 (x2, s) = some o) (hk : match (generalizing := false) o with | Sum.inl a => (∀ (u2 u3 u4 u5 u6 : Value), wk_H wk_shC 2 mc_X9_goOn 57 [.ref 25, .ref 3, u2, u3, u4, u5, u6] [] a z) | Sum.inr y => ∀ (u3 u4 u5 u6 : Value), wk_H wk_shC 2 mc_X9_goOn 17 [.ref 25, .ref 3, .int y.1, u3, u4, u5, u6] [] y.2 z) : wk_H wk_shC 2 mc_X9_goOn 17 [.ref 25, .ref 3, .int x2, w3, w4, w5, w6] [] s z := by
  dsimp only [S_X9_goOn_17] at h
  refine wk_Hs 2 19 ⟨rfl, rfl⟩ (ls' := [.ref 25, .ref 3, .int x2, w3, w4, w5, w6]) (st' := [.int (12 : Int32), .int x2]) (σ' := s) rfl ?_
  rcases wk_ife h with ⟨hc, h⟩ | ⟨hc, h⟩
  · refine wk_Hbt 57 rfl (wk_cge.2 hc) ?_
    cases h
    exact hk _ _ _ _ _
  · refine wk_Hbf 57 20 rfl rfl (wk_nf wk_cge hc) ?_
    refine wk_Hs 4 24 ⟨rfl, rfl⟩ (ls' := [.ref 25, .ref 3, .int x2, w3, w4, w5, w6]) (st' := [.int ((1 : Int32) <<< (x2 &&& 31)), .ref 3]) (σ' := s) rfl ?_
    obtain ⟨v3, hv3, h⟩ := wk_bindE h
    refine wk_Hcall (i2 := 25) (args := [.ref 3, .int ((1 : Int32) <<< (x2 &&& 31))]) (rest := []) (r := some (.int v3)) (σ1 := s) rfl rfl ⟨rfl, rfl, rfl, rfl, rfl⟩ rfl ((t_X2_spread hv3).up (by decide)) ?_
    refine wk_Hs 5 30 ⟨rfl, rfl⟩ (ls' := [.ref 25, .ref 3, .int x2, .int v3, .long (0 : Int64), wk_U, .int (0 : Int32)]) (st' := []) (σ' := s) rfl ?_
    obtain ⟨v7, hv7, h⟩ := wk_bindE h
    refine tl_S_X9_goOn_30 wk_F hv7 ?_
    intro g8 g9
    refine wk_Hs 5 53 ⟨rfl, rfl⟩ (ls' := [.ref 25, .ref 3, .int x2, .int v3, .long v7.1, g8, g9]) (st' := [.long (1000000000 : Int64), .long v7.1, .int x2, .ref 29]) (σ' := v7.2) rfl ?_
    refine wk_Hcall (i2 := 54) (args := [.long v7.1, .long (1000000000 : Int64)]) (rest := [.int x2, .ref 29]) (r := some (.long (f_J9_min_f86c9 v7.1 (1000000000 : Int64)))) (σ1 := v7.2) rfl rfl ⟨rfl, rfl, rfl, rfl, rfl⟩ rfl ((t_J9_min_f86c9 rfl).up (by decide)) ?_
    obtain ⟨hg, h⟩ := wk_gdE h
    refine wk_Hlas 55 rfl rfl rfl hg rfl ?_
    refine wk_Hs 1 56 ⟨rfl, rfl⟩ (ls' := [.ref 25, .ref 3, .int (x2 + (1 : Int32)), .int v3, .long v7.1, g8, g9]) (st' := []) (σ' := (wk_sl v7.2 29 (x2.toNatClampNeg) (f_J9_min_f86c9 v7.1 (1000000000 : Int64)))) rfl ?_
    refine wk_Hgoto (t := 17) rfl ?_
    cases h
    exact hk _ _ _ _
set_option maxHeartbeats 4000000 in
set_option maxRecDepth 20000 in
theorem tl_S_X9_goOn_17 {z : wk_R} (n : Nat) : ∀ {x2 : Int32} {w3 : Value} {w4 : Value} {w5 : Value} {w6 : Value} {s : wk_St} {a : wk_St} (h : wk_loop S_X9_goOn_17 n (x2, s) = some a) (hk : ∀ (u2 u3 u4 u5 u6 : Value), wk_H wk_shC 2 mc_X9_goOn 57 [.ref 25, .ref 3, u2, u3, u4, u5, u6] [] a z), wk_H wk_shC 2 mc_X9_goOn 17 [.ref 25, .ref 3, .int x2, w3, w4, w5, w6] [] s z := by
  induction n with
  | zero =>
    intros
    rename_i h _
    exact nomatch (show (none : Option _) = some _ from h)
  | succ n ih =>
    intros
    rename_i h hk
    obtain ⟨o, ho, h⟩ := wk_bindE (show Option.bind _ _ = some _ from h)
    refine ts_S_X9_goOn_17 ho ?_
    cases o with
    | inl a1 =>
      cases h
      exact hk
    | inr p =>
      obtain ⟨p0, p1⟩ := p
      exact fun _ _ _ _ => ih h hk
set_option maxHeartbeats 4000000 in
set_option maxRecDepth 20000 in
theorem t_X9_goOn {s : wk_St} {r : wk_St} (h : f_X9_goOn s = some r) : wk_T wk_shC 2 243 [.ref 25, .ref 3] s (none, r) := by
  suffices H : ∀ z, z = (none, r) → wk_H wk_shC 2 mc_X9_goOn 0 [.ref 25, .ref 3, wk_U, wk_U, wk_U, wk_U, wk_U] [] s z from H _ rfl
  intro z hk
  dsimp only [f_X9_goOn] at h
  refine wk_Hs 2 2 ⟨rfl, rfl⟩ (ls' := [.ref 25, .ref 3, .int (0 : Int32), wk_U, wk_U, wk_U, wk_U]) (st' := []) (σ' := s) rfl ?_
  obtain ⟨v1, hv1, h⟩ := wk_bindE h
  refine tl_S_X9_goOn_2 wk_F hv1 ?_
  intro g2
  refine wk_Hs 2 17 ⟨rfl, rfl⟩ (ls' := [.ref 25, .ref 3, .int (0 : Int32), wk_U, wk_U, wk_U, wk_U]) (st' := []) (σ' := v1) rfl ?_
  obtain ⟨v11, hv11, h⟩ := wk_bindE h
  refine tl_S_X9_goOn_17 wk_F hv11 ?_
  intro g12 g13 g14 g15 g16
  cases h
  exact wk_eqz hk (wk_Hretv rfl)
set_option maxHeartbeats 4000000 in
set_option maxRecDepth 20000 in
theorem tj_j_X9_strike_11_l2 {x1 : Int32} {x2 : Int32} {x3 : Int32} {s_0 : Int32} {s : wk_St} {z : wk_R} {o : (wk_St) ⊕ (Int32 × wk_St)} (h : j_X9_strike_11_l2 x1 x2 x3 s_0 s = some o) (hk : match (generalizing := false) o with | Sum.inl a => (∀ (u3 : Value), wk_H wk_shC 0 mc_X9_strike 20 [.ref 25, .int x1, .int x2, u3] [] a z) | Sum.inr y => wk_H wk_shC 0 mc_X9_strike 2 [.ref 25, .int x1, .int x2, .int y.1] [] y.2 z) : wk_H wk_shC 0 mc_X9_strike 11 [.ref 25, .int x1, .int x2, .int x3] [.int s_0] s z := by
  dsimp only [j_X9_strike_11_l2] at h
  refine wk_Hs 1 12 ⟨rfl, rfl⟩ (ls' := [.ref 25, .int x1, .int x2, .int x3]) (st' := [.int x2, .int s_0]) (σ' := s) rfl ?_
  rcases wk_ife h with ⟨hc, h⟩ | ⟨hc, h⟩
  · refine wk_Hbt 18 rfl (wk_ceq.2 hc) ?_
    refine wk_Hs 1 19 ⟨rfl, rfl⟩ (ls' := [.ref 25, .int x1, .int x2, .int (x3 + (1 : Int32))]) (st' := []) (σ' := s) rfl ?_
    refine wk_Hgoto (t := 2) rfl ?_
    cases h
    exact hk
  · refine wk_Hbf 18 13 rfl rfl (wk_nf wk_ceq hc) ?_
    refine wk_Hs 4 17 ⟨rfl, rfl⟩ (ls' := [.ref 25, .int x1, .int x2, .int x3]) (st' := [.long (0 : Int64), .int x3, .ref 29]) (σ' := s) rfl ?_
    obtain ⟨hg, h⟩ := wk_gdE h
    refine wk_Hlas 18 rfl rfl rfl hg rfl ?_
    refine wk_Hs 1 19 ⟨rfl, rfl⟩ (ls' := [.ref 25, .int x1, .int x2, .int (x3 + (1 : Int32))]) (st' := []) (σ' := (wk_sl s 29 (x3.toNatClampNeg) (0 : Int64))) rfl ?_
    refine wk_Hgoto (t := 2) rfl ?_
    cases h
    exact hk
set_option maxHeartbeats 4000000 in
set_option maxRecDepth 20000 in
theorem ts_S_X9_strike_2 {x1 : Int32} {x2 : Int32} {x3 : Int32} {s : wk_St} {z : wk_R} {o : (wk_St) ⊕ (Int32 × wk_St)} (h : S_X9_strike_2 x1 x2 (x3, s) = some o) (hk : match (generalizing := false) o with | Sum.inl a => (∀ (u3 : Value), wk_H wk_shC 0 mc_X9_strike 20 [.ref 25, .int x1, .int x2, u3] [] a z) | Sum.inr y => wk_H wk_shC 0 mc_X9_strike 2 [.ref 25, .int x1, .int x2, .int y.1] [] y.2 z) : wk_H wk_shC 0 mc_X9_strike 2 [.ref 25, .int x1, .int x2, .int x3] [] s z := by
  dsimp only [S_X9_strike_2] at h
  refine wk_Hs 2 4 ⟨rfl, rfl⟩ (ls' := [.ref 25, .int x1, .int x2, .int x3]) (st' := [.int (12 : Int32), .int x3]) (σ' := s) rfl ?_
  rcases wk_ife h with ⟨hc, h⟩ | ⟨hc, h⟩
  · refine wk_Hbt 20 rfl (wk_cge.2 hc) ?_
    cases h
    exact hk _
  · refine wk_Hbf 20 5 rfl rfl (wk_nf wk_cge hc) ?_
    refine wk_Hs 2 7 ⟨rfl, rfl⟩ (ls' := [.ref 25, .int x1, .int x2, .int x3]) (st' := [.int x1, .int x3]) (σ' := s) rfl ?_
    rcases wk_ife h with ⟨hc, h⟩ | ⟨hc, h⟩
    · refine wk_Hbt 10 rfl (wk_cne.2 hc) ?_
      refine wk_Hs 1 11 ⟨rfl, rfl⟩ (ls' := [.ref 25, .int x1, .int x2, .int x3]) (st' := [.int (0 : Int32)]) (σ' := s) rfl ?_
      exact tj_j_X9_strike_11_l2 h hk
    · refine wk_Hbf 10 8 rfl rfl (wk_nf wk_cne hc) ?_
      refine wk_Hs 1 9 ⟨rfl, rfl⟩ (ls' := [.ref 25, .int x1, .int x2, .int x3]) (st' := [.int (1 : Int32)]) (σ' := s) rfl ?_
      refine wk_Hgoto (t := 11) rfl ?_
      exact tj_j_X9_strike_11_l2 h hk
set_option maxHeartbeats 4000000 in
set_option maxRecDepth 20000 in
theorem tl_S_X9_strike_2 {x1 : Int32} {x2 : Int32} {z : wk_R} (n : Nat) : ∀ {x3 : Int32} {s : wk_St} {a : wk_St} (h : wk_loop (S_X9_strike_2 x1 x2) n (x3, s) = some a) (hk : ∀ (u3 : Value), wk_H wk_shC 0 mc_X9_strike 20 [.ref 25, .int x1, .int x2, u3] [] a z), wk_H wk_shC 0 mc_X9_strike 2 [.ref 25, .int x1, .int x2, .int x3] [] s z := by
  induction n with
  | zero =>
    intros
    rename_i h _
    exact nomatch (show (none : Option _) = some _ from h)
  | succ n ih =>
    intros
    rename_i h hk
    obtain ⟨o, ho, h⟩ := wk_bindE (show Option.bind _ _ = some _ from h)
    refine ts_S_X9_strike_2 ho ?_
    cases o with
    | inl a1 =>
      cases h
      exact hk
    | inr p =>
      obtain ⟨p0, p1⟩ := p
      exact ih h hk
set_option maxHeartbeats 4000000 in
set_option maxRecDepth 20000 in
theorem t_X9_strike {x1 : Int32} {x2 : Int32} {s : wk_St} {r : wk_St} (h : f_X9_strike x1 x2 s = some r) : wk_T wk_shC 0 244 [.ref 25, .int x1, .int x2] s (none, r) := by
  suffices H : ∀ z, z = (none, r) → wk_H wk_shC 0 mc_X9_strike 0 [.ref 25, .int x1, .int x2, wk_U] [] s z from H _ rfl
  intro z hk
  dsimp only [f_X9_strike] at h
  refine wk_Hs 2 2 ⟨rfl, rfl⟩ (ls' := [.ref 25, .int x1, .int x2, .int (0 : Int32)]) (st' := []) (σ' := s) rfl ?_
  obtain ⟨v1, hv1, h⟩ := wk_bindE h
  refine tl_S_X9_strike_2 wk_F hv1 ?_
  intro g2
  cases h
  exact wk_eqz hk (wk_Hretv rfl)
set_option maxHeartbeats 4000000 in
set_option maxRecDepth 20000 in
theorem ts_S_X9_followBoots_2 {x1 : Int32} {x2 : Int32} {x5 : Int32} {w6 : Value} {w7 : Value} {w8 : Value} {s : wk_St} {z : wk_R} {o : (wk_St) ⊕ (Int32 × wk_St)} (h : S_X9_followBoots_2 x1 x2 (x5, s) = some o) (hk : match (generalizing := false) o with | Sum.inl a => (∀ (u5 : Value), wk_H wk_shC 3 mc_X9_followBoots 17 [.ref 25, .int x1, .int x2, .ref 1, .ref 3, u5, w6, w7, w8] [] a z) | Sum.inr y => wk_H wk_shC 3 mc_X9_followBoots 2 [.ref 25, .int x1, .int x2, .ref 1, .ref 3, .int y.1, w6, w7, w8] [] y.2 z) : wk_H wk_shC 3 mc_X9_followBoots 2 [.ref 25, .int x1, .int x2, .ref 1, .ref 3, .int x5, w6, w7, w8] [] s z := by
  dsimp only [S_X9_followBoots_2] at h
  refine wk_Hs 2 4 ⟨rfl, rfl⟩ (ls' := [.ref 25, .int x1, .int x2, .ref 1, .ref 3, .int x5, w6, w7, w8]) (st' := [.int (12 : Int32), .int x5]) (σ' := s) rfl ?_
  rcases wk_ife h with ⟨hc, h⟩ | ⟨hc, h⟩
  · refine wk_Hbt 17 rfl (wk_cge.2 hc) ?_
    cases h
    exact hk _
  · refine wk_Hbf 17 5 rfl rfl (wk_nf wk_cge hc) ?_
    refine wk_Hs 5 10 ⟨rfl, rfl⟩ (ls' := [.ref 25, .int x1, .int x2, .ref 1, .ref 3, .int x5, w6, w7, w8]) (st' := [.int x1, .int x5, .int x5, .ref 29]) (σ' := s) rfl ?_
    rcases wk_ife h with ⟨hc, h⟩ | ⟨hc, h⟩
    · refine wk_Hbt 13 rfl (wk_cne.2 hc) ?_
      refine wk_Hs 1 14 ⟨rfl, rfl⟩ (ls' := [.ref 25, .int x1, .int x2, .ref 1, .ref 3, .int x5, w6, w7, w8]) (st' := [.long (0 : Int64), .int x5, .ref 29]) (σ' := s) rfl ?_
      obtain ⟨hg, h⟩ := wk_gdE h
      refine wk_Hlas 15 rfl rfl rfl hg rfl ?_
      refine wk_Hs 1 16 ⟨rfl, rfl⟩ (ls' := [.ref 25, .int x1, .int x2, .ref 1, .ref 3, .int (x5 + (1 : Int32)), w6, w7, w8]) (st' := []) (σ' := (wk_sl s 29 (x5.toNatClampNeg) (0 : Int64))) rfl ?_
      refine wk_Hgoto (t := 2) rfl ?_
      cases h
      exact hk
    · refine wk_Hbf 13 11 rfl rfl (wk_nf wk_cne hc) ?_
      refine wk_Hs 1 12 ⟨rfl, rfl⟩ (ls' := [.ref 25, .int x1, .int x2, .ref 1, .ref 3, .int x5, w6, w7, w8]) (st' := [.long (1 : Int64), .int x5, .ref 29]) (σ' := s) rfl ?_
      refine wk_Hgoto (t := 14) rfl ?_
      obtain ⟨hg, h⟩ := wk_gdE h
      refine wk_Hlas 15 rfl rfl rfl hg rfl ?_
      refine wk_Hs 1 16 ⟨rfl, rfl⟩ (ls' := [.ref 25, .int x1, .int x2, .ref 1, .ref 3, .int (x5 + (1 : Int32)), w6, w7, w8]) (st' := []) (σ' := (wk_sl s 29 (x5.toNatClampNeg) (1 : Int64))) rfl ?_
      refine wk_Hgoto (t := 2) rfl ?_
      cases h
      exact hk
set_option maxHeartbeats 4000000 in
set_option maxRecDepth 20000 in
theorem tl_S_X9_followBoots_2 {x1 : Int32} {x2 : Int32} {w6 : Value} {w7 : Value} {w8 : Value} {z : wk_R} (n : Nat) : ∀ {x5 : Int32} {s : wk_St} {a : wk_St} (h : wk_loop (S_X9_followBoots_2 x1 x2) n (x5, s) = some a) (hk : ∀ (u5 : Value), wk_H wk_shC 3 mc_X9_followBoots 17 [.ref 25, .int x1, .int x2, .ref 1, .ref 3, u5, w6, w7, w8] [] a z), wk_H wk_shC 3 mc_X9_followBoots 2 [.ref 25, .int x1, .int x2, .ref 1, .ref 3, .int x5, w6, w7, w8] [] s z := by
  induction n with
  | zero =>
    intros
    rename_i h _
    exact nomatch (show (none : Option _) = some _ from h)
  | succ n ih =>
    intros
    rename_i h hk
    obtain ⟨o, ho, h⟩ := wk_bindE (show Option.bind _ _ = some _ from h)
    refine ts_S_X9_followBoots_2 ho ?_
    cases o with
    | inl a1 =>
      cases h
      exact hk
    | inr p =>
      obtain ⟨p0, p1⟩ := p
      exact ih h hk
set_option maxHeartbeats 4000000 in
set_option maxRecDepth 20000 in
theorem tj_j_X9_followBoots_62_l19 {x2 : Int32} {x5 : Int32} {x6 : Int32} {x7 : Int32} {x8 : Int32} {w1 : Value} {s : wk_St} {z : wk_R} {o : ((Int32 × wk_St) ⊕ (wk_St)) ⊕ (Int32 × wk_St)} (h : j_X9_followBoots_62_l19 x2 x5 x6 x7 x8 s = some o) (hk : match (generalizing := false) o with | Sum.inl a => (match (generalizing := false) a with | Sum.inl r => z = (some (.int r.1), r.2) | Sum.inr y => ∀ (u5 u6 u7 u8 : Value), wk_H wk_shC 3 mc_X9_followBoots 74 [.ref 25, w1, .int x2, .ref 1, .ref 3, u5, u6, u7, u8] [] y z) | Sum.inr y => ∀ (u6 u7 u8 : Value), wk_H wk_shC 3 mc_X9_followBoots 19 [.ref 25, w1, .int x2, .ref 1, .ref 3, .int y.1, u6, u7, u8] [] y.2 z) : wk_H wk_shC 3 mc_X9_followBoots 62 [.ref 25, w1, .int x2, .ref 1, .ref 3, .int x5, .int x6, .int x7, .int x8] [] s z := by
  dsimp only [j_X9_followBoots_62_l19] at h
  refine wk_Hs 2 64 ⟨rfl, rfl⟩ (ls' := [.ref 25, w1, .int x2, .ref 1, .ref 3, .int x5, .int x6, .int x7, .int x8]) (st' := [.ref 3, .ref 25]) (σ' := s) rfl ?_
  obtain ⟨v5, hv5, h⟩ := wk_bindE h
  refine wk_Hcall (i2 := 65) (args := [.ref 25, .ref 3]) (rest := []) (r := none) (σ1 := v5) rfl rfl ⟨rfl, rfl, rfl, rfl, rfl⟩ rfl ((t_X9_goOn hv5).up (by decide)) ?_
  refine wk_Hs 2 67 ⟨rfl, rfl⟩ (ls' := [.ref 25, w1, .int x2, .ref 1, .ref 3, .int x5, .int x6, .int x7, .int x8]) (st' := [.int (63 : Int32), .int x6]) (σ' := v5) rfl ?_
  rcases wk_ife h with ⟨hc, h⟩ | ⟨hc, h⟩
  · refine wk_Hbt 72 rfl (wk_ceq.2 hc) ?_
    refine wk_Hs 1 73 ⟨rfl, rfl⟩ (ls' := [.ref 25, w1, .int x2, .ref 1, .ref 3, .int (x5 + (1 : Int32)), .int x6, .int x7, .int x8]) (st' := []) (σ' := v5) rfl ?_
    refine wk_Hgoto (t := 19) rfl ?_
    cases h
    exact hk _ _ _
  · refine wk_Hbf 72 68 rfl rfl (wk_nf wk_ceq hc) ?_
    refine wk_Hs 3 71 ⟨rfl, rfl⟩ (ls' := [.ref 25, w1, .int x2, .ref 1, .ref 3, .int x5, .int x6, .int x7, .int x8]) (st' := [.int x7, .int x8, .ref 25]) (σ' := v5) rfl ?_
    obtain ⟨v6, hv6, h⟩ := wk_bindE h
    refine wk_Hcall (i2 := 72) (args := [.ref 25, .int x8, .int x7]) (rest := []) (r := none) (σ1 := v6) rfl rfl ⟨rfl, rfl, rfl, rfl, rfl⟩ rfl ((t_X9_strike hv6).up (by decide)) ?_
    refine wk_Hs 1 73 ⟨rfl, rfl⟩ (ls' := [.ref 25, w1, .int x2, .ref 1, .ref 3, .int (x5 + (1 : Int32)), .int x6, .int x7, .int x8]) (st' := []) (σ' := v6) rfl ?_
    refine wk_Hgoto (t := 19) rfl ?_
    cases h
    exact hk _ _ _
set_option maxHeartbeats 4000000 in
set_option maxRecDepth 20000 in
theorem tj_j_X9_followBoots_51_l19 {x2 : Int32} {x5 : Int32} {x6 : Int32} {x7 : Int32} {x8 : Int32} {w1 : Value} {s : wk_St} {z : wk_R} {o : ((Int32 × wk_St) ⊕ (wk_St)) ⊕ (Int32 × wk_St)} (h : j_X9_followBoots_51_l19 x2 x5 x6 x7 x8 s = some o) (hk : match (generalizing := false) o with | Sum.inl a => (match (generalizing := false) a with | Sum.inl r => z = (some (.int r.1), r.2) | Sum.inr y => ∀ (u5 u6 u7 u8 : Value), wk_H wk_shC 3 mc_X9_followBoots 74 [.ref 25, w1, .int x2, .ref 1, .ref 3, u5, u6, u7, u8] [] y z) | Sum.inr y => ∀ (u6 u7 u8 : Value), wk_H wk_shC 3 mc_X9_followBoots 19 [.ref 25, w1, .int x2, .ref 1, .ref 3, .int y.1, u6, u7, u8] [] y.2 z) : wk_H wk_shC 3 mc_X9_followBoots 51 [.ref 25, w1, .int x2, .ref 1, .ref 3, .int x5, .int x6, .int x7, .int x8] [] s z := by
  dsimp only [j_X9_followBoots_51_l19] at h
  refine wk_Hs 2 53 ⟨rfl, rfl⟩ (ls' := [.ref 25, w1, .int x2, .ref 1, .ref 3, .int x5, .int x6, .int x7, .int x8]) (st' := [.int (63 : Int32), .int x6]) (σ' := s) rfl ?_
  rcases wk_ife h with ⟨hc, h⟩ | ⟨hc, h⟩
  · refine wk_Hbt 62 rfl (wk_ceq.2 hc) ?_
    exact tj_j_X9_followBoots_62_l19 h hk
  · refine wk_Hbf 62 54 rfl rfl (wk_nf wk_ceq hc) ?_
    refine wk_Hs 2 56 ⟨rfl, rfl⟩ (ls' := [.ref 25, w1, .int x2, .ref 1, .ref 3, .int x5, .int x6, .int x7, .int x8]) (st' := [.int x8, .ref 3]) (σ' := s) rfl ?_
    refine wk_Hcall (i2 := 57) (args := [.ref 3, .int x8]) (rest := []) (r := some (.int (b2i (f_X2_isTold x8 s)))) (σ1 := s) rfl rfl ⟨rfl, rfl, rfl, rfl, rfl⟩ rfl ((t_X2_isTold rfl).up (by decide)) ?_
    rcases wk_ife h with ⟨hc, h⟩ | ⟨hc, h⟩
    · refine wk_H0t 62 rfl (wk_zne.2 hc) ?_
      exact tj_j_X9_followBoots_62_l19 h hk
    · refine wk_H0f 62 58 rfl rfl (wk_nf wk_zne hc) ?_
      refine wk_Hs 2 60 ⟨rfl, rfl⟩ (ls' := [.ref 25, w1, .int x2, .ref 1, .ref 3, .int x5, .int x6, .int x7, .int x8]) (st' := [.int x5, .int (7 : Int32)]) (σ' := s) rfl ?_
      refine wk_Hcall (i2 := 61) (args := [.int (7 : Int32), .int x5]) (rest := []) (r := some (.int (f_X11_faultOf (7 : Int32) x5))) (σ1 := s) rfl rfl ⟨rfl, rfl, rfl, rfl, rfl⟩ rfl ((t_X11_faultOf rfl).up (by decide)) ?_
      cases h
      exact wk_eqz hk (wk_Hret rfl)
set_option maxHeartbeats 4000000 in
set_option maxRecDepth 20000 in
theorem tj_j_X9_followBoots_37_l19 {x2 : Int32} {x5 : Int32} {x6 : Int32} {x7 : Int32} {s_0 : Int32} {s_1 : Int32} {w1 : Value} {w8 : Value} {s : wk_St} {z : wk_R} {o : ((Int32 × wk_St) ⊕ (wk_St)) ⊕ (Int32 × wk_St)} (h : j_X9_followBoots_37_l19 x2 x5 x6 x7 s_0 s_1 s = some o) (hk : match (generalizing := false) o with | Sum.inl a => (match (generalizing := false) a with | Sum.inl r => z = (some (.int r.1), r.2) | Sum.inr y => ∀ (u5 u6 u7 u8 : Value), wk_H wk_shC 3 mc_X9_followBoots 74 [.ref 25, w1, .int x2, .ref 1, .ref 3, u5, u6, u7, u8] [] y z) | Sum.inr y => ∀ (u6 u7 u8 : Value), wk_H wk_shC 3 mc_X9_followBoots 19 [.ref 25, w1, .int x2, .ref 1, .ref 3, .int y.1, u6, u7, u8] [] y.2 z) : wk_H wk_shC 3 mc_X9_followBoots 37 [.ref 25, w1, .int x2, .ref 1, .ref 3, .int x5, .int x6, .int x7, w8] [.int s_0, .int s_1] s z := by
  dsimp only [j_X9_followBoots_37_l19] at h
  refine wk_Hs 4 41 ⟨rfl, rfl⟩ (ls' := [.ref 25, w1, .int x2, .ref 1, .ref 3, .int x5, .int x6, .int x7, .int (s_1 - s_0)]) (st' := [.int (63 : Int32), .int x6]) (σ' := s) rfl ?_
  rcases wk_ife h with ⟨hc, h⟩ | ⟨hc, h⟩
  · refine wk_Hbt 51 rfl (wk_ceq.2 hc) ?_
    exact tj_j_X9_followBoots_51_l19 h hk
  · refine wk_Hbf 51 42 rfl rfl (wk_nf wk_ceq hc) ?_
    refine wk_Hs 3 45 ⟨rfl, rfl⟩ (ls' := [.ref 25, w1, .int x2, .ref 1, .ref 3, .int x5, .int x6, .int x7, .int (s_1 - s_0)]) (st' := [.int (11 : Int32), .int (0 : Int32), .int (s_1 - s_0)]) (σ' := s) rfl ?_
    refine wk_Hcall (i2 := 46) (args := [.int (s_1 - s_0), .int (0 : Int32), .int (11 : Int32)]) (rest := []) (r := some (.int (b2i (f_X11_isWithin (s_1 - s_0) (0 : Int32) (11 : Int32))))) (σ1 := s) rfl rfl ⟨rfl, rfl, rfl, rfl, rfl⟩ rfl ((t_X11_isWithin rfl).up (by decide)) ?_
    rcases wk_ife h with ⟨hc, h⟩ | ⟨hc, h⟩
    · refine wk_H0t 51 rfl (wk_zne.2 hc) ?_
      exact tj_j_X9_followBoots_51_l19 h hk
    · refine wk_H0f 51 47 rfl rfl (wk_nf wk_zne hc) ?_
      refine wk_Hs 2 49 ⟨rfl, rfl⟩ (ls' := [.ref 25, w1, .int x2, .ref 1, .ref 3, .int x5, .int x6, .int x7, .int (s_1 - s_0)]) (st' := [.int x5, .int (1 : Int32)]) (σ' := s) rfl ?_
      refine wk_Hcall (i2 := 50) (args := [.int (1 : Int32), .int x5]) (rest := []) (r := some (.int (f_X11_faultOf (1 : Int32) x5))) (σ1 := s) rfl rfl ⟨rfl, rfl, rfl, rfl, rfl⟩ rfl ((t_X11_faultOf rfl).up (by decide)) ?_
      cases h
      exact wk_eqz hk (wk_Hret rfl)
set_option maxHeartbeats 4000000 in
set_option maxRecDepth 20000 in
theorem ts_S_X9_followBoots_19 {x2 : Int32} {x5 : Int32} {w1 : Value} {w6 : Value} {w7 : Value} {w8 : Value} {s : wk_St} {z : wk_R} {o : ((Int32 × wk_St) ⊕ (wk_St)) ⊕ (Int32 × wk_St)} (h : S_X9_followBoots_19 x2 (x5, s) = some o) (hk : match (generalizing := false) o with | Sum.inl a => (match (generalizing := false) a with | Sum.inl r => z = (some (.int r.1), r.2) | Sum.inr y => ∀ (u5 u6 u7 u8 : Value), wk_H wk_shC 3 mc_X9_followBoots 74 [.ref 25, w1, .int x2, .ref 1, .ref 3, u5, u6, u7, u8] [] y z) | Sum.inr y => ∀ (u6 u7 u8 : Value), wk_H wk_shC 3 mc_X9_followBoots 19 [.ref 25, w1, .int x2, .ref 1, .ref 3, .int y.1, u6, u7, u8] [] y.2 z) : wk_H wk_shC 3 mc_X9_followBoots 19 [.ref 25, w1, .int x2, .ref 1, .ref 3, .int x5, w6, w7, w8] [] s z := by
  dsimp only [S_X9_followBoots_19] at h
  refine wk_Hs 2 21 ⟨rfl, rfl⟩ (ls' := [.ref 25, w1, .int x2, .ref 1, .ref 3, .int x5, w6, w7, w8]) (st' := [.int x2, .int x5]) (σ' := s) rfl ?_
  rcases wk_ife h with ⟨hc, h⟩ | ⟨hc, h⟩
  · refine wk_Hbt 74 rfl (wk_cge.2 hc) ?_
    cases h
    exact hk _ _ _ _
  · refine wk_Hbf 74 22 rfl rfl (wk_nf wk_cge hc) ?_
    refine wk_Hs 2 24 ⟨rfl, rfl⟩ (ls' := [.ref 25, w1, .int x2, .ref 1, .ref 3, .int x5, w6, w7, w8]) (st' := [.int x5, .ref 1]) (σ' := s) rfl ?_
    obtain ⟨v3, hv3, h⟩ := wk_bindE h
    refine wk_Hcall (i2 := 25) (args := [.ref 1, .int x5]) (rest := []) (r := some (.int v3)) (σ1 := s) rfl rfl ⟨rfl, rfl, rfl, rfl, rfl⟩ rfl ((t_X8_byteAt hv3).up (by decide)) ?_
    refine wk_Hs 4 29 ⟨rfl, rfl⟩ (ls' := [.ref 25, w1, .int x2, .ref 1, .ref 3, .int x5, .int v3, w7, w8]) (st' := [.int (108 : Int32), .int (97 : Int32), .int v3]) (σ' := s) rfl ?_
    refine wk_Hcall (i2 := 30) (args := [.int v3, .int (97 : Int32), .int (108 : Int32)]) (rest := []) (r := some (.int (b2i (f_X11_isWithin v3 (97 : Int32) (108 : Int32))))) (σ1 := s) rfl rfl ⟨rfl, rfl, rfl, rfl, rfl⟩ rfl ((t_X11_isWithin rfl).up (by decide)) ?_
    refine wk_Hs 3 33 ⟨rfl, rfl⟩ (ls' := [.ref 25, w1, .int x2, .ref 1, .ref 3, .int x5, .int v3, .int (b2i (f_X11_isWithin v3 (97 : Int32) (108 : Int32))), w8]) (st' := [.int (b2i (f_X11_isWithin v3 (97 : Int32) (108 : Int32))), .int v3]) (σ' := s) rfl ?_
    rcases wk_ife h with ⟨hc, h⟩ | ⟨hc, h⟩
    · refine wk_H0t 36 rfl (wk_zeq.2 hc) ?_
      refine wk_Hs 1 37 ⟨rfl, rfl⟩ (ls' := [.ref 25, w1, .int x2, .ref 1, .ref 3, .int x5, .int v3, .int (b2i (f_X11_isWithin v3 (97 : Int32) (108 : Int32))), w8]) (st' := [.int (65 : Int32), .int v3]) (σ' := s) rfl ?_
      exact tj_j_X9_followBoots_37_l19 h hk
    · refine wk_H0f 36 34 rfl rfl (wk_nf wk_zeq hc) ?_
      refine wk_Hs 1 35 ⟨rfl, rfl⟩ (ls' := [.ref 25, w1, .int x2, .ref 1, .ref 3, .int x5, .int v3, .int (b2i (f_X11_isWithin v3 (97 : Int32) (108 : Int32))), w8]) (st' := [.int (97 : Int32), .int v3]) (σ' := s) rfl ?_
      refine wk_Hgoto (t := 37) rfl ?_
      exact tj_j_X9_followBoots_37_l19 h hk
set_option maxHeartbeats 4000000 in
set_option maxRecDepth 20000 in
theorem tl_S_X9_followBoots_19 {x2 : Int32} {w1 : Value} {z : wk_R} (n : Nat) : ∀ {x5 : Int32} {w6 : Value} {w7 : Value} {w8 : Value} {s : wk_St} {a : (Int32 × wk_St) ⊕ (wk_St)} (h : wk_loop (S_X9_followBoots_19 x2) n (x5, s) = some a) (hk : match (generalizing := false) a with | Sum.inl r => z = (some (.int r.1), r.2) | Sum.inr y => ∀ (u5 u6 u7 u8 : Value), wk_H wk_shC 3 mc_X9_followBoots 74 [.ref 25, w1, .int x2, .ref 1, .ref 3, u5, u6, u7, u8] [] y z), wk_H wk_shC 3 mc_X9_followBoots 19 [.ref 25, w1, .int x2, .ref 1, .ref 3, .int x5, w6, w7, w8] [] s z := by
  induction n with
  | zero =>
    intros
    rename_i h _
    exact nomatch (show (none : Option _) = some _ from h)
  | succ n ih =>
    intros
    rename_i h hk
    obtain ⟨o, ho, h⟩ := wk_bindE (show Option.bind _ _ = some _ from h)
    refine ts_S_X9_followBoots_19 ho ?_
    cases o with
    | inl a1 =>
      cases h
      exact hk
    | inr p =>
      obtain ⟨p0, p1⟩ := p
      exact fun _ _ _ => ih h hk
set_option maxHeartbeats 4000000 in
set_option maxRecDepth 20000 in
theorem t_X9_followBoots {x1 : Int32} {x2 : Int32} {s : wk_St} {r : Int32 × wk_St} (h : f_X9_followBoots x1 x2 s = some r) : wk_T wk_shC 3 242 [.ref 25, .int x1, .int x2, .ref 1, .ref 3] s (some (.int r.1), r.2) := by
  suffices H : ∀ z, z = (some (.int r.1), r.2) → wk_H wk_shC 3 mc_X9_followBoots 0 [.ref 25, .int x1, .int x2, .ref 1, .ref 3, wk_U, wk_U, wk_U, wk_U] [] s z from H _ rfl
  intro z hk
  dsimp only [f_X9_followBoots] at h
  refine wk_Hs 2 2 ⟨rfl, rfl⟩ (ls' := [.ref 25, .int x1, .int x2, .ref 1, .ref 3, .int (0 : Int32), wk_U, wk_U, wk_U]) (st' := []) (σ' := s) rfl ?_
  obtain ⟨v1, hv1, h⟩ := wk_bindE h
  refine tl_S_X9_followBoots_2 wk_F hv1 ?_
  intro g2
  refine wk_Hs 2 19 ⟨rfl, rfl⟩ (ls' := [.ref 25, .int x1, .int x2, .ref 1, .ref 3, .int (0 : Int32), wk_U, wk_U, wk_U]) (st' := []) (σ' := v1) rfl ?_
  obtain ⟨v11, hv11, h⟩ := wk_bindE h
  rcases v11 with v11r | v11
  · cases h
    exact tl_S_X9_followBoots_19 wk_F hv11 hk
  · refine tl_S_X9_followBoots_19 wk_F hv11 ?_
    intro g12 g13 g14 g15
    dsimp only at h ⊢
    refine wk_Hs 1 75 ⟨rfl, rfl⟩ (ls' := [.ref 25, .int x1, .int x2, .ref 1, .ref 3, g12, g13, g14, g15]) (st' := [.int (0 : Int32)]) (σ' := v11) rfl ?_
    cases h
    exact wk_eqz hk (wk_Hret rfl)
