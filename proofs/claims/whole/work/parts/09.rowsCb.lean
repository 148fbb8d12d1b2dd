set_option maxHeartbeats 4000000 in
set_option maxRecDepth 20000 in
theorem tl_S_X3_repeat_24 {x2 : Int32} {x4 : Int32} {x5 : Int64} {w1 : Value} {w3 : Value} {z : wk_R} (n : Nat) : ∀ {x7 : Int32} {w6 : Value} {s : wk_St} {a : wk_St} (h : wk_loop (S_X3_repeat_24 x2 x4 x5) n (x7, s) = some a) (hk : ∀ (u6 u7 : Value), wk_H wk_shC 1 mc_X3_repeat 44 [.ref 30, w1, .int x2, w3, .int x4, .long x5, u6, u7] [] a z), wk_H wk_shC 1 mc_X3_repeat 24 [.ref 30, w1, .int x2, w3, .int x4, .long x5, w6, .int x7] [] s z := by
  induction n with
  | zero =>
    intros
    rename_i h _
    exact nomatch (show (none : Option _) = some _ from h)
  | succ n ih =>
    intros
    rename_i h hk
    obtain ⟨o, ho, h⟩ := wk_bindE (show Option.bind _ _ = some _ from h)
    refine ts_S_X3_repeat_24 ho ?_
    cases o with
    | inl a1 =>
      cases h
      exact hk
    | inr p =>
      obtain ⟨p0, p1⟩ := p
      exact fun _ => ih h hk
set_option maxHeartbeats 4000000 in
set_option maxRecDepth 20000 in
theorem t_X3_repeat {x1 : Int32} {x2 : Int32} {x3 : Int32} {s : wk_St} {r : Bool × wk_St} (h : f_X3_repeat x1 x2 x3 s = some r) : wk_T wk_shC 1 192 [.ref 30, .int x1, .int x2, .int x3] s (some (.int (b2i r.1)), r.2) := by
  suffices H : ∀ z, z = (some (.int (b2i r.1)), r.2) → wk_H wk_shC 1 mc_X3_repeat 0 [.ref 30, .int x1, .int x2, .int x3, wk_U, wk_U, wk_U, wk_U] [] s z from H _ rfl
  intro z hk
  dsimp only [f_X3_repeat] at h
  refine wk_Hs 4 4 ⟨rfl, rfl⟩ (ls' := [.ref 30, .int x1, .int x2, .int x3, wk_U, wk_U, wk_U, wk_U]) (st' := [.int ((s.1 30 5) - x1)]) (σ' := s) rfl ?_
  replace h := wk_letE h
  refine wk_Hs 7 11 ⟨rfl, rfl⟩ (ls' := [.ref 30, .int x1, .int x2, .int x3, .int ((s.1 30 5) - x1), wk_U, wk_U, wk_U]) (st' := [.int (48 : Int32), .int (x1 + (((s.1 30 5) - x1) * x2))]) (σ' := s) rfl ?_
  rcases wk_ife h with ⟨hc, h⟩ | ⟨hc, h⟩
  · refine wk_Hbt 17 rfl (wk_cle.2 hc) ?_
    refine wk_Hs 4 21 ⟨rfl, rfl⟩ (ls' := [.ref 30, .int x1, .int x2, .int x3, .int ((s.1 30 5) - x1), wk_U, wk_U, wk_U]) (st' := [.long (wk_lushr (s.2 30 4) x1)]) (σ' := s) rfl ?_
    replace h := wk_letE h
    refine wk_Hs 3 24 ⟨rfl, rfl⟩ (ls' := [.ref 30, .int x1, .int x2, .int x3, .int ((s.1 30 5) - x1), .long (wk_lushr (s.2 30 4) x1), wk_U, .int (1 : Int32)]) (st' := []) (σ' := s) rfl ?_
    obtain ⟨v3, hv3, h⟩ := wk_bindE h
    refine tl_S_X3_repeat_24 wk_F hv3 ?_
    intro g4 g5
    refine wk_Hs 1 45 ⟨rfl, rfl⟩ (ls' := [.ref 30, .int x1, .int x2, .int x3, .int ((s.1 30 5) - x1), .long (wk_lushr (s.2 30 4) x1), g4, g5]) (st' := [.int (1 : Int32)]) (σ' := v3) rfl ?_
    cases h
    exact wk_eqz hk (wk_Hretz rfl (b2i_01 true))
  · refine wk_Hbf 17 12 rfl rfl (wk_nf wk_cle hc) ?_
    refine wk_Hs 3 15 ⟨rfl, rfl⟩ (ls' := [.ref 30, .int x1, .int x2, .int x3, .int ((s.1 30 5) - x1), wk_U, wk_U, wk_U]) (st' := [.int x3, .int (6 : Int32), .ref 30]) (σ' := s) rfl ?_
    replace h := wk_letE h
    refine wk_Hcall (i2 := 16) (args := [.ref 30, .int (6 : Int32), .int x3]) (rest := []) (r := some (.int (b2i ((f_X6_blame 30 (6 : Int32) x3 s).1)))) (σ1 := (f_X6_blame 30 (6 : Int32) x3 s).2) rfl rfl ⟨rfl, rfl, rfl, rfl, rfl⟩ rfl ((t_X6_blame_30 rfl).up (by decide)) ?_
    cases h
    exact wk_eqz hk (wk_Hretz rfl (b2i_01 _))
set_option maxHeartbeats 4000000 in
set_option maxRecDepth 20000 in
theorem tj_j_X3_readPart_37 {d0 : Nat} (hd : 1 ≤ d0) {F_X3_readRow : Int32 → wk_St → Option (Bool × wk_St)} (HF_X3_readRow : ∀ {a0 : Int32} {s : wk_St} {r : Bool × wk_St}, F_X3_readRow a0 s = some r → wk_T wk_shC d0 188 [.ref 30, .int a0] s (some (.int (b2i r.1)), r.2)) {F_X3_readPart : Int32 → wk_St → Option (Bool × wk_St)} (HF_X3_readPart : ∀ {a0 : Int32} {s : wk_St} {r : Bool × wk_St}, F_X3_readPart a0 s = some r → wk_T wk_shC d0 189 [.ref 30, .int a0] s (some (.int (b2i r.1)), r.2)) {F_X3_readGroup : Int32 → wk_St → Option (Bool × wk_St)} (HF_X3_readGroup : ∀ {a0 : Int32} {s : wk_St} {r : Bool × wk_St}, F_X3_readGroup a0 s = some r → wk_T wk_shC d0 190 [.ref 30, .int a0] s (some (.int (b2i r.1)), r.2)) {x2 : Int32} {x3 : Int32} {x4 : Int32} {s_0 : Int32} {w1 : Value} {w5 : Value} {s : wk_St} {z : wk_R} {o : Bool × wk_St} (h : j_X3_readPart_37 F_X3_readRow F_X3_readPart F_X3_readGroup x2 x3 x4 s_0 s = some o) (hk : z = (some (.int (b2i o.1)), o.2)) : wk_H wk_shC (d0 + 1) mc_X3_readPart 37 [.ref 30, w1, .int x2, .int x3, .int x4, w5] [.int s_0] s z := by
  dsimp only [j_X3_readPart_37] at h
  refine wk_Hs 2 39 ⟨rfl, rfl⟩ (ls' := [.ref 30, w1, .int x2, .int x3, .int x4, .int s_0]) (st' := [.int s_0]) (σ' := s) rfl ?_
  rcases wk_ife h with ⟨hc, h⟩ | ⟨hc, h⟩
  · refine wk_H0t 48 rfl (wk_ceq.2 hc) ?_
    refine wk_Hs 1 49 ⟨rfl, rfl⟩ (ls' := [.ref 30, w1, .int x2, .int x3, .int x4, .int s_0]) (st' := [.int (0 : Int32)]) (σ' := s) rfl ?_
    cases h
    exact wk_eqz hk (wk_Hretz rfl (b2i_01 false))
  · refine wk_H0f 48 40 rfl rfl (wk_nf wk_ceq hc) ?_
    refine wk_Hs 4 44 ⟨rfl, rfl⟩ (ls' := [.ref 30, w1, .int x2, .int x3, .int x4, .int s_0]) (st' := [.int x2, .int x4, .int x3, .ref 30]) (σ' := s) rfl ?_
    obtain ⟨v5, hv5, h⟩ := wk_bindE h
    refine wk_Hcall (i2 := 45) (args := [.ref 30, .int x3, .int x4, .int x2]) (rest := []) (r := some (.int (b2i v5.1))) (σ1 := v5.2) rfl rfl ⟨rfl, rfl, rfl, rfl, rfl⟩ rfl ((t_X3_repeat hv5).up (by omega)) ?_
    rcases wk_ife h with ⟨hc, h⟩ | ⟨hc, h⟩
    · refine wk_H0t 48 rfl (wk_zeq.2 hc) ?_
      refine wk_Hs 1 49 ⟨rfl, rfl⟩ (ls' := [.ref 30, w1, .int x2, .int x3, .int x4, .int s_0]) (st' := [.int (0 : Int32)]) (σ' := v5.2) rfl ?_
      cases h
      exact wk_eqz hk (wk_Hretz rfl (b2i_01 false))
    · refine wk_H0f 48 46 rfl rfl (wk_nf wk_zeq hc) ?_
      refine wk_Hs 1 47 ⟨rfl, rfl⟩ (ls' := [.ref 30, w1, .int x2, .int x3, .int x4, .int s_0]) (st' := [.int (1 : Int32)]) (σ' := v5.2) rfl ?_
      refine wk_Hgoto (t := 49) rfl ?_
      cases h
      exact wk_eqz hk (wk_Hretz rfl (b2i_01 true))
set_option maxHeartbeats 4000000 in
set_option maxRecDepth 20000 in
theorem tj_j_X3_readPart_27 {d0 : Nat} (hd : 1 ≤ d0) {F_X3_readRow : Int32 → wk_St → Option (Bool × wk_St)} (HF_X3_readRow : ∀ {a0 : Int32} {s : wk_St} {r : Bool × wk_St}, F_X3_readRow a0 s = some r → wk_T wk_shC d0 188 [.ref 30, .int a0] s (some (.int (b2i r.1)), r.2)) {F_X3_readPart : Int32 → wk_St → Option (Bool × wk_St)} (HF_X3_readPart : ∀ {a0 : Int32} {s : wk_St} {r : Bool × wk_St}, F_X3_readPart a0 s = some r → wk_T wk_shC d0 189 [.ref 30, .int a0] s (some (.int (b2i r.1)), r.2)) {F_X3_readGroup : Int32 → wk_St → Option (Bool × wk_St)} (HF_X3_readGroup : ∀ {a0 : Int32} {s : wk_St} {r : Bool × wk_St}, F_X3_readGroup a0 s = some r → wk_T wk_shC d0 190 [.ref 30, .int a0] s (some (.int (b2i r.1)), r.2)) {x1 : Int32} {x2 : Int32} {x3 : Int32} {x4 : Int32} {w5 : Value} {s : wk_St} {z : wk_R} {o : Bool × wk_St} (h : j_X3_readPart_27 F_X3_readRow F_X3_readPart F_X3_readGroup x1 x2 x3 x4 s = some o) (hk : z = (some (.int (b2i o.1)), o.2)) : wk_H wk_shC (d0 + 1) mc_X3_readPart 27 [.ref 30, .int x1, .int x2, .int x3, .int x4, w5] [] s z := by
  dsimp only [j_X3_readPart_27] at h
  refine wk_Hs 1 28 ⟨rfl, rfl⟩ (ls' := [.ref 30, .int x1, .int x2, .int x3, .int x4, w5]) (st' := [.ref 30]) (σ' := s) rfl ?_
  obtain ⟨v3, hv3, h⟩ := wk_bindE h
  refine wk_Hcall (i2 := 29) (args := [.ref 30]) (rest := []) (r := some (.int v3)) (σ1 := s) rfl rfl ⟨rfl, rfl, rfl, rfl, rfl⟩ rfl ((t_X6_sign_30 hv3).up (by omega)) ?_
  refine wk_Hs 1 30 ⟨rfl, rfl⟩ (ls' := [.ref 30, .int x1, .int x2, .int x3, .int x4, w5]) (st' := [.int (40 : Int32), .int v3]) (σ' := s) rfl ?_
  rcases wk_ife h with ⟨hc, h⟩ | ⟨hc, h⟩
  · refine wk_Hbt 35 rfl (wk_cne.2 hc) ?_
    refine wk_Hs 1 36 ⟨rfl, rfl⟩ (ls' := [.ref 30, .int x1, .int x2, .int x3, .int x4, w5]) (st' := [.ref 30]) (σ' := s) rfl ?_
    obtain ⟨v4, hv4, h⟩ := wk_bindE h
    refine wk_Hcall (i2 := 37) (args := [.ref 30]) (rest := []) (r := some (.int (b2i v4.1))) (σ1 := v4.2) rfl rfl ⟨rfl, rfl, rfl, rfl, rfl⟩ rfl ((t_X3_readOne hv4).up (by omega)) ?_
    exact tj_j_X3_readPart_37 hd HF_X3_readRow HF_X3_readPart HF_X3_readGroup h hk
  · refine wk_Hbf 35 31 rfl rfl (wk_nf wk_cne hc) ?_
    refine wk_Hs 2 33 ⟨rfl, rfl⟩ (ls' := [.ref 30, .int x1, .int x2, .int x3, .int x4, w5]) (st' := [.int x1, .ref 30]) (σ' := s) rfl ?_
    obtain ⟨v6, hv6, h⟩ := wk_bindE h
    refine wk_Hcall (i2 := 34) (args := [.ref 30, .int x1]) (rest := []) (r := some (.int (b2i v6.1))) (σ1 := v6.2) rfl rfl ⟨rfl, rfl, rfl, rfl, rfl⟩ rfl (HF_X3_readGroup hv6) ?_
    refine wk_Hgoto (t := 37) rfl ?_
    exact tj_j_X3_readPart_37 hd HF_X3_readRow HF_X3_readPart HF_X3_readGroup h hk
set_option maxHeartbeats 4000000 in
set_option maxRecDepth 20000 in
theorem tb_X3_readPart {d0 : Nat} (hd : 1 ≤ d0) {F_X3_readRow : Int32 → wk_St → Option (Bool × wk_St)} (HF_X3_readRow : ∀ {a0 : Int32} {s : wk_St} {r : Bool × wk_St}, F_X3_readRow a0 s = some r → wk_T wk_shC d0 188 [.ref 30, .int a0] s (some (.int (b2i r.1)), r.2)) {F_X3_readPart : Int32 → wk_St → Option (Bool × wk_St)} (HF_X3_readPart : ∀ {a0 : Int32} {s : wk_St} {r : Bool × wk_St}, F_X3_readPart a0 s = some r → wk_T wk_shC d0 189 [.ref 30, .int a0] s (some (.int (b2i r.1)), r.2)) {F_X3_readGroup : Int32 → wk_St → Option (Bool × wk_St)} (HF_X3_readGroup : ∀ {a0 : Int32} {s : wk_St} {r : Bool × wk_St}, F_X3_readGroup a0 s = some r → wk_T wk_shC d0 190 [.ref 30, .int a0] s (some (.int (b2i r.1)), r.2)) {x1 : Int32} {s : wk_St} {r : Bool × wk_St} (h : b_X3_readPart F_X3_readRow F_X3_readPart F_X3_readGroup x1 s = some r) : wk_T wk_shC (d0 + 1) 189 [.ref 30, .int x1] s (some (.int (b2i r.1)), r.2) := by
  suffices H : ∀ z, z = (some (.int (b2i r.1)), r.2) → wk_H wk_shC (d0 + 1) mc_X3_readPart 0 [.ref 30, .int x1, wk_U, wk_U, wk_U, wk_U] [] s z from H _ rfl
  intro z hk
  dsimp only [b_X3_readPart] at h
  refine wk_Hs 9 9 ⟨rfl, rfl⟩ (ls' := [.ref 30, .int x1, .int (s.1 30 3), .int (s.1 30 5), .int (1 : Int32), wk_U]) (st' := [.ref 30]) (σ' := s) rfl ?_
  obtain ⟨v1, hv1, h⟩ := wk_bindE h
  refine wk_Hcall (i2 := 10) (args := [.ref 30]) (rest := []) (r := some (.int v1)) (σ1 := s) rfl rfl ⟨rfl, rfl, rfl, rfl, rfl⟩ rfl ((t_X6_sign_30 hv1).up (by omega)) ?_
  refine wk_Hcall (i2 := 11) (args := [.int v1]) (rest := []) (r := some (.int (b2i (f_X6_isDigit v1)))) (σ1 := s) rfl rfl ⟨rfl, rfl, rfl, rfl, rfl⟩ rfl ((t_X6_isDigit rfl).up (by omega)) ?_
  rcases wk_ife h with ⟨hc, h⟩ | ⟨hc, h⟩
  · refine wk_H0t 27 rfl (wk_zeq.2 hc) ?_
    exact tj_j_X3_readPart_27 hd HF_X3_readRow HF_X3_readPart HF_X3_readGroup h hk
  · refine wk_H0f 27 12 rfl rfl (wk_nf wk_zeq hc) ?_
    refine wk_Hs 1 13 ⟨rfl, rfl⟩ (ls' := [.ref 30, .int x1, .int (s.1 30 3), .int (s.1 30 5), .int (1 : Int32), wk_U]) (st' := [.ref 30]) (σ' := s) rfl ?_
    obtain ⟨v7, hv7, h⟩ := wk_bindE h
    refine wk_Hcall (i2 := 14) (args := [.ref 30]) (rest := []) (r := some (.int v7)) (σ1 := s) rfl rfl ⟨rfl, rfl, rfl, rfl, rfl⟩ rfl ((t_X6_sign_30 hv7).up (by omega)) ?_
    refine wk_Hs 1 15 ⟨rfl, rfl⟩ (ls' := [.ref 30, .int x1, .int (s.1 30 3), .int (s.1 30 5), .int (1 : Int32), wk_U]) (st' := [.int (50 : Int32), .int v7]) (σ' := s) rfl ?_
    rcases wk_ife h with ⟨hc, h⟩ | ⟨hc, h⟩
    · refine wk_Hbt 27 rfl (wk_clt.2 hc) ?_
      exact tj_j_X3_readPart_27 hd HF_X3_readRow HF_X3_readPart HF_X3_readGroup h hk
    · refine wk_Hbf 27 16 rfl rfl (wk_nf wk_clt hc) ?_
      refine wk_Hs 1 17 ⟨rfl, rfl⟩ (ls' := [.ref 30, .int x1, .int (s.1 30 3), .int (s.1 30 5), .int (1 : Int32), wk_U]) (st' := [.ref 30]) (σ' := s) rfl ?_
      obtain ⟨v8, hv8, h⟩ := wk_bindE h
      refine wk_Hcall (i2 := 18) (args := [.ref 30]) (rest := []) (r := some (.int v8)) (σ1 := s) rfl rfl ⟨rfl, rfl, rfl, rfl, rfl⟩ rfl ((t_X6_sign_30 hv8).up (by omega)) ?_
      refine wk_Hs 2 20 ⟨rfl, rfl⟩ (ls' := [.ref 30, .int x1, .int (s.1 30 3), .int (s.1 30 5), .int (1 : Int32), wk_U]) (st' := [.int (v8 - (48 : Int32))]) (σ' := s) rfl ?_
      replace h := wk_letE h
      refine wk_Hs 7 27 ⟨rfl, rfl⟩ (ls' := [.ref 30, .int x1, .int (s.1 30 3), .int (s.1 30 5), .int (v8 - (48 : Int32)), wk_U]) (st' := []) (σ' := (wk_si s 30 3 ((s.1 30 3) + (1 : Int32)))) rfl ?_
      exact tj_j_X3_readPart_27 hd HF_X3_readRow HF_X3_readPart HF_X3_readGroup h hk
set_option maxHeartbeats 4000000 in
set_option maxRecDepth 20000 in
theorem ts_S_X3_readRow_2 {d0 : Nat} (hd : 1 ≤ d0) {F_X3_readRow : Int32 → wk_St → Option (Bool × wk_St)} (HF_X3_readRow : ∀ {a0 : Int32} {s : wk_St} {r : Bool × wk_St}, F_X3_readRow a0 s = some r → wk_T wk_shC d0 188 [.ref 30, .int a0] s (some (.int (b2i r.1)), r.2)) {F_X3_readPart : Int32 → wk_St → Option (Bool × wk_St)} (HF_X3_readPart : ∀ {a0 : Int32} {s : wk_St} {r : Bool × wk_St}, F_X3_readPart a0 s = some r → wk_T wk_shC d0 189 [.ref 30, .int a0] s (some (.int (b2i r.1)), r.2)) {F_X3_readGroup : Int32 → wk_St → Option (Bool × wk_St)} (HF_X3_readGroup : ∀ {a0 : Int32} {s : wk_St} {r : Bool × wk_St}, F_X3_readGroup a0 s = some r → wk_T wk_shC d0 190 [.ref 30, .int a0] s (some (.int (b2i r.1)), r.2)) {x1 : Int32} {x2 : Int32} {s : wk_St} {z : wk_R} {o : ((Bool × wk_St) ⊕ (wk_St)) ⊕ (Int32 × wk_St)} (h : S_X3_readRow_2 F_X3_readRow F_X3_readPart F_X3_readGroup x1 (x2, s) = some o) (hk : match (generalizing := false) o with | Sum.inl a => (match (generalizing := false) a with | Sum.inl r => z = (some (.int (b2i r.1)), r.2) | Sum.inr y => ∀ (u2 : Value), wk_H wk_shC (d0 + 1) mc_X3_readRow 23 [.ref 30, .int x1, u2] [] y z) | Sum.inr y => wk_H wk_shC (d0 + 1) mc_X3_readRow 2 [.ref 30, .int x1, .int y.1] [] y.2 z) : wk_H wk_shC (d0 + 1) mc_X3_readRow 2 [.ref 30, .int x1, .int x2] [] s z := by
  dsimp only [S_X3_readRow_2] at h
  refine wk_Hs 2 4 ⟨rfl, rfl⟩ (ls' := [.ref 30, .int x1, .int x2]) (st' := [.int (240 : Int32), .int x2]) (σ' := s) rfl ?_
  rcases wk_ife h with ⟨hc, h⟩ | ⟨hc, h⟩
  · refine wk_Hbt 23 rfl (wk_cge.2 hc) ?_
    cases h
    exact hk _
  · refine wk_Hbf 23 5 rfl rfl (wk_nf wk_cge hc) ?_
    refine wk_Hs 2 7 ⟨rfl, rfl⟩ (ls' := [.ref 30, .int x1, .int x2]) (st' := [.int x1, .ref 30]) (σ' := s) rfl ?_
    obtain ⟨v1, hv1, h⟩ := wk_bindE h
    refine wk_Hcall (i2 := 8) (args := [.ref 30, .int x1]) (rest := []) (r := some (.int (b2i v1.1))) (σ1 := v1.2) rfl rfl ⟨rfl, rfl, rfl, rfl, rfl⟩ rfl (HF_X3_readPart hv1) ?_
    rcases wk_ife h with ⟨hc, h⟩ | ⟨hc, h⟩
    · refine wk_H0t 11 rfl (wk_zne.2 hc) ?_
      refine wk_Hs 1 12 ⟨rfl, rfl⟩ (ls' := [.ref 30, .int x1, .int x2]) (st' := [.ref 30]) (σ' := v1.2) rfl ?_
      obtain ⟨v2, hv2, h⟩ := wk_bindE h
      refine wk_Hcall (i2 := 13) (args := [.ref 30]) (rest := []) (r := some (.int v2)) (σ1 := v1.2) rfl rfl ⟨rfl, rfl, rfl, rfl, rfl⟩ rfl ((t_X6_sign_30 hv2).up (by omega)) ?_
      refine wk_Hs 1 14 ⟨rfl, rfl⟩ (ls' := [.ref 30, .int x1, .int x2]) (st' := [.int (-1 : Int32), .int v2]) (σ' := v1.2) rfl ?_
      rcases wk_ife h with ⟨hc, h⟩ | ⟨hc, h⟩
      · refine wk_Hbt 19 rfl (wk_ceq.2 hc) ?_
        refine wk_Hs 1 20 ⟨rfl, rfl⟩ (ls' := [.ref 30, .int x1, .int x2]) (st' := [.int (1 : Int32)]) (σ' := v1.2) rfl ?_
        cases h
        exact wk_eqz hk (wk_Hretz rfl (b2i_01 true))
      · refine wk_Hbf 19 15 rfl rfl (wk_nf wk_ceq hc) ?_
        refine wk_Hs 1 16 ⟨rfl, rfl⟩ (ls' := [.ref 30, .int x1, .int x2]) (st' := [.ref 30]) (σ' := v1.2) rfl ?_
        obtain ⟨v3, hv3, h⟩ := wk_bindE h
        refine wk_Hcall (i2 := 17) (args := [.ref 30]) (rest := []) (r := some (.int v3)) (σ1 := v1.2) rfl rfl ⟨rfl, rfl, rfl, rfl, rfl⟩ rfl ((t_X6_sign_30 hv3).up (by omega)) ?_
        refine wk_Hs 1 18 ⟨rfl, rfl⟩ (ls' := [.ref 30, .int x1, .int x2]) (st' := [.int (41 : Int32), .int v3]) (σ' := v1.2) rfl ?_
        rcases wk_ife h with ⟨hc, h⟩ | ⟨hc, h⟩
        · refine wk_Hbt 21 rfl (wk_cne.2 hc) ?_
          refine wk_Hs 1 22 ⟨rfl, rfl⟩ (ls' := [.ref 30, .int x1, .int (x2 + (1 : Int32))]) (st' := []) (σ' := v1.2) rfl ?_
          refine wk_Hgoto (t := 2) rfl ?_
          cases h
          exact hk
        · refine wk_Hbf 21 19 rfl rfl (wk_nf wk_cne hc) ?_
          refine wk_Hs 1 20 ⟨rfl, rfl⟩ (ls' := [.ref 30, .int x1, .int x2]) (st' := [.int (1 : Int32)]) (σ' := v1.2) rfl ?_
          cases h
          exact wk_eqz hk (wk_Hretz rfl (b2i_01 true))
    · refine wk_H0f 11 9 rfl rfl (wk_nf wk_zne hc) ?_
      refine wk_Hs 1 10 ⟨rfl, rfl⟩ (ls' := [.ref 30, .int x1, .int x2]) (st' := [.int (0 : Int32)]) (σ' := v1.2) rfl ?_
      cases h
      exact wk_eqz hk (wk_Hretz rfl (b2i_01 false))
set_option maxHeartbeats 4000000 in
set_option maxRecDepth 20000 in
theorem tl_S_X3_readRow_2 {d0 : Nat} (hd : 1 ≤ d0) {F_X3_readRow : Int32 → wk_St → Option (Bool × wk_St)} (HF_X3_readRow : ∀ {a0 : Int32} {s : wk_St} {r : Bool × wk_St}, F_X3_readRow a0 s = some r → wk_T wk_shC d0 188 [.ref 30, .int a0] s (some (.int (b2i r.1)), r.2)) {F_X3_readPart : Int32 → wk_St → Option (Bool × wk_St)} (HF_X3_readPart : ∀ {a0 : Int32} {s : wk_St} {r : Bool × wk_St}, F_X3_readPart a0 s = some r → wk_T wk_shC d0 189 [.ref 30, .int a0] s (some (.int (b2i r.1)), r.2)) {F_X3_readGroup : Int32 → wk_St → Option (Bool × wk_St)} (HF_X3_readGroup : ∀ {a0 : Int32} {s : wk_St} {r : Bool × wk_St}, F_X3_readGroup a0 s = some r → wk_T wk_shC d0 190 [.ref 30, .int a0] s (some (.int (b2i r.1)), r.2)) {x1 : Int32} {z : wk_R} (n : Nat) : ∀ {x2 : Int32} {s : wk_St} {a : (Bool × wk_St) ⊕ (wk_St)} (h : wk_loop (S_X3_readRow_2 F_X3_readRow F_X3_readPart F_X3_readGroup x1) n (x2, s) = some a) (hk : match (generalizing := false) a with | Sum.inl r => z = (some (.int (b2i r.1)), r.2) | Sum.inr y => ∀ (u2 : Value), wk_H wk_shC (d0 + 1) mc_X3_readRow 23 [.ref 30, .int x1, u2] [] y z), wk_H wk_shC (d0 + 1) mc_X3_readRow 2 [.ref 30, .int x1, .int x2] [] s z := by
  induction n with
  | zero =>
    intros
    rename_i h _
    exact nomatch (show (none : Option _) = some _ from h)
  | succ n ih =>
    intros
    rename_i h hk
    obtain ⟨o, ho, h⟩ := wk_bindE (show Option.bind _ _ = some _ from h)
    refine ts_S_X3_readRow_2 hd HF_X3_readRow HF_X3_readPart HF_X3_readGroup ho ?_
    cases o with
    | inl a1 =>
      cases h
      exact hk
    | inr p =>
      obtain ⟨p0, p1⟩ := p
      exact ih h hk
set_option maxHeartbeats 4000000 in
set_option maxRecDepth 20000 in
theorem tb_X3_readRow {d0 : Nat} (hd : 1 ≤ d0) {F_X3_readRow : Int32 → wk_St → Option (Bool × wk_St)} (HF_X3_readRow : ∀ {a0 : Int32} {s : wk_St} {r : Bool × wk_St}, F_X3_readRow a0 s = some r → wk_T wk_shC d0 188 [.ref 30, .int a0] s (some (.int (b2i r.1)), r.2)) {F_X3_readPart : Int32 → wk_St → Option (Bool × wk_St)} (HF_X3_readPart : ∀ {a0 : Int32} {s : wk_St} {r : Bool × wk_St}, F_X3_readPart a0 s = some r → wk_T wk_shC d0 189 [.ref 30, .int a0] s (some (.int (b2i r.1)), r.2)) {F_X3_readGroup : Int32 → wk_St → Option (Bool × wk_St)} (HF_X3_readGroup : ∀ {a0 : Int32} {s : wk_St} {r : Bool × wk_St}, F_X3_readGroup a0 s = some r → wk_T wk_shC d0 190 [.ref 30, .int a0] s (some (.int (b2i r.1)), r.2)) {x1 : Int32} {s : wk_St} {r : Bool × wk_St} (h : b_X3_readRow F_X3_readRow F_X3_readPart F_X3_readGroup x1 s = some r) : wk_T wk_shC (d0 + 1) 188 [.ref 30, .int x1] s (some (.int (b2i r.1)), r.2) := by
  suffices H : ∀ z, z = (some (.int (b2i r.1)), r.2) → wk_H wk_shC (d0 + 1) mc_X3_readRow 0 [.ref 30, .int x1, wk_U] [] s z from H _ rfl
  intro z hk
  dsimp only [b_X3_readRow] at h
  refine wk_Hs 2 2 ⟨rfl, rfl⟩ (ls' := [.ref 30, .int x1, .int (0 : Int32)]) (st' := []) (σ' := s) rfl ?_
  obtain ⟨v4, hv4, h⟩ := wk_bindE h
  rcases v4 with v4r | v4
  · cases h
    exact tl_S_X3_readRow_2 hd HF_X3_readRow HF_X3_readPart HF_X3_readGroup wk_F hv4 hk
  · refine tl_S_X3_readRow_2 hd HF_X3_readRow HF_X3_readPart HF_X3_readGroup wk_F hv4 ?_
    intro g5
    dsimp only at h ⊢
    refine wk_Hs 1 24 ⟨rfl, rfl⟩ (ls' := [.ref 30, .int x1, g5]) (st' := [.int (1 : Int32)]) (σ' := v4) rfl ?_
    cases h
    exact wk_eqz hk (wk_Hretz rfl (b2i_01 true))
theorem tg_g_X3_readRow : ∀ q : Nat, (∀ {a0 : Int32} {s : wk_St} {r : Bool × wk_St}, (g_X3_readRow q).1 a0 s = some r → wk_T wk_shC (1 + 1 + q) 188 [.ref 30, .int a0] s (some (.int (b2i r.1)), r.2)) ∧ (∀ {a0 : Int32} {s : wk_St} {r : Bool × wk_St}, (g_X3_readRow q).2.1 a0 s = some r → wk_T wk_shC (1 + 1 + q) 189 [.ref 30, .int a0] s (some (.int (b2i r.1)), r.2)) ∧ (∀ {a0 : Int32} {s : wk_St} {r : Bool × wk_St}, (g_X3_readRow q).2.2 a0 s = some r → wk_T wk_shC (1 + 1 + q) 190 [.ref 30, .int a0] s (some (.int (b2i r.1)), r.2))
  | 0 => ⟨(fun h => nomatch h), (fun h => nomatch h), (fun h => nomatch h)⟩
  | q + 1 => by
    have ih := tg_g_X3_readRow q
    exact ⟨fun h => tb_X3_readRow (d0 := 1 + 1 + q) (by omega) ih.1 ih.2.1 ih.2.2 h, fun h => tb_X3_readPart (d0 := 1 + 1 + q) (by omega) ih.1 ih.2.1 ih.2.2 h, fun h => tb_X3_readGroup (d0 := 1 + 1 + q) (by omega) ih.1 ih.2.1 ih.2.2 h⟩
theorem t_X3_readRow : ∀ {a0 : Int32} {s : wk_St} {r : Bool × wk_St}, f_X3_readRow a0 s = some r → wk_T wk_shC 22 188 [.ref 30, .int a0] s (some (.int (b2i r.1)), r.2) := (tg_g_X3_readRow 20).1
theorem t_X3_readPart : ∀ {a0 : Int32} {s : wk_St} {r : Bool × wk_St}, f_X3_readPart a0 s = some r → wk_T wk_shC 22 189 [.ref 30, .int a0] s (some (.int (b2i r.1)), r.2) := (tg_g_X3_readRow 20).2.1
theorem t_X3_readGroup : ∀ {a0 : Int32} {s : wk_St} {r : Bool × wk_St}, f_X3_readGroup a0 s = some r → wk_T wk_shC 22 190 [.ref 30, .int a0] s (some (.int (b2i r.1)), r.2) := (tg_g_X3_readRow 20).2.2
set_option maxHeartbeats 4000000 in
set_option maxRecDepth 20000 in
theorem t_X3_readHunts {s : wk_St} {r : Int32 × wk_St} (h : f_X3_readHunts s = some r) : wk_T wk_shC 23 187 [.ref 30] s (some (.int r.1), r.2) := by
  suffices H : ∀ z, z = (some (.int r.1), r.2) → wk_H wk_shC 23 mc_X3_readHunts 0 [.ref 30, wk_U] [] s z from H _ rfl
  intro z hk
  dsimp only [f_X3_readHunts] at h
  refine wk_Hs 8 8 ⟨rfl, rfl⟩ (ls' := [.ref 30, wk_U]) (st' := [.int (0 : Int32), .ref 30]) (σ' := (wk_si (wk_sl s 30 4 (0 : Int64)) 30 5 (0 : Int32))) rfl ?_
  obtain ⟨v1, hv1, h⟩ := wk_bindE h
  refine wk_Hcall (i2 := 9) (args := [.ref 30, .int (0 : Int32)]) (rest := []) (r := some (.int (b2i v1.1))) (σ1 := v1.2) rfl rfl ⟨rfl, rfl, rfl, rfl, rfl⟩ rfl ((t_X3_readRow hv1).up (by decide)) ?_
  rcases wk_ife h with ⟨hc, h⟩ | ⟨hc, h⟩
  · refine wk_H0t 16 rfl (wk_zeq.2 hc) ?_
    refine wk_Hs 6 22 ⟨rfl, rfl⟩ (ls' := [.ref 30, .int (0 : Int32)]) (st' := [.int (v1.2.1 30 5), .int (0 : Int32), .ref 30]) (σ' := v1.2) rfl ?_
    refine wk_Hcall (i2 := 23) (args := [.ref 30, .int (0 : Int32), .int (v1.2.1 30 5)]) (rest := []) (r := some (.int (f_X6_answer 30 (0 : Int32) (v1.2.1 30 5) v1.2))) (σ1 := v1.2) rfl rfl ⟨rfl, rfl, rfl, rfl, rfl⟩ rfl ((t_X6_answer_30 rfl).up (by decide)) ?_
    cases h
    exact wk_eqz hk (wk_Hret rfl)
  · refine wk_H0f 16 10 rfl rfl (wk_nf wk_zeq hc) ?_
    refine wk_Hs 2 12 ⟨rfl, rfl⟩ (ls' := [.ref 30, wk_U]) (st' := [.int (-1 : Int32), .ref 30]) (σ' := v1.2) rfl ?_
    obtain ⟨v3, hv3, h⟩ := wk_bindE h
    refine wk_Hcall (i2 := 13) (args := [.ref 30, .int (-1 : Int32)]) (rest := []) (r := some (.int (b2i v3.1))) (σ1 := v3.2) rfl rfl ⟨rfl, rfl, rfl, rfl, rfl⟩ rfl ((t_X6_pass_30 hv3).up (by decide)) ?_
    rcases wk_ife h with ⟨hc, h⟩ | ⟨hc, h⟩
    · refine wk_H0t 16 rfl (wk_zeq.2 hc) ?_
      refine wk_Hs 6 22 ⟨rfl, rfl⟩ (ls' := [.ref 30, .int (0 : Int32)]) (st' := [.int (v3.2.1 30 5), .int (0 : Int32), .ref 30]) (σ' := v3.2) rfl ?_
      refine wk_Hcall (i2 := 23) (args := [.ref 30, .int (0 : Int32), .int (v3.2.1 30 5)]) (rest := []) (r := some (.int (f_X6_answer 30 (0 : Int32) (v3.2.1 30 5) v3.2))) (σ1 := v3.2) rfl rfl ⟨rfl, rfl, rfl, rfl, rfl⟩ rfl ((t_X6_answer_30 rfl).up (by decide)) ?_
      cases h
      exact wk_eqz hk (wk_Hret rfl)
    · refine wk_H0f 16 14 rfl rfl (wk_nf wk_zeq hc) ?_
      refine wk_Hs 1 15 ⟨rfl, rfl⟩ (ls' := [.ref 30, wk_U]) (st' := [.int (1 : Int32)]) (σ' := v3.2) rfl ?_
      refine wk_Hgoto (t := 17) rfl ?_
      refine wk_Hs 5 22 ⟨rfl, rfl⟩ (ls' := [.ref 30, .int (1 : Int32)]) (st' := [.int (v3.2.1 30 5), .int (1 : Int32), .ref 30]) (σ' := v3.2) rfl ?_
      refine wk_Hcall (i2 := 23) (args := [.ref 30, .int (1 : Int32), .int (v3.2.1 30 5)]) (rest := []) (r := some (.int (f_X6_answer 30 (1 : Int32) (v3.2.1 30 5) v3.2))) (σ1 := v3.2) rfl rfl ⟨rfl, rfl, rfl, rfl, rfl⟩ rfl ((t_X6_answer_30 rfl).up (by decide)) ?_
      cases h
      exact wk_eqz hk (wk_Hret rfl)
set_option maxHeartbeats 4000000 in
set_option maxRecDepth 20000 in
theorem t_X11_hunts {x1 : Int32} {x2 : Int32} {s : wk_St} {r : Int32 × wk_St} (h : f_X11_hunts x1 x2 s = some r) : wk_T wk_shC 24 7 [.ref 0, .int x1, .int x2] s (some (.int r.1), r.2) := by
  suffices H : ∀ z, z = (some (.int r.1), r.2) → wk_H wk_shC 24 mc_X11_hunts 0 [.ref 0, .int x1, .int x2, wk_U] [] s z from H _ rfl
  intro z hk
  dsimp only [f_X11_hunts] at h
  refine wk_Hs 3 3 ⟨rfl, rfl⟩ (ls' := [.ref 0, .int x1, .int x2, wk_U]) (st' := [.int (11 : Int32), .int (0 : Int32), .int x1]) (σ' := s) rfl ?_
  refine wk_Hcall (i2 := 4) (args := [.int x1, .int (0 : Int32), .int (11 : Int32)]) (rest := []) (r := some (.int (b2i (f_X11_isWithin x1 (0 : Int32) (11 : Int32))))) (σ1 := s) rfl rfl ⟨rfl, rfl, rfl, rfl, rfl⟩ rfl ((t_X11_isWithin rfl).up (by decide)) ?_
  rcases wk_ife h with ⟨hc, h⟩ | ⟨hc, h⟩
  · refine wk_H0t 12 rfl (wk_zeq.2 hc) ?_
    refine wk_Hs 1 13 ⟨rfl, rfl⟩ (ls' := [.ref 0, .int x1, .int x2, wk_U]) (st' := [.int (-1 : Int32)]) (σ' := s) rfl ?_
    cases h
    exact wk_eqz hk (wk_Hret rfl)
  · refine wk_H0f 12 5 rfl rfl (wk_nf wk_zeq hc) ?_
    refine wk_Hs 5 10 ⟨rfl, rfl⟩ (ls' := [.ref 0, .int x1, .int x2, wk_U]) (st' := [.int (40 : Int32), .int (1 : Int32), .int x2, .ref 1]) (σ' := s) rfl ?_
    refine wk_Hcall (i2 := 11) (args := [.ref 1, .int x2, .int (1 : Int32), .int (40 : Int32)]) (rest := []) (r := some (.int (b2i (f_X8_has x2 (1 : Int32) (40 : Int32) s)))) (σ1 := s) rfl rfl ⟨rfl, rfl, rfl, rfl, rfl⟩ rfl ((t_X8_has rfl).up (by decide)) ?_
    rcases wk_ife h with ⟨hc, h⟩ | ⟨hc, h⟩
    · refine wk_H0t 14 rfl (wk_zne.2 hc) ?_
      refine wk_Hs 5 19 ⟨rfl, rfl⟩ (ls' := [.ref 0, .int x1, .int x2, wk_U]) (st' := [.int x2, .ref 1, .ref 30]) (σ' := s) rfl ?_
      obtain ⟨v3, hv3, h⟩ := wk_bindE h
      refine wk_Hcall (i2 := 20) (args := [.ref 30, .ref 1, .int x2]) (rest := []) (r := none) (σ1 := v3) rfl rfl ⟨rfl, rfl, rfl, rfl, rfl⟩ rfl ((t_X6_begin_30 hv3).up (by decide)) ?_
      refine wk_Hs 2 22 ⟨rfl, rfl⟩ (ls' := [.ref 0, .int x1, .int x2, wk_U]) (st' := [.ref 1]) (σ' := v3) rfl ?_
      replace h := wk_letE h
      refine wk_Hcall (i2 := 23) (args := [.ref 1]) (rest := []) (r := none) (σ1 := (f_X8_clear v3)) rfl rfl ⟨rfl, rfl, rfl, rfl, rfl⟩ rfl ((t_X8_clear rfl).up (by decide)) ?_
      refine wk_Hs 2 25 ⟨rfl, rfl⟩ (ls' := [.ref 0, .int x1, .int x2, wk_U]) (st' := [.ref 30]) (σ' := (f_X8_clear v3)) rfl ?_
      obtain ⟨v5, hv5, h⟩ := wk_bindE h
      refine wk_Hcall (i2 := 26) (args := [.ref 30]) (rest := []) (r := some (.int v5.1)) (σ1 := v5.2) rfl rfl ⟨rfl, rfl, rfl, rfl, rfl⟩ rfl ((t_X3_readHunts hv5).up (by decide)) ?_
      refine wk_Hs 2 28 ⟨rfl, rfl⟩ (ls' := [.ref 0, .int x1, .int x2, .int v5.1]) (st' := [.int v5.1]) (σ' := v5.2) rfl ?_
      rcases wk_ife h with ⟨hc, h⟩ | ⟨hc, h⟩
      · refine wk_H0t 37 rfl (wk_clt.2 hc) ?_
        refine wk_Hs 1 38 ⟨rfl, rfl⟩ (ls' := [.ref 0, .int x1, .int x2, .int v5.1]) (st' := [.int v5.1]) (σ' := v5.2) rfl ?_
        cases h
        exact wk_eqz hk (wk_Hret rfl)
      · refine wk_H0f 37 29 rfl rfl (wk_nf wk_clt hc) ?_
        refine wk_Hs 7 36 ⟨rfl, rfl⟩ (ls' := [.ref 0, .int x1, .int x2, .int v5.1]) (st' := [.long (v5.2.2 30 4), .int v5.1, .int x1, .ref 3]) (σ' := v5.2) rfl ?_
        obtain ⟨v6, hv6, h⟩ := wk_bindE h
        refine wk_Hcall (i2 := 37) (args := [.ref 3, .int x1, .int v5.1, .long (v5.2.2 30 4)]) (rest := []) (r := none) (σ1 := v6) rfl rfl ⟨rfl, rfl, rfl, rfl, rfl⟩ rfl ((t_X2_setHunts hv6).up (by decide)) ?_
        refine wk_Hs 1 38 ⟨rfl, rfl⟩ (ls' := [.ref 0, .int x1, .int x2, .int v5.1]) (st' := [.int v5.1]) (σ' := v6) rfl ?_
        cases h
        exact wk_eqz hk (wk_Hret rfl)
    · refine wk_H0f 14 12 rfl rfl (wk_nf wk_zne hc) ?_
      refine wk_Hs 1 13 ⟨rfl, rfl⟩ (ls' := [.ref 0, .int x1, .int x2, wk_U]) (st' := [.int (-1 : Int32)]) (σ' := s) rfl ?_
      cases h
      exact wk_eqz hk (wk_Hret rfl)
set_option maxHeartbeats 4000000 in
set_option maxRecDepth 20000 in
theorem ts_S_X0_copyFrom_2_8_13 {x2 : Int32} {s : wk_St} {z : wk_R} {o : (wk_St) ⊕ (Int32 × wk_St)} (h : S_X0_copyFrom_2 8 13 (x2, s) = some o) (hk : match (generalizing := false) o with | Sum.inl a => (∀ (u2 : Value), wk_H wk_shC 0 mc_X0_copyFrom 39 [.ref 8, .ref 13, u2] [] a z) | Sum.inr y => wk_H wk_shC 0 mc_X0_copyFrom 2 [.ref 8, .ref 13, .int y.1] [] y.2 z) : wk_H wk_shC 0 mc_X0_copyFrom 2 [.ref 8, .ref 13, .int x2] [] s z := by
  dsimp only [S_X0_copyFrom_2] at h
  refine wk_Hs 2 4 ⟨rfl, rfl⟩ (ls' := [.ref 8, .ref 13, .int x2]) (st' := [.int (9 : Int32), .int x2]) (σ' := s) rfl ?_
  rcases wk_ife h with ⟨hc, h⟩ | ⟨hc, h⟩
  · refine wk_Hbt 39 rfl (wk_cge.2 hc) ?_
    cases h
    exact hk _
  · refine wk_Hbf 39 5 rfl rfl (wk_nf wk_cge hc) ?_
    refine wk_Hs 6 11 ⟨rfl, rfl⟩ (ls' := [.ref 8, .ref 13, .int x2]) (st' := [.int x2, .ref 14, .int x2, .ref 9]) (σ' := s) rfl ?_
    obtain ⟨hg, h⟩ := wk_gdE h
    refine wk_Hia 12 rfl rfl rfl hg rfl ?_
    obtain ⟨hg, h⟩ := wk_gdE h
    refine wk_Hias 13 rfl rfl rfl hg rfl ?_
    refine wk_Hs 6 19 ⟨rfl, rfl⟩ (ls' := [.ref 8, .ref 13, .int x2]) (st' := [.int x2, .ref 15, .int x2, .ref 10]) (σ' := (wk_si s 9 (x2.toNatClampNeg) (s.1 14 (x2.toNatClampNeg)))) rfl ?_
    obtain ⟨hg, h⟩ := wk_gdE h
    refine wk_Hia 20 rfl rfl rfl hg rfl ?_
    obtain ⟨hg, h⟩ := wk_gdE h
    refine wk_Hias 21 rfl rfl rfl hg rfl ?_
    refine wk_Hs 6 27 ⟨rfl, rfl⟩ (ls' := [.ref 8, .ref 13, .int x2]) (st' := [.int x2, .ref 16, .int x2, .ref 11]) (σ' := (wk_si (wk_si s 9 (x2.toNatClampNeg) (s.1 14 (x2.toNatClampNeg))) 10 (x2.toNatClampNeg) ((wk_si s 9 (x2.toNatClampNeg) (s.1 14 (x2.toNatClampNeg))).1 15 (x2.toNatClampNeg)))) rfl ?_
    obtain ⟨hg, h⟩ := wk_gdE h
    refine wk_Hia 28 rfl rfl rfl hg rfl ?_
    obtain ⟨hg, h⟩ := wk_gdE h
    refine wk_Hias 29 rfl rfl rfl hg rfl ?_
    refine wk_Hs 6 35 ⟨rfl, rfl⟩ (ls' := [.ref 8, .ref 13, .int x2]) (st' := [.int x2, .ref 17, .int x2, .ref 12]) (σ' := (wk_si (wk_si (wk_si s 9 (x2.toNatClampNeg) (s.1 14 (x2.toNatClampNeg))) 10 (x2.toNatClampNeg) ((wk_si s 9 (x2.toNatClampNeg) (s.1 14 (x2.toNatClampNeg))).1 15 (x2.toNatClampNeg))) 11 (x2.toNatClampNeg) ((wk_si (wk_si s 9 (x2.toNatClampNeg) (s.1 14 (x2.toNatClampNeg))) 10 (x2.toNatClampNeg) ((wk_si s 9 (x2.toNatClampNeg) (s.1 14 (x2.toNatClampNeg))).1 15 (x2.toNatClampNeg))).1 16 (x2.toNatClampNeg)))) rfl ?_
    obtain ⟨hg, h⟩ := wk_gdE h
    refine wk_Hia 36 rfl rfl rfl hg rfl ?_
    obtain ⟨hg, h⟩ := wk_gdE h
    refine wk_Hias 37 rfl rfl rfl hg rfl ?_
    refine wk_Hs 1 38 ⟨rfl, rfl⟩ (ls' := [.ref 8, .ref 13, .int (x2 + (1 : Int32))]) (st' := []) (σ' := (wk_si (wk_si (wk_si (wk_si s 9 (x2.toNatClampNeg) (s.1 14 (x2.toNatClampNeg))) 10 (x2.toNatClampNeg) ((wk_si s 9 (x2.toNatClampNeg) (s.1 14 (x2.toNatClampNeg))).1 15 (x2.toNatClampNeg))) 11 (x2.toNatClampNeg) ((wk_si (wk_si s 9 (x2.toNatClampNeg) (s.1 14 (x2.toNatClampNeg))) 10 (x2.toNatClampNeg) ((wk_si s 9 (x2.toNatClampNeg) (s.1 14 (x2.toNatClampNeg))).1 15 (x2.toNatClampNeg))).1 16 (x2.toNatClampNeg))) 12 (x2.toNatClampNeg) ((wk_si (wk_si (wk_si s 9 (x2.toNatClampNeg) (s.1 14 (x2.toNatClampNeg))) 10 (x2.toNatClampNeg) ((wk_si s 9 (x2.toNatClampNeg) (s.1 14 (x2.toNatClampNeg))).1 15 (x2.toNatClampNeg))) 11 (x2.toNatClampNeg) ((wk_si (wk_si s 9 (x2.toNatClampNeg) (s.1 14 (x2.toNatClampNeg))) 10 (x2.toNatClampNeg) ((wk_si s 9 (x2.toNatClampNeg) (s.1 14 (x2.toNatClampNeg))).1 15 (x2.toNatClampNeg))).1 16 (x2.toNatClampNeg))).1 17 (x2.toNatClampNeg)))) rfl ?_
    refine wk_Hgoto (t := 2) rfl ?_
    cases h
    exact hk
set_option maxHeartbeats 4000000 in
set_option maxRecDepth 20000 in
theorem tl_S_X0_copyFrom_2_8_13 {z : wk_R} (n : Nat) : ∀ {x2 : Int32} {s : wk_St} {a : wk_St} (h : wk_loop (S_X0_copyFrom_2 8 13) n (x2, s) = some a) (hk : ∀ (u2 : Value), wk_H wk_shC 0 mc_X0_copyFrom 39 [.ref 8, .ref 13, u2] [] a z), wk_H wk_shC 0 mc_X0_copyFrom 2 [.ref 8, .ref 13, .int x2] [] s z := by
  induction n with
  | zero =>
    intros
    rename_i h _
    exact nomatch (show (none : Option _) = some _ from h)
  | succ n ih =>
    intros
    rename_i h hk
    obtain ⟨o, ho, h⟩ := wk_bindE (show Option.bind _ _ = some _ from h)
    refine ts_S_X0_copyFrom_2_8_13 ho ?_
    cases o with
    | inl a1 =>
      cases h
      exact hk
    | inr p =>
      obtain ⟨p0, p1⟩ := p
      exact ih h hk
set_option maxHeartbeats 4000000 in
set_option maxRecDepth 20000 in
theorem t_X0_copyFrom_8_13 {s : wk_St} {r : wk_St} (h : f_X0_copyFrom 8 13 s = some r) : wk_T wk_shC 0 148 [.ref 8, .ref 13] s (none, r) := by
  suffices H : ∀ z, z = (none, r) → wk_H wk_shC 0 mc_X0_copyFrom 0 [.ref 8, .ref 13, wk_U] [] s z from H _ rfl
  intro z hk
  dsimp only [f_X0_copyFrom] at h
  refine wk_Hs 2 2 ⟨rfl, rfl⟩ (ls' := [.ref 8, .ref 13, .int (0 : Int32)]) (st' := []) (σ' := s) rfl ?_
  obtain ⟨v1, hv1, h⟩ := wk_bindE h
  refine tl_S_X0_copyFrom_2_8_13 wk_F hv1 ?_
  intro g2
  refine wk_Hs 12 51 ⟨rfl, rfl⟩ (ls' := [.ref 8, .ref 13, g2]) (st' := []) (σ' := (wk_si (wk_si (wk_si v1 8 4 (v1.1 13 4)) 8 5 ((wk_si v1 8 4 (v1.1 13 4)).1 13 5)) 8 6 ((wk_si (wk_si v1 8 4 (v1.1 13 4)) 8 5 ((wk_si v1 8 4 (v1.1 13 4)).1 13 5)).1 13 6))) rfl ?_
  cases h
  exact wk_eqz hk (wk_Hretv rfl)
set_option maxHeartbeats 4000000 in
set_option maxRecDepth 20000 in
theorem ts_S_X0_copyFrom_2_8_18 {x2 : Int32} {s : wk_St} {z : wk_R} {o : (wk_St) ⊕ (Int32 × wk_St)} (h : S_X0_copyFrom_2 8 18 (x2, s) = some o) (hk : match (generalizing := false) o with | Sum.inl a => (∀ (u2 : Value), wk_H wk_shC 0 mc_X0_copyFrom 39 [.ref 8, .ref 18, u2] [] a z) | Sum.inr y => wk_H wk_shC 0 mc_X0_copyFrom 2 [.ref 8, .ref 18, .int y.1] [] y.2 z) : wk_H wk_shC 0 mc_X0_copyFrom 2 [.ref 8, .ref 18, .int x2] [] s z := by
  dsimp only [S_X0_copyFrom_2] at h
  refine wk_Hs 2 4 ⟨rfl, rfl⟩ (ls' := [.ref 8, .ref 18, .int x2]) (st' := [.int (9 : Int32), .int x2]) (σ' := s) rfl ?_
  rcases wk_ife h with ⟨hc, h⟩ | ⟨hc, h⟩
  · refine wk_Hbt 39 rfl (wk_cge.2 hc) ?_
    cases h
    exact hk _
  · refine wk_Hbf 39 5 rfl rfl (wk_nf wk_cge hc) ?_
    refine wk_Hs 6 11 ⟨rfl, rfl⟩ (ls' := [.ref 8, .ref 18, .int x2]) (st' := [.int x2, .ref 19, .int x2, .ref 9]) (σ' := s) rfl ?_
    obtain ⟨hg, h⟩ := wk_gdE h
    refine wk_Hia 12 rfl rfl rfl hg rfl ?_
    obtain ⟨hg, h⟩ := wk_gdE h
    refine wk_Hias 13 rfl rfl rfl hg rfl ?_
    refine wk_Hs 6 19 ⟨rfl, rfl⟩ (ls' := [.ref 8, .ref 18, .int x2]) (st' := [.int x2, .ref 20, .int x2, .ref 10]) (σ' := (wk_si s 9 (x2.toNatClampNeg) (s.1 19 (x2.toNatClampNeg)))) rfl ?_
    obtain ⟨hg, h⟩ := wk_gdE h
    refine wk_Hia 20 rfl rfl rfl hg rfl ?_
    obtain ⟨hg, h⟩ := wk_gdE h
    refine wk_Hias 21 rfl rfl rfl hg rfl ?_
    refine wk_Hs 6 27 ⟨rfl, rfl⟩ (ls' := [.ref 8, .ref 18, .int x2]) (st' := [.int x2, .ref 21, .int x2, .ref 11]) (σ' := (wk_si (wk_si s 9 (x2.toNatClampNeg) (s.1 19 (x2.toNatClampNeg))) 10 (x2.toNatClampNeg) ((wk_si s 9 (x2.toNatClampNeg) (s.1 19 (x2.toNatClampNeg))).1 20 (x2.toNatClampNeg)))) rfl ?_
    obtain ⟨hg, h⟩ := wk_gdE h
    refine wk_Hia 28 rfl rfl rfl hg rfl ?_
    obtain ⟨hg, h⟩ := wk_gdE h
    refine wk_Hias 29 rfl rfl rfl hg rfl ?_
    refine wk_Hs 6 35 ⟨rfl, rfl⟩ (ls' := [.ref 8, .ref 18, .int x2]) (st' := [.int x2, .ref 22, .int x2, .ref 12]) (σ' := (wk_si (wk_si (wk_si s 9 (x2.toNatClampNeg) (s.1 19 (x2.toNatClampNeg))) 10 (x2.toNatClampNeg) ((wk_si s 9 (x2.toNatClampNeg) (s.1 19 (x2.toNatClampNeg))).1 20 (x2.toNatClampNeg))) 11 (x2.toNatClampNeg) ((wk_si (wk_si s 9 (x2.toNatClampNeg) (s.1 19 (x2.toNatClampNeg))) 10 (x2.toNatClampNeg) ((wk_si s 9 (x2.toNatClampNeg) (s.1 19 (x2.toNatClampNeg))).1 20 (x2.toNatClampNeg))).1 21 (x2.toNatClampNeg)))) rfl ?_
    obtain ⟨hg, h⟩ := wk_gdE h
    refine wk_Hia 36 rfl rfl rfl hg rfl ?_
    obtain ⟨hg, h⟩ := wk_gdE h
    refine wk_Hias 37 rfl rfl rfl hg rfl ?_
    refine wk_Hs 1 38 ⟨rfl, rfl⟩ (ls' := [.ref 8, .ref 18, .int (x2 + (1 : Int32))]) (st' := []) (σ' := (wk_si (wk_si (wk_si (wk_si s 9 (x2.toNatClampNeg) (s.1 19 (x2.toNatClampNeg))) 10 (x2.toNatClampNeg) ((wk_si s 9 (x2.toNatClampNeg) (s.1 19 (x2.toNatClampNeg))).1 20 (x2.toNatClampNeg))) 11 (x2.toNatClampNeg) ((wk_si (wk_si s 9 (x2.toNatClampNeg) (s.1 19 (x2.toNatClampNeg))) 10 (x2.toNatClampNeg) ((wk_si s 9 (x2.toNatClampNeg) (s.1 19 (x2.toNatClampNeg))).1 20 (x2.toNatClampNeg))).1 21 (x2.toNatClampNeg))) 12 (x2.toNatClampNeg) ((wk_si (wk_si (wk_si s 9 (x2.toNatClampNeg) (s.1 19 (x2.toNatClampNeg))) 10 (x2.toNatClampNeg) ((wk_si s 9 (x2.toNatClampNeg) (s.1 19 (x2.toNatClampNeg))).1 20 (x2.toNatClampNeg))) 11 (x2.toNatClampNeg) ((wk_si (wk_si s 9 (x2.toNatClampNeg) (s.1 19 (x2.toNatClampNeg))) 10 (x2.toNatClampNeg) ((wk_si s 9 (x2.toNatClampNeg) (s.1 19 (x2.toNatClampNeg))).1 20 (x2.toNatClampNeg))).1 21 (x2.toNatClampNeg))).1 22 (x2.toNatClampNeg)))) rfl ?_
    refine wk_Hgoto (t := 2) rfl ?_
    cases h
    exact hk
set_option maxHeartbeats 4000000 in
set_option maxRecDepth 20000 in
theorem tl_S_X0_copyFrom_2_8_18 {z : wk_R} (n : Nat) : ∀ {x2 : Int32} {s : wk_St} {a : wk_St} (h : wk_loop (S_X0_copyFrom_2 8 18) n (x2, s) = some a) (hk : ∀ (u2 : Value), wk_H wk_shC 0 mc_X0_copyFrom 39 [.ref 8, .ref 18, u2] [] a z), wk_H wk_shC 0 mc_X0_copyFrom 2 [.ref 8, .ref 18, .int x2] [] s z := by
  induction n with
  | zero =>
    intros
    rename_i h _
    exact nomatch (show (none : Option _) = some _ from h)
  | succ n ih =>
    intros
    rename_i h hk
    obtain ⟨o, ho, h⟩ := wk_bindE (show Option.bind _ _ = some _ from h)
    refine ts_S_X0_copyFrom_2_8_18 ho ?_
    cases o with
    | inl a1 =>
      cases h
      exact hk
    | inr p =>
      obtain ⟨p0, p1⟩ := p
      exact ih h hk
set_option maxHeartbeats 4000000 in
set_option maxRecDepth 20000 in
theorem t_X0_copyFrom_8_18 {s : wk_St} {r : wk_St} (h : f_X0_copyFrom 8 18 s = some r) : wk_T wk_shC 0 148 [.ref 8, .ref 18] s (none, r) := by
  suffices H : ∀ z, z = (none, r) → wk_H wk_shC 0 mc_X0_copyFrom 0 [.ref 8, .ref 18, wk_U] [] s z from H _ rfl
  intro z hk
  dsimp only [f_X0_copyFrom] at h
  refine wk_Hs 2 2 ⟨rfl, rfl⟩ (ls' := [.ref 8, .ref 18, .int (0 : Int32)]) (st' := []) (σ' := s) rfl ?_
  obtain ⟨v1, hv1, h⟩ := wk_bindE h
  refine tl_S_X0_copyFrom_2_8_18 wk_F hv1 ?_
  intro g2
  refine wk_Hs 12 51 ⟨rfl, rfl⟩ (ls' := [.ref 8, .ref 18, g2]) (st' := []) (σ' := (wk_si (wk_si (wk_si v1 8 4 (v1.1 18 4)) 8 5 ((wk_si v1 8 4 (v1.1 18 4)).1 18 5)) 8 6 ((wk_si (wk_si v1 8 4 (v1.1 18 4)) 8 5 ((wk_si v1 8 4 (v1.1 18 4)).1 18 5)).1 18 6))) rfl ?_
  cases h
  exact wk_eqz hk (wk_Hretv rfl)
set_option maxHeartbeats 4000000 in
set_option maxRecDepth 20000 in
theorem ts_S_X0_copyFrom_2_13_8 {x2 : Int32} {s : wk_St} {z : wk_R} {o : (wk_St) ⊕ (Int32 × wk_St)} (h : S_X0_copyFrom_2 13 8 (x2, s) = some o) (hk : match (generalizing := false) o with | Sum.inl a => (∀ (u2 : Value), wk_H wk_shC 0 mc_X0_copyFrom 39 [.ref 13, .ref 8, u2] [] a z) | Sum.inr y => wk_H wk_shC 0 mc_X0_copyFrom 2 [.ref 13, .ref 8, .int y.1] [] y.2 z) : wk_H wk_shC 0 mc_X0_copyFrom 2 [.ref 13, .ref 8, .int x2] [] s z := by
  dsimp only [S_X0_copyFrom_2] at h
  refine wk_Hs 2 4 ⟨rfl, rfl⟩ (ls' := [.ref 13, .ref 8, .int x2]) (st' := [.int (9 : Int32), .int x2]) (σ' := s) rfl ?_
  rcases wk_ife h with ⟨hc, h⟩ | ⟨hc, h⟩
  · refine wk_Hbt 39 rfl (wk_cge.2 hc) ?_
    cases h
    exact hk _
  · refine wk_Hbf 39 5 rfl rfl (wk_nf wk_cge hc) ?_
    refine wk_Hs 6 11 ⟨rfl, rfl⟩ (ls' := [.ref 13, .ref 8, .int x2]) (st' := [.int x2, .ref 9, .int x2, .ref 14]) (σ' := s) rfl ?_
    obtain ⟨hg, h⟩ := wk_gdE h
    refine wk_Hia 12 rfl rfl rfl hg rfl ?_
    obtain ⟨hg, h⟩ := wk_gdE h
    refine wk_Hias 13 rfl rfl rfl hg rfl ?_
    refine wk_Hs 6 19 ⟨rfl, rfl⟩ (ls' := [.ref 13, .ref 8, .int x2]) (st' := [.int x2, .ref 10, .int x2, .ref 15]) (σ' := (wk_si s 14 (x2.toNatClampNeg) (s.1 9 (x2.toNatClampNeg)))) rfl ?_
    obtain ⟨hg, h⟩ := wk_gdE h
    refine wk_Hia 20 rfl rfl rfl hg rfl ?_
    obtain ⟨hg, h⟩ := wk_gdE h
    refine wk_Hias 21 rfl rfl rfl hg rfl ?_
    refine wk_Hs 6 27 ⟨rfl, rfl⟩ (ls' := [.ref 13, .ref 8, .int x2]) (st' := [.int x2, .ref 11, .int x2, .ref 16]) (σ' := (wk_si (wk_si s 14 (x2.toNatClampNeg) (s.1 9 (x2.toNatClampNeg))) 15 (x2.toNatClampNeg) ((wk_si s 14 (x2.toNatClampNeg) (s.1 9 (x2.toNatClampNeg))).1 10 (x2.toNatClampNeg)))) rfl ?_
    obtain ⟨hg, h⟩ := wk_gdE h
    refine wk_Hia 28 rfl rfl rfl hg rfl ?_
    obtain ⟨hg, h⟩ := wk_gdE h
    refine wk_Hias 29 rfl rfl rfl hg rfl ?_
    refine wk_Hs 6 35 ⟨rfl, rfl⟩ (ls' := [.ref 13, .ref 8, .int x2]) (st' := [.int x2, .ref 12, .int x2, .ref 17]) (σ' := (wk_si (wk_si (wk_si s 14 (x2.toNatClampNeg) (s.1 9 (x2.toNatClampNeg))) 15 (x2.toNatClampNeg) ((wk_si s 14 (x2.toNatClampNeg) (s.1 9 (x2.toNatClampNeg))).1 10 (x2.toNatClampNeg))) 16 (x2.toNatClampNeg) ((wk_si (wk_si s 14 (x2.toNatClampNeg) (s.1 9 (x2.toNatClampNeg))) 15 (x2.toNatClampNeg) ((wk_si s 14 (x2.toNatClampNeg) (s.1 9 (x2.toNatClampNeg))).1 10 (x2.toNatClampNeg))).1 11 (x2.toNatClampNeg)))) rfl ?_
    obtain ⟨hg, h⟩ := wk_gdE h
    refine wk_Hia 36 rfl rfl rfl hg rfl ?_
    obtain ⟨hg, h⟩ := wk_gdE h
    refine wk_Hias 37 rfl rfl rfl hg rfl ?_
    refine wk_Hs 1 38 ⟨rfl, rfl⟩ (ls' := [.ref 13, .ref 8, .int (x2 + (1 : Int32))]) (st' := []) (σ' := (wk_si (wk_si (wk_si (wk_si s 14 (x2.toNatClampNeg) (s.1 9 (x2.toNatClampNeg))) 15 (x2.toNatClampNeg) ((wk_si s 14 (x2.toNatClampNeg) (s.1 9 (x2.toNatClampNeg))).1 10 (x2.toNatClampNeg))) 16 (x2.toNatClampNeg) ((wk_si (wk_si s 14 (x2.toNatClampNeg) (s.1 9 (x2.toNatClampNeg))) 15 (x2.toNatClampNeg) ((wk_si s 14 (x2.toNatClampNeg) (s.1 9 (x2.toNatClampNeg))).1 10 (x2.toNatClampNeg))).1 11 (x2.toNatClampNeg))) 17 (x2.toNatClampNeg) ((wk_si (wk_si (wk_si s 14 (x2.toNatClampNeg) (s.1 9 (x2.toNatClampNeg))) 15 (x2.toNatClampNeg) ((wk_si s 14 (x2.toNatClampNeg) (s.1 9 (x2.toNatClampNeg))).1 10 (x2.toNatClampNeg))) 16 (x2.toNatClampNeg) ((wk_si (wk_si s 14 (x2.toNatClampNeg) (s.1 9 (x2.toNatClampNeg))) 15 (x2.toNatClampNeg) ((wk_si s 14 (x2.toNatClampNeg) (s.1 9 (x2.toNatClampNeg))).1 10 (x2.toNatClampNeg))).1 11 (x2.toNatClampNeg))).1 12 (x2.toNatClampNeg)))) rfl ?_
    refine wk_Hgoto (t := 2) rfl ?_
    cases h
    exact hk
set_option maxHeartbeats 4000000 in
set_option maxRecDepth 20000 in
theorem tl_S_X0_copyFrom_2_13_8 {z : wk_R} (n : Nat) : ∀ {x2 : Int32} {s : wk_St} {a : wk_St} (h : wk_loop (S_X0_copyFrom_2 13 8) n (x2, s) = some a) (hk : ∀ (u2 : Value), wk_H wk_shC 0 mc_X0_copyFrom 39 [.ref 13, .ref 8, u2] [] a z), wk_H wk_shC 0 mc_X0_copyFrom 2 [.ref 13, .ref 8, .int x2] [] s z := by
  induction n with
  | zero =>
    intros
    rename_i h _
    exact nomatch (show (none : Option _) = some _ from h)
  | succ n ih =>
    intros
    rename_i h hk
    obtain ⟨o, ho, h⟩ := wk_bindE (show Option.bind _ _ = some _ from h)
    refine ts_S_X0_copyFrom_2_13_8 ho ?_
    cases o with
    | inl a1 =>
      cases h
      exact hk
    | inr p =>
      obtain ⟨p0, p1⟩ := p
      exact ih h hk
set_option maxHeartbeats 4000000 in
set_option maxRecDepth 20000 in
theorem t_X0_copyFrom_13_8 {s : wk_St} {r : wk_St} (h : f_X0_copyFrom 13 8 s = some r) : wk_T wk_shC 0 148 [.ref 13, .ref 8] s (none, r) := by
  suffices H : ∀ z, z = (none, r) → wk_H wk_shC 0 mc_X0_copyFrom 0 [.ref 13, .ref 8, wk_U] [] s z from H _ rfl
  intro z hk
  dsimp only [f_X0_copyFrom] at h
  refine wk_Hs 2 2 ⟨rfl, rfl⟩ (ls' := [.ref 13, .ref 8, .int (0 : Int32)]) (st' := []) (σ' := s) rfl ?_
  obtain ⟨v1, hv1, h⟩ := wk_bindE h
  refine tl_S_X0_copyFrom_2_13_8 wk_F hv1 ?_
  intro g2
  refine wk_Hs 12 51 ⟨rfl, rfl⟩ (ls' := [.ref 13, .ref 8, g2]) (st' := []) (σ' := (wk_si (wk_si (wk_si v1 13 4 (v1.1 8 4)) 13 5 ((wk_si v1 13 4 (v1.1 8 4)).1 8 5)) 13 6 ((wk_si (wk_si v1 13 4 (v1.1 8 4)) 13 5 ((wk_si v1 13 4 (v1.1 8 4)).1 8 5)).1 8 6))) rfl ?_
  cases h
  exact wk_eqz hk (wk_Hretv rfl)
set_option maxHeartbeats 4000000 in
set_option maxRecDepth 20000 in
theorem ts_S_X0_copyFrom_2_18_8 {x2 : Int32} {s : wk_St} {z : wk_R} {o : (wk_St) ⊕ (Int32 × wk_St)} (h : S_X0_copyFrom_2 18 8 (x2, s) = some o) (hk : match (generalizing := false) o with | Sum.inl a => (∀ (u2 : Value), wk_H wk_shC 0 mc_X0_copyFrom 39 [.ref 18, .ref 8, u2] [] a z) | Sum.inr y => wk_H wk_shC 0 mc_X0_copyFrom 2 [.ref 18, .ref 8, .int y.1] [] y.2 z) : wk_H wk_shC 0 mc_X0_copyFrom 2 [.ref 18, .ref 8, .int x2] [] s z := by
  dsimp only [S_X0_copyFrom_2] at h
  refine wk_Hs 2 4 ⟨rfl, rfl⟩ (ls' := [.ref 18, .ref 8, .int x2]) (st' := [.int (9 : Int32), .int x2]) (σ' := s) rfl ?_
  rcases wk_ife h with ⟨hc, h⟩ | ⟨hc, h⟩
  · refine wk_Hbt 39 rfl (wk_cge.2 hc) ?_
    cases h
    exact hk _
  · refine wk_Hbf 39 5 rfl rfl (wk_nf wk_cge hc) ?_
    refine wk_Hs 6 11 ⟨rfl, rfl⟩ (ls' := [.ref 18, .ref 8, .int x2]) (st' := [.int x2, .ref 9, .int x2, .ref 19]) (σ' := s) rfl ?_
    obtain ⟨hg, h⟩ := wk_gdE h
    refine wk_Hia 12 rfl rfl rfl hg rfl ?_
    obtain ⟨hg, h⟩ := wk_gdE h
    refine wk_Hias 13 rfl rfl rfl hg rfl ?_
    refine wk_Hs 6 19 ⟨rfl, rfl⟩ (ls' := [.ref 18, .ref 8, .int x2]) (st' := [.int x2, .ref 10, .int x2, .ref 20]) (σ' := (wk_si s 19 (x2.toNatClampNeg) (s.1 9 (x2.toNatClampNeg)))) rfl ?_
    obtain ⟨hg, h⟩ := wk_gdE h
    refine wk_Hia 20 rfl rfl rfl hg rfl ?_
    obtain ⟨hg, h⟩ := wk_gdE h
    refine wk_Hias 21 rfl rfl rfl hg rfl ?_
    refine wk_Hs 6 27 ⟨rfl, rfl⟩ (ls' := [.ref 18, .ref 8, .int x2]) (st' := [.int x2, .ref 11, .int x2, .ref 21]) (σ' := (wk_si (wk_si s 19 (x2.toNatClampNeg) (s.1 9 (x2.toNatClampNeg))) 20 (x2.toNatClampNeg) ((wk_si s 19 (x2.toNatClampNeg) (s.1 9 (x2.toNatClampNeg))).1 10 (x2.toNatClampNeg)))) rfl ?_
    obtain ⟨hg, h⟩ := wk_gdE h
    refine wk_Hia 28 rfl rfl rfl hg rfl ?_
    obtain ⟨hg, h⟩ := wk_gdE h
    refine wk_Hias 29 rfl rfl rfl hg rfl ?_
    refine wk_Hs 6 35 ⟨rfl, rfl⟩ (ls' := [.ref 18, .ref 8, .int x2]) (st' := [.int x2, .ref 12, .int x2, .ref 22]) (σ' := (wk_si (wk_si (wk_si s 19 (x2.toNatClampNeg) (s.1 9 (x2.toNatClampNeg))) 20 (x2.toNatClampNeg) ((wk_si s 19 (x2.toNatClampNeg) (s.1 9 (x2.toNatClampNeg))).1 10 (x2.toNatClampNeg))) 21 (x2.toNatClampNeg) ((wk_si (wk_si s 19 (x2.toNatClampNeg) (s.1 9 (x2.toNatClampNeg))) 20 (x2.toNatClampNeg) ((wk_si s 19 (x2.toNatClampNeg) (s.1 9 (x2.toNatClampNeg))).1 10 (x2.toNatClampNeg))).1 11 (x2.toNatClampNeg)))) rfl ?_
    obtain ⟨hg, h⟩ := wk_gdE h
    refine wk_Hia 36 rfl rfl rfl hg rfl ?_
    obtain ⟨hg, h⟩ := wk_gdE h
    refine wk_Hias 37 rfl rfl rfl hg rfl ?_
    refine wk_Hs 1 38 ⟨rfl, rfl⟩ (ls' := [.ref 18, .ref 8, .int (x2 + (1 : Int32))]) (st' := []) (σ' := (wk_si (wk_si (wk_si (wk_si s 19 (x2.toNatClampNeg) (s.1 9 (x2.toNatClampNeg))) 20 (x2.toNatClampNeg) ((wk_si s 19 (x2.toNatClampNeg) (s.1 9 (x2.toNatClampNeg))).1 10 (x2.toNatClampNeg))) 21 (x2.toNatClampNeg) ((wk_si (wk_si s 19 (x2.toNatClampNeg) (s.1 9 (x2.toNatClampNeg))) 20 (x2.toNatClampNeg) ((wk_si s 19 (x2.toNatClampNeg) (s.1 9 (x2.toNatClampNeg))).1 10 (x2.toNatClampNeg))).1 11 (x2.toNatClampNeg))) 22 (x2.toNatClampNeg) ((wk_si (wk_si (wk_si s 19 (x2.toNatClampNeg) (s.1 9 (x2.toNatClampNeg))) 20 (x2.toNatClampNeg) ((wk_si s 19 (x2.toNatClampNeg) (s.1 9 (x2.toNatClampNeg))).1 10 (x2.toNatClampNeg))) 21 (x2.toNatClampNeg) ((wk_si (wk_si s 19 (x2.toNatClampNeg) (s.1 9 (x2.toNatClampNeg))) 20 (x2.toNatClampNeg) ((wk_si s 19 (x2.toNatClampNeg) (s.1 9 (x2.toNatClampNeg))).1 10 (x2.toNatClampNeg))).1 11 (x2.toNatClampNeg))).1 12 (x2.toNatClampNeg)))) rfl ?_
    refine wk_Hgoto (t := 2) rfl ?_
    cases h
    exact hk
set_option maxHeartbeats 4000000 in
set_option maxRecDepth 20000 in
theorem tl_S_X0_copyFrom_2_18_8 {z : wk_R} (n : Nat) : ∀ {x2 : Int32} {s : wk_St} {a : wk_St} (h : wk_loop (S_X0_copyFrom_2 18 8) n (x2, s) = some a) (hk : ∀ (u2 : Value), wk_H wk_shC 0 mc_X0_copyFrom 39 [.ref 18, .ref 8, u2] [] a z), wk_H wk_shC 0 mc_X0_copyFrom 2 [.ref 18, .ref 8, .int x2] [] s z := by
  induction n with
  | zero =>
    intros
    rename_i h _
    exact nomatch (show (none : Option _) = some _ from h)
  | succ n ih =>
    intros
    rename_i h hk
    obtain ⟨o, ho, h⟩ := wk_bindE (show Option.bind _ _ = some _ from h)
    refine ts_S_X0_copyFrom_2_18_8 ho ?_
    cases o with
    | inl a1 =>
      cases h
      exact hk
    | inr p =>
      obtain ⟨p0, p1⟩ := p
      exact ih h hk
set_option maxHeartbeats 4000000 in
set_option maxRecDepth 20000 in
theorem t_X0_copyFrom_18_8 {s : wk_St} {r : wk_St} (h : f_X0_copyFrom 18 8 s = some r) : wk_T wk_shC 0 148 [.ref 18, .ref 8] s (none, r) := by
  suffices H : ∀ z, z = (none, r) → wk_H wk_shC 0 mc_X0_copyFrom 0 [.ref 18, .ref 8, wk_U] [] s z from H _ rfl
  intro z hk
  dsimp only [f_X0_copyFrom] at h
  refine wk_Hs 2 2 ⟨rfl, rfl⟩ (ls' := [.ref 18, .ref 8, .int (0 : Int32)]) (st' := []) (σ' := s) rfl ?_
  obtain ⟨v1, hv1, h⟩ := wk_bindE h
  refine tl_S_X0_copyFrom_2_18_8 wk_F hv1 ?_
  intro g2
  refine wk_Hs 12 51 ⟨rfl, rfl⟩ (ls' := [.ref 18, .ref 8, g2]) (st' := []) (σ' := (wk_si (wk_si (wk_si v1 18 4 (v1.1 8 4)) 18 5 ((wk_si v1 18 4 (v1.1 8 4)).1 8 5)) 18 6 ((wk_si (wk_si v1 18 4 (v1.1 8 4)) 18 5 ((wk_si v1 18 4 (v1.1 8 4)).1 8 5)).1 8 6))) rfl ?_
  cases h
  exact wk_eqz hk (wk_Hretv rfl)
set_option maxHeartbeats 4000000 in
set_option maxRecDepth 20000 in
theorem t_X0_isTold_8 {x1 : Int32} {s : wk_St} {r : Bool} (h : f_X0_isTold 8 x1 s = r) : wk_T wk_shC 1 150 [.ref 8, .int x1] s (some (.int (b2i r)), s) := by
  suffices H : ∀ z, z = (some (.int (b2i r)), s) → wk_H wk_shC 1 mc_X0_isTold 0 [.ref 8, .int x1] [] s z from H _ rfl
  intro z hk
  dsimp only [f_X0_isTold] at h
  refine wk_Hs 2 2 ⟨rfl, rfl⟩ (ls' := [.ref 8, .int x1]) (st' := [.int (9 : Int32), .int x1]) (σ' := s) rfl ?_
  rcases wk_ife h with ⟨hc, h⟩ | ⟨hc, h⟩
  · refine wk_Hbt 10 rfl (wk_cge.2 hc) ?_
    refine wk_Hs 1 11 ⟨rfl, rfl⟩ (ls' := [.ref 8, .int x1]) (st' := [.int (0 : Int32)]) (σ' := s) rfl ?_
    cases h
    exact wk_eqz hk (wk_Hretz rfl (b2i_01 false))
  · refine wk_Hbf 10 3 rfl rfl (wk_nf wk_cge hc) ?_
    refine wk_Hs 3 6 ⟨rfl, rfl⟩ (ls' := [.ref 8, .int x1]) (st' := [.int x1, .int (s.1 8 4)]) (σ' := s) rfl ?_
    refine wk_Hcall (i2 := 7) (args := [.int (s.1 8 4), .int x1]) (rest := []) (r := some (.int (b2i (f_X11_hasBit (s.1 8 4) x1)))) (σ1 := s) rfl rfl ⟨rfl, rfl, rfl, rfl, rfl⟩ rfl ((t_X11_hasBit rfl).up (by decide)) ?_
    rcases wk_ife h with ⟨hc, h⟩ | ⟨hc, h⟩
    · refine wk_H0t 10 rfl (wk_zeq.2 hc) ?_
      refine wk_Hs 1 11 ⟨rfl, rfl⟩ (ls' := [.ref 8, .int x1]) (st' := [.int (0 : Int32)]) (σ' := s) rfl ?_
      cases h
      exact wk_eqz hk (wk_Hretz rfl (b2i_01 false))
    · refine wk_H0f 10 8 rfl rfl (wk_nf wk_zeq hc) ?_
      refine wk_Hs 1 9 ⟨rfl, rfl⟩ (ls' := [.ref 8, .int x1]) (st' := [.int (1 : Int32)]) (σ' := s) rfl ?_
      refine wk_Hgoto (t := 11) rfl ?_
      cases h
      exact wk_eqz hk (wk_Hretz rfl (b2i_01 true))
set_option maxHeartbeats 4000000 in
set_option maxRecDepth 20000 in
theorem t_X0_isTold_18 {x1 : Int32} {s : wk_St} {r : Bool} (h : f_X0_isTold 18 x1 s = r) : wk_T wk_shC 1 150 [.ref 18, .int x1] s (some (.int (b2i r)), s) := by
  suffices H : ∀ z, z = (some (.int (b2i r)), s) → wk_H wk_shC 1 mc_X0_isTold 0 [.ref 18, .int x1] [] s z from H _ rfl
  intro z hk
  dsimp only [f_X0_isTold] at h
  refine wk_Hs 2 2 ⟨rfl, rfl⟩ (ls' := [.ref 18, .int x1]) (st' := [.int (9 : Int32), .int x1]) (σ' := s) rfl ?_
  rcases wk_ife h with ⟨hc, h⟩ | ⟨hc, h⟩
  · refine wk_Hbt 10 rfl (wk_cge.2 hc) ?_
    refine wk_Hs 1 11 ⟨rfl, rfl⟩ (ls' := [.ref 18, .int x1]) (st' := [.int (0 : Int32)]) (σ' := s) rfl ?_
    cases h
    exact wk_eqz hk (wk_Hretz rfl (b2i_01 false))
  · refine wk_Hbf 10 3 rfl rfl (wk_nf wk_cge hc) ?_
    refine wk_Hs 3 6 ⟨rfl, rfl⟩ (ls' := [.ref 18, .int x1]) (st' := [.int x1, .int (s.1 18 4)]) (σ' := s) rfl ?_
    refine wk_Hcall (i2 := 7) (args := [.int (s.1 18 4), .int x1]) (rest := []) (r := some (.int (b2i (f_X11_hasBit (s.1 18 4) x1)))) (σ1 := s) rfl rfl ⟨rfl, rfl, rfl, rfl, rfl⟩ rfl ((t_X11_hasBit rfl).up (by decide)) ?_
    rcases wk_ife h with ⟨hc, h⟩ | ⟨hc, h⟩
    · refine wk_H0t 10 rfl (wk_zeq.2 hc) ?_
      refine wk_Hs 1 11 ⟨rfl, rfl⟩ (ls' := [.ref 18, .int x1]) (st' := [.int (0 : Int32)]) (σ' := s) rfl ?_
      cases h
      exact wk_eqz hk (wk_Hretz rfl (b2i_01 false))
    · refine wk_H0f 10 8 rfl rfl (wk_nf wk_zeq hc) ?_
      refine wk_Hs 1 9 ⟨rfl, rfl⟩ (ls' := [.ref 18, .int x1]) (st' := [.int (1 : Int32)]) (σ' := s) rfl ?_
      refine wk_Hgoto (t := 11) rfl ?_
      cases h
      exact wk_eqz hk (wk_Hretz rfl (b2i_01 true))
set_option maxHeartbeats 4000000 in
set_option maxRecDepth 20000 in
theorem t_X0_kindOf_8 {x1 : Int32} {s : wk_St} {r : Int32} (h : f_X0_kindOf 8 x1 s = some r) : wk_T wk_shC 1 154 [.ref 8, .int x1] s (some (.int r), s) := by
  suffices H : ∀ z, z = (some (.int r), s) → wk_H wk_shC 1 mc_X0_kindOf 0 [.ref 8, .int x1] [] s z from H _ rfl
  intro z hk
  dsimp only [f_X0_kindOf] at h
  refine wk_Hs 3 3 ⟨rfl, rfl⟩ (ls' := [.ref 8, .int x1]) (st' := [.int (8 : Int32), .int (0 : Int32), .int x1]) (σ' := s) rfl ?_
  refine wk_Hcall (i2 := 4) (args := [.int x1, .int (0 : Int32), .int (8 : Int32)]) (rest := []) (r := some (.int (b2i (f_X11_isWithin x1 (0 : Int32) (8 : Int32))))) (σ1 := s) rfl rfl ⟨rfl, rfl, rfl, rfl, rfl⟩ rfl ((t_X11_isWithin rfl).up (by decide)) ?_
  rcases wk_ife h with ⟨hc, h⟩ | ⟨hc, h⟩
  · refine wk_H0t 10 rfl (wk_zeq.2 hc) ?_
    refine wk_Hs 1 11 ⟨rfl, rfl⟩ (ls' := [.ref 8, .int x1]) (st' := [.int (-1 : Int32)]) (σ' := s) rfl ?_
    cases h
    exact wk_eqz hk (wk_Hret rfl)
  · refine wk_H0f 10 5 rfl rfl (wk_nf wk_zeq hc) ?_
    refine wk_Hs 3 8 ⟨rfl, rfl⟩ (ls' := [.ref 8, .int x1]) (st' := [.int x1, .ref 11]) (σ' := s) rfl ?_
    obtain ⟨hg, h⟩ := wk_gdE h
    refine wk_Hia 9 rfl rfl rfl hg rfl ?_
    refine wk_Hgoto (t := 11) rfl ?_
    cases h
    exact wk_eqz hk (wk_Hret rfl)
set_option maxHeartbeats 4000000 in
set_option maxRecDepth 20000 in
theorem t_X0_kindOf_18 {x1 : Int32} {s : wk_St} {r : Int32} (h : f_X0_kindOf 18 x1 s = some r) : wk_T wk_shC 1 154 [.ref 18, .int x1] s (some (.int r), s) := by
  suffices H : ∀ z, z = (some (.int r), s) → wk_H wk_shC 1 mc_X0_kindOf 0 [.ref 18, .int x1] [] s z from H _ rfl
  intro z hk
  dsimp only [f_X0_kindOf] at h
  refine wk_Hs 3 3 ⟨rfl, rfl⟩ (ls' := [.ref 18, .int x1]) (st' := [.int (8 : Int32), .int (0 : Int32), .int x1]) (σ' := s) rfl ?_
  refine wk_Hcall (i2 := 4) (args := [.int x1, .int (0 : Int32), .int (8 : Int32)]) (rest := []) (r := some (.int (b2i (f_X11_isWithin x1 (0 : Int32) (8 : Int32))))) (σ1 := s) rfl rfl ⟨rfl, rfl, rfl, rfl, rfl⟩ rfl ((t_X11_isWithin rfl).up (by decide)) ?_
  rcases wk_ife h with ⟨hc, h⟩ | ⟨hc, h⟩
  · refine wk_H0t 10 rfl (wk_zeq.2 hc) ?_
    refine wk_Hs 1 11 ⟨rfl, rfl⟩ (ls' := [.ref 18, .int x1]) (st' := [.int (-1 : Int32)]) (σ' := s) rfl ?_
    cases h
    exact wk_eqz hk (wk_Hret rfl)
  · refine wk_H0f 10 5 rfl rfl (wk_nf wk_zeq hc) ?_
    refine wk_Hs 3 8 ⟨rfl, rfl⟩ (ls' := [.ref 18, .int x1]) (st' := [.int x1, .ref 21]) (σ' := s) rfl ?_
    obtain ⟨hg, h⟩ := wk_gdE h
    refine wk_Hia 9 rfl rfl rfl hg rfl ?_
    refine wk_Hgoto (t := 11) rfl ?_
    cases h
    exact wk_eqz hk (wk_Hret rfl)
set_option maxHeartbeats 4000000 in
set_option maxRecDepth 20000 in
theorem t_X0_isLiving_8 {x1 : Int32} {s : wk_St} {r : Bool} (h : f_X0_isLiving 8 x1 s = some r) : wk_T wk_shC 2 151 [.ref 8, .int x1] s (some (.int (b2i r)), s) := by
  suffices H : ∀ z, z = (some (.int (b2i r)), s) → wk_H wk_shC 2 mc_X0_isLiving 0 [.ref 8, .int x1] [] s z from H _ rfl
  intro z hk
  dsimp only [f_X0_isLiving] at h
  refine wk_Hs 2 2 ⟨rfl, rfl⟩ (ls' := [.ref 8, .int x1]) (st' := [.int x1, .ref 8]) (σ' := s) rfl ?_
  refine wk_Hcall (i2 := 3) (args := [.ref 8, .int x1]) (rest := []) (r := some (.int (b2i (f_X0_isTold 8 x1 s)))) (σ1 := s) rfl rfl ⟨rfl, rfl, rfl, rfl, rfl⟩ rfl ((t_X0_isTold_8 rfl).up (by decide)) ?_
  rcases wk_ife h with ⟨hc, h⟩ | ⟨hc, h⟩
  · refine wk_H0t 11 rfl (wk_zeq.2 hc) ?_
    refine wk_Hs 1 12 ⟨rfl, rfl⟩ (ls' := [.ref 8, .int x1]) (st' := [.int (0 : Int32)]) (σ' := s) rfl ?_
    cases h
    exact wk_eqz hk (wk_Hretz rfl (b2i_01 false))
  · refine wk_H0f 11 4 rfl rfl (wk_nf wk_zeq hc) ?_
    refine wk_Hs 2 6 ⟨rfl, rfl⟩ (ls' := [.ref 8, .int x1]) (st' := [.int x1, .ref 8]) (σ' := s) rfl ?_
    obtain ⟨v2, hv2, h⟩ := wk_bindE h
    refine wk_Hcall (i2 := 7) (args := [.ref 8, .int x1]) (rest := []) (r := some (.int v2)) (σ1 := s) rfl rfl ⟨rfl, rfl, rfl, rfl, rfl⟩ rfl ((t_X0_kindOf_8 hv2).up (by decide)) ?_
    refine wk_Hs 1 8 ⟨rfl, rfl⟩ (ls' := [.ref 8, .int x1]) (st' := [.int (2 : Int32), .int v2]) (σ' := s) rfl ?_
    rcases wk_ife h with ⟨hc, h⟩ | ⟨hc, h⟩
    · refine wk_Hbt 11 rfl (wk_ceq.2 hc) ?_
      refine wk_Hs 1 12 ⟨rfl, rfl⟩ (ls' := [.ref 8, .int x1]) (st' := [.int (0 : Int32)]) (σ' := s) rfl ?_
      cases h
      exact wk_eqz hk (wk_Hretz rfl (b2i_01 false))
    · refine wk_Hbf 11 9 rfl rfl (wk_nf wk_ceq hc) ?_
      refine wk_Hs 1 10 ⟨rfl, rfl⟩ (ls' := [.ref 8, .int x1]) (st' := [.int (1 : Int32)]) (σ' := s) rfl ?_
      refine wk_Hgoto (t := 12) rfl ?_
      cases h
      exact wk_eqz hk (wk_Hretz rfl (b2i_01 true))
set_option maxHeartbeats 4000000 in
set_option maxRecDepth 20000 in
theorem t_X0_isLiving_18 {x1 : Int32} {s : wk_St} {r : Bool} (h : f_X0_isLiving 18 x1 s = some r) : wk_T wk_shC 2 151 [.ref 18, .int x1] s (some (.int (b2i r)), s) := by
  suffices H : ∀ z, z = (some (.int (b2i r)), s) → wk_H wk_shC 2 mc_X0_isLiving 0 [.ref 18, .int x1] [] s z from H _ rfl
  intro z hk
  dsimp only [f_X0_isLiving] at h
  refine wk_Hs 2 2 ⟨rfl, rfl⟩ (ls' := [.ref 18, .int x1]) (st' := [.int x1, .ref 18]) (σ' := s) rfl ?_
  refine wk_Hcall (i2 := 3) (args := [.ref 18, .int x1]) (rest := []) (r := some (.int (b2i (f_X0_isTold 18 x1 s)))) (σ1 := s) rfl rfl ⟨rfl, rfl, rfl, rfl, rfl⟩ rfl ((t_X0_isTold_18 rfl).up (by decide)) ?_
  rcases wk_ife h with ⟨hc, h⟩ | ⟨hc, h⟩
  · refine wk_H0t 11 rfl (wk_zeq.2 hc) ?_
    refine wk_Hs 1 12 ⟨rfl, rfl⟩ (ls' := [.ref 18, .int x1]) (st' := [.int (0 : Int32)]) (σ' := s) rfl ?_
    cases h
    exact wk_eqz hk (wk_Hretz rfl (b2i_01 false))
  · refine wk_H0f 11 4 rfl rfl (wk_nf wk_zeq hc) ?_
    refine wk_Hs 2 6 ⟨rfl, rfl⟩ (ls' := [.ref 18, .int x1]) (st' := [.int x1, .ref 18]) (σ' := s) rfl ?_
    obtain ⟨v2, hv2, h⟩ := wk_bindE h
    refine wk_Hcall (i2 := 7) (args := [.ref 18, .int x1]) (rest := []) (r := some (.int v2)) (σ1 := s) rfl rfl ⟨rfl, rfl, rfl, rfl, rfl⟩ rfl ((t_X0_kindOf_18 hv2).up (by decide)) ?_
    refine wk_Hs 1 8 ⟨rfl, rfl⟩ (ls' := [.ref 18, .int x1]) (st' := [.int (2 : Int32), .int v2]) (σ' := s) rfl ?_
    rcases wk_ife h with ⟨hc, h⟩ | ⟨hc, h⟩
    · refine wk_Hbt 11 rfl (wk_ceq.2 hc) ?_
      refine wk_Hs 1 12 ⟨rfl, rfl⟩ (ls' := [.ref 18, .int x1]) (st' := [.int (0 : Int32)]) (σ' := s) rfl ?_
      cases h
      exact wk_eqz hk (wk_Hretz rfl (b2i_01 false))
    · refine wk_Hbf 11 9 rfl rfl (wk_nf wk_ceq hc) ?_
      refine wk_Hs 1 10 ⟨rfl, rfl⟩ (ls' := [.ref 18, .int x1]) (st' := [.int (1 : Int32)]) (σ' := s) rfl ?_
      refine wk_Hgoto (t := 12) rfl ?_
      cases h
      exact wk_eqz hk (wk_Hretz rfl (b2i_01 true))
set_option maxHeartbeats 4000000 in
set_option maxRecDepth 20000 in
theorem tj_j_X1_readKnight_27 {x3 : Int32} {x4 : Int32} {w1 : Value} {w2 : Value} {s : wk_St} {z : wk_R} {o : Int32 × wk_St} (h : j_X1_readKnight_27 x3 x4 s = some o) (hk : z = (some (.int o.1), o.2)) : wk_H wk_shC 3 mc_X1_readKnight 27 [.ref 32, w1, w2, .int x3, .int x4] [] s z := by
  dsimp only [j_X1_readKnight_27] at h
  refine wk_Hs 1 28 ⟨rfl, rfl⟩ (ls' := [.ref 32, w1, w2, .int x3, .int x4]) (st' := [.int x4]) (σ' := s) rfl ?_
  rcases wk_ife h with ⟨hc, h⟩ | ⟨hc, h⟩
  · refine wk_H0t 37 rfl (wk_ceq.2 hc) ?_
    refine wk_Hs 7 44 ⟨rfl, rfl⟩ (ls' := [.ref 32, w1, w2, .int x3, .int x4]) (st' := [.int x3]) (σ' := (wk_si s 32 3 ((s.1 32 3) + (1 : Int32)))) rfl ?_
    cases h
    exact wk_eqz hk (wk_Hret rfl)
  · refine wk_H0f 37 29 rfl rfl (wk_nf wk_ceq hc) ?_
    refine wk_Hs 4 33 ⟨rfl, rfl⟩ (ls' := [.ref 32, w1, w2, .int x3, .int x4]) (st' := [.int (s.1 32 3), .int x4, .ref 32]) (σ' := s) rfl ?_
    replace h := wk_letE h
    refine wk_Hcall (i2 := 34) (args := [.ref 32, .int x4, .int (s.1 32 3)]) (rest := []) (r := some (.int (b2i ((f_X6_blame 32 x4 (s.1 32 3) s).1)))) (σ1 := (f_X6_blame 32 x4 (s.1 32 3) s).2) rfl rfl ⟨rfl, rfl, rfl, rfl, rfl⟩ rfl ((t_X6_blame_32 rfl).up (by decide)) ?_
    refine wk_Hs 2 36 ⟨rfl, rfl⟩ (ls' := [.ref 32, w1, w2, .int x3, .int x4]) (st' := [.int (-1 : Int32)]) (σ' := (f_X6_blame 32 x4 (s.1 32 3) s).2) rfl ?_
    cases h
    exact wk_eqz hk (wk_Hret rfl)
set_option maxHeartbeats 4000000 in
set_option maxRecDepth 20000 in
theorem t_X1_readKnight {x1 : Int32} {s : wk_St} {r : Int32 × wk_St} (h : f_X1_readKnight x1 s = some r) : wk_T wk_shC 3 166 [.ref 32, .int x1, .ref 18] s (some (.int r.1), r.2) := by
  suffices H : ∀ z, z = (some (.int r.1), r.2) → wk_H wk_shC 3 mc_X1_readKnight 0 [.ref 32, .int x1, .ref 18, wk_U, wk_U] [] s z from H _ rfl
  intro z hk
  dsimp only [f_X1_readKnight] at h
  refine wk_Hs 1 1 ⟨rfl, rfl⟩ (ls' := [.ref 32, .int x1, .ref 18, wk_U, wk_U]) (st' := [.ref 32]) (σ' := s) rfl ?_
  obtain ⟨v1, hv1, h⟩ := wk_bindE h
  refine wk_Hcall (i2 := 2) (args := [.ref 32]) (rest := []) (r := some (.int v1)) (σ1 := s) rfl rfl ⟨rfl, rfl, rfl, rfl, rfl⟩ rfl ((t_X6_sign_32 hv1).up (by decide)) ?_
  refine wk_Hs 2 4 ⟨rfl, rfl⟩ (ls' := [.ref 32, .int x1, .ref 18, wk_U, wk_U]) (st' := [.int (v1 - (97 : Int32))]) (σ' := s) rfl ?_
  replace h := wk_letE h
  refine wk_Hs 6 10 ⟨rfl, rfl⟩ (ls' := [.ref 32, .int x1, .ref 18, .int (v1 - (97 : Int32)), .int (0 : Int32)]) (st' := [.int (8 : Int32), .int (0 : Int32), .int (v1 - (97 : Int32))]) (σ' := s) rfl ?_
  refine wk_Hcall (i2 := 11) (args := [.int (v1 - (97 : Int32)), .int (0 : Int32), .int (8 : Int32)]) (rest := []) (r := some (.int (b2i (f_X11_isWithin (v1 - (97 : Int32)) (0 : Int32) (8 : Int32))))) (σ1 := s) rfl rfl ⟨rfl, rfl, rfl, rfl, rfl⟩ rfl ((t_X11_isWithin rfl).up (by decide)) ?_
  rcases wk_ife h with ⟨hc, h⟩ | ⟨hc, h⟩
  · refine wk_H0t 15 rfl (wk_zne.2 hc) ?_
    refine wk_Hs 2 17 ⟨rfl, rfl⟩ (ls' := [.ref 32, .int x1, .ref 18, .int (v1 - (97 : Int32)), .int (0 : Int32)]) (st' := [.int (20 : Int32), .int x1]) (σ' := s) rfl ?_
    rcases wk_ife h with ⟨hc, h⟩ | ⟨hc, h⟩
    · refine wk_Hbt 21 rfl (wk_cle.2 hc) ?_
      refine wk_Hs 2 23 ⟨rfl, rfl⟩ (ls' := [.ref 32, .int x1, .ref 18, .int (v1 - (97 : Int32)), .int (0 : Int32)]) (st' := [.int (v1 - (97 : Int32)), .ref 18]) (σ' := s) rfl ?_
      obtain ⟨v4, hv4, h⟩ := wk_bindE h
      refine wk_Hcall (i2 := 24) (args := [.ref 18, .int (v1 - (97 : Int32))]) (rest := []) (r := some (.int (b2i v4))) (σ1 := s) rfl rfl ⟨rfl, rfl, rfl, rfl, rfl⟩ rfl ((t_X0_isLiving_18 hv4).up (by decide)) ?_
      rcases wk_ife h with ⟨hc, h⟩ | ⟨hc, h⟩
      · refine wk_H0t 27 rfl (wk_zne.2 hc) ?_
        exact tj_j_X1_readKnight_27 h hk
      · refine wk_H0f 27 25 rfl rfl (wk_nf wk_zne hc) ?_
        refine wk_Hs 2 27 ⟨rfl, rfl⟩ (ls' := [.ref 32, .int x1, .ref 18, .int (v1 - (97 : Int32)), .int (7 : Int32)]) (st' := []) (σ' := s) rfl ?_
        exact tj_j_X1_readKnight_27 h hk
    · refine wk_Hbf 21 18 rfl rfl (wk_nf wk_cle hc) ?_
      refine wk_Hs 2 20 ⟨rfl, rfl⟩ (ls' := [.ref 32, .int x1, .ref 18, .int (v1 - (97 : Int32)), .int (4 : Int32)]) (st' := []) (σ' := s) rfl ?_
      refine wk_Hgoto (t := 27) rfl ?_
      exact tj_j_X1_readKnight_27 h hk
  · refine wk_H0f 15 12 rfl rfl (wk_nf wk_zne hc) ?_
    refine wk_Hs 2 14 ⟨rfl, rfl⟩ (ls' := [.ref 32, .int x1, .ref 18, .int (v1 - (97 : Int32)), .int (1 : Int32)]) (st' := []) (σ' := s) rfl ?_
    refine wk_Hgoto (t := 27) rfl ?_
    exact tj_j_X1_readKnight_27 h hk
set_option maxHeartbeats 4000000 in
set_option maxRecDepth 20000 in
theorem t_X0_turnWolf_8 {x1 : Int32} {s : wk_St} {r : wk_St} (h : f_X0_turnWolf 8 x1 s = some r) : wk_T wk_shC 1 158 [.ref 8, .int x1] s (none, r) := by
  suffices H : ∀ z, z = (none, r) → wk_H wk_shC 1 mc_X0_turnWolf 0 [.ref 8, .int x1] [] s z from H _ rfl
  intro z hk
  dsimp only [f_X0_turnWolf] at h
  refine wk_Hs 3 3 ⟨rfl, rfl⟩ (ls' := [.ref 8, .int x1]) (st' := [.int (8 : Int32), .int (0 : Int32), .int x1]) (σ' := s) rfl ?_
  refine wk_Hcall (i2 := 4) (args := [.int x1, .int (0 : Int32), .int (8 : Int32)]) (rest := []) (r := some (.int (b2i (f_X11_isWithin x1 (0 : Int32) (8 : Int32))))) (σ1 := s) rfl rfl ⟨rfl, rfl, rfl, rfl, rfl⟩ rfl ((t_X11_isWithin rfl).up (by decide)) ?_
  rcases wk_ife h with ⟨hc, h⟩ | ⟨hc, h⟩
  · refine wk_H0t 18 rfl (wk_zeq.2 hc) ?_
    cases h
    exact wk_eqz hk (wk_Hretv rfl)
  · refine wk_H0f 18 5 rfl rfl (wk_nf wk_zeq hc) ?_
    refine wk_Hs 4 9 ⟨rfl, rfl⟩ (ls' := [.ref 8, .int x1]) (st' := [.int (1 : Int32), .int x1, .ref 11]) (σ' := s) rfl ?_
    obtain ⟨hg, h⟩ := wk_gdE h
    refine wk_Hias 10 rfl rfl rfl hg rfl ?_
    refine wk_Hs 6 16 ⟨rfl, rfl⟩ (ls' := [.ref 8, .int x1]) (st' := [.int x1, .ref 9, .int x1, .ref 12]) (σ' := (wk_si s 11 (x1.toNatClampNeg) (1 : Int32))) rfl ?_
    obtain ⟨hg, h⟩ := wk_gdE h
    refine wk_Hia 17 rfl rfl rfl hg rfl ?_
    obtain ⟨hg, h⟩ := wk_gdE h
    refine wk_Hias 18 rfl rfl rfl hg rfl ?_
    cases h
    exact wk_eqz hk (wk_Hretv rfl)
set_option maxHeartbeats 4000000 in
set_option maxRecDepth 20000 in
theorem t_X0_turnWolf_18 {x1 : Int32} {s : wk_St} {r : wk_St} (h : f_X0_turnWolf 18 x1 s = some r) : wk_T wk_shC 1 158 [.ref 18, .int x1] s (none, r) := by
  suffices H : ∀ z, z = (none, r) → wk_H wk_shC 1 mc_X0_turnWolf 0 [.ref 18, .int x1] [] s z from H _ rfl
  intro z hk
  dsimp only [f_X0_turnWolf] at h
  refine wk_Hs 3 3 ⟨rfl, rfl⟩ (ls' := [.ref 18, .int x1]) (st' := [.int (8 : Int32), .int (0 : Int32), .int x1]) (σ' := s) rfl ?_
  refine wk_Hcall (i2 := 4) (args := [.int x1, .int (0 : Int32), .int (8 : Int32)]) (rest := []) (r := some (.int (b2i (f_X11_isWithin x1 (0 : Int32) (8 : Int32))))) (σ1 := s) rfl rfl ⟨rfl, rfl, rfl, rfl, rfl⟩ rfl ((t_X11_isWithin rfl).up (by decide)) ?_
  rcases wk_ife h with ⟨hc, h⟩ | ⟨hc, h⟩
  · refine wk_H0t 18 rfl (wk_zeq.2 hc) ?_
    cases h
    exact wk_eqz hk (wk_Hretv rfl)
  · refine wk_H0f 18 5 rfl rfl (wk_nf wk_zeq hc) ?_
    refine wk_Hs 4 9 ⟨rfl, rfl⟩ (ls' := [.ref 18, .int x1]) (st' := [.int (1 : Int32), .int x1, .ref 21]) (σ' := s) rfl ?_
    obtain ⟨hg, h⟩ := wk_gdE h
    refine wk_Hias 10 rfl rfl rfl hg rfl ?_
    refine wk_Hs 6 16 ⟨rfl, rfl⟩ (ls' := [.ref 18, .int x1]) (st' := [.int x1, .ref 19, .int x1, .ref 22]) (σ' := (wk_si s 21 (x1.toNatClampNeg) (1 : Int32))) rfl ?_
    obtain ⟨hg, h⟩ := wk_gdE h
    refine wk_Hia 17 rfl rfl rfl hg rfl ?_
    obtain ⟨hg, h⟩ := wk_gdE h
    refine wk_Hias 18 rfl rfl rfl hg rfl ?_
    cases h
    exact wk_eqz hk (wk_Hretv rfl)
set_option maxHeartbeats 4000000 in
set_option maxRecDepth 20000 in
theorem t_X0_turnMan_8 {x1 : Int32} {s : wk_St} {r : wk_St} (h : f_X0_turnMan 8 x1 s = some r) : wk_T wk_shC 1 159 [.ref 8, .int x1] s (none, r) := by
  suffices H : ∀ z, z = (none, r) → wk_H wk_shC 1 mc_X0_turnMan 0 [.ref 8, .int x1] [] s z from H _ rfl
  intro z hk
  dsimp only [f_X0_turnMan] at h
  refine wk_Hs 3 3 ⟨rfl, rfl⟩ (ls' := [.ref 8, .int x1]) (st' := [.int (8 : Int32), .int (0 : Int32), .int x1]) (σ' := s) rfl ?_
  refine wk_Hcall (i2 := 4) (args := [.int x1, .int (0 : Int32), .int (8 : Int32)]) (rest := []) (r := some (.int (b2i (f_X11_isWithin x1 (0 : Int32) (8 : Int32))))) (σ1 := s) rfl rfl ⟨rfl, rfl, rfl, rfl, rfl⟩ rfl ((t_X11_isWithin rfl).up (by decide)) ?_
  rcases wk_ife h with ⟨hc, h⟩ | ⟨hc, h⟩
  · refine wk_H0t 15 rfl (wk_zeq.2 hc) ?_
    cases h
    exact wk_eqz hk (wk_Hretv rfl)
  · refine wk_H0f 15 5 rfl rfl (wk_nf wk_zeq hc) ?_
    refine wk_Hs 4 9 ⟨rfl, rfl⟩ (ls' := [.ref 8, .int x1]) (st' := [.int (0 : Int32), .int x1, .ref 11]) (σ' := s) rfl ?_
    obtain ⟨hg, h⟩ := wk_gdE h
    refine wk_Hias 10 rfl rfl rfl hg rfl ?_
    refine wk_Hs 4 14 ⟨rfl, rfl⟩ (ls' := [.ref 8, .int x1]) (st' := [.int (-2 : Int32), .int x1, .ref 12]) (σ' := (wk_si s 11 (x1.toNatClampNeg) (0 : Int32))) rfl ?_
    obtain ⟨hg, h⟩ := wk_gdE h
    refine wk_Hias 15 rfl rfl rfl hg rfl ?_
    cases h
    exact wk_eqz hk (wk_Hretv rfl)
set_option maxHeartbeats 4000000 in
set_option maxRecDepth 20000 in
theorem t_X0_turnMan_18 {x1 : Int32} {s : wk_St} {r : wk_St} (h : f_X0_turnMan 18 x1 s = some r) : wk_T wk_shC 1 159 [.ref 18, .int x1] s (none, r) := by
  suffices H : ∀ z, z = (none, r) → wk_H wk_shC 1 mc_X0_turnMan 0 [.ref 18, .int x1] [] s z from H _ rfl
  intro z hk
  dsimp only [f_X0_turnMan] at h
  refine wk_Hs 3 3 ⟨rfl, rfl⟩ (ls' := [.ref 18, .int x1]) (st' := [.int (8 : Int32), .int (0 : Int32), .int x1]) (σ' := s) rfl ?_
  refine wk_Hcall (i2 := 4) (args := [.int x1, .int (0 : Int32), .int (8 : Int32)]) (rest := []) (r := some (.int (b2i (f_X11_isWithin x1 (0 : Int32) (8 : Int32))))) (σ1 := s) rfl rfl ⟨rfl, rfl, rfl, rfl, rfl⟩ rfl ((t_X11_isWithin rfl).up (by decide)) ?_
  rcases wk_ife h with ⟨hc, h⟩ | ⟨hc, h⟩
  · refine wk_H0t 15 rfl (wk_zeq.2 hc) ?_
    cases h
    exact wk_eqz hk (wk_Hretv rfl)
  · refine wk_H0f 15 5 rfl rfl (wk_nf wk_zeq hc) ?_
    refine wk_Hs 4 9 ⟨rfl, rfl⟩ (ls' := [.ref 18, .int x1]) (st' := [.int (0 : Int32), .int x1, .ref 21]) (σ' := s) rfl ?_
    obtain ⟨hg, h⟩ := wk_gdE h
    refine wk_Hias 10 rfl rfl rfl hg rfl ?_
    refine wk_Hs 4 14 ⟨rfl, rfl⟩ (ls' := [.ref 18, .int x1]) (st' := [.int (-2 : Int32), .int x1, .ref 22]) (σ' := (wk_si s 21 (x1.toNatClampNeg) (0 : Int32))) rfl ?_
    obtain ⟨hg, h⟩ := wk_gdE h
    refine wk_Hias 15 rfl rfl rfl hg rfl ?_
    cases h
    exact wk_eqz hk (wk_Hretv rfl)
set_option maxHeartbeats 4000000 in
set_option maxRecDepth 20000 in
theorem t_X0_moveTo_8 {x1 : Int32} {x2 : Int32} {s : wk_St} {r : wk_St} (h : f_X0_moveTo 8 x1 x2 s = some r) : wk_T wk_shC 1 156 [.ref 8, .int x1, .int x2] s (none, r) := by
  suffices H : ∀ z, z = (none, r) → wk_H wk_shC 1 mc_X0_moveTo 0 [.ref 8, .int x1, .int x2] [] s z from H _ rfl
  intro z hk
  dsimp only [f_X0_moveTo] at h
  refine wk_Hs 3 3 ⟨rfl, rfl⟩ (ls' := [.ref 8, .int x1, .int x2]) (st' := [.int (8 : Int32), .int (0 : Int32), .int x1]) (σ' := s) rfl ?_
  refine wk_Hcall (i2 := 4) (args := [.int x1, .int (0 : Int32), .int (8 : Int32)]) (rest := []) (r := some (.int (b2i (f_X11_isWithin x1 (0 : Int32) (8 : Int32))))) (σ1 := s) rfl rfl ⟨rfl, rfl, rfl, rfl, rfl⟩ rfl ((t_X11_isWithin rfl).up (by decide)) ?_
  rcases wk_ife h with ⟨hc, h⟩ | ⟨hc, h⟩
  · refine wk_H0t 10 rfl (wk_zeq.2 hc) ?_
    cases h
    exact wk_eqz hk (wk_Hretv rfl)
  · refine wk_H0f 10 5 rfl rfl (wk_nf wk_zeq hc) ?_
    refine wk_Hs 4 9 ⟨rfl, rfl⟩ (ls' := [.ref 8, .int x1, .int x2]) (st' := [.int x2, .int x1, .ref 9]) (σ' := s) rfl ?_
    obtain ⟨hg, h⟩ := wk_gdE h
    refine wk_Hias 10 rfl rfl rfl hg rfl ?_
    cases h
    exact wk_eqz hk (wk_Hretv rfl)
set_option maxHeartbeats 4000000 in
set_option maxRecDepth 20000 in
theorem t_X0_moveTo_18 {x1 : Int32} {x2 : Int32} {s : wk_St} {r : wk_St} (h : f_X0_moveTo 18 x1 x2 s = some r) : wk_T wk_shC 1 156 [.ref 18, .int x1, .int x2] s (none, r) := by
  suffices H : ∀ z, z = (none, r) → wk_H wk_shC 1 mc_X0_moveTo 0 [.ref 18, .int x1, .int x2] [] s z from H _ rfl
  intro z hk
  dsimp only [f_X0_moveTo] at h
  refine wk_Hs 3 3 ⟨rfl, rfl⟩ (ls' := [.ref 18, .int x1, .int x2]) (st' := [.int (8 : Int32), .int (0 : Int32), .int x1]) (σ' := s) rfl ?_
  refine wk_Hcall (i2 := 4) (args := [.int x1, .int (0 : Int32), .int (8 : Int32)]) (rest := []) (r := some (.int (b2i (f_X11_isWithin x1 (0 : Int32) (8 : Int32))))) (σ1 := s) rfl rfl ⟨rfl, rfl, rfl, rfl, rfl⟩ rfl ((t_X11_isWithin rfl).up (by decide)) ?_
  rcases wk_ife h with ⟨hc, h⟩ | ⟨hc, h⟩
  · refine wk_H0t 10 rfl (wk_zeq.2 hc) ?_
    cases h
    exact wk_eqz hk (wk_Hretv rfl)
  · refine wk_H0f 10 5 rfl rfl (wk_nf wk_zeq hc) ?_
    refine wk_Hs 4 9 ⟨rfl, rfl⟩ (ls' := [.ref 18, .int x1, .int x2]) (st' := [.int x2, .int x1, .ref 19]) (σ' := s) rfl ?_
    obtain ⟨hg, h⟩ := wk_gdE h
    refine wk_Hias 10 rfl rfl rfl hg rfl ?_
    cases h
    exact wk_eqz hk (wk_Hretv rfl)
set_option maxHeartbeats 4000000 in
set_option maxRecDepth 20000 in
theorem t_X0_layClothes_8 {x1 : Int32} {x2 : Int32} {s : wk_St} {r : wk_St} (h : f_X0_layClothes 8 x1 x2 s = some r) : wk_T wk_shC 1 157 [.ref 8, .int x1, .int x2] s (none, r) := by
  suffices H : ∀ z, z = (none, r) → wk_H wk_shC 1 mc_X0_layClothes 0 [.ref 8, .int x1, .int x2] [] s z from H _ rfl
  intro z hk
  dsimp only [f_X0_layClothes] at h
  refine wk_Hs 3 3 ⟨rfl, rfl⟩ (ls' := [.ref 8, .int x1, .int x2]) (st' := [.int (8 : Int32), .int (0 : Int32), .int x1]) (σ' := s) rfl ?_
  refine wk_Hcall (i2 := 4) (args := [.int x1, .int (0 : Int32), .int (8 : Int32)]) (rest := []) (r := some (.int (b2i (f_X11_isWithin x1 (0 : Int32) (8 : Int32))))) (σ1 := s) rfl rfl ⟨rfl, rfl, rfl, rfl, rfl⟩ rfl ((t_X11_isWithin rfl).up (by decide)) ?_
  rcases wk_ife h with ⟨hc, h⟩ | ⟨hc, h⟩
  · refine wk_H0t 10 rfl (wk_zeq.2 hc) ?_
    cases h
    exact wk_eqz hk (wk_Hretv rfl)
  · refine wk_H0f 10 5 rfl rfl (wk_nf wk_zeq hc) ?_
    refine wk_Hs 4 9 ⟨rfl, rfl⟩ (ls' := [.ref 8, .int x1, .int x2]) (st' := [.int x2, .int x1, .ref 12]) (σ' := s) rfl ?_
    obtain ⟨hg, h⟩ := wk_gdE h
    refine wk_Hias 10 rfl rfl rfl hg rfl ?_
    cases h
    exact wk_eqz hk (wk_Hretv rfl)
set_option maxHeartbeats 4000000 in
set_option maxRecDepth 20000 in
theorem t_X0_layClothes_18 {x1 : Int32} {x2 : Int32} {s : wk_St} {r : wk_St} (h : f_X0_layClothes 18 x1 x2 s = some r) : wk_T wk_shC 1 157 [.ref 18, .int x1, .int x2] s (none, r) := by
  suffices H : ∀ z, z = (none, r) → wk_H wk_shC 1 mc_X0_layClothes 0 [.ref 18, .int x1, .int x2] [] s z from H _ rfl
  intro z hk
  dsimp only [f_X0_layClothes] at h
  refine wk_Hs 3 3 ⟨rfl, rfl⟩ (ls' := [.ref 18, .int x1, .int x2]) (st' := [.int (8 : Int32), .int (0 : Int32), .int x1]) (σ' := s) rfl ?_
  refine wk_Hcall (i2 := 4) (args := [.int x1, .int (0 : Int32), .int (8 : Int32)]) (rest := []) (r := some (.int (b2i (f_X11_isWithin x1 (0 : Int32) (8 : Int32))))) (σ1 := s) rfl rfl ⟨rfl, rfl, rfl, rfl, rfl⟩ rfl ((t_X11_isWithin rfl).up (by decide)) ?_
  rcases wk_ife h with ⟨hc, h⟩ | ⟨hc, h⟩
  · refine wk_H0t 10 rfl (wk_zeq.2 hc) ?_
    cases h
    exact wk_eqz hk (wk_Hretv rfl)
  · refine wk_H0f 10 5 rfl rfl (wk_nf wk_zeq hc) ?_
    refine wk_Hs 4 9 ⟨rfl, rfl⟩ (ls' := [.ref 18, .int x1, .int x2]) (st' := [.int x2, .int x1, .ref 22]) (σ' := s) rfl ?_
    obtain ⟨hg, h⟩ := wk_gdE h
    refine wk_Hias 10 rfl rfl rfl hg rfl ?_
    cases h
    exact wk_eqz hk (wk_Hretv rfl)
set_option maxHeartbeats 4000000 in
set_option maxRecDepth 20000 in
theorem t_X1_readPlace {x1 : Int32} {x2 : Int32} {s : wk_St} {r : Bool × wk_St} (h : f_X1_readPlace x1 x2 s = some r) : wk_T wk_shC 2 168 [.ref 32, .int x1, .int x2, .ref 3, .ref 18] s (some (.int (b2i r.1)), r.2) := by
  suffices H : ∀ z, z = (some (.int (b2i r.1)), r.2) → wk_H wk_shC 2 mc_X1_readPlace 0 [.ref 32, .int x1, .int x2, .ref 3, .ref 18, wk_U, wk_U] [] s z from H _ rfl
  intro z hk
  dsimp only [f_X1_readPlace] at h
  refine wk_Hs 5 5 ⟨rfl, rfl⟩ (ls' := [.ref 32, .int x1, .int x2, .ref 3, .ref 18, .int (s.1 32 3), wk_U]) (st' := [.int (2 : Int32), .ref 32]) (σ' := s) rfl ?_
  obtain ⟨v1, hv1, h⟩ := wk_bindE h
  refine wk_Hcall (i2 := 6) (args := [.ref 32, .int (2 : Int32)]) (rest := []) (r := some (.int v1.1)) (σ1 := v1.2) rfl rfl ⟨rfl, rfl, rfl, rfl, rfl⟩ rfl ((t_X6_readNumber_32 hv1).up (by decide)) ?_
  refine wk_Hs 3 9 ⟨rfl, rfl⟩ (ls' := [.ref 32, .int x1, .int x2, .ref 3, .ref 18, .int (s.1 32 3), .int v1.1]) (st' := [.int (-1 : Int32), .int v1.1]) (σ' := v1.2) rfl ?_
  rcases wk_ife h with ⟨hc, h⟩ | ⟨hc, h⟩
  · refine wk_Hbt 12 rfl (wk_cne.2 hc) ?_
    refine wk_Hs 2 14 ⟨rfl, rfl⟩ (ls' := [.ref 32, .int x1, .int x2, .ref 3, .ref 18, .int (s.1 32 3), .int v1.1]) (st' := [.int v1.1, .ref 3]) (σ' := v1.2) rfl ?_
    refine wk_Hcall (i2 := 15) (args := [.ref 3, .int v1.1]) (rest := []) (r := some (.int (b2i (f_X2_isTold v1.1 v1.2)))) (σ1 := v1.2) rfl rfl ⟨rfl, rfl, rfl, rfl, rfl⟩ rfl ((t_X2_isTold rfl).up (by decide)) ?_
    rcases wk_ife h with ⟨hc, h⟩ | ⟨hc, h⟩
    · refine wk_H0t 21 rfl (wk_zne.2 hc) ?_
      refine wk_Hs 2 23 ⟨rfl, rfl⟩ (ls' := [.ref 32, .int x1, .int x2, .ref 3, .ref 18, .int (s.1 32 3), .int v1.1]) (st' := [.int (62 : Int32), .int x2]) (σ' := v1.2) rfl ?_
      rcases wk_ife h with ⟨hc, h⟩ | ⟨hc, h⟩
      · refine wk_Hbt 29 rfl (wk_cne.2 hc) ?_
        refine wk_Hs 3 32 ⟨rfl, rfl⟩ (ls' := [.ref 32, .int x1, .int x2, .ref 3, .ref 18, .int (s.1 32 3), .int v1.1]) (st' := [.int v1.1, .int x1, .ref 18]) (σ' := v1.2) rfl ?_
        obtain ⟨v3, hv3, h⟩ := wk_bindE h
        refine wk_Hcall (i2 := 33) (args := [.ref 18, .int x1, .int v1.1]) (rest := []) (r := none) (σ1 := v3) rfl rfl ⟨rfl, rfl, rfl, rfl, rfl⟩ rfl ((t_X0_layClothes_18 hv3).up (by decide)) ?_
        refine wk_Hs 1 34 ⟨rfl, rfl⟩ (ls' := [.ref 32, .int x1, .int x2, .ref 3, .ref 18, .int (s.1 32 3), .int v1.1]) (st' := [.int (1 : Int32)]) (σ' := v3) rfl ?_
        cases h
        exact wk_eqz hk (wk_Hretz rfl (b2i_01 true))
      · refine wk_Hbf 29 24 rfl rfl (wk_nf wk_cne hc) ?_
        refine wk_Hs 3 27 ⟨rfl, rfl⟩ (ls' := [.ref 32, .int x1, .int x2, .ref 3, .ref 18, .int (s.1 32 3), .int v1.1]) (st' := [.int v1.1, .int x1, .ref 18]) (σ' := v1.2) rfl ?_
        obtain ⟨v4, hv4, h⟩ := wk_bindE h
        refine wk_Hcall (i2 := 28) (args := [.ref 18, .int x1, .int v1.1]) (rest := []) (r := none) (σ1 := v4) rfl rfl ⟨rfl, rfl, rfl, rfl, rfl⟩ rfl ((t_X0_moveTo_18 hv4).up (by decide)) ?_
        refine wk_Hgoto (t := 33) rfl ?_
        refine wk_Hs 1 34 ⟨rfl, rfl⟩ (ls' := [.ref 32, .int x1, .int x2, .ref 3, .ref 18, .int (s.1 32 3), .int v1.1]) (st' := [.int (1 : Int32)]) (σ' := v4) rfl ?_
        cases h
        exact wk_eqz hk (wk_Hretz rfl (b2i_01 true))
    · refine wk_H0f 21 16 rfl rfl (wk_nf wk_zne hc) ?_
      refine wk_Hs 3 19 ⟨rfl, rfl⟩ (ls' := [.ref 32, .int x1, .int x2, .ref 3, .ref 18, .int (s.1 32 3), .int v1.1]) (st' := [.int (s.1 32 3), .int (7 : Int32), .ref 32]) (σ' := v1.2) rfl ?_
      replace h := wk_letE h
      refine wk_Hcall (i2 := 20) (args := [.ref 32, .int (7 : Int32), .int (s.1 32 3)]) (rest := []) (r := some (.int (b2i ((f_X6_blame 32 (7 : Int32) (s.1 32 3) v1.2).1)))) (σ1 := (f_X6_blame 32 (7 : Int32) (s.1 32 3) v1.2).2) rfl rfl ⟨rfl, rfl, rfl, rfl, rfl⟩ rfl ((t_X6_blame_32 rfl).up (by decide)) ?_
      cases h
      exact wk_eqz hk (wk_Hretz rfl (b2i_01 _))
  · refine wk_Hbf 12 10 rfl rfl (wk_nf wk_cne hc) ?_
    refine wk_Hs 1 11 ⟨rfl, rfl⟩ (ls' := [.ref 32, .int x1, .int x2, .ref 3, .ref 18, .int (s.1 32 3), .int v1.1]) (st' := [.int (0 : Int32)]) (σ' := v1.2) rfl ?_
    cases h
    exact wk_eqz hk (wk_Hretz rfl (b2i_01 false))
set_option maxHeartbeats 4000000 in
set_option maxRecDepth 20000 in
theorem tj_j_X1_readDeed_48 {x1 : Int32} {x4 : Int32} {w5 : Value} {s : wk_St} {z : wk_R} {o : Bool × wk_St} (h : j_X1_readDeed_48 x1 x4 s = some o) (hk : z = (some (.int (b2i o.1)), o.2)) : wk_H wk_shC 3 mc_X1_readDeed 48 [.ref 32, .int x1, .ref 3, .ref 18, .int x4, w5] [] s z := by
  dsimp only [j_X1_readDeed_48] at h
  refine wk_Hs 8 56 ⟨rfl, rfl⟩ (ls' := [.ref 32, .int x1, .ref 3, .ref 18, .int x4, w5]) (st' := [.int (43 : Int32), .int x4]) (σ' := (wk_si s 32 3 ((s.1 32 3) + (1 : Int32)))) rfl ?_
  rcases wk_ife h with ⟨hc, h⟩ | ⟨hc, h⟩
  · refine wk_Hbt 62 rfl (wk_cne.2 hc) ?_
    refine wk_Hs 2 64 ⟨rfl, rfl⟩ (ls' := [.ref 32, .int x1, .ref 3, .ref 18, .int x4, w5]) (st' := [.int (45 : Int32), .int x4]) (σ' := (wk_si s 32 3 ((s.1 32 3) + (1 : Int32)))) rfl ?_
    rcases wk_ife h with ⟨hc, h⟩ | ⟨hc, h⟩
    · refine wk_Hbt 70 rfl (wk_cne.2 hc) ?_
      refine wk_Hs 5 75 ⟨rfl, rfl⟩ (ls' := [.ref 32, .int x1, .ref 3, .ref 18, .int x4, w5]) (st' := [.ref 18, .ref 3, .int x4, .int x1, .ref 32]) (σ' := (wk_si s 32 3 ((s.1 32 3) + (1 : Int32)))) rfl ?_
      obtain ⟨v4, hv4, h⟩ := wk_bindE h
      refine wk_Hcall (i2 := 76) (args := [.ref 32, .int x1, .int x4, .ref 3, .ref 18]) (rest := []) (r := some (.int (b2i v4.1))) (σ1 := v4.2) rfl rfl ⟨rfl, rfl, rfl, rfl, rfl⟩ rfl ((t_X1_readPlace hv4).up (by decide)) ?_
      cases h
      exact wk_eqz hk (wk_Hretz rfl (b2i_01 _))
    · refine wk_Hbf 70 65 rfl rfl (wk_nf wk_cne hc) ?_
      refine wk_Hs 2 67 ⟨rfl, rfl⟩ (ls' := [.ref 32, .int x1, .ref 3, .ref 18, .int x4, w5]) (st' := [.int x1, .ref 18]) (σ' := (wk_si s 32 3 ((s.1 32 3) + (1 : Int32)))) rfl ?_
      obtain ⟨v5, hv5, h⟩ := wk_bindE h
      refine wk_Hcall (i2 := 68) (args := [.ref 18, .int x1]) (rest := []) (r := none) (σ1 := v5) rfl rfl ⟨rfl, rfl, rfl, rfl, rfl⟩ rfl ((t_X0_turnMan_18 hv5).up (by decide)) ?_
      refine wk_Hs 1 69 ⟨rfl, rfl⟩ (ls' := [.ref 32, .int x1, .ref 3, .ref 18, .int x4, w5]) (st' := [.int (1 : Int32)]) (σ' := v5) rfl ?_
      cases h
      exact wk_eqz hk (wk_Hretz rfl (b2i_01 true))
  · refine wk_Hbf 62 57 rfl rfl (wk_nf wk_cne hc) ?_
    refine wk_Hs 2 59 ⟨rfl, rfl⟩ (ls' := [.ref 32, .int x1, .ref 3, .ref 18, .int x4, w5]) (st' := [.int x1, .ref 18]) (σ' := (wk_si s 32 3 ((s.1 32 3) + (1 : Int32)))) rfl ?_
    obtain ⟨v6, hv6, h⟩ := wk_bindE h
    refine wk_Hcall (i2 := 60) (args := [.ref 18, .int x1]) (rest := []) (r := none) (σ1 := v6) rfl rfl ⟨rfl, rfl, rfl, rfl, rfl⟩ rfl ((t_X0_turnWolf_18 hv6).up (by decide)) ?_
    refine wk_Hs 1 61 ⟨rfl, rfl⟩ (ls' := [.ref 32, .int x1, .ref 3, .ref 18, .int x4, w5]) (st' := [.int (1 : Int32)]) (σ' := v6) rfl ?_
    cases h
    exact wk_eqz hk (wk_Hretz rfl (b2i_01 true))
set_option maxHeartbeats 4000000 in
set_option maxRecDepth 20000 in
theorem tj_j_X1_readDeed_30 {x1 : Int32} {x4 : Int32} {x5 : Int32} {s : wk_St} {z : wk_R} {o : Bool × wk_St} (h : j_X1_readDeed_30 x1 x4 x5 s = some o) (hk : z = (some (.int (b2i o.1)), o.2)) : wk_H wk_shC 3 mc_X1_readDeed 30 [.ref 32, .int x1, .ref 3, .ref 18, .int x4, .int x5] [] s z := by
  dsimp only [j_X1_readDeed_30] at h
  refine wk_Hs 1 31 ⟨rfl, rfl⟩ (ls' := [.ref 32, .int x1, .ref 3, .ref 18, .int x4, .int x5]) (st' := [.int x5]) (σ' := s) rfl ?_
  rcases wk_ife h with ⟨hc, h⟩ | ⟨hc, h⟩
  · refine wk_H0t 36 rfl (wk_ceq.2 hc) ?_
    refine wk_Hs 2 38 ⟨rfl, rfl⟩ (ls' := [.ref 32, .int x1, .ref 3, .ref 18, .int x4, .int x5]) (st' := [.int (64 : Int32), .int x4]) (σ' := s) rfl ?_
    rcases wk_ife h with ⟨hc, h⟩ | ⟨hc, h⟩
    · refine wk_Hbt 42 rfl (wk_ceq.2 hc) ?_
      refine wk_Hs 4 46 ⟨rfl, rfl⟩ (ls' := [.ref 32, .int x1, .ref 3, .ref 18, .int x4, .int x5]) (st' := [.int (s.1 32 3), .int (9 : Int32), .ref 32]) (σ' := s) rfl ?_
      replace h := wk_letE h
      refine wk_Hcall (i2 := 47) (args := [.ref 32, .int (9 : Int32), .int (s.1 32 3)]) (rest := []) (r := some (.int (b2i ((f_X6_blame 32 (9 : Int32) (s.1 32 3) s).1)))) (σ1 := (f_X6_blame 32 (9 : Int32) (s.1 32 3) s).2) rfl rfl ⟨rfl, rfl, rfl, rfl, rfl⟩ rfl ((t_X6_blame_32 rfl).up (by decide)) ?_
      cases h
      exact wk_eqz hk (wk_Hretz rfl (b2i_01 _))
    · refine wk_Hbf 42 39 rfl rfl (wk_nf wk_ceq hc) ?_
      refine wk_Hs 2 41 ⟨rfl, rfl⟩ (ls' := [.ref 32, .int x1, .ref 3, .ref 18, .int x4, .int x5]) (st' := [.int (45 : Int32), .int x4]) (σ' := s) rfl ?_
      rcases wk_ife h with ⟨hc, h⟩ | ⟨hc, h⟩
      · refine wk_Hbt 48 rfl (wk_cne.2 hc) ?_
        exact tj_j_X1_readDeed_48 h hk
      · refine wk_Hbf 48 42 rfl rfl (wk_nf wk_cne hc) ?_
        refine wk_Hs 4 46 ⟨rfl, rfl⟩ (ls' := [.ref 32, .int x1, .ref 3, .ref 18, .int x4, .int x5]) (st' := [.int (s.1 32 3), .int (9 : Int32), .ref 32]) (σ' := s) rfl ?_
        replace h := wk_letE h
        refine wk_Hcall (i2 := 47) (args := [.ref 32, .int (9 : Int32), .int (s.1 32 3)]) (rest := []) (r := some (.int (b2i ((f_X6_blame 32 (9 : Int32) (s.1 32 3) s).1)))) (σ1 := (f_X6_blame 32 (9 : Int32) (s.1 32 3) s).2) rfl rfl ⟨rfl, rfl, rfl, rfl, rfl⟩ rfl ((t_X6_blame_32 rfl).up (by decide)) ?_
        cases h
        exact wk_eqz hk (wk_Hretz rfl (b2i_01 _))
  · refine wk_H0f 36 32 rfl rfl (wk_nf wk_ceq hc) ?_
    refine wk_Hs 2 34 ⟨rfl, rfl⟩ (ls' := [.ref 32, .int x1, .ref 3, .ref 18, .int x4, .int x5]) (st' := [.int (43 : Int32), .int x4]) (σ' := s) rfl ?_
    rcases wk_ife h with ⟨hc, h⟩ | ⟨hc, h⟩
    · refine wk_Hbt 48 rfl (wk_cne.2 hc) ?_
      exact tj_j_X1_readDeed_48 h hk
    · refine wk_Hbf 48 35 rfl rfl (wk_nf wk_cne hc) ?_
      refine wk_Hgoto (t := 42) rfl ?_
      refine wk_Hs 4 46 ⟨rfl, rfl⟩ (ls' := [.ref 32, .int x1, .ref 3, .ref 18, .int x4, .int x5]) (st' := [.int (s.1 32 3), .int (9 : Int32), .ref 32]) (σ' := s) rfl ?_
      replace h := wk_letE h
      refine wk_Hcall (i2 := 47) (args := [.ref 32, .int (9 : Int32), .int (s.1 32 3)]) (rest := []) (r := some (.int (b2i ((f_X6_blame 32 (9 : Int32) (s.1 32 3) s).1)))) (σ1 := (f_X6_blame 32 (9 : Int32) (s.1 32 3) s).2) rfl rfl ⟨rfl, rfl, rfl, rfl, rfl⟩ rfl ((t_X6_blame_32 rfl).up (by decide)) ?_
      cases h
      exact wk_eqz hk (wk_Hretz rfl (b2i_01 _))
set_option maxHeartbeats 4000000 in
set_option maxRecDepth 20000 in
theorem tj_j_X1_readDeed_11 {x1 : Int32} {x4 : Int32} {s_0 : Int32} {w5 : Value} {s : wk_St} {z : wk_R} {o : Bool × wk_St} (h : j_X1_readDeed_11 x1 x4 s_0 s = some o) (hk : z = (some (.int (b2i o.1)), o.2)) : wk_H wk_shC 3 mc_X1_readDeed 11 [.ref 32, .int x1, .ref 3, .ref 18, .int x4, w5] [.int s_0] s z := by
  dsimp only [j_X1_readDeed_11] at h
  refine wk_Hs 3 14 ⟨rfl, rfl⟩ (ls' := [.ref 32, .int x1, .ref 3, .ref 18, .int x4, .int s_0]) (st' := [.int (62 : Int32), .int x4]) (σ' := s) rfl ?_
  rcases wk_ife h with ⟨hc, h⟩ | ⟨hc, h⟩
  · refine wk_Hbt 30 rfl (wk_ceq.2 hc) ?_
    exact tj_j_X1_readDeed_30 h hk
  · refine wk_Hbf 30 15 rfl rfl (wk_nf wk_ceq hc) ?_
    refine wk_Hs 2 17 ⟨rfl, rfl⟩ (ls' := [.ref 32, .int x1, .ref 3, .ref 18, .int x4, .int s_0]) (st' := [.int (64 : Int32), .int x4]) (σ' := s) rfl ?_
    rcases wk_ife h with ⟨hc, h⟩ | ⟨hc, h⟩
    · refine wk_Hbt 30 rfl (wk_ceq.2 hc) ?_
      exact tj_j_X1_readDeed_30 h hk
    · refine wk_Hbf 30 18 rfl rfl (wk_nf wk_ceq hc) ?_
      refine wk_Hs 2 20 ⟨rfl, rfl⟩ (ls' := [.ref 32, .int x1, .ref 3, .ref 18, .int x4, .int s_0]) (st' := [.int (43 : Int32), .int x4]) (σ' := s) rfl ?_
      rcases wk_ife h with ⟨hc, h⟩ | ⟨hc, h⟩
      · refine wk_Hbt 30 rfl (wk_ceq.2 hc) ?_
        exact tj_j_X1_readDeed_30 h hk
      · refine wk_Hbf 30 21 rfl rfl (wk_nf wk_ceq hc) ?_
        refine wk_Hs 2 23 ⟨rfl, rfl⟩ (ls' := [.ref 32, .int x1, .ref 3, .ref 18, .int x4, .int s_0]) (st' := [.int (45 : Int32), .int x4]) (σ' := s) rfl ?_
        rcases wk_ife h with ⟨hc, h⟩ | ⟨hc, h⟩
        · refine wk_Hbt 30 rfl (wk_ceq.2 hc) ?_
          exact tj_j_X1_readDeed_30 h hk
        · refine wk_Hbf 30 24 rfl rfl (wk_nf wk_ceq hc) ?_
          refine wk_Hs 4 28 ⟨rfl, rfl⟩ (ls' := [.ref 32, .int x1, .ref 3, .ref 18, .int x4, .int s_0]) (st' := [.int (s.1 32 3), .int (1 : Int32), .ref 32]) (σ' := s) rfl ?_
          replace h := wk_letE h
          refine wk_Hcall (i2 := 29) (args := [.ref 32, .int (1 : Int32), .int (s.1 32 3)]) (rest := []) (r := some (.int (b2i ((f_X6_blame 32 (1 : Int32) (s.1 32 3) s).1)))) (σ1 := (f_X6_blame 32 (1 : Int32) (s.1 32 3) s).2) rfl rfl ⟨rfl, rfl, rfl, rfl, rfl⟩ rfl ((t_X6_blame_32 rfl).up (by decide)) ?_
          cases h
          exact wk_eqz hk (wk_Hretz rfl (b2i_01 _))
set_option maxHeartbeats 4000000 in
set_option maxRecDepth 20000 in
theorem t_X1_readDeed {x1 : Int32} {s : wk_St} {r : Bool × wk_St} (h : f_X1_readDeed x1 s = some r) : wk_T wk_shC 3 167 [.ref 32, .int x1, .ref 3, .ref 18] s (some (.int (b2i r.1)), r.2) := by
  suffices H : ∀ z, z = (some (.int (b2i r.1)), r.2) → wk_H wk_shC 3 mc_X1_readDeed 0 [.ref 32, .int x1, .ref 3, .ref 18, wk_U, wk_U] [] s z from H _ rfl
  intro z hk
  dsimp only [f_X1_readDeed] at h
  refine wk_Hs 1 1 ⟨rfl, rfl⟩ (ls' := [.ref 32, .int x1, .ref 3, .ref 18, wk_U, wk_U]) (st' := [.ref 32]) (σ' := s) rfl ?_
  obtain ⟨v1, hv1, h⟩ := wk_bindE h
  refine wk_Hcall (i2 := 2) (args := [.ref 32]) (rest := []) (r := some (.int v1)) (σ1 := s) rfl rfl ⟨rfl, rfl, rfl, rfl, rfl⟩ rfl ((t_X6_sign_32 hv1).up (by decide)) ?_
  refine wk_Hs 3 5 ⟨rfl, rfl⟩ (ls' := [.ref 32, .int x1, .ref 3, .ref 18, .int v1, wk_U]) (st' := [.int x1, .ref 18]) (σ' := s) rfl ?_
  obtain ⟨v2, hv2, h⟩ := wk_bindE h
  refine wk_Hcall (i2 := 6) (args := [.ref 18, .int x1]) (rest := []) (r := some (.int v2)) (σ1 := s) rfl rfl ⟨rfl, rfl, rfl, rfl, rfl⟩ rfl ((t_X0_kindOf_18 hv2).up (by decide)) ?_
  refine wk_Hs 1 7 ⟨rfl, rfl⟩ (ls' := [.ref 32, .int x1, .ref 3, .ref 18, .int v1, wk_U]) (st' := [.int (1 : Int32), .int v2]) (σ' := s) rfl ?_
  rcases wk_ife h with ⟨hc, h⟩ | ⟨hc, h⟩
  · refine wk_Hbt 10 rfl (wk_cne.2 hc) ?_
    refine wk_Hs 1 11 ⟨rfl, rfl⟩ (ls' := [.ref 32, .int x1, .ref 3, .ref 18, .int v1, wk_U]) (st' := [.int (0 : Int32)]) (σ' := s) rfl ?_
    exact tj_j_X1_readDeed_11 h hk
  · refine wk_Hbf 10 8 rfl rfl (wk_nf wk_cne hc) ?_
    refine wk_Hs 1 9 ⟨rfl, rfl⟩ (ls' := [.ref 32, .int x1, .ref 3, .ref 18, .int v1, wk_U]) (st' := [.int (1 : Int32)]) (σ' := s) rfl ?_
    refine wk_Hgoto (t := 11) rfl ?_
    exact tj_j_X1_readDeed_11 h hk
set_option maxHeartbeats 4000000 in
set_option maxRecDepth 20000 in
theorem tj_j_X1_readDiary_31_l2 {x3 : Int32} {x5 : Int32} {w4 : Value} {s : wk_St} {z : wk_R} {o : ((Int32 × wk_St) ⊕ (wk_St)) ⊕ (Int32 × wk_St)} (h : j_X1_readDiary_31_l2 x3 x5 s = some o) (hk : match (generalizing := false) o with | Sum.inl a => (match (generalizing := false) a with | Sum.inl r => z = (some (.int r.1), r.2) | Sum.inr y => ∀ (u3 u4 u5 : Value), wk_H wk_shC 4 mc_X1_readDiary 44 [.ref 32, .ref 3, .ref 18, u3, u4, u5] [] y z) | Sum.inr y => ∀ (u4 u5 : Value), wk_H wk_shC 4 mc_X1_readDiary 2 [.ref 32, .ref 3, .ref 18, .int y.1, u4, u5] [] y.2 z) : wk_H wk_shC 4 mc_X1_readDiary 31 [.ref 32, .ref 3, .ref 18, .int x3, w4, .int x5] [] s z := by
  dsimp only [j_X1_readDiary_31_l2] at h
  refine wk_Hs 1 32 ⟨rfl, rfl⟩ (ls' := [.ref 32, .ref 3, .ref 18, .int x3, w4, .int x5]) (st' := [.int x5]) (σ' := s) rfl ?_
  rcases wk_ife h with ⟨hc, h⟩ | ⟨hc, h⟩
  · refine wk_H0t 37 rfl (wk_ceq.2 hc) ?_
    refine wk_Hs 3 40 ⟨rfl, rfl⟩ (ls' := [.ref 32, .ref 3, .ref 18, .int x3, w4, .int x5]) (st' := [.int x3, .int (0 : Int32), .ref 32]) (σ' := s) rfl ?_
    refine wk_Hcall (i2 := 41) (args := [.ref 32, .int (0 : Int32), .int x3]) (rest := []) (r := some (.int (f_X6_answer 32 (0 : Int32) x3 s))) (σ1 := s) rfl rfl ⟨rfl, rfl, rfl, rfl, rfl⟩ rfl ((t_X6_answer_32 rfl).up (by decide)) ?_
    cases h
    exact wk_eqz hk (wk_Hret rfl)
  · refine wk_H0f 37 33 rfl rfl (wk_nf wk_ceq hc) ?_
    refine wk_Hs 2 35 ⟨rfl, rfl⟩ (ls' := [.ref 32, .ref 3, .ref 18, .int x3, w4, .int x5]) (st' := [.int (59 : Int32), .ref 32]) (σ' := s) rfl ?_
    obtain ⟨v3, hv3, h⟩ := wk_bindE h
    refine wk_Hcall (i2 := 36) (args := [.ref 32, .int (59 : Int32)]) (rest := []) (r := some (.int (b2i v3.1))) (σ1 := v3.2) rfl rfl ⟨rfl, rfl, rfl, rfl, rfl⟩ rfl ((t_X6_pass_32 hv3).up (by decide)) ?_
    rcases wk_ife h with ⟨hc, h⟩ | ⟨hc, h⟩
    · refine wk_H0t 42 rfl (wk_zne.2 hc) ?_
      refine wk_Hs 1 43 ⟨rfl, rfl⟩ (ls' := [.ref 32, .ref 3, .ref 18, .int (x3 + (1 : Int32)), w4, .int x5]) (st' := []) (σ' := v3.2) rfl ?_
      refine wk_Hgoto (t := 2) rfl ?_
      cases h
      exact hk _ _
    · refine wk_H0f 42 37 rfl rfl (wk_nf wk_zne hc) ?_
      refine wk_Hs 3 40 ⟨rfl, rfl⟩ (ls' := [.ref 32, .ref 3, .ref 18, .int x3, w4, .int x5]) (st' := [.int x3, .int (0 : Int32), .ref 32]) (σ' := v3.2) rfl ?_
      refine wk_Hcall (i2 := 41) (args := [.ref 32, .int (0 : Int32), .int x3]) (rest := []) (r := some (.int (f_X6_answer 32 (0 : Int32) x3 v3.2))) (σ1 := v3.2) rfl rfl ⟨rfl, rfl, rfl, rfl, rfl⟩ rfl ((t_X6_answer_32 rfl).up (by decide)) ?_
      cases h
      exact wk_eqz hk (wk_Hret rfl)
set_option maxHeartbeats 4000000 in
set_option maxRecDepth 20000 in
theorem ts_S_X1_readDiary_2 {x3 : Int32} {w4 : Value} {w5 : Value} {s : wk_St} {z : wk_R} {o : ((Int32 × wk_St) ⊕ (wk_St)) ⊕ (Int32 × wk_St)} (h : S_X1_readDiary_2 (x3, s) = some o) (hk : match (generalizing := false) o with | Sum.inl a => (match (generalizing := false) a with | Sum.inl r => z = (some (.int r.1), r.2) | Sum.inr y => ∀ (u3 u4 u5 : Value), wk_H wk_shC 4 mc_X1_readDiary 44 [.ref 32, .ref 3, .ref 18, u3, u4, u5] [] y z) | Sum.inr y => ∀ (u4 u5 : Value), wk_H wk_shC 4 mc_X1_readDiary 2 [.ref 32, .ref 3, .ref 18, .int y.1, u4, u5] [] y.2 z) : wk_H wk_shC 4 mc_X1_readDiary 2 [.ref 32, .ref 3, .ref 18, .int x3, w4, w5] [] s z := by
  dsimp only [S_X1_readDiary_2] at h
  refine wk_Hs 2 4 ⟨rfl, rfl⟩ (ls' := [.ref 32, .ref 3, .ref 18, .int x3, w4, w5]) (st' := [.int (240 : Int32), .int x3]) (σ' := s) rfl ?_
  rcases wk_ife h with ⟨hc, h⟩ | ⟨hc, h⟩
  · refine wk_Hbt 44 rfl (wk_cgt.2 hc) ?_
    cases h
    exact hk _ _ _
  · refine wk_Hbf 44 5 rfl rfl (wk_nf wk_cgt hc) ?_
    refine wk_Hs 3 8 ⟨rfl, rfl⟩ (ls' := [.ref 32, .ref 3, .ref 18, .int x3, w4, w5]) (st' := [.ref 18, .int x3, .ref 32]) (σ' := s) rfl ?_
    obtain ⟨v1, hv1, h⟩ := wk_bindE h
    refine wk_Hcall (i2 := 9) (args := [.ref 32, .int x3, .ref 18]) (rest := []) (r := some (.int v1.1)) (σ1 := v1.2) rfl rfl ⟨rfl, rfl, rfl, rfl, rfl⟩ rfl ((t_X1_readKnight hv1).up (by decide)) ?_
    refine wk_Hs 3 12 ⟨rfl, rfl⟩ (ls' := [.ref 32, .ref 3, .ref 18, .int x3, .int v1.1, w5]) (st' := [.int (-1 : Int32), .int v1.1]) (σ' := v1.2) rfl ?_
    rcases wk_ife h with ⟨hc, h⟩ | ⟨hc, h⟩
    · refine wk_Hbt 21 rfl (wk_ceq.2 hc) ?_
      refine wk_Hs 3 24 ⟨rfl, rfl⟩ (ls' := [.ref 32, .ref 3, .ref 18, .int x3, .int v1.1, .int (0 : Int32)]) (st' := [.int (0 : Int32)]) (σ' := v1.2) rfl ?_
      refine wk_H0t 31 rfl (by decide) ?_
      exact tj_j_X1_readDiary_31_l2 h hk
    · refine wk_Hbf 21 13 rfl rfl (wk_nf wk_ceq hc) ?_
      refine wk_Hs 4 17 ⟨rfl, rfl⟩ (ls' := [.ref 32, .ref 3, .ref 18, .int x3, .int v1.1, w5]) (st' := [.ref 18, .ref 3, .int v1.1, .ref 32]) (σ' := v1.2) rfl ?_
      obtain ⟨v5, hv5, h⟩ := wk_bindE h
      refine wk_Hcall (i2 := 18) (args := [.ref 32, .int v1.1, .ref 3, .ref 18]) (rest := []) (r := some (.int (b2i v5.1))) (σ1 := v5.2) rfl rfl ⟨rfl, rfl, rfl, rfl, rfl⟩ rfl ((t_X1_readDeed hv5).up (by decide)) ?_
      rcases wk_ife h with ⟨hc, h⟩ | ⟨hc, h⟩
      · refine wk_H0t 21 rfl (wk_zeq.2 hc) ?_
        refine wk_Hs 3 24 ⟨rfl, rfl⟩ (ls' := [.ref 32, .ref 3, .ref 18, .int x3, .int v1.1, .int (0 : Int32)]) (st' := [.int (0 : Int32)]) (σ' := v5.2) rfl ?_
        refine wk_H0t 31 rfl (by decide) ?_
        exact tj_j_X1_readDiary_31_l2 h hk
      · refine wk_H0f 21 19 rfl rfl (wk_nf wk_zeq hc) ?_
        refine wk_Hs 1 20 ⟨rfl, rfl⟩ (ls' := [.ref 32, .ref 3, .ref 18, .int x3, .int v1.1, w5]) (st' := [.int (1 : Int32)]) (σ' := v5.2) rfl ?_
        refine wk_Hgoto (t := 22) rfl ?_
        refine wk_Hs 2 24 ⟨rfl, rfl⟩ (ls' := [.ref 32, .ref 3, .ref 18, .int x3, .int v1.1, .int (1 : Int32)]) (st' := [.int (1 : Int32)]) (σ' := v5.2) rfl ?_
        refine wk_H0f 31 25 rfl rfl (by decide) ?_
        refine wk_Hs 1 26 ⟨rfl, rfl⟩ (ls' := [.ref 32, .ref 3, .ref 18, .int x3, .int v1.1, .int (1 : Int32)]) (st' := [.ref 32]) (σ' := v5.2) rfl ?_
        obtain ⟨v6, hv6, h⟩ := wk_bindE h
        refine wk_Hcall (i2 := 27) (args := [.ref 32]) (rest := []) (r := some (.int v6)) (σ1 := v5.2) rfl rfl ⟨rfl, rfl, rfl, rfl, rfl⟩ rfl ((t_X6_sign_32 hv6).up (by decide)) ?_
        refine wk_Hs 1 28 ⟨rfl, rfl⟩ (ls' := [.ref 32, .ref 3, .ref 18, .int x3, .int v1.1, .int (1 : Int32)]) (st' := [.int (-1 : Int32), .int v6]) (σ' := v5.2) rfl ?_
        rcases wk_ife h with ⟨hc, h⟩ | ⟨hc, h⟩
        · refine wk_Hbt 31 rfl (wk_cne.2 hc) ?_
          exact tj_j_X1_readDiary_31_l2 h hk
        · refine wk_Hbf 31 29 rfl rfl (wk_nf wk_cne hc) ?_
          refine wk_Hs 1 30 ⟨rfl, rfl⟩ (ls' := [.ref 32, .ref 3, .ref 18, .int x3, .int v1.1, .int (1 : Int32)]) (st' := [.int x3]) (σ' := v5.2) rfl ?_
          cases h
          exact wk_eqz hk (wk_Hret rfl)
set_option maxHeartbeats 4000000 in
set_option maxRecDepth 20000 in
theorem tl_S_X1_readDiary_2 {z : wk_R} (n : Nat) : ∀ {x3 : Int32} {w4 : Value} {w5 : Value} {s : wk_St} {a : (Int32 × wk_St) ⊕ (wk_St)} (h : wk_loop S_X1_readDiary_2 n (x3, s) = some a) (hk : match (generalizing := false) a with | Sum.inl r => z = (some (.int r.1), r.2) | Sum.inr y => ∀ (u3 u4 u5 : Value), wk_H wk_shC 4 mc_X1_readDiary 44 [.ref 32, .ref 3, .ref 18, u3, u4, u5] [] y z), wk_H wk_shC 4 mc_X1_readDiary 2 [.ref 32, .ref 3, .ref 18, .int x3, w4, w5] [] s z := by
  induction n with
  | zero =>
    intros
    rename_i h _
    exact nomatch (show (none : Option _) = some _ from h)
  | succ n ih =>
    intros
    rename_i h hk
    obtain ⟨o, ho, h⟩ := wk_bindE (show Option.bind _ _ = some _ from h)
    refine ts_S_X1_readDiary_2 ho ?_
    cases o with
    | inl a1 =>
      cases h
      exact hk
    | inr p =>
      obtain ⟨p0, p1⟩ := p
      exact fun _ _ => ih h hk
set_option maxHeartbeats 4000000 in
set_option maxRecDepth 20000 in
theorem t_X1_readDiary {s : wk_St} {r : Int32 × wk_St} (h : f_X1_readDiary s = some r) : wk_T wk_shC 4 165 [.ref 32, .ref 3, .ref 18] s (some (.int r.1), r.2) := by
  suffices H : ∀ z, z = (some (.int r.1), r.2) → wk_H wk_shC 4 mc_X1_readDiary 0 [.ref 32, .ref 3, .ref 18, wk_U, wk_U, wk_U] [] s z from H _ rfl
  intro z hk
  dsimp only [f_X1_readDiary] at h
  refine wk_Hs 2 2 ⟨rfl, rfl⟩ (ls' := [.ref 32, .ref 3, .ref 18, .int (1 : Int32), wk_U, wk_U]) (st' := []) (σ' := s) rfl ?_
  obtain ⟨v7, hv7, h⟩ := wk_bindE h
  rcases v7 with v7r | v7
  · cases h
    exact tl_S_X1_readDiary_2 wk_F hv7 hk
  · refine tl_S_X1_readDiary_2 wk_F hv7 ?_
    intro g8 g9 g10
    dsimp only at h ⊢
    refine wk_Hs 1 45 ⟨rfl, rfl⟩ (ls' := [.ref 32, .ref 3, .ref 18, g8, g9, g10]) (st' := [.int (-1 : Int32)]) (σ' := v7) rfl ?_
    cases h
    exact wk_eqz hk (wk_Hret rfl)
set_option maxHeartbeats 4000000 in
set_option maxRecDepth 20000 in
theorem t_X11_diary {x1 : Int32} {s : wk_St} {r : Int32 × wk_St} (h : f_X11_diary x1 s = some r) : wk_T wk_shC 5 8 [.ref 0, .int x1] s (some (.int r.1), r.2) := by
  suffices H : ∀ z, z = (some (.int r.1), r.2) → wk_H wk_shC 5 mc_X11_diary 0 [.ref 0, .int x1, wk_U] [] s z from H _ rfl
  intro z hk
  dsimp only [f_X11_diary] at h
  refine wk_Hs 5 5 ⟨rfl, rfl⟩ (ls' := [.ref 0, .int x1, wk_U]) (st' := [.int (120 : Int32), .int (1 : Int32), .int x1, .ref 1]) (σ' := s) rfl ?_
  refine wk_Hcall (i2 := 6) (args := [.ref 1, .int x1, .int (1 : Int32), .int (120 : Int32)]) (rest := []) (r := some (.int (b2i (f_X8_has x1 (1 : Int32) (120 : Int32) s)))) (σ1 := s) rfl rfl ⟨rfl, rfl, rfl, rfl, rfl⟩ rfl ((t_X8_has rfl).up (by decide)) ?_
  rcases wk_ife h with ⟨hc, h⟩ | ⟨hc, h⟩
  · refine wk_H0t 9 rfl (wk_zne.2 hc) ?_
    refine wk_Hs 5 14 ⟨rfl, rfl⟩ (ls' := [.ref 0, .int x1, wk_U]) (st' := [.int x1, .ref 1, .ref 32]) (σ' := s) rfl ?_
    obtain ⟨v2, hv2, h⟩ := wk_bindE h
    refine wk_Hcall (i2 := 15) (args := [.ref 32, .ref 1, .int x1]) (rest := []) (r := none) (σ1 := v2) rfl rfl ⟨rfl, rfl, rfl, rfl, rfl⟩ rfl ((t_X6_begin_32 hv2).up (by decide)) ?_
    refine wk_Hs 2 17 ⟨rfl, rfl⟩ (ls' := [.ref 0, .int x1, wk_U]) (st' := [.ref 1]) (σ' := v2) rfl ?_
    replace h := wk_letE h
    refine wk_Hcall (i2 := 18) (args := [.ref 1]) (rest := []) (r := none) (σ1 := (f_X8_clear v2)) rfl rfl ⟨rfl, rfl, rfl, rfl, rfl⟩ rfl ((t_X8_clear rfl).up (by decide)) ?_
    refine wk_Hs 4 22 ⟨rfl, rfl⟩ (ls' := [.ref 0, .int x1, wk_U]) (st' := [.ref 8, .ref 18]) (σ' := (f_X8_clear v2)) rfl ?_
    obtain ⟨v4, hv4, h⟩ := wk_bindE h
    refine wk_Hcall (i2 := 23) (args := [.ref 18, .ref 8]) (rest := []) (r := none) (σ1 := v4) rfl rfl ⟨rfl, rfl, rfl, rfl, rfl⟩ rfl ((t_X0_copyFrom_18_8 hv4).up (by decide)) ?_
    refine wk_Hs 6 29 ⟨rfl, rfl⟩ (ls' := [.ref 0, .int x1, wk_U]) (st' := [.ref 18, .ref 3, .ref 32]) (σ' := v4) rfl ?_
    obtain ⟨v5, hv5, h⟩ := wk_bindE h
    refine wk_Hcall (i2 := 30) (args := [.ref 32, .ref 3, .ref 18]) (rest := []) (r := some (.int v5.1)) (σ1 := v5.2) rfl rfl ⟨rfl, rfl, rfl, rfl, rfl⟩ rfl ((t_X1_readDiary hv5).up (by decide)) ?_
    refine wk_Hs 2 32 ⟨rfl, rfl⟩ (ls' := [.ref 0, .int x1, .int v5.1]) (st' := [.int v5.1]) (σ' := v5.2) rfl ?_
    rcases wk_ife h with ⟨hc, h⟩ | ⟨hc, h⟩
    · refine wk_H0t 38 rfl (wk_clt.2 hc) ?_
      refine wk_Hs 1 39 ⟨rfl, rfl⟩ (ls' := [.ref 0, .int x1, .int v5.1]) (st' := [.int v5.1]) (σ' := v5.2) rfl ?_
      cases h
      exact wk_eqz hk (wk_Hret rfl)
    · refine wk_H0f 38 33 rfl rfl (wk_nf wk_clt hc) ?_
      refine wk_Hs 4 37 ⟨rfl, rfl⟩ (ls' := [.ref 0, .int x1, .int v5.1]) (st' := [.ref 18, .ref 8]) (σ' := v5.2) rfl ?_
      obtain ⟨v6, hv6, h⟩ := wk_bindE h
      refine wk_Hcall (i2 := 38) (args := [.ref 8, .ref 18]) (rest := []) (r := none) (σ1 := v6) rfl rfl ⟨rfl, rfl, rfl, rfl, rfl⟩ rfl ((t_X0_copyFrom_8_18 hv6).up (by decide)) ?_
      refine wk_Hs 1 39 ⟨rfl, rfl⟩ (ls' := [.ref 0, .int x1, .int v5.1]) (st' := [.int v5.1]) (σ' := v6) rfl ?_
      cases h
      exact wk_eqz hk (wk_Hret rfl)
  · refine wk_H0f 9 7 rfl rfl (wk_nf wk_zne hc) ?_
    refine wk_Hs 1 8 ⟨rfl, rfl⟩ (ls' := [.ref 0, .int x1, wk_U]) (st' := [.int (-1 : Int32)]) (σ' := s) rfl ?_
    cases h
    exact wk_eqz hk (wk_Hret rfl)
set_option maxHeartbeats 4000000 in
set_option maxRecDepth 20000 in
theorem t_X10_forget {s : wk_St} {r : wk_St} (h : f_X10_forget s = r) : wk_T wk_shC 0 247 [.ref 23] s (none, r) := by
  suffices H : ∀ z, z = (none, r) → wk_H wk_shC 0 mc_X10_forget 0 [.ref 23] [] s z from H _ rfl
  intro z hk
  dsimp only [f_X10_forget] at h
  refine wk_Hs 15 15 ⟨rfl, rfl⟩ (ls' := [.ref 23]) (st' := []) (σ' := (wk_si (wk_si (wk_si (wk_si (wk_si s 23 1 (0 : Int32)) 23 2 (0 : Int32)) 23 3 (0 : Int32)) 23 4 (0 : Int32)) 23 5 (-1 : Int32))) rfl ?_
  cases h
  exact wk_eqz hk (wk_Hretv rfl)
set_option maxHeartbeats 4000000 in
set_option maxRecDepth 20000 in
theorem t_X0_placeOf_8 {x1 : Int32} {s : wk_St} {r : Int32} (h : f_X0_placeOf 8 x1 s = some r) : wk_T wk_shC 1 152 [.ref 8, .int x1] s (some (.int r), s) := by
  suffices H : ∀ z, z = (some (.int r), s) → wk_H wk_shC 1 mc_X0_placeOf 0 [.ref 8, .int x1] [] s z from H _ rfl
  intro z hk
  dsimp only [f_X0_placeOf] at h
  refine wk_Hs 3 3 ⟨rfl, rfl⟩ (ls' := [.ref 8, .int x1]) (st' := [.int (8 : Int32), .int (0 : Int32), .int x1]) (σ' := s) rfl ?_
  refine wk_Hcall (i2 := 4) (args := [.int x1, .int (0 : Int32), .int (8 : Int32)]) (rest := []) (r := some (.int (b2i (f_X11_isWithin x1 (0 : Int32) (8 : Int32))))) (σ1 := s) rfl rfl ⟨rfl, rfl, rfl, rfl, rfl⟩ rfl ((t_X11_isWithin rfl).up (by decide)) ?_
  rcases wk_ife h with ⟨hc, h⟩ | ⟨hc, h⟩
  · refine wk_H0t 10 rfl (wk_zeq.2 hc) ?_
    refine wk_Hs 1 11 ⟨rfl, rfl⟩ (ls' := [.ref 8, .int x1]) (st' := [.int (-1 : Int32)]) (σ' := s) rfl ?_
    cases h
    exact wk_eqz hk (wk_Hret rfl)
  · refine wk_H0f 10 5 rfl rfl (wk_nf wk_zeq hc) ?_
    refine wk_Hs 3 8 ⟨rfl, rfl⟩ (ls' := [.ref 8, .int x1]) (st' := [.int x1, .ref 9]) (σ' := s) rfl ?_
    obtain ⟨hg, h⟩ := wk_gdE h
    refine wk_Hia 9 rfl rfl rfl hg rfl ?_
    refine wk_Hgoto (t := 11) rfl ?_
    cases h
    exact wk_eqz hk (wk_Hret rfl)
set_option maxHeartbeats 4000000 in
set_option maxRecDepth 20000 in
theorem t_X0_placeOf_18 {x1 : Int32} {s : wk_St} {r : Int32} (h : f_X0_placeOf 18 x1 s = some r) : wk_T wk_shC 1 152 [.ref 18, .int x1] s (some (.int r), s) := by
  suffices H : ∀ z, z = (some (.int r), s) → wk_H wk_shC 1 mc_X0_placeOf 0 [.ref 18, .int x1] [] s z from H _ rfl
  intro z hk
  dsimp only [f_X0_placeOf] at h
  refine wk_Hs 3 3 ⟨rfl, rfl⟩ (ls' := [.ref 18, .int x1]) (st' := [.int (8 : Int32), .int (0 : Int32), .int x1]) (σ' := s) rfl ?_
  refine wk_Hcall (i2 := 4) (args := [.int x1, .int (0 : Int32), .int (8 : Int32)]) (rest := []) (r := some (.int (b2i (f_X11_isWithin x1 (0 : Int32) (8 : Int32))))) (σ1 := s) rfl rfl ⟨rfl, rfl, rfl, rfl, rfl⟩ rfl ((t_X11_isWithin rfl).up (by decide)) ?_
  rcases wk_ife h with ⟨hc, h⟩ | ⟨hc, h⟩
  · refine wk_H0t 10 rfl (wk_zeq.2 hc) ?_
    refine wk_Hs 1 11 ⟨rfl, rfl⟩ (ls' := [.ref 18, .int x1]) (st' := [.int (-1 : Int32)]) (σ' := s) rfl ?_
    cases h
    exact wk_eqz hk (wk_Hret rfl)
  · refine wk_H0f 10 5 rfl rfl (wk_nf wk_zeq hc) ?_
    refine wk_Hs 3 8 ⟨rfl, rfl⟩ (ls' := [.ref 18, .int x1]) (st' := [.int x1, .ref 19]) (σ' := s) rfl ?_
    obtain ⟨hg, h⟩ := wk_gdE h
    refine wk_Hia 9 rfl rfl rfl hg rfl ?_
    refine wk_Hgoto (t := 11) rfl ?_
    cases h
    exact wk_eqz hk (wk_Hret rfl)
set_option maxHeartbeats 4000000 in
set_option maxRecDepth 20000 in
theorem t_X0_wolfDaysOf_8 {x1 : Int32} {s : wk_St} {r : Int32} (h : f_X0_wolfDaysOf 8 x1 s = some r) : wk_T wk_shC 1 153 [.ref 8, .int x1] s (some (.int r), s) := by
  suffices H : ∀ z, z = (some (.int r), s) → wk_H wk_shC 1 mc_X0_wolfDaysOf 0 [.ref 8, .int x1] [] s z from H _ rfl
  intro z hk
  dsimp only [f_X0_wolfDaysOf] at h
  refine wk_Hs 3 3 ⟨rfl, rfl⟩ (ls' := [.ref 8, .int x1]) (st' := [.int (8 : Int32), .int (0 : Int32), .int x1]) (σ' := s) rfl ?_
  refine wk_Hcall (i2 := 4) (args := [.int x1, .int (0 : Int32), .int (8 : Int32)]) (rest := []) (r := some (.int (b2i (f_X11_isWithin x1 (0 : Int32) (8 : Int32))))) (σ1 := s) rfl rfl ⟨rfl, rfl, rfl, rfl, rfl⟩ rfl ((t_X11_isWithin rfl).up (by decide)) ?_
  rcases wk_ife h with ⟨hc, h⟩ | ⟨hc, h⟩
  · refine wk_H0t 10 rfl (wk_zeq.2 hc) ?_
    refine wk_Hs 1 11 ⟨rfl, rfl⟩ (ls' := [.ref 8, .int x1]) (st' := [.int (0 : Int32)]) (σ' := s) rfl ?_
    cases h
    exact wk_eqz hk (wk_Hret rfl)
  · refine wk_H0f 10 5 rfl rfl (wk_nf wk_zeq hc) ?_
    refine wk_Hs 3 8 ⟨rfl, rfl⟩ (ls' := [.ref 8, .int x1]) (st' := [.int x1, .ref 10]) (σ' := s) rfl ?_
    obtain ⟨hg, h⟩ := wk_gdE h
    refine wk_Hia 9 rfl rfl rfl hg rfl ?_
    refine wk_Hgoto (t := 11) rfl ?_
    cases h
    exact wk_eqz hk (wk_Hret rfl)
set_option maxHeartbeats 4000000 in
set_option maxRecDepth 20000 in
theorem t_X0_wolfDaysOf_18 {x1 : Int32} {s : wk_St} {r : Int32} (h : f_X0_wolfDaysOf 18 x1 s = some r) : wk_T wk_shC 1 153 [.ref 18, .int x1] s (some (.int r), s) := by
  suffices H : ∀ z, z = (some (.int r), s) → wk_H wk_shC 1 mc_X0_wolfDaysOf 0 [.ref 18, .int x1] [] s z from H _ rfl
  intro z hk
  dsimp only [f_X0_wolfDaysOf] at h
  refine wk_Hs 3 3 ⟨rfl, rfl⟩ (ls' := [.ref 18, .int x1]) (st' := [.int (8 : Int32), .int (0 : Int32), .int x1]) (σ' := s) rfl ?_
  refine wk_Hcall (i2 := 4) (args := [.int x1, .int (0 : Int32), .int (8 : Int32)]) (rest := []) (r := some (.int (b2i (f_X11_isWithin x1 (0 : Int32) (8 : Int32))))) (σ1 := s) rfl rfl ⟨rfl, rfl, rfl, rfl, rfl⟩ rfl ((t_X11_isWithin rfl).up (by decide)) ?_
  rcases wk_ife h with ⟨hc, h⟩ | ⟨hc, h⟩
  · refine wk_H0t 10 rfl (wk_zeq.2 hc) ?_
    refine wk_Hs 1 11 ⟨rfl, rfl⟩ (ls' := [.ref 18, .int x1]) (st' := [.int (0 : Int32)]) (σ' := s) rfl ?_
    cases h
    exact wk_eqz hk (wk_Hret rfl)
  · refine wk_H0f 10 5 rfl rfl (wk_nf wk_zeq hc) ?_
    refine wk_Hs 3 8 ⟨rfl, rfl⟩ (ls' := [.ref 18, .int x1]) (st' := [.int x1, .ref 20]) (σ' := s) rfl ?_
    obtain ⟨hg, h⟩ := wk_gdE h
    refine wk_Hia 9 rfl rfl rfl hg rfl ?_
    refine wk_Hgoto (t := 11) rfl ?_
    cases h
    exact wk_eqz hk (wk_Hret rfl)
set_option maxHeartbeats 4000000 in
set_option maxRecDepth 20000 in
theorem t_X0_clothesOf_8 {x1 : Int32} {s : wk_St} {r : Int32} (h : f_X0_clothesOf 8 x1 s = some r) : wk_T wk_shC 1 155 [.ref 8, .int x1] s (some (.int r), s) := by
  suffices H : ∀ z, z = (some (.int r), s) → wk_H wk_shC 1 mc_X0_clothesOf 0 [.ref 8, .int x1] [] s z from H _ rfl
  intro z hk
  dsimp only [f_X0_clothesOf] at h
  refine wk_Hs 3 3 ⟨rfl, rfl⟩ (ls' := [.ref 8, .int x1]) (st' := [.int (8 : Int32), .int (0 : Int32), .int x1]) (σ' := s) rfl ?_
  refine wk_Hcall (i2 := 4) (args := [.int x1, .int (0 : Int32), .int (8 : Int32)]) (rest := []) (r := some (.int (b2i (f_X11_isWithin x1 (0 : Int32) (8 : Int32))))) (σ1 := s) rfl rfl ⟨rfl, rfl, rfl, rfl, rfl⟩ rfl ((t_X11_isWithin rfl).up (by decide)) ?_
  rcases wk_ife h with ⟨hc, h⟩ | ⟨hc, h⟩
  · refine wk_H0t 10 rfl (wk_zeq.2 hc) ?_
    refine wk_Hs 1 11 ⟨rfl, rfl⟩ (ls' := [.ref 8, .int x1]) (st' := [.int (-2 : Int32)]) (σ' := s) rfl ?_
    cases h
    exact wk_eqz hk (wk_Hret rfl)
  · refine wk_H0f 10 5 rfl rfl (wk_nf wk_zeq hc) ?_
    refine wk_Hs 3 8 ⟨rfl, rfl⟩ (ls' := [.ref 8, .int x1]) (st' := [.int x1, .ref 12]) (σ' := s) rfl ?_
    obtain ⟨hg, h⟩ := wk_gdE h
    refine wk_Hia 9 rfl rfl rfl hg rfl ?_
    refine wk_Hgoto (t := 11) rfl ?_
    cases h
    exact wk_eqz hk (wk_Hret rfl)
set_option maxHeartbeats 4000000 in
set_option maxRecDepth 20000 in
theorem t_X0_clothesOf_18 {x1 : Int32} {s : wk_St} {r : Int32} (h : f_X0_clothesOf 18 x1 s = some r) : wk_T wk_shC 1 155 [.ref 18, .int x1] s (some (.int r), s) := by
  suffices H : ∀ z, z = (some (.int r), s) → wk_H wk_shC 1 mc_X0_clothesOf 0 [.ref 18, .int x1] [] s z from H _ rfl
  intro z hk
  dsimp only [f_X0_clothesOf] at h
  refine wk_Hs 3 3 ⟨rfl, rfl⟩ (ls' := [.ref 18, .int x1]) (st' := [.int (8 : Int32), .int (0 : Int32), .int x1]) (σ' := s) rfl ?_
  refine wk_Hcall (i2 := 4) (args := [.int x1, .int (0 : Int32), .int (8 : Int32)]) (rest := []) (r := some (.int (b2i (f_X11_isWithin x1 (0 : Int32) (8 : Int32))))) (σ1 := s) rfl rfl ⟨rfl, rfl, rfl, rfl, rfl⟩ rfl ((t_X11_isWithin rfl).up (by decide)) ?_
  rcases wk_ife h with ⟨hc, h⟩ | ⟨hc, h⟩
  · refine wk_H0t 10 rfl (wk_zeq.2 hc) ?_
    refine wk_Hs 1 11 ⟨rfl, rfl⟩ (ls' := [.ref 18, .int x1]) (st' := [.int (-2 : Int32)]) (σ' := s) rfl ?_
    cases h
    exact wk_eqz hk (wk_Hret rfl)
  · refine wk_H0f 10 5 rfl rfl (wk_nf wk_zeq hc) ?_
    refine wk_Hs 3 8 ⟨rfl, rfl⟩ (ls' := [.ref 18, .int x1]) (st' := [.int x1, .ref 22]) (σ' := s) rfl ?_
    obtain ⟨hg, h⟩ := wk_gdE h
    refine wk_Hia 9 rfl rfl rfl hg rfl ?_
    refine wk_Hgoto (t := 11) rfl ?_
    cases h
    exact wk_eqz hk (wk_Hret rfl)
set_option maxHeartbeats 4000000 in
set_option maxRecDepth 20000 in
theorem t_X0_die_8 {x1 : Int32} {s : wk_St} {r : wk_St} (h : f_X0_die 8 x1 s = some r) : wk_T wk_shC 1 160 [.ref 8, .int x1] s (none, r) := by
  suffices H : ∀ z, z = (none, r) → wk_H wk_shC 1 mc_X0_die 0 [.ref 8, .int x1] [] s z from H _ rfl
  intro z hk
  dsimp only [f_X0_die] at h
  refine wk_Hs 3 3 ⟨rfl, rfl⟩ (ls' := [.ref 8, .int x1]) (st' := [.int (8 : Int32), .int (0 : Int32), .int x1]) (σ' := s) rfl ?_
  refine wk_Hcall (i2 := 4) (args := [.int x1, .int (0 : Int32), .int (8 : Int32)]) (rest := []) (r := some (.int (b2i (f_X11_isWithin x1 (0 : Int32) (8 : Int32))))) (σ1 := s) rfl rfl ⟨rfl, rfl, rfl, rfl, rfl⟩ rfl ((t_X11_isWithin rfl).up (by decide)) ?_
  rcases wk_ife h with ⟨hc, h⟩ | ⟨hc, h⟩
  · refine wk_H0t 10 rfl (wk_zeq.2 hc) ?_
    cases h
    exact wk_eqz hk (wk_Hretv rfl)
  · refine wk_H0f 10 5 rfl rfl (wk_nf wk_zeq hc) ?_
    refine wk_Hs 4 9 ⟨rfl, rfl⟩ (ls' := [.ref 8, .int x1]) (st' := [.int (2 : Int32), .int x1, .ref 11]) (σ' := s) rfl ?_
    obtain ⟨hg, h⟩ := wk_gdE h
    refine wk_Hias 10 rfl rfl rfl hg rfl ?_
    cases h
    exact wk_eqz hk (wk_Hretv rfl)
set_option maxHeartbeats 4000000 in
set_option maxRecDepth 20000 in
theorem t_X0_die_18 {x1 : Int32} {s : wk_St} {r : wk_St} (h : f_X0_die 18 x1 s = some r) : wk_T wk_shC 1 160 [.ref 18, .int x1] s (none, r) := by
  suffices H : ∀ z, z = (none, r) → wk_H wk_shC 1 mc_X0_die 0 [.ref 18, .int x1] [] s z from H _ rfl
  intro z hk
  dsimp only [f_X0_die] at h
  refine wk_Hs 3 3 ⟨rfl, rfl⟩ (ls' := [.ref 18, .int x1]) (st' := [.int (8 : Int32), .int (0 : Int32), .int x1]) (σ' := s) rfl ?_
  refine wk_Hcall (i2 := 4) (args := [.int x1, .int (0 : Int32), .int (8 : Int32)]) (rest := []) (r := some (.int (b2i (f_X11_isWithin x1 (0 : Int32) (8 : Int32))))) (σ1 := s) rfl rfl ⟨rfl, rfl, rfl, rfl, rfl⟩ rfl ((t_X11_isWithin rfl).up (by decide)) ?_
  rcases wk_ife h with ⟨hc, h⟩ | ⟨hc, h⟩
  · refine wk_H0t 10 rfl (wk_zeq.2 hc) ?_
    cases h
    exact wk_eqz hk (wk_Hretv rfl)
  · refine wk_H0f 10 5 rfl rfl (wk_nf wk_zeq hc) ?_
    refine wk_Hs 4 9 ⟨rfl, rfl⟩ (ls' := [.ref 18, .int x1]) (st' := [.int (2 : Int32), .int x1, .ref 21]) (σ' := s) rfl ?_
    obtain ⟨hg, h⟩ := wk_gdE h
    refine wk_Hias 10 rfl rfl rfl hg rfl ?_
    cases h
    exact wk_eqz hk (wk_Hretv rfl)
set_option maxHeartbeats 4000000 in
set_option maxRecDepth 20000 in
theorem t_X2_isHunted {x1 : Int32} {x2 : Int32} {s : wk_St} {r : Bool} (h : f_X2_isHunted x1 x2 s = some r) : wk_T wk_shC 1 182 [.ref 3, .int x1, .int x2] s (some (.int (b2i r)), s) := by
  suffices H : ∀ z, z = (some (.int (b2i r)), s) → wk_H wk_shC 1 mc_X2_isHunted 0 [.ref 3, .int x1, .int x2, wk_U] [] s z from H _ rfl
  intro z hk
  dsimp only [f_X2_isHunted] at h
  refine wk_Hs 3 3 ⟨rfl, rfl⟩ (ls' := [.ref 3, .int x1, .int x2, wk_U]) (st' := [.int (11 : Int32), .int (0 : Int32), .int x1]) (σ' := s) rfl ?_
  refine wk_Hcall (i2 := 4) (args := [.int x1, .int (0 : Int32), .int (11 : Int32)]) (rest := []) (r := some (.int (b2i (f_X11_isWithin x1 (0 : Int32) (11 : Int32))))) (σ1 := s) rfl rfl ⟨rfl, rfl, rfl, rfl, rfl⟩ rfl ((t_X11_isWithin rfl).up (by decide)) ?_
  rcases wk_ife h with ⟨hc, h⟩ | ⟨hc, h⟩
  · refine wk_H0t 7 rfl (wk_zeq.2 hc) ?_
    refine wk_Hs 1 8 ⟨rfl, rfl⟩ (ls' := [.ref 3, .int x1, .int x2, wk_U]) (st' := [.int (0 : Int32)]) (σ' := s) rfl ?_
    cases h
    exact wk_eqz hk (wk_Hretz rfl (b2i_01 false))
  · refine wk_H0f 7 5 rfl rfl (wk_nf wk_zeq hc) ?_
    refine wk_Hs 1 6 ⟨rfl, rfl⟩ (ls' := [.ref 3, .int x1, .int x2, wk_U]) (st' := [.int x2]) (σ' := s) rfl ?_
    rcases wk_ife h with ⟨hc, h⟩ | ⟨hc, h⟩
    · refine wk_H0t 9 rfl (wk_cge.2 hc) ?_
      refine wk_Hs 3 12 ⟨rfl, rfl⟩ (ls' := [.ref 3, .int x1, .int x2, wk_U]) (st' := [.int x1, .ref 6]) (σ' := s) rfl ?_
      obtain ⟨hg, h⟩ := wk_gdE h
      refine wk_Hia 13 rfl rfl rfl hg rfl ?_
      replace h := wk_letE h
      refine wk_Hs 2 15 ⟨rfl, rfl⟩ (ls' := [.ref 3, .int x1, .int x2, .int (s.1 6 (x1.toNatClampNeg))]) (st' := [.int (s.1 6 (x1.toNatClampNeg))]) (σ' := s) rfl ?_
      rcases wk_ife h with ⟨hc, h⟩ | ⟨hc, h⟩
      · refine wk_H0t 31 rfl (wk_cle.2 hc) ?_
        refine wk_Hs 1 32 ⟨rfl, rfl⟩ (ls' := [.ref 3, .int x1, .int x2, .int (s.1 6 (x1.toNatClampNeg))]) (st' := [.int (0 : Int32)]) (σ' := s) rfl ?_
        cases h
        exact wk_eqz hk (wk_Hretz rfl (b2i_01 false))
      · refine wk_H0f 31 16 rfl rfl (wk_nf wk_cle hc) ?_
        refine wk_Hs 3 19 ⟨rfl, rfl⟩ (ls' := [.ref 3, .int x1, .int x2, .int (s.1 6 (x1.toNatClampNeg))]) (st' := [.int x1, .ref 7]) (σ' := s) rfl ?_
        obtain ⟨hg, h⟩ := wk_gdE h
        refine wk_Hla 20 rfl rfl rfl hg rfl ?_
        refine wk_Hs 2 22 ⟨rfl, rfl⟩ (ls' := [.ref 3, .int x1, .int x2, .int (s.1 6 (x1.toNatClampNeg))]) (st' := [.int (s.1 6 (x1.toNatClampNeg)), .int x2, .long (s.2 7 (x1.toNatClampNeg))]) (σ' := s) rfl ?_
        obtain ⟨hg, h⟩ := wk_gdN h
        refine wk_Hrem 23 rfl rfl hg ?_
        refine wk_Hs 5 28 ⟨rfl, rfl⟩ (ls' := [.ref 3, .int x1, .int x2, .int (s.1 6 (x1.toNatClampNeg))]) (st' := [.int (wk_lcmp ((wk_lushr (s.2 7 (x1.toNatClampNeg)) (wk_rem x2 (s.1 6 (x1.toNatClampNeg)))) &&& (1 : Int64)) (0 : Int64))]) (σ' := s) rfl ?_
        rcases wk_ife h with ⟨hc, h⟩ | ⟨hc, h⟩
        · refine wk_H0t 31 rfl (wk_ceq.2 hc) ?_
          refine wk_Hs 1 32 ⟨rfl, rfl⟩ (ls' := [.ref 3, .int x1, .int x2, .int (s.1 6 (x1.toNatClampNeg))]) (st' := [.int (0 : Int32)]) (σ' := s) rfl ?_
          cases h
          exact wk_eqz hk (wk_Hretz rfl (b2i_01 false))
        · refine wk_H0f 31 29 rfl rfl (wk_nf wk_ceq hc) ?_
          refine wk_Hs 1 30 ⟨rfl, rfl⟩ (ls' := [.ref 3, .int x1, .int x2, .int (s.1 6 (x1.toNatClampNeg))]) (st' := [.int (1 : Int32)]) (σ' := s) rfl ?_
          refine wk_Hgoto (t := 32) rfl ?_
          cases h
          exact wk_eqz hk (wk_Hretz rfl (b2i_01 true))
    · refine wk_H0f 9 7 rfl rfl (wk_nf wk_cge hc) ?_
      refine wk_Hs 1 8 ⟨rfl, rfl⟩ (ls' := [.ref 3, .int x1, .int x2, wk_U]) (st' := [.int (0 : Int32)]) (σ' := s) rfl ?_
      cases h
      exact wk_eqz hk (wk_Hretz rfl (b2i_01 false))
set_option maxHeartbeats 4000000 in
set_option maxRecDepth 20000 in
theorem t_J9_floorMod_7cf53 {x0 : Int32} {x1 : Int32} {s : wk_St} {r : Int32} (h : f_J9_floorMod_7cf53 x0 x1 = some r) : wk_T wk_shC 0 257 [.int x0, .int x1] s (some (.int r), s) := by
  suffices H : ∀ z, z = (some (.int r), s) → wk_H wk_shC 0 mc_J9_floorMod_7cf53 0 [.int x0, .int x1, wk_U] [] s z from H _ rfl
  intro z hk
  dsimp only [f_J9_floorMod_7cf53] at h
  refine wk_Hs 2 2 ⟨rfl, rfl⟩ (ls' := [.int x0, .int x1, wk_U]) (st' := [.int x1, .int x0]) (σ' := s) rfl ?_
  obtain ⟨hg, h⟩ := wk_gdN h
  refine wk_Hrem 3 rfl rfl hg ?_
  refine wk_Hs 4 7 ⟨rfl, rfl⟩ (ls' := [.int x0, .int x1, .int (wk_rem x0 x1)]) (st' := [.int (x0 ^^^ x1)]) (σ' := s) rfl ?_
  rcases wk_ife h with ⟨hc, h⟩ | ⟨hc, h⟩
  · refine wk_H0t 14 rfl (wk_cge.2 hc) ?_
    refine wk_Hs 1 15 ⟨rfl, rfl⟩ (ls' := [.int x0, .int x1, .int (wk_rem x0 x1)]) (st' := [.int (wk_rem x0 x1)]) (σ' := s) rfl ?_
    cases h
    exact wk_eqz hk (wk_Hret rfl)
  · refine wk_H0f 14 8 rfl rfl (wk_nf wk_cge hc) ?_
    refine wk_Hs 1 9 ⟨rfl, rfl⟩ (ls' := [.int x0, .int x1, .int (wk_rem x0 x1)]) (st' := [.int (wk_rem x0 x1)]) (σ' := s) rfl ?_
    rcases wk_ife h with ⟨hc, h⟩ | ⟨hc, h⟩
    · refine wk_H0t 14 rfl (wk_ceq.2 hc) ?_
      refine wk_Hs 1 15 ⟨rfl, rfl⟩ (ls' := [.int x0, .int x1, .int (wk_rem x0 x1)]) (st' := [.int (wk_rem x0 x1)]) (σ' := s) rfl ?_
      cases h
      exact wk_eqz hk (wk_Hret rfl)
    · refine wk_H0f 14 10 rfl rfl (wk_nf wk_ceq hc) ?_
      refine wk_Hs 3 13 ⟨rfl, rfl⟩ (ls' := [.int x0, .int x1, .int (wk_rem x0 x1)]) (st' := [.int ((wk_rem x0 x1) + x1)]) (σ' := s) rfl ?_
      cases h
      exact wk_eqz hk (wk_Hret rfl)
set_option maxHeartbeats 4000000 in
set_option maxRecDepth 20000 in
theorem t_X2_weekdayOf {x1 : Int32} {s : wk_St} {r : Int32} (h : f_X2_weekdayOf x1 s = some r) : wk_T wk_shC 1 186 [.ref 3, .int x1] s (some (.int r), s) := by
  suffices H : ∀ z, z = (some (.int r), s) → wk_H wk_shC 1 mc_X2_weekdayOf 0 [.ref 3, .int x1] [] s z from H _ rfl
  intro z hk
  dsimp only [f_X2_weekdayOf] at h
  refine wk_Hs 5 5 ⟨rfl, rfl⟩ (ls' := [.ref 3, .int x1]) (st' := [.int (7 : Int32), .int (x1 + (s.1 3 5))]) (σ' := s) rfl ?_
  obtain ⟨v1, hv1, h⟩ := wk_bindE h
  refine wk_Hcall (i2 := 6) (args := [.int (x1 + (s.1 3 5)), .int (7 : Int32)]) (rest := []) (r := some (.int v1)) (σ1 := s) rfl rfl ⟨rfl, rfl, rfl, rfl, rfl⟩ rfl ((t_J9_floorMod_7cf53 hv1).up (by decide)) ?_
  cases h
  exact wk_eqz hk (wk_Hret rfl)
set_option maxHeartbeats 4000000 in
set_option maxRecDepth 20000 in
theorem t_X2_nextTo {x1 : Int32} {s : wk_St} {r : Int32} (h : f_X2_nextTo x1 s = some r) : wk_T wk_shC 1 173 [.ref 3, .int x1] s (some (.int r), s) := by
  suffices H : ∀ z, z = (some (.int r), s) → wk_H wk_shC 1 mc_X2_nextTo 0 [.ref 3, .int x1] [] s z from H _ rfl
  intro z hk
  dsimp only [f_X2_nextTo] at h
  refine wk_Hs 3 3 ⟨rfl, rfl⟩ (ls' := [.ref 3, .int x1]) (st' := [.int (11 : Int32), .int (0 : Int32), .int x1]) (σ' := s) rfl ?_
  refine wk_Hcall (i2 := 4) (args := [.int x1, .int (0 : Int32), .int (11 : Int32)]) (rest := []) (r := some (.int (b2i (f_X11_isWithin x1 (0 : Int32) (11 : Int32))))) (σ1 := s) rfl rfl ⟨rfl, rfl, rfl, rfl, rfl⟩ rfl ((t_X11_isWithin rfl).up (by decide)) ?_
  rcases wk_ife h with ⟨hc, h⟩ | ⟨hc, h⟩
  · refine wk_H0t 10 rfl (wk_zeq.2 hc) ?_
    refine wk_Hs 1 11 ⟨rfl, rfl⟩ (ls' := [.ref 3, .int x1]) (st' := [.int (0 : Int32)]) (σ' := s) rfl ?_
    cases h
    exact wk_eqz hk (wk_Hret rfl)
  · refine wk_H0f 10 5 rfl rfl (wk_nf wk_zeq hc) ?_
    refine wk_Hs 3 8 ⟨rfl, rfl⟩ (ls' := [.ref 3, .int x1]) (st' := [.int x1, .ref 4]) (σ' := s) rfl ?_
    obtain ⟨hg, h⟩ := wk_gdE h
    refine wk_Hia 9 rfl rfl rfl hg rfl ?_
    refine wk_Hgoto (t := 11) rfl ?_
    cases h
    exact wk_eqz hk (wk_Hret rfl)
set_option maxHeartbeats 4000000 in
set_option maxRecDepth 20000 in
theorem t_X4_push {x1 : Int32} {s : wk_St} {r : wk_St} (h : f_X4_push x1 s = some r) : wk_T wk_shC 0 205 [.ref 37, .int x1] s (none, r) := by
  suffices H : ∀ z, z = (none, r) → wk_H wk_shC 0 mc_X4_push 0 [.ref 37, .int x1] [] s z from H _ rfl
  intro z hk
  dsimp only [f_X4_push] at h
  refine wk_Hs 2 2 ⟨rfl, rfl⟩ (ls' := [.ref 37, .int x1]) (st' := [.int (s.1 37 9)]) (σ' := s) rfl ?_
  rcases wk_ife h with ⟨hc, h⟩ | ⟨hc, h⟩
  · refine wk_H0t 21 rfl (wk_clt.2 hc) ?_
    cases h
    exact wk_eqz hk (wk_Hretv rfl)
  · refine wk_H0f 21 3 rfl rfl (wk_nf wk_clt hc) ?_
    refine wk_Hs 5 8 ⟨rfl, rfl⟩ (ls' := [.ref 37, .int x1]) (st' := [.int (32 : Int32), .int (s.1 37 9)]) (σ' := s) rfl ?_
    rcases wk_ife h with ⟨hc, h⟩ | ⟨hc, h⟩
    · refine wk_Hbt 21 rfl (wk_cge.2 hc) ?_
      cases h
      exact wk_eqz hk (wk_Hretv rfl)
    · refine wk_Hbf 21 9 rfl rfl (wk_nf wk_cge hc) ?_
      refine wk_Hs 5 14 ⟨rfl, rfl⟩ (ls' := [.ref 37, .int x1]) (st' := [.int x1, .int (s.1 37 9), .ref 44]) (σ' := s) rfl ?_
      obtain ⟨hg, h⟩ := wk_gdE h
      refine wk_Hias 15 rfl rfl rfl hg rfl ?_
      refine wk_Hs 6 21 ⟨rfl, rfl⟩ (ls' := [.ref 37, .int x1]) (st' := []) (σ' := (wk_si (wk_si s 44 ((s.1 37 9).toNatClampNeg) x1) 37 9 (((wk_si s 44 ((s.1 37 9).toNatClampNeg) x1).1 37 9) + (1 : Int32)))) rfl ?_
      cases h
      exact wk_eqz hk (wk_Hretv rfl)
set_option maxHeartbeats 4000000 in
set_option maxRecDepth 20000 in
theorem t_X4_pop {s : wk_St} {r : Int32 × wk_St} (h : f_X4_pop s = some r) : wk_T wk_shC 0 206 [.ref 37] s (some (.int r.1), r.2) := by
  suffices H : ∀ z, z = (some (.int r.1), r.2) → wk_H wk_shC 0 mc_X4_pop 0 [.ref 37] [] s z from H _ rfl
  intro z hk
  dsimp only [f_X4_pop] at h
  refine wk_Hs 2 2 ⟨rfl, rfl⟩ (ls' := [.ref 37]) (st' := [.int (s.1 37 9)]) (σ' := s) rfl ?_
  rcases wk_ife h with ⟨hc, h⟩ | ⟨hc, h⟩
  · refine wk_H0t 9 rfl (wk_cle.2 hc) ?_
    refine wk_Hs 1 10 ⟨rfl, rfl⟩ (ls' := [.ref 37]) (st' := [.int (0 : Int32)]) (σ' := s) rfl ?_
    cases h
    exact wk_eqz hk (wk_Hret rfl)
  · refine wk_H0f 9 3 rfl rfl (wk_nf wk_cle hc) ?_
    refine wk_Hs 5 8 ⟨rfl, rfl⟩ (ls' := [.ref 37]) (st' := [.int (32 : Int32), .int (s.1 37 9)]) (σ' := s) rfl ?_
    rcases wk_ife h with ⟨hc, h⟩ | ⟨hc, h⟩
    · refine wk_Hbt 11 rfl (wk_cle.2 hc) ?_
      refine wk_Hs 10 21 ⟨rfl, rfl⟩ (ls' := [.ref 37]) (st' := [.int ((wk_si s 37 9 ((s.1 37 9) - (1 : Int32))).1 37 9), .ref 44]) (σ' := (wk_si s 37 9 ((s.1 37 9) - (1 : Int32)))) rfl ?_
      obtain ⟨hg, h⟩ := wk_gdE h
      refine wk_Hia 22 rfl rfl rfl hg rfl ?_
      cases h
      exact wk_eqz hk (wk_Hret rfl)
    · refine wk_Hbf 11 9 rfl rfl (wk_nf wk_cle hc) ?_
      refine wk_Hs 1 10 ⟨rfl, rfl⟩ (ls' := [.ref 37]) (st' := [.int (0 : Int32)]) (σ' := s) rfl ?_
      cases h
      exact wk_eqz hk (wk_Hret rfl)
set_option maxHeartbeats 4000000 in
set_option maxRecDepth 20000 in
theorem t_X4_reckon {x1 : Int32} {x2 : Int32} {x3 : Int32} {s : wk_St} {r : Int32 × wk_St} (h : f_X4_reckon x1 x2 x3 s = some r) : wk_T wk_shC 0 207 [.ref 37, .int x1, .int x2, .int x3] s (some (.int r.1), r.2) := by
  suffices H : ∀ z, z = (some (.int r.1), r.2) → wk_H wk_shC 0 mc_X4_reckon 0 [.ref 37, .int x1, .int x2, .int x3] [] s z from H _ rfl
  intro z hk
  dsimp only [f_X4_reckon] at h
  refine wk_Hs 1 1 ⟨rfl, rfl⟩ (ls' := [.ref 37, .int x1, .int x2, .int x3]) (st' := [.int x1]) (σ' := s) rfl ?_
  rcases wk_ife h with ⟨hc0, h⟩ | ⟨hc0, h⟩
  · refine wk_Hls (t := 10) rfl (wk_lswE hc0 (by decide)) ?_
    refine wk_Hs 3 13 ⟨rfl, rfl⟩ (ls' := [.ref 37, .int x1, .int x2, .int x3]) (st' := [.int (x2 * x3)]) (σ' := s) rfl ?_
    cases h
    exact wk_eqz hk (wk_Hret rfl)
  rcases wk_ife h with ⟨hc1, h⟩ | ⟨hc1, h⟩
  · refine wk_Hls (t := 2) rfl (wk_lswE hc1 (by decide)) ?_
    refine wk_Hs 3 5 ⟨rfl, rfl⟩ (ls' := [.ref 37, .int x1, .int x2, .int x3]) (st' := [.int (x2 + x3)]) (σ' := s) rfl ?_
    cases h
    exact wk_eqz hk (wk_Hret rfl)
  rcases wk_ife h with ⟨hc2, h⟩ | ⟨hc2, h⟩
  · refine wk_Hls (t := 6) rfl (wk_lswE hc2 (by decide)) ?_
    refine wk_Hs 3 9 ⟨rfl, rfl⟩ (ls' := [.ref 37, .int x1, .int x2, .int x3]) (st' := [.int (x2 - x3)]) (σ' := s) rfl ?_
    cases h
    exact wk_eqz hk (wk_Hret rfl)
  rcases wk_ife h with ⟨hc3, h⟩ | ⟨hc3, h⟩
  · refine wk_Hls (t := 14) rfl (wk_lswE hc3 (by decide)) ?_
    refine wk_Hs 2 16 ⟨rfl, rfl⟩ (ls' := [.ref 37, .int x1, .int x2, .int x3]) (st' := [.int x3, .int x2]) (σ' := s) rfl ?_
    rcases wk_ife h with ⟨hc, h⟩ | ⟨hc, h⟩
    · refine wk_Hbt 19 rfl (wk_cge.2 hc) ?_
      refine wk_Hs 1 20 ⟨rfl, rfl⟩ (ls' := [.ref 37, .int x1, .int x2, .int x3]) (st' := [.int (0 : Int32)]) (σ' := s) rfl ?_
      cases h
      exact wk_eqz hk (wk_Hret rfl)
    · refine wk_Hbf 19 17 rfl rfl (wk_nf wk_cge hc) ?_
      refine wk_Hs 1 18 ⟨rfl, rfl⟩ (ls' := [.ref 37, .int x1, .int x2, .int x3]) (st' := [.int (1 : Int32)]) (σ' := s) rfl ?_
      refine wk_Hgoto (t := 20) rfl ?_
      cases h
      exact wk_eqz hk (wk_Hret rfl)
  rcases wk_ife h with ⟨hc4, h⟩ | ⟨hc4, h⟩
  · refine wk_Hls (t := 28) rfl (wk_lswE hc4 (by decide)) ?_
    refine wk_Hs 2 30 ⟨rfl, rfl⟩ (ls' := [.ref 37, .int x1, .int x2, .int x3]) (st' := [.int x3, .int x2]) (σ' := s) rfl ?_
    rcases wk_ife h with ⟨hc, h⟩ | ⟨hc, h⟩
    · refine wk_Hbt 33 rfl (wk_cne.2 hc) ?_
      refine wk_Hs 1 34 ⟨rfl, rfl⟩ (ls' := [.ref 37, .int x1, .int x2, .int x3]) (st' := [.int (0 : Int32)]) (σ' := s) rfl ?_
      cases h
      exact wk_eqz hk (wk_Hret rfl)
    · refine wk_Hbf 33 31 rfl rfl (wk_nf wk_cne hc) ?_
      refine wk_Hs 1 32 ⟨rfl, rfl⟩ (ls' := [.ref 37, .int x1, .int x2, .int x3]) (st' := [.int (1 : Int32)]) (σ' := s) rfl ?_
      refine wk_Hgoto (t := 34) rfl ?_
      cases h
      exact wk_eqz hk (wk_Hret rfl)
  rcases wk_ife h with ⟨hc5, h⟩ | ⟨hc5, h⟩
  · refine wk_Hls (t := 21) rfl (wk_lswE hc5 (by decide)) ?_
    refine wk_Hs 2 23 ⟨rfl, rfl⟩ (ls' := [.ref 37, .int x1, .int x2, .int x3]) (st' := [.int x3, .int x2]) (σ' := s) rfl ?_
    rcases wk_ife h with ⟨hc, h⟩ | ⟨hc, h⟩
    · refine wk_Hbt 26 rfl (wk_cle.2 hc) ?_
      refine wk_Hs 1 27 ⟨rfl, rfl⟩ (ls' := [.ref 37, .int x1, .int x2, .int x3]) (st' := [.int (0 : Int32)]) (σ' := s) rfl ?_
      cases h
      exact wk_eqz hk (wk_Hret rfl)
    · refine wk_Hbf 26 24 rfl rfl (wk_nf wk_cle hc) ?_
      refine wk_Hs 1 25 ⟨rfl, rfl⟩ (ls' := [.ref 37, .int x1, .int x2, .int x3]) (st' := [.int (1 : Int32)]) (σ' := s) rfl ?_
      refine wk_Hgoto (t := 27) rfl ?_
      cases h
      exact wk_eqz hk (wk_Hret rfl)
  refine wk_Hls (t := 35) rfl (wk_lswD (L := [42, 43, 45, 60, 61, 62]) (by decide) (List.forall_mem_cons.2 ⟨wk_nt hc0 (by decide), (List.forall_mem_cons.2 ⟨wk_nt hc1 (by decide), (List.forall_mem_cons.2 ⟨wk_nt hc2 (by decide), (List.forall_mem_cons.2 ⟨wk_nt hc3 (by decide), (List.forall_mem_cons.2 ⟨wk_nt hc4 (by decide), (List.forall_mem_cons.2 ⟨wk_nt hc5 (by decide), (fun _ hq => absurd hq List.not_mem_nil)⟩)⟩)⟩)⟩)⟩)⟩)) ?_
  refine wk_Hs 1 36 ⟨rfl, rfl⟩ (ls' := [.ref 37, .int x1, .int x2, .int x3]) (st' := [.int x3]) (σ' := s) rfl ?_
  rcases wk_ife h with ⟨hc, h⟩ | ⟨hc, h⟩
  · refine wk_H0t 42 rfl (wk_cne.2 hc) ?_
    refine wk_Hs 2 44 ⟨rfl, rfl⟩ (ls' := [.ref 37, .int x1, .int x2, .int x3]) (st' := [.int (47 : Int32), .int x1]) (σ' := s) rfl ?_
    rcases wk_ife h with ⟨hc, h⟩ | ⟨hc, h⟩
    · refine wk_Hbt 49 rfl (wk_cne.2 hc) ?_
      refine wk_Hs 2 51 ⟨rfl, rfl⟩ (ls' := [.ref 37, .int x1, .int x2, .int x3]) (st' := [.int x3, .int x2]) (σ' := s) rfl ?_
      obtain ⟨hg, h⟩ := wk_gdN h
      refine wk_Hrem 52 rfl rfl hg ?_
      cases h
      exact wk_eqz hk (wk_Hret rfl)
    · refine wk_Hbf 49 45 rfl rfl (wk_nf wk_cne hc) ?_
      refine wk_Hs 2 47 ⟨rfl, rfl⟩ (ls' := [.ref 37, .int x1, .int x2, .int x3]) (st' := [.int x3, .int x2]) (σ' := s) rfl ?_
      obtain ⟨hg, h⟩ := wk_gdN h
      refine wk_Hdiv 48 rfl rfl hg ?_
      refine wk_Hgoto (t := 52) rfl ?_
      cases h
      exact wk_eqz hk (wk_Hret rfl)
  · refine wk_H0f 42 37 rfl rfl (wk_nf wk_cne hc) ?_
    refine wk_Hs 2 39 ⟨rfl, rfl⟩ (ls' := [.ref 37, .int x1, .int x2, .int x3]) (st' := [.int (1 : Int32), .ref 37]) (σ' := s) rfl ?_
    refine wk_Hpz 40 10 rfl rfl rfl rfl rfl rfl (by decide) ?_
    refine wk_Hs 1 41 ⟨rfl, rfl⟩ (ls' := [.ref 37, .int x1, .int x2, .int x3]) (st' := [.int (0 : Int32)]) (σ' := (wk_si s 37 10 (1 : Int32))) rfl ?_
    cases h
    exact wk_eqz hk (wk_Hret rfl)
set_option maxHeartbeats 4000000 in
set_option maxRecDepth 20000 in
theorem tj_j_X4_run_107_l10 {x2 : Int32} {x4 : Int32} {x5 : Int32} {w1 : Value} {w6 : Value} {w7 : Value} {w8 : Value} {s : wk_St} {z : wk_R} {o : (wk_St) ⊕ (Int32 × Int32 × wk_St)} (h : j_X4_run_107_l10 x2 x4 x5 s = some o) (hk : match (generalizing := false) o with | Sum.inl a => (∀ (u4 u5 u6 u7 u8 : Value), wk_H wk_shC 1 mc_X4_run 109 [.ref 37, w1, .int x2, .ref 24, u4, u5, u6, u7, u8] [] a z) | Sum.inr y => ∀ (u6 u7 u8 : Value), wk_H wk_shC 1 mc_X4_run 10 [.ref 37, w1, .int x2, .ref 24, .int y.1, .int y.2.1, u6, u7, u8] [] y.2.2 z) : wk_H wk_shC 1 mc_X4_run 107 [.ref 37, w1, .int x2, .ref 24, .int x4, .int x5, w6, w7, w8] [] s z := by
  dsimp only [j_X4_run_107_l10] at h
  refine wk_Hs 1 108 ⟨rfl, rfl⟩ (ls' := [.ref 37, w1, .int x2, .ref 24, .int x4, .int (x5 + (1 : Int32)), w6, w7, w8]) (st' := []) (σ' := s) rfl ?_
  refine wk_Hgoto (t := 10) rfl ?_
  cases h
  exact hk _ _ _
set_option maxHeartbeats 4000000 in
set_option maxRecDepth 20000 in
theorem tj_j_X4_run_83_l10 {x2 : Int32} {x4 : Int32} {x5 : Int32} {x6 : Int32} {x7 : Int32} {x8 : Int32} {s_0 : Int32} {w1 : Value} {s : wk_St} {z : wk_R} {o : (wk_St) ⊕ (Int32 × Int32 × wk_St)} (h : j_X4_run_83_l10 x2 x4 x5 x6 x7 x8 s_0 s = some o) (hk : match (generalizing := false) o with | Sum.inl a => (∀ (u4 u5 u6 u7 u8 : Value), wk_H wk_shC 1 mc_X4_run 109 [.ref 37, w1, .int x2, .ref 24, u4, u5, u6, u7, u8] [] a z) | Sum.inr y => ∀ (u6 u7 u8 : Value), wk_H wk_shC 1 mc_X4_run 10 [.ref 37, w1, .int x2, .ref 24, .int y.1, .int y.2.1, u6, u7, u8] [] y.2.2 z) : wk_H wk_shC 1 mc_X4_run 83 [.ref 37, w1, .int x2, .ref 24, .int x4, .int x5, .int x6, .int x7, .int x8] [.int s_0] s z := by
  dsimp only [j_X4_run_83_l10] at h
  refine wk_Hs 2 85 ⟨rfl, rfl⟩ (ls' := [.ref 37, w1, .int x2, .ref 24, .int x4, .int x5, .int x6, .int x7, .int x8]) (st' := [.int (124 : Int32), .int x6, .int s_0]) (σ' := s) rfl ?_
  rcases wk_ife h with ⟨hc, h⟩ | ⟨hc, h⟩
  · refine wk_Hbt 88 rfl (wk_cne.2 hc) ?_
    refine wk_Hs 1 89 ⟨rfl, rfl⟩ (ls' := [.ref 37, w1, .int x2, .ref 24, .int x4, .int x5, .int x6, .int x7, .int x8]) (st' := [.int (0 : Int32), .int s_0]) (σ' := s) rfl ?_
    rcases wk_ife h with ⟨hc, h⟩ | ⟨hc, h⟩
    · refine wk_Hbt 95 rfl (wk_cne.2 hc) ?_
      refine wk_Hgoto (t := 107) rfl ?_
      exact tj_j_X4_run_107_l10 h hk
    · refine wk_Hbf 95 90 rfl rfl (wk_nf wk_cne hc) ?_
      refine wk_Hs 2 92 ⟨rfl, rfl⟩ (ls' := [.ref 37, w1, .int x2, .ref 24, .int x4, .int x5, .int x6, .int x7, .int x8]) (st' := [.int x8, .ref 37]) (σ' := s) rfl ?_
      obtain ⟨v4, hv4, h⟩ := wk_bindE h
      refine wk_Hcall (i2 := 93) (args := [.ref 37, .int x8]) (rest := []) (r := none) (σ1 := v4) rfl rfl ⟨rfl, rfl, rfl, rfl, rfl⟩ rfl ((t_X4_push hv4).up (by decide)) ?_
      refine wk_Hs 2 95 ⟨rfl, rfl⟩ (ls' := [.ref 37, w1, .int x2, .ref 24, .int x7, .int x5, .int x6, .int x7, .int x8]) (st' := []) (σ' := v4) rfl ?_
      refine wk_Hgoto (t := 107) rfl ?_
      exact tj_j_X4_run_107_l10 h hk
  · refine wk_Hbf 88 86 rfl rfl (wk_nf wk_cne hc) ?_
    refine wk_Hs 1 87 ⟨rfl, rfl⟩ (ls' := [.ref 37, w1, .int x2, .ref 24, .int x4, .int x5, .int x6, .int x7, .int x8]) (st' := [.int (1 : Int32), .int s_0]) (σ' := s) rfl ?_
    refine wk_Hgoto (t := 89) rfl ?_
    rcases wk_ife h with ⟨hc, h⟩ | ⟨hc, h⟩
    · refine wk_Hbt 95 rfl (wk_cne.2 hc) ?_
      refine wk_Hgoto (t := 107) rfl ?_
      exact tj_j_X4_run_107_l10 h hk
    · refine wk_Hbf 95 90 rfl rfl (wk_nf wk_cne hc) ?_
      refine wk_Hs 2 92 ⟨rfl, rfl⟩ (ls' := [.ref 37, w1, .int x2, .ref 24, .int x4, .int x5, .int x6, .int x7, .int x8]) (st' := [.int x8, .ref 37]) (σ' := s) rfl ?_
      obtain ⟨v5, hv5, h⟩ := wk_bindE h
      refine wk_Hcall (i2 := 93) (args := [.ref 37, .int x8]) (rest := []) (r := none) (σ1 := v5) rfl rfl ⟨rfl, rfl, rfl, rfl, rfl⟩ rfl ((t_X4_push hv5).up (by decide)) ?_
      refine wk_Hs 2 95 ⟨rfl, rfl⟩ (ls' := [.ref 37, w1, .int x2, .ref 24, .int x7, .int x5, .int x6, .int x7, .int x8]) (st' := []) (σ' := v5) rfl ?_
      refine wk_Hgoto (t := 107) rfl ?_
      exact tj_j_X4_run_107_l10 h hk
set_option maxHeartbeats 4000000 in
set_option maxRecDepth 20000 in
theorem ts_S_X4_run_10 {x2 : Int32} {x4 : Int32} {x5 : Int32} {w1 : Value} {w6 : Value} {w7 : Value} {w8 : Value} {s : wk_St} {z : wk_R} {o : (wk_St) ⊕ (Int32 × Int32 × wk_St)} (h : S_X4_run_10 x2 (x4, x5, s) = some o) (hk : match (generalizing := false) o with | Sum.inl a => (∀ (u4 u5 u6 u7 u8 : Value), wk_H wk_shC 1 mc_X4_run 109 [.ref 37, w1, .int x2, .ref 24, u4, u5, u6, u7, u8] [] a z) | Sum.inr y => ∀ (u6 u7 u8 : Value), wk_H wk_shC 1 mc_X4_run 10 [.ref 37, w1, .int x2, .ref 24, .int y.1, .int y.2.1, u6, u7, u8] [] y.2.2 z) : wk_H wk_shC 1 mc_X4_run 10 [.ref 37, w1, .int x2, .ref 24, .int x4, .int x5, w6, w7, w8] [] s z := by
  dsimp only [S_X4_run_10] at h
  refine wk_Hs 2 12 ⟨rfl, rfl⟩ (ls' := [.ref 37, w1, .int x2, .ref 24, .int x4, .int x5, w6, w7, w8]) (st' := [.int (240 : Int32), .int x5]) (σ' := s) rfl ?_
  rcases wk_ife h with ⟨hc, h⟩ | ⟨hc, h⟩
  · refine wk_Hbt 109 rfl (wk_cge.2 hc) ?_
    cases h
    exact hk _ _ _ _ _
  · refine wk_Hbf 109 13 rfl rfl (wk_nf wk_cge hc) ?_
    refine wk_Hs 2 15 ⟨rfl, rfl⟩ (ls' := [.ref 37, w1, .int x2, .ref 24, .int x4, .int x5, w6, w7, w8]) (st' := [.int (s.1 37 10)]) (σ' := s) rfl ?_
    rcases wk_ife h with ⟨hc, h⟩ | ⟨hc, h⟩
    · refine wk_H0t 109 rfl (wk_cne.2 hc) ?_
      cases h
      exact hk _ _ _ _ _
    · refine wk_H0f 109 16 rfl rfl (wk_nf wk_cne hc) ?_
      refine wk_Hs 1 17 ⟨rfl, rfl⟩ (ls' := [.ref 37, w1, .int x2, .ref 24, .int x4, .int x5, w6, w7, w8]) (st' := [.int x4]) (σ' := s) rfl ?_
      rcases wk_ife h with ⟨hc, h⟩ | ⟨hc, h⟩
      · refine wk_H0t 109 rfl (wk_clt.2 hc) ?_
        cases h
        exact hk _ _ _ _ _
      · refine wk_H0f 109 18 rfl rfl (wk_nf wk_clt hc) ?_
        refine wk_Hs 2 20 ⟨rfl, rfl⟩ (ls' := [.ref 37, w1, .int x2, .ref 24, .int x4, .int x5, w6, w7, w8]) (st' := [.int x2, .int x4]) (σ' := s) rfl ?_
        rcases wk_ife h with ⟨hc, h⟩ | ⟨hc, h⟩
        · refine wk_Hbt 109 rfl (wk_cge.2 hc) ?_
          cases h
          exact hk _ _ _ _ _
        · refine wk_Hbf 109 21 rfl rfl (wk_nf wk_cge hc) ?_
          refine wk_Hs 2 23 ⟨rfl, rfl⟩ (ls' := [.ref 37, w1, .int x2, .ref 24, .int x4, .int x5, w6, w7, w8]) (st' := [.int (240 : Int32), .int x4]) (σ' := s) rfl ?_
          rcases wk_ife h with ⟨hc, h⟩ | ⟨hc, h⟩
          · refine wk_Hbt 109 rfl (wk_cge.2 hc) ?_
            cases h
            exact hk _ _ _ _ _
          · refine wk_Hbf 109 24 rfl rfl (wk_nf wk_cge hc) ?_
            refine wk_Hs 3 27 ⟨rfl, rfl⟩ (ls' := [.ref 37, w1, .int x2, .ref 24, .int x4, .int x5, w6, w7, w8]) (st' := [.int x4, .ref 42]) (σ' := s) rfl ?_
            obtain ⟨hg, h⟩ := wk_gdE h
            refine wk_Hia 28 rfl rfl rfl hg rfl ?_
            replace h := wk_letE h
            refine wk_Hs 4 32 ⟨rfl, rfl⟩ (ls' := [.ref 37, w1, .int x2, .ref 24, .int x4, .int x5, .int (s.1 42 (x4.toNatClampNeg)), w7, w8]) (st' := [.int x4, .ref 43]) (σ' := s) rfl ?_
            obtain ⟨hg, h⟩ := wk_gdE h
            refine wk_Hia 33 rfl rfl rfl hg rfl ?_
            replace h := wk_letE h
            refine wk_Hs 4 37 ⟨rfl, rfl⟩ (ls' := [.ref 37, w1, .int x2, .ref 24, .int (x4 + (1 : Int32)), .int x5, .int (s.1 42 (x4.toNatClampNeg)), .int (s.1 43 (x4.toNatClampNeg)), w8]) (st' := [.int (48 : Int32), .int (s.1 42 (x4.toNatClampNeg))]) (σ' := s) rfl ?_
            rcases wk_ife h with ⟨hc, h⟩ | ⟨hc, h⟩
            · refine wk_Hbt 42 rfl (wk_cne.2 hc) ?_
              refine wk_Hs 2 44 ⟨rfl, rfl⟩ (ls' := [.ref 37, w1, .int x2, .ref 24, .int (x4 + (1 : Int32)), .int x5, .int (s.1 42 (x4.toNatClampNeg)), .int (s.1 43 (x4.toNatClampNeg)), w8]) (st' := [.int (97 : Int32), .int (s.1 42 (x4.toNatClampNeg))]) (σ' := s) rfl ?_
              rcases wk_ife h with ⟨hc, h⟩ | ⟨hc, h⟩
              · refine wk_Hbt 59 rfl (wk_cne.2 hc) ?_
                refine wk_Hs 2 61 ⟨rfl, rfl⟩ (ls' := [.ref 37, w1, .int x2, .ref 24, .int (x4 + (1 : Int32)), .int x5, .int (s.1 42 (x4.toNatClampNeg)), .int (s.1 43 (x4.toNatClampNeg)), w8]) (st' := [.int (33 : Int32), .int (s.1 42 (x4.toNatClampNeg))]) (σ' := s) rfl ?_
                rcases wk_ife h with ⟨hc, h⟩ | ⟨hc, h⟩
                · refine wk_Hbt 69 rfl (wk_cne.2 hc) ?_
                  refine wk_Hs 2 71 ⟨rfl, rfl⟩ (ls' := [.ref 37, w1, .int x2, .ref 24, .int (x4 + (1 : Int32)), .int x5, .int (s.1 42 (x4.toNatClampNeg)), .int (s.1 43 (x4.toNatClampNeg)), w8]) (st' := [.int (38 : Int32), .int (s.1 42 (x4.toNatClampNeg))]) (σ' := s) rfl ?_
                  rcases wk_ife h with ⟨hc, h⟩ | ⟨hc, h⟩
                  · refine wk_Hbt 75 rfl (wk_ceq.2 hc) ?_
                    refine wk_Hs 1 76 ⟨rfl, rfl⟩ (ls' := [.ref 37, w1, .int x2, .ref 24, .int (x4 + (1 : Int32)), .int x5, .int (s.1 42 (x4.toNatClampNeg)), .int (s.1 43 (x4.toNatClampNeg)), w8]) (st' := [.ref 37]) (σ' := s) rfl ?_
                    obtain ⟨v3, hv3, h⟩ := wk_bindE h
                    refine wk_Hcall (i2 := 77) (args := [.ref 37]) (rest := []) (r := some (.int v3.1)) (σ1 := v3.2) rfl rfl ⟨rfl, rfl, rfl, rfl, rfl⟩ rfl ((t_X4_pop hv3).up (by decide)) ?_
                    refine wk_Hs 2 79 ⟨rfl, rfl⟩ (ls' := [.ref 37, w1, .int x2, .ref 24, .int (x4 + (1 : Int32)), .int x5, .int (s.1 42 (x4.toNatClampNeg)), .int (s.1 43 (x4.toNatClampNeg)), .int v3.1]) (st' := [.int v3.1]) (σ' := v3.2) rfl ?_
                    rcases wk_ife h with ⟨hc, h⟩ | ⟨hc, h⟩
                    · refine wk_H0t 82 rfl (wk_ceq.2 hc) ?_
                      refine wk_Hs 1 83 ⟨rfl, rfl⟩ (ls' := [.ref 37, w1, .int x2, .ref 24, .int (x4 + (1 : Int32)), .int x5, .int (s.1 42 (x4.toNatClampNeg)), .int (s.1 43 (x4.toNatClampNeg)), .int v3.1]) (st' := [.int (0 : Int32)]) (σ' := v3.2) rfl ?_
                      exact tj_j_X4_run_83_l10 h hk
                    · refine wk_H0f 82 80 rfl rfl (wk_nf wk_ceq hc) ?_
                      refine wk_Hs 1 81 ⟨rfl, rfl⟩ (ls' := [.ref 37, w1, .int x2, .ref 24, .int (x4 + (1 : Int32)), .int x5, .int (s.1 42 (x4.toNatClampNeg)), .int (s.1 43 (x4.toNatClampNeg)), .int v3.1]) (st' := [.int (1 : Int32)]) (σ' := v3.2) rfl ?_
                      refine wk_Hgoto (t := 83) rfl ?_
                      exact tj_j_X4_run_83_l10 h hk
                  · refine wk_Hbf 75 72 rfl rfl (wk_nf wk_ceq hc) ?_
                    refine wk_Hs 2 74 ⟨rfl, rfl⟩ (ls' := [.ref 37, w1, .int x2, .ref 24, .int (x4 + (1 : Int32)), .int x5, .int (s.1 42 (x4.toNatClampNeg)), .int (s.1 43 (x4.toNatClampNeg)), w8]) (st' := [.int (124 : Int32), .int (s.1 42 (x4.toNatClampNeg))]) (σ' := s) rfl ?_
                    rcases wk_ife h with ⟨hc, h⟩ | ⟨hc, h⟩
                    · refine wk_Hbt 96 rfl (wk_cne.2 hc) ?_
                      refine wk_Hs 1 97 ⟨rfl, rfl⟩ (ls' := [.ref 37, w1, .int x2, .ref 24, .int (x4 + (1 : Int32)), .int x5, .int (s.1 42 (x4.toNatClampNeg)), .int (s.1 43 (x4.toNatClampNeg)), w8]) (st' := [.ref 37]) (σ' := s) rfl ?_
                      obtain ⟨v6, hv6, h⟩ := wk_bindE h
                      refine wk_Hcall (i2 := 98) (args := [.ref 37]) (rest := []) (r := some (.int v6.1)) (σ1 := v6.2) rfl rfl ⟨rfl, rfl, rfl, rfl, rfl⟩ rfl ((t_X4_pop hv6).up (by decide)) ?_
                      refine wk_Hs 5 103 ⟨rfl, rfl⟩ (ls' := [.ref 37, w1, .int x2, .ref 24, .int (x4 + (1 : Int32)), .int x5, .int (s.1 42 (x4.toNatClampNeg)), .int (s.1 43 (x4.toNatClampNeg)), .int v6.1]) (st' := [.ref 37, .int (s.1 42 (x4.toNatClampNeg)), .ref 37, .ref 37]) (σ' := v6.2) rfl ?_
                      obtain ⟨v7, hv7, h⟩ := wk_bindE h
                      refine wk_Hcall (i2 := 104) (args := [.ref 37]) (rest := [.int (s.1 42 (x4.toNatClampNeg)), .ref 37, .ref 37]) (r := some (.int v7.1)) (σ1 := v7.2) rfl rfl ⟨rfl, rfl, rfl, rfl, rfl⟩ rfl ((t_X4_pop hv7).up (by decide)) ?_
                      refine wk_Hs 1 105 ⟨rfl, rfl⟩ (ls' := [.ref 37, w1, .int x2, .ref 24, .int (x4 + (1 : Int32)), .int x5, .int (s.1 42 (x4.toNatClampNeg)), .int (s.1 43 (x4.toNatClampNeg)), .int v6.1]) (st' := [.int v6.1, .int v7.1, .int (s.1 42 (x4.toNatClampNeg)), .ref 37, .ref 37]) (σ' := v7.2) rfl ?_
                      obtain ⟨v8, hv8, h⟩ := wk_bindE h
                      refine wk_Hcall (i2 := 106) (args := [.ref 37, .int (s.1 42 (x4.toNatClampNeg)), .int v7.1, .int v6.1]) (rest := [.ref 37]) (r := some (.int v8.1)) (σ1 := v8.2) rfl rfl ⟨rfl, rfl, rfl, rfl, rfl⟩ rfl ((t_X4_reckon hv8).up (by decide)) ?_
                      obtain ⟨v9, hv9, h⟩ := wk_bindE h
                      refine wk_Hcall (i2 := 107) (args := [.ref 37, .int v8.1]) (rest := []) (r := none) (σ1 := v9) rfl rfl ⟨rfl, rfl, rfl, rfl, rfl⟩ rfl ((t_X4_push hv9).up (by decide)) ?_
                      exact tj_j_X4_run_107_l10 h hk
                    · refine wk_Hbf 96 75 rfl rfl (wk_nf wk_cne hc) ?_
                      refine wk_Hs 1 76 ⟨rfl, rfl⟩ (ls' := [.ref 37, w1, .int x2, .ref 24, .int (x4 + (1 : Int32)), .int x5, .int (s.1 42 (x4.toNatClampNeg)), .int (s.1 43 (x4.toNatClampNeg)), w8]) (st' := [.ref 37]) (σ' := s) rfl ?_
                      obtain ⟨v10, hv10, h⟩ := wk_bindE h
                      refine wk_Hcall (i2 := 77) (args := [.ref 37]) (rest := []) (r := some (.int v10.1)) (σ1 := v10.2) rfl rfl ⟨rfl, rfl, rfl, rfl, rfl⟩ rfl ((t_X4_pop hv10).up (by decide)) ?_
                      refine wk_Hs 2 79 ⟨rfl, rfl⟩ (ls' := [.ref 37, w1, .int x2, .ref 24, .int (x4 + (1 : Int32)), .int x5, .int (s.1 42 (x4.toNatClampNeg)), .int (s.1 43 (x4.toNatClampNeg)), .int v10.1]) (st' := [.int v10.1]) (σ' := v10.2) rfl ?_
                      rcases wk_ife h with ⟨hc, h⟩ | ⟨hc, h⟩
                      · refine wk_H0t 82 rfl (wk_ceq.2 hc) ?_
                        refine wk_Hs 1 83 ⟨rfl, rfl⟩ (ls' := [.ref 37, w1, .int x2, .ref 24, .int (x4 + (1 : Int32)), .int x5, .int (s.1 42 (x4.toNatClampNeg)), .int (s.1 43 (x4.toNatClampNeg)), .int v10.1]) (st' := [.int (0 : Int32)]) (σ' := v10.2) rfl ?_
                        exact tj_j_X4_run_83_l10 h hk
                      · refine wk_H0f 82 80 rfl rfl (wk_nf wk_ceq hc) ?_
                        refine wk_Hs 1 81 ⟨rfl, rfl⟩ (ls' := [.ref 37, w1, .int x2, .ref 24, .int (x4 + (1 : Int32)), .int x5, .int (s.1 42 (x4.toNatClampNeg)), .int (s.1 43 (x4.toNatClampNeg)), .int v10.1]) (st' := [.int (1 : Int32)]) (σ' := v10.2) rfl ?_
                        refine wk_Hgoto (t := 83) rfl ?_
                        exact tj_j_X4_run_83_l10 h hk
                · refine wk_Hbf 69 62 rfl rfl (wk_nf wk_cne hc) ?_
                  refine wk_Hs 3 65 ⟨rfl, rfl⟩ (ls' := [.ref 37, w1, .int x2, .ref 24, .int (x4 + (1 : Int32)), .int x5, .int (s.1 42 (x4.toNatClampNeg)), .int (s.1 43 (x4.toNatClampNeg)), w8]) (st' := [.ref 37, .int (1 : Int32), .ref 37]) (σ' := s) rfl ?_
                  obtain ⟨v11, hv11, h⟩ := wk_bindE h
                  refine wk_Hcall (i2 := 66) (args := [.ref 37]) (rest := [.int (1 : Int32), .ref 37]) (r := some (.int v11.1)) (σ1 := v11.2) rfl rfl ⟨rfl, rfl, rfl, rfl, rfl⟩ rfl ((t_X4_pop hv11).up (by decide)) ?_
                  refine wk_Hs 1 67 ⟨rfl, rfl⟩ (ls' := [.ref 37, w1, .int x2, .ref 24, .int (x4 + (1 : Int32)), .int x5, .int (s.1 42 (x4.toNatClampNeg)), .int (s.1 43 (x4.toNatClampNeg)), w8]) (st' := [.int ((1 : Int32) - v11.1), .ref 37]) (σ' := v11.2) rfl ?_
                  obtain ⟨v12, hv12, h⟩ := wk_bindE h
                  refine wk_Hcall (i2 := 68) (args := [.ref 37, .int ((1 : Int32) - v11.1)]) (rest := []) (r := none) (σ1 := v12) rfl rfl ⟨rfl, rfl, rfl, rfl, rfl⟩ rfl ((t_X4_push hv12).up (by decide)) ?_
                  refine wk_Hgoto (t := 107) rfl ?_
                  exact tj_j_X4_run_107_l10 h hk
              · refine wk_Hbf 59 45 rfl rfl (wk_nf wk_cne hc) ?_
                refine wk_Hs 2 47 ⟨rfl, rfl⟩ (ls' := [.ref 37, w1, .int x2, .ref 24, .int (x4 + (1 : Int32)), .int x5, .int (s.1 42 (x4.toNatClampNeg)), .int (s.1 43 (x4.toNatClampNeg)), w8]) (st' := [.int (s.1 43 (x4.toNatClampNeg)), .ref 37]) (σ' := s) rfl ?_
                rcases wk_ife h with ⟨hc, h⟩ | ⟨hc, h⟩
                · refine wk_H0t 56 rfl (wk_clt.2 hc) ?_
                  refine wk_Hs 1 57 ⟨rfl, rfl⟩ (ls' := [.ref 37, w1, .int x2, .ref 24, .int (x4 + (1 : Int32)), .int x5, .int (s.1 42 (x4.toNatClampNeg)), .int (s.1 43 (x4.toNatClampNeg)), w8]) (st' := [.int (0 : Int32), .ref 37]) (σ' := s) rfl ?_
                  obtain ⟨v13, hv13, h⟩ := wk_bindE h
                  refine wk_Hcall (i2 := 58) (args := [.ref 37, .int (0 : Int32)]) (rest := []) (r := none) (σ1 := v13) rfl rfl ⟨rfl, rfl, rfl, rfl, rfl⟩ rfl ((t_X4_push hv13).up (by decide)) ?_
                  refine wk_Hgoto (t := 107) rfl ?_
                  exact tj_j_X4_run_107_l10 h hk
                · refine wk_H0f 56 48 rfl rfl (wk_nf wk_clt hc) ?_
                  refine wk_Hs 3 51 ⟨rfl, rfl⟩ (ls' := [.ref 37, w1, .int x2, .ref 24, .int (x4 + (1 : Int32)), .int x5, .int (s.1 42 (x4.toNatClampNeg)), .int (s.1 43 (x4.toNatClampNeg)), w8]) (st' := [.int (8 : Int32), .int (s.1 43 (x4.toNatClampNeg)), .ref 37]) (σ' := s) rfl ?_
                  rcases wk_ife h with ⟨hc, h⟩ | ⟨hc, h⟩
                  · refine wk_Hbt 56 rfl (wk_cge.2 hc) ?_
                    refine wk_Hs 1 57 ⟨rfl, rfl⟩ (ls' := [.ref 37, w1, .int x2, .ref 24, .int (x4 + (1 : Int32)), .int x5, .int (s.1 42 (x4.toNatClampNeg)), .int (s.1 43 (x4.toNatClampNeg)), w8]) (st' := [.int (0 : Int32), .ref 37]) (σ' := s) rfl ?_
                    obtain ⟨v14, hv14, h⟩ := wk_bindE h
                    refine wk_Hcall (i2 := 58) (args := [.ref 37, .int (0 : Int32)]) (rest := []) (r := none) (σ1 := v14) rfl rfl ⟨rfl, rfl, rfl, rfl, rfl⟩ rfl ((t_X4_push hv14).up (by decide)) ?_
                    refine wk_Hgoto (t := 107) rfl ?_
                    exact tj_j_X4_run_107_l10 h hk
                  · refine wk_Hbf 56 52 rfl rfl (wk_nf wk_cge hc) ?_
                    refine wk_Hs 2 54 ⟨rfl, rfl⟩ (ls' := [.ref 37, w1, .int x2, .ref 24, .int (x4 + (1 : Int32)), .int x5, .int (s.1 42 (x4.toNatClampNeg)), .int (s.1 43 (x4.toNatClampNeg)), w8]) (st' := [.int (s.1 43 (x4.toNatClampNeg)), .ref 24, .ref 37]) (σ' := s) rfl ?_
                    obtain ⟨hg, h⟩ := wk_gdE h
                    refine wk_Hia 55 rfl rfl rfl hg rfl ?_
                    refine wk_Hgoto (t := 57) rfl ?_
                    obtain ⟨v15, hv15, h⟩ := wk_bindE h
                    refine wk_Hcall (i2 := 58) (args := [.ref 37, .int (s.1 24 ((s.1 43 (x4.toNatClampNeg)).toNatClampNeg))]) (rest := []) (r := none) (σ1 := v15) rfl rfl ⟨rfl, rfl, rfl, rfl, rfl⟩ rfl ((t_X4_push hv15).up (by decide)) ?_
                    refine wk_Hgoto (t := 107) rfl ?_
                    exact tj_j_X4_run_107_l10 h hk
            · refine wk_Hbf 42 38 rfl rfl (wk_nf wk_cne hc) ?_
              refine wk_Hs 2 40 ⟨rfl, rfl⟩ (ls' := [.ref 37, w1, .int x2, .ref 24, .int (x4 + (1 : Int32)), .int x5, .int (s.1 42 (x4.toNatClampNeg)), .int (s.1 43 (x4.toNatClampNeg)), w8]) (st' := [.int (s.1 43 (x4.toNatClampNeg)), .ref 37]) (σ' := s) rfl ?_
              obtain ⟨v16, hv16, h⟩ := wk_bindE h
              refine wk_Hcall (i2 := 41) (args := [.ref 37, .int (s.1 43 (x4.toNatClampNeg))]) (rest := []) (r := none) (σ1 := v16) rfl rfl ⟨rfl, rfl, rfl, rfl, rfl⟩ rfl ((t_X4_push hv16).up (by decide)) ?_
              refine wk_Hgoto (t := 107) rfl ?_
              exact tj_j_X4_run_107_l10 h hk
set_option maxHeartbeats 4000000 in
set_option maxRecDepth 20000 in
theorem tl_S_X4_run_10 {x2 : Int32} {w1 : Value} {z : wk_R} (n : Nat) : ∀ {x4 : Int32} {x5 : Int32} {w6 : Value} {w7 : Value} {w8 : Value} {s : wk_St} {a : wk_St} (h : wk_loop (S_X4_run_10 x2) n (x4, x5, s) = some a) (hk : ∀ (u4 u5 u6 u7 u8 : Value), wk_H wk_shC 1 mc_X4_run 109 [.ref 37, w1, .int x2, .ref 24, u4, u5, u6, u7, u8] [] a z), wk_H wk_shC 1 mc_X4_run 10 [.ref 37, w1, .int x2, .ref 24, .int x4, .int x5, w6, w7, w8] [] s z := by
  induction n with
  | zero =>
    intros
    rename_i h _
    exact nomatch (show (none : Option _) = some _ from h)
  | succ n ih =>
    intros
    rename_i h hk
    obtain ⟨o, ho, h⟩ := wk_bindE (show Option.bind _ _ = some _ from h)
    refine ts_S_X4_run_10 ho ?_
    cases o with
    | inl a1 =>
      cases h
      exact hk
    | inr p =>
      obtain ⟨p0, p1, p2⟩ := p
      exact fun _ _ _ => ih h hk
set_option maxHeartbeats 4000000 in
set_option maxRecDepth 20000 in
theorem tj_j_X4_run_109 {w1 : Value} {w2 : Value} {w3 : Value} {w4 : Value} {w5 : Value} {w6 : Value} {w7 : Value} {w8 : Value} {s : wk_St} {z : wk_R} {o : Int32 × wk_St} (h : j_X4_run_109 s = some o) (hk : z = (some (.int o.1), o.2)) : wk_H wk_shC 1 mc_X4_run 109 [.ref 37, w1, w2, w3, w4, w5, w6, w7, w8] [] s z := by
  dsimp only [j_X4_run_109] at h
  refine wk_Hs 1 110 ⟨rfl, rfl⟩ (ls' := [.ref 37, w1, w2, w3, w4, w5, w6, w7, w8]) (st' := [.ref 37]) (σ' := s) rfl ?_
  obtain ⟨v23, hv23, h⟩ := wk_bindE h
  refine wk_Hcall (i2 := 111) (args := [.ref 37]) (rest := []) (r := some (.int v23.1)) (σ1 := v23.2) rfl rfl ⟨rfl, rfl, rfl, rfl, rfl⟩ rfl ((t_X4_pop hv23).up (by decide)) ?_
  refine wk_Hs 3 114 ⟨rfl, rfl⟩ (ls' := [.ref 37, w1, w2, w3, (wk_cl w4), .int v23.1, w6, w7, w8]) (st' := [.int (v23.2.1 37 10)]) (σ' := v23.2) rfl ?_
  rcases wk_ife h with ⟨hc, h⟩ | ⟨hc, h⟩
  · refine wk_H0t 117 rfl (wk_ceq.2 hc) ?_
    refine wk_Hs 1 118 ⟨rfl, rfl⟩ (ls' := [.ref 37, w1, w2, w3, (wk_cl w4), .int v23.1, w6, w7, w8]) (st' := [.int v23.1]) (σ' := v23.2) rfl ?_
    cases h
    exact wk_eqz hk (wk_Hret rfl)
  · refine wk_H0f 117 115 rfl rfl (wk_nf wk_ceq hc) ?_
    refine wk_Hs 1 116 ⟨rfl, rfl⟩ (ls' := [.ref 37, w1, w2, w3, (wk_cl w4), .int v23.1, w6, w7, w8]) (st' := [.int (0 : Int32)]) (σ' := v23.2) rfl ?_
    refine wk_Hgoto (t := 118) rfl ?_
    cases h
    exact wk_eqz hk (wk_Hret rfl)
set_option maxHeartbeats 4000000 in
set_option maxRecDepth 20000 in
theorem t_X4_run {x1 : Int32} {x2 : Int32} {s : wk_St} {r : Int32 × wk_St} (h : f_X4_run x1 x2 s = some r) : wk_T wk_shC 1 204 [.ref 37, .int x1, .int x2, .ref 24] s (some (.int r.1), r.2) := by
  suffices H : ∀ z, z = (some (.int r.1), r.2) → wk_H wk_shC 1 mc_X4_run 0 [.ref 37, .int x1, .int x2, .ref 24, wk_U, wk_U, wk_U, wk_U, wk_U] [] s z from H _ rfl
  intro z hk
  dsimp only [f_X4_run] at h
  refine wk_Hs 2 2 ⟨rfl, rfl⟩ (ls' := [.ref 37, .int x1, .int x2, .ref 24, wk_U, wk_U, wk_U, wk_U, wk_U]) (st' := [.int (0 : Int32), .ref 37]) (σ' := s) rfl ?_
  refine wk_Hpz 3 10 rfl rfl rfl rfl rfl rfl (by decide) ?_
  refine wk_Hs 7 10 ⟨rfl, rfl⟩ (ls' := [.ref 37, .int x1, .int x2, .ref 24, .int x1, .int (0 : Int32), wk_U, wk_U, wk_U]) (st' := []) (σ' := (wk_si (wk_si s 37 10 (0 : Int32)) 37 9 (0 : Int32))) rfl ?_
  obtain ⟨v17, hv17, h⟩ := wk_bindE h
  refine tl_S_X4_run_10 wk_F hv17 ?_
  intro g18 g19 g20 g21 g22
  exact tj_j_X4_run_109 h hk
set_option maxHeartbeats 4000000 in
set_option maxRecDepth 20000 in
theorem t_J9_max_7cf53 {x0 : Int32} {x1 : Int32} {s : wk_St} {r : Int32} (h : f_J9_max_7cf53 x0 x1 = r) : wk_T wk_shC 0 258 [.int x0, .int x1] s (some (.int r), s) := by
  suffices H : ∀ z, z = (some (.int r), s) → wk_H wk_shC 0 mc_J9_max_7cf53 0 [.int x0, .int x1] [] s z from H _ rfl
  intro z hk
  dsimp only [f_J9_max_7cf53] at h
  refine wk_Hs 2 2 ⟨rfl, rfl⟩ (ls' := [.int x0, .int x1]) (st' := [.int x1, .int x0]) (σ' := s) rfl ?_
  rcases wk_ife h with ⟨hc, h⟩ | ⟨hc, h⟩
  · refine wk_Hbt 5 rfl (wk_clt.2 hc) ?_
    refine wk_Hs 1 6 ⟨rfl, rfl⟩ (ls' := [.int x0, .int x1]) (st' := [.int x1]) (σ' := s) rfl ?_
    cases h
    exact wk_eqz hk (wk_Hret rfl)
  · refine wk_Hbf 5 3 rfl rfl (wk_nf wk_clt hc) ?_
    refine wk_Hs 1 4 ⟨rfl, rfl⟩ (ls' := [.int x0, .int x1]) (st' := [.int x0]) (σ' := s) rfl ?_
    refine wk_Hgoto (t := 6) rfl ?_
    cases h
    exact wk_eqz hk (wk_Hret rfl)
set_option maxHeartbeats 4000000 in
set_option maxRecDepth 20000 in
theorem t_J9_min_7cf53 {x0 : Int32} {x1 : Int32} {s : wk_St} {r : Int32} (h : f_J9_min_7cf53 x0 x1 = r) : wk_T wk_shC 0 259 [.int x0, .int x1] s (some (.int r), s) := by
  suffices H : ∀ z, z = (some (.int r), s) → wk_H wk_shC 0 mc_J9_min_7cf53 0 [.int x0, .int x1] [] s z from H _ rfl
  intro z hk
  dsimp only [f_J9_min_7cf53] at h
  refine wk_Hs 2 2 ⟨rfl, rfl⟩ (ls' := [.int x0, .int x1]) (st' := [.int x1, .int x0]) (σ' := s) rfl ?_
  rcases wk_ife h with ⟨hc, h⟩ | ⟨hc, h⟩
  · refine wk_Hbt 5 rfl (wk_cgt.2 hc) ?_
    refine wk_Hs 1 6 ⟨rfl, rfl⟩ (ls' := [.int x0, .int x1]) (st' := [.int x1]) (σ' := s) rfl ?_
    cases h
    exact wk_eqz hk (wk_Hret rfl)
  · refine wk_Hbf 5 3 rfl rfl (wk_nf wk_cgt hc) ?_
    refine wk_Hs 1 4 ⟨rfl, rfl⟩ (ls' := [.int x0, .int x1]) (st' := [.int x0]) (σ' := s) rfl ?_
    refine wk_Hgoto (t := 6) rfl ?_
    cases h
    exact wk_eqz hk (wk_Hret rfl)
set_option maxHeartbeats 4000000 in
set_option maxRecDepth 20000 in
theorem ts_S_X4_valueOf_2 {x1 : Int32} {x3 : Int32} {x4 : Int32} {w5 : Value} {s : wk_St} {z : wk_R} {o : ((Int32 × wk_St) ⊕ (wk_St)) ⊕ (Int32 × wk_St)} (h : S_X4_valueOf_2 x1 x3 (x4, s) = some o) (hk : match (generalizing := false) o with | Sum.inl a => (match (generalizing := false) a with | Sum.inl r => z = (some (.int r.1), r.2) | Sum.inr y => ∀ (u4 : Value), wk_H wk_shC 2 mc_X4_valueOf 47 [.ref 37, .int x1, .ref 24, .int x3, u4, w5] [] y z) | Sum.inr y => wk_H wk_shC 2 mc_X4_valueOf 2 [.ref 37, .int x1, .ref 24, .int x3, .int y.1, w5] [] y.2 z) : wk_H wk_shC 2 mc_X4_valueOf 2 [.ref 37, .int x1, .ref 24, .int x3, .int x4, w5] [] s z := by
  dsimp only [S_X4_valueOf_2] at h
  refine wk_Hs 3 5 ⟨rfl, rfl⟩ (ls' := [.ref 37, .int x1, .ref 24, .int x3, .int x4, w5]) (st' := [.int (s.1 37 7), .int x4]) (σ' := s) rfl ?_
  rcases wk_ife h with ⟨hc, h⟩ | ⟨hc, h⟩
  · refine wk_Hbt 47 rfl (wk_cge.2 hc) ?_
    cases h
    exact hk _
  · refine wk_Hbf 47 6 rfl rfl (wk_nf wk_cge hc) ?_
    refine wk_Hs 2 8 ⟨rfl, rfl⟩ (ls' := [.ref 37, .int x1, .ref 24, .int x3, .int x4, w5]) (st' := [.int (16 : Int32), .int x4]) (σ' := s) rfl ?_
    rcases wk_ife h with ⟨hc, h⟩ | ⟨hc, h⟩
    · refine wk_Hbt 47 rfl (wk_cge.2 hc) ?_
      cases h
      exact hk _
    · refine wk_Hbf 47 9 rfl rfl (wk_nf wk_cge hc) ?_
      refine wk_Hs 3 12 ⟨rfl, rfl⟩ (ls' := [.ref 37, .int x1, .ref 24, .int x3, .int x4, w5]) (st' := [.int x4, .ref 38]) (σ' := s) rfl ?_
      obtain ⟨hg, h⟩ := wk_gdE h
      refine wk_Hia 13 rfl rfl rfl hg rfl ?_
      refine wk_Hs 1 14 ⟨rfl, rfl⟩ (ls' := [.ref 37, .int x1, .ref 24, .int x3, .int x4, w5]) (st' := [.int x1, .int (s.1 38 (x4.toNatClampNeg))]) (σ' := s) rfl ?_
      rcases wk_ife h with ⟨hc, h⟩ | ⟨hc, h⟩
      · refine wk_Hbt 45 rfl (wk_cne.2 hc) ?_
        refine wk_Hs 1 46 ⟨rfl, rfl⟩ (ls' := [.ref 37, .int x1, .ref 24, .int x3, .int (x4 + (1 : Int32)), w5]) (st' := []) (σ' := s) rfl ?_
        refine wk_Hgoto (t := 2) rfl ?_
        cases h
        exact hk
      · refine wk_Hbf 45 15 rfl rfl (wk_nf wk_cne hc) ?_
        refine wk_Hs 4 19 ⟨rfl, rfl⟩ (ls' := [.ref 37, .int x1, .ref 24, .int x3, .int x4, w5]) (st' := [.int x4, .ref 40, .ref 37]) (σ' := s) rfl ?_
        obtain ⟨hg, h⟩ := wk_gdE h
        refine wk_Hia 20 rfl rfl rfl hg rfl ?_
        refine wk_Hs 3 23 ⟨rfl, rfl⟩ (ls' := [.ref 37, .int x1, .ref 24, .int x3, .int x4, w5]) (st' := [.int x4, .ref 41, .int (s.1 40 (x4.toNatClampNeg)), .ref 37]) (σ' := s) rfl ?_
        obtain ⟨hg, h⟩ := wk_gdE h
        refine wk_Hia 24 rfl rfl rfl hg rfl ?_
        refine wk_Hs 1 25 ⟨rfl, rfl⟩ (ls' := [.ref 37, .int x1, .ref 24, .int x3, .int x4, w5]) (st' := [.ref 24, .int (s.1 41 (x4.toNatClampNeg)), .int (s.1 40 (x4.toNatClampNeg)), .ref 37]) (σ' := s) rfl ?_
        obtain ⟨v1, hv1, h⟩ := wk_bindE h
        refine wk_Hcall (i2 := 26) (args := [.ref 37, .int (s.1 40 (x4.toNatClampNeg)), .int (s.1 41 (x4.toNatClampNeg)), .ref 24]) (rest := []) (r := some (.int v1.1)) (σ1 := v1.2) rfl rfl ⟨rfl, rfl, rfl, rfl, rfl⟩ rfl ((t_X4_run hv1).up (by decide)) ?_
        rcases wk_ife h with ⟨hc, h⟩ | ⟨hc, h⟩
        · refine wk_H0t 45 rfl (wk_ceq.2 hc) ?_
          refine wk_Hs 1 46 ⟨rfl, rfl⟩ (ls' := [.ref 37, .int x1, .ref 24, .int x3, .int (x4 + (1 : Int32)), w5]) (st' := []) (σ' := v1.2) rfl ?_
          refine wk_Hgoto (t := 2) rfl ?_
          cases h
          exact hk
        · refine wk_H0f 45 27 rfl rfl (wk_nf wk_ceq hc) ?_
          refine wk_Hs 4 31 ⟨rfl, rfl⟩ (ls' := [.ref 37, .int x1, .ref 24, .int x3, .int x4, w5]) (st' := [.int x4, .ref 39, .ref 37]) (σ' := v1.2) rfl ?_
          obtain ⟨hg, h⟩ := wk_gdE h
          refine wk_Hia 32 rfl rfl rfl hg rfl ?_
          refine wk_Hs 3 35 ⟨rfl, rfl⟩ (ls' := [.ref 37, .int x1, .ref 24, .int x3, .int x4, w5]) (st' := [.int x4, .ref 40, .int (v1.2.1 39 (x4.toNatClampNeg)), .ref 37]) (σ' := v1.2) rfl ?_
          obtain ⟨hg, h⟩ := wk_gdE h
          refine wk_Hia 36 rfl rfl rfl hg rfl ?_
          refine wk_Hs 1 37 ⟨rfl, rfl⟩ (ls' := [.ref 37, .int x1, .ref 24, .int x3, .int x4, w5]) (st' := [.ref 24, .int (v1.2.1 40 (x4.toNatClampNeg)), .int (v1.2.1 39 (x4.toNatClampNeg)), .ref 37]) (σ' := v1.2) rfl ?_
          obtain ⟨v2, hv2, h⟩ := wk_bindE h
          refine wk_Hcall (i2 := 38) (args := [.ref 37, .int (v1.2.1 39 (x4.toNatClampNeg)), .int (v1.2.1 40 (x4.toNatClampNeg)), .ref 24]) (rest := []) (r := some (.int v2.1)) (σ1 := v2.2) rfl rfl ⟨rfl, rfl, rfl, rfl, rfl⟩ rfl ((t_X4_run hv2).up (by decide)) ?_
          refine wk_Hs 4 42 ⟨rfl, rfl⟩ (ls' := [.ref 37, .int x1, .ref 24, .int x3, .int x4, .int v2.1]) (st' := [.int v2.1, .int x3, .int (0 : Int32)]) (σ' := v2.2) rfl ?_
          refine wk_Hcall (i2 := 43) (args := [.int x3, .int v2.1]) (rest := [.int (0 : Int32)]) (r := some (.int (f_J9_min_7cf53 x3 v2.1))) (σ1 := v2.2) rfl rfl ⟨rfl, rfl, rfl, rfl, rfl⟩ rfl ((t_J9_min_7cf53 rfl).up (by decide)) ?_
          refine wk_Hcall (i2 := 44) (args := [.int (0 : Int32), .int (f_J9_min_7cf53 x3 v2.1)]) (rest := []) (r := some (.int (f_J9_max_7cf53 (0 : Int32) (f_J9_min_7cf53 x3 v2.1)))) (σ1 := v2.2) rfl rfl ⟨rfl, rfl, rfl, rfl, rfl⟩ rfl ((t_J9_max_7cf53 rfl).up (by decide)) ?_
          cases h
          exact wk_eqz hk (wk_Hret rfl)
set_option maxHeartbeats 4000000 in
set_option maxRecDepth 20000 in
theorem tl_S_X4_valueOf_2 {x1 : Int32} {x3 : Int32} {w5 : Value} {z : wk_R} (n : Nat) : ∀ {x4 : Int32} {s : wk_St} {a : (Int32 × wk_St) ⊕ (wk_St)} (h : wk_loop (S_X4_valueOf_2 x1 x3) n (x4, s) = some a) (hk : match (generalizing := false) a with | Sum.inl r => z = (some (.int r.1), r.2) | Sum.inr y => ∀ (u4 : Value), wk_H wk_shC 2 mc_X4_valueOf 47 [.ref 37, .int x1, .ref 24, .int x3, u4, w5] [] y z), wk_H wk_shC 2 mc_X4_valueOf 2 [.ref 37, .int x1, .ref 24, .int x3, .int x4, w5] [] s z := by
  induction n with
  | zero =>
    intros
    rename_i h _
    exact nomatch (show (none : Option _) = some _ from h)
  | succ n ih =>
    intros
    rename_i h hk
    obtain ⟨o, ho, h⟩ := wk_bindE (show Option.bind _ _ = some _ from h)
    refine ts_S_X4_valueOf_2 ho ?_
    cases o with
    | inl a1 =>
      cases h
      exact hk
    | inr p =>
      obtain ⟨p0, p1⟩ := p
      exact ih h hk
set_option maxHeartbeats 4000000 in
set_option maxRecDepth 20000 in
theorem t_X4_valueOf {x1 : Int32} {x3 : Int32} {s : wk_St} {r : Int32 × wk_St} (h : f_X4_valueOf x1 x3 s = some r) : wk_T wk_shC 2 202 [.ref 37, .int x1, .ref 24, .int x3] s (some (.int r.1), r.2) := by
  suffices H : ∀ z, z = (some (.int r.1), r.2) → wk_H wk_shC 2 mc_X4_valueOf 0 [.ref 37, .int x1, .ref 24, .int x3, wk_U, wk_U] [] s z from H _ rfl
  intro z hk
  dsimp only [f_X4_valueOf] at h
  refine wk_Hs 2 2 ⟨rfl, rfl⟩ (ls' := [.ref 37, .int x1, .ref 24, .int x3, .int (0 : Int32), wk_U]) (st' := []) (σ' := s) rfl ?_
  obtain ⟨v5, hv5, h⟩ := wk_bindE h
  rcases v5 with v5r | v5
  · cases h
    exact tl_S_X4_valueOf_2 wk_F hv5 hk
  · refine tl_S_X4_valueOf_2 wk_F hv5 ?_
    intro g6
    dsimp only at h ⊢
    refine wk_Hs 1 48 ⟨rfl, rfl⟩ (ls' := [.ref 37, .int x1, .ref 24, .int x3, g6, wk_U]) (st' := [.int (0 : Int32)]) (σ' := v5) rfl ?_
    cases h
    exact wk_eqz hk (wk_Hret rfl)
set_option maxHeartbeats 4000000 in
set_option maxRecDepth 20000 in
theorem tj_j_X0_othersAt_21_l4_8 {x1 : Int32} {x2 : Int32} {x3 : Int32} {x4 : Int32} {s_0 : Int32} {w5 : Value} {s : wk_St} {z : wk_R} {o : (Int32) ⊕ (Int32 × Int32)} (h : j_X0_othersAt_21_l4 8 x1 x2 x3 x4 s_0 s = some o) (hk : match (generalizing := false) o with | Sum.inl a => (∀ (u4 u5 : Value), wk_H wk_shC 1 mc_X0_othersAt 41 [.ref 8, .int x1, .int x2, .int a, u4, u5] [] s z) | Sum.inr y => ∀ (u5 : Value), wk_H wk_shC 1 mc_X0_othersAt 4 [.ref 8, .int x1, .int x2, .int y.1, .int y.2, u5] [] s z) : wk_H wk_shC 1 mc_X0_othersAt 21 [.ref 8, .int x1, .int x2, .int x3, .int x4, w5] [.int s_0] s z := by
  dsimp only [j_X0_othersAt_21_l4] at h
  refine wk_Hs 3 24 ⟨rfl, rfl⟩ (ls' := [.ref 8, .int x1, .int x2, .int x3, .int x4, .int s_0]) (st' := [.int s_0, .int x3]) (σ' := s) rfl ?_
  rcases wk_ife h with ⟨hc, h⟩ | ⟨hc, h⟩
  · refine wk_H0t 36 rfl (wk_ceq.2 hc) ?_
    refine wk_Hs 2 38 ⟨rfl, rfl⟩ (ls' := [.ref 8, .int x1, .int x2, .int x3, .int x4, .int s_0]) (st' := [.int (x3 + (0 : Int32))]) (σ' := s) rfl ?_
    replace h := wk_letE h
    refine wk_Hs 2 40 ⟨rfl, rfl⟩ (ls' := [.ref 8, .int x1, .int x2, .int (x3 + (0 : Int32)), .int (x4 + (1 : Int32)), .int s_0]) (st' := []) (σ' := s) rfl ?_
    refine wk_Hgoto (t := 4) rfl ?_
    cases h
    exact hk _
  · refine wk_H0f 36 25 rfl rfl (wk_nf wk_ceq hc) ?_
    refine wk_Hs 2 27 ⟨rfl, rfl⟩ (ls' := [.ref 8, .int x1, .int x2, .int x3, .int x4, .int s_0]) (st' := [.int x1, .int x4, .int x3]) (σ' := s) rfl ?_
    rcases wk_ife h with ⟨hc, h⟩ | ⟨hc, h⟩
    · refine wk_Hbt 36 rfl (wk_ceq.2 hc) ?_
      refine wk_Hs 2 38 ⟨rfl, rfl⟩ (ls' := [.ref 8, .int x1, .int x2, .int x3, .int x4, .int s_0]) (st' := [.int (x3 + (0 : Int32))]) (σ' := s) rfl ?_
      replace h := wk_letE h
      refine wk_Hs 2 40 ⟨rfl, rfl⟩ (ls' := [.ref 8, .int x1, .int x2, .int (x3 + (0 : Int32)), .int (x4 + (1 : Int32)), .int s_0]) (st' := []) (σ' := s) rfl ?_
      refine wk_Hgoto (t := 4) rfl ?_
      cases h
      exact hk _
    · refine wk_Hbf 36 28 rfl rfl (wk_nf wk_ceq hc) ?_
      refine wk_Hs 3 31 ⟨rfl, rfl⟩ (ls' := [.ref 8, .int x1, .int x2, .int x3, .int x4, .int s_0]) (st' := [.int x4, .ref 9, .int x3]) (σ' := s) rfl ?_
      obtain ⟨hg, h⟩ := wk_gdE h
      refine wk_Hia 32 rfl rfl rfl hg rfl ?_
      refine wk_Hs 1 33 ⟨rfl, rfl⟩ (ls' := [.ref 8, .int x1, .int x2, .int x3, .int x4, .int s_0]) (st' := [.int x2, .int (s.1 9 (x4.toNatClampNeg)), .int x3]) (σ' := s) rfl ?_
      rcases wk_ife h with ⟨hc, h⟩ | ⟨hc, h⟩
      · refine wk_Hbt 36 rfl (wk_cne.2 hc) ?_
        refine wk_Hs 2 38 ⟨rfl, rfl⟩ (ls' := [.ref 8, .int x1, .int x2, .int x3, .int x4, .int s_0]) (st' := [.int (x3 + (0 : Int32))]) (σ' := s) rfl ?_
        replace h := wk_letE h
        refine wk_Hs 2 40 ⟨rfl, rfl⟩ (ls' := [.ref 8, .int x1, .int x2, .int (x3 + (0 : Int32)), .int (x4 + (1 : Int32)), .int s_0]) (st' := []) (σ' := s) rfl ?_
        refine wk_Hgoto (t := 4) rfl ?_
        cases h
        exact hk _
      · refine wk_Hbf 36 34 rfl rfl (wk_nf wk_cne hc) ?_
        refine wk_Hs 1 35 ⟨rfl, rfl⟩ (ls' := [.ref 8, .int x1, .int x2, .int x3, .int x4, .int s_0]) (st' := [.int (1 : Int32), .int x3]) (σ' := s) rfl ?_
        refine wk_Hgoto (t := 37) rfl ?_
        refine wk_Hs 1 38 ⟨rfl, rfl⟩ (ls' := [.ref 8, .int x1, .int x2, .int x3, .int x4, .int s_0]) (st' := [.int (x3 + (1 : Int32))]) (σ' := s) rfl ?_
        replace h := wk_letE h
        refine wk_Hs 2 40 ⟨rfl, rfl⟩ (ls' := [.ref 8, .int x1, .int x2, .int (x3 + (1 : Int32)), .int (x4 + (1 : Int32)), .int s_0]) (st' := []) (σ' := s) rfl ?_
        refine wk_Hgoto (t := 4) rfl ?_
        cases h
        exact hk _
set_option maxHeartbeats 4000000 in
set_option maxRecDepth 20000 in
theorem ts_S_X0_othersAt_4_8 {x1 : Int32} {x2 : Int32} {x3 : Int32} {x4 : Int32} {w5 : Value} {s : wk_St} {z : wk_R} {o : (Int32) ⊕ (Int32 × Int32)} (h : S_X0_othersAt_4 8 x1 x2 s (x3, x4) = some o) (hk : match (generalizing := false) o with | Sum.inl a => (∀ (u4 u5 : Value), wk_H wk_shC 1 mc_X0_othersAt 41 [.ref 8, .int x1, .int x2, .int a, u4, u5] [] s z) | Sum.inr y => ∀ (u5 : Value), wk_H wk_shC 1 mc_X0_othersAt 4 [.ref 8, .int x1, .int x2, .int y.1, .int y.2, u5] [] s z) : wk_H wk_shC 1 mc_X0_othersAt 4 [.ref 8, .int x1, .int x2, .int x3, .int x4, w5] [] s z := by
  dsimp only [S_X0_othersAt_4] at h
  refine wk_Hs 2 6 ⟨rfl, rfl⟩ (ls' := [.ref 8, .int x1, .int x2, .int x3, .int x4, w5]) (st' := [.int (9 : Int32), .int x4]) (σ' := s) rfl ?_
  rcases wk_ife h with ⟨hc, h⟩ | ⟨hc, h⟩
  · refine wk_Hbt 41 rfl (wk_cge.2 hc) ?_
    cases h
    exact hk _ _
  · refine wk_Hbf 41 7 rfl rfl (wk_nf wk_cge hc) ?_
    refine wk_Hs 3 10 ⟨rfl, rfl⟩ (ls' := [.ref 8, .int x1, .int x2, .int x3, .int x4, w5]) (st' := [.int x4, .int (s.1 8 4)]) (σ' := s) rfl ?_
    refine wk_Hcall (i2 := 11) (args := [.int (s.1 8 4), .int x4]) (rest := []) (r := some (.int (b2i (f_X11_hasBit (s.1 8 4) x4)))) (σ1 := s) rfl rfl ⟨rfl, rfl, rfl, rfl, rfl⟩ rfl ((t_X11_hasBit rfl).up (by decide)) ?_
    rcases wk_ife h with ⟨hc, h⟩ | ⟨hc, h⟩
    · refine wk_H0t 20 rfl (wk_zeq.2 hc) ?_
      refine wk_Hs 1 21 ⟨rfl, rfl⟩ (ls' := [.ref 8, .int x1, .int x2, .int x3, .int x4, w5]) (st' := [.int (0 : Int32)]) (σ' := s) rfl ?_
      exact tj_j_X0_othersAt_21_l4_8 h hk
    · refine wk_H0f 20 12 rfl rfl (wk_nf wk_zeq hc) ?_
      refine wk_Hs 3 15 ⟨rfl, rfl⟩ (ls' := [.ref 8, .int x1, .int x2, .int x3, .int x4, w5]) (st' := [.int x4, .ref 11]) (σ' := s) rfl ?_
      obtain ⟨hg, h⟩ := wk_gdE h
      refine wk_Hia 16 rfl rfl rfl hg rfl ?_
      refine wk_Hs 1 17 ⟨rfl, rfl⟩ (ls' := [.ref 8, .int x1, .int x2, .int x3, .int x4, w5]) (st' := [.int (2 : Int32), .int (s.1 11 (x4.toNatClampNeg))]) (σ' := s) rfl ?_
      rcases wk_ife h with ⟨hc, h⟩ | ⟨hc, h⟩
      · refine wk_Hbt 20 rfl (wk_ceq.2 hc) ?_
        refine wk_Hs 1 21 ⟨rfl, rfl⟩ (ls' := [.ref 8, .int x1, .int x2, .int x3, .int x4, w5]) (st' := [.int (0 : Int32)]) (σ' := s) rfl ?_
        exact tj_j_X0_othersAt_21_l4_8 h hk
      · refine wk_Hbf 20 18 rfl rfl (wk_nf wk_ceq hc) ?_
        refine wk_Hs 1 19 ⟨rfl, rfl⟩ (ls' := [.ref 8, .int x1, .int x2, .int x3, .int x4, w5]) (st' := [.int (1 : Int32)]) (σ' := s) rfl ?_
        refine wk_Hgoto (t := 21) rfl ?_
        exact tj_j_X0_othersAt_21_l4_8 h hk
set_option maxHeartbeats 4000000 in
set_option maxRecDepth 20000 in
theorem tl_S_X0_othersAt_4_8 {x1 : Int32} {x2 : Int32} {s : wk_St} {z : wk_R} (n : Nat) : ∀ {x3 : Int32} {x4 : Int32} {w5 : Value} {a : Int32} (h : wk_loop (S_X0_othersAt_4 8 x1 x2 s) n (x3, x4) = some a) (hk : ∀ (u4 u5 : Value), wk_H wk_shC 1 mc_X0_othersAt 41 [.ref 8, .int x1, .int x2, .int a, u4, u5] [] s z), wk_H wk_shC 1 mc_X0_othersAt 4 [.ref 8, .int x1, .int x2, .int x3, .int x4, w5] [] s z := by
  induction n with
  | zero =>
    intros
    rename_i h _
    exact nomatch (show (none : Option _) = some _ from h)
  | succ n ih =>
    intros
    rename_i h hk
    obtain ⟨o, ho, h⟩ := wk_bindE (show Option.bind _ _ = some _ from h)
    refine ts_S_X0_othersAt_4_8 ho ?_
    cases o with
    | inl a1 =>
      cases h
      exact hk
    | inr p =>
      obtain ⟨p0, p1⟩ := p
      exact fun _ => ih h hk
set_option maxHeartbeats 4000000 in
set_option maxRecDepth 20000 in
theorem t_X0_othersAt_8 {x1 : Int32} {x2 : Int32} {s : wk_St} {r : Int32} (h : f_X0_othersAt 8 x1 x2 s = some r) : wk_T wk_shC 1 163 [.ref 8, .int x1, .int x2] s (some (.int r), s) := by
  suffices H : ∀ z, z = (some (.int r), s) → wk_H wk_shC 1 mc_X0_othersAt 0 [.ref 8, .int x1, .int x2, wk_U, wk_U, wk_U] [] s z from H _ rfl
  intro z hk
  dsimp only [f_X0_othersAt] at h
  refine wk_Hs 4 4 ⟨rfl, rfl⟩ (ls' := [.ref 8, .int x1, .int x2, .int (0 : Int32), .int (0 : Int32), wk_U]) (st' := []) (σ' := s) rfl ?_
  obtain ⟨v6, hv6, h⟩ := wk_bindE h
  refine tl_S_X0_othersAt_4_8 wk_F hv6 ?_
  intro g7 g8
  refine wk_Hs 1 42 ⟨rfl, rfl⟩ (ls' := [.ref 8, .int x1, .int x2, .int v6, g7, g8]) (st' := [.int v6]) (σ' := s) rfl ?_
  cases h
  exact wk_eqz hk (wk_Hret rfl)
set_option maxHeartbeats 4000000 in
set_option maxRecDepth 20000 in
theorem tj_j_X0_othersAt_21_l4_18 {x1 : Int32} {x2 : Int32} {x3 : Int32} {x4 : Int32} {s_0 : Int32} {w5 : Value} {s : wk_St} {z : wk_R} {o : (Int32) ⊕ (Int32 × Int32)} (h : j_X0_othersAt_21_l4 18 x1 x2 x3 x4 s_0 s = some o) (hk : match (generalizing := false) o with | Sum.inl a => (∀ (u4 u5 : Value), wk_H wk_shC 1 mc_X0_othersAt 41 [.ref 18, .int x1, .int x2, .int a, u4, u5] [] s z) | Sum.inr y => ∀ (u5 : Value), wk_H wk_shC 1 mc_X0_othersAt 4 [.ref 18, .int x1, .int x2, .int y.1, .int y.2, u5] [] s z) : wk_H wk_shC 1 mc_X0_othersAt 21 [.ref 18, .int x1, .int x2, .int x3, .int x4, w5] [.int s_0] s z := by
  dsimp only [j_X0_othersAt_21_l4] at h
  refine wk_Hs 3 24 ⟨rfl, rfl⟩ (ls' := [.ref 18, .int x1, .int x2, .int x3, .int x4, .int s_0]) (st' := [.int s_0, .int x3]) (σ' := s) rfl ?_
  rcases wk_ife h with ⟨hc, h⟩ | ⟨hc, h⟩
  · refine wk_H0t 36 rfl (wk_ceq.2 hc) ?_
    refine wk_Hs 2 38 ⟨rfl, rfl⟩ (ls' := [.ref 18, .int x1, .int x2, .int x3, .int x4, .int s_0]) (st' := [.int (x3 + (0 : Int32))]) (σ' := s) rfl ?_
    replace h := wk_letE h
    refine wk_Hs 2 40 ⟨rfl, rfl⟩ (ls' := [.ref 18, .int x1, .int x2, .int (x3 + (0 : Int32)), .int (x4 + (1 : Int32)), .int s_0]) (st' := []) (σ' := s) rfl ?_
    refine wk_Hgoto (t := 4) rfl ?_
    cases h
    exact hk _
  · refine wk_H0f 36 25 rfl rfl (wk_nf wk_ceq hc) ?_
    refine wk_Hs 2 27 ⟨rfl, rfl⟩ (ls' := [.ref 18, .int x1, .int x2, .int x3, .int x4, .int s_0]) (st' := [.int x1, .int x4, .int x3]) (σ' := s) rfl ?_
    rcases wk_ife h with ⟨hc, h⟩ | ⟨hc, h⟩
    · refine wk_Hbt 36 rfl (wk_ceq.2 hc) ?_
      refine wk_Hs 2 38 ⟨rfl, rfl⟩ (ls' := [.ref 18, .int x1, .int x2, .int x3, .int x4, .int s_0]) (st' := [.int (x3 + (0 : Int32))]) (σ' := s) rfl ?_
      replace h := wk_letE h
      refine wk_Hs 2 40 ⟨rfl, rfl⟩ (ls' := [.ref 18, .int x1, .int x2, .int (x3 + (0 : Int32)), .int (x4 + (1 : Int32)), .int s_0]) (st' := []) (σ' := s) rfl ?_
      refine wk_Hgoto (t := 4) rfl ?_
      cases h
      exact hk _
    · refine wk_Hbf 36 28 rfl rfl (wk_nf wk_ceq hc) ?_
      refine wk_Hs 3 31 ⟨rfl, rfl⟩ (ls' := [.ref 18, .int x1, .int x2, .int x3, .int x4, .int s_0]) (st' := [.int x4, .ref 19, .int x3]) (σ' := s) rfl ?_
      obtain ⟨hg, h⟩ := wk_gdE h
      refine wk_Hia 32 rfl rfl rfl hg rfl ?_
      refine wk_Hs 1 33 ⟨rfl, rfl⟩ (ls' := [.ref 18, .int x1, .int x2, .int x3, .int x4, .int s_0]) (st' := [.int x2, .int (s.1 19 (x4.toNatClampNeg)), .int x3]) (σ' := s) rfl ?_
      rcases wk_ife h with ⟨hc, h⟩ | ⟨hc, h⟩
      · refine wk_Hbt 36 rfl (wk_cne.2 hc) ?_
        refine wk_Hs 2 38 ⟨rfl, rfl⟩ (ls' := [.ref 18, .int x1, .int x2, .int x3, .int x4, .int s_0]) (st' := [.int (x3 + (0 : Int32))]) (σ' := s) rfl ?_
        replace h := wk_letE h
        refine wk_Hs 2 40 ⟨rfl, rfl⟩ (ls' := [.ref 18, .int x1, .int x2, .int (x3 + (0 : Int32)), .int (x4 + (1 : Int32)), .int s_0]) (st' := []) (σ' := s) rfl ?_
        refine wk_Hgoto (t := 4) rfl ?_
        cases h
        exact hk _
      · refine wk_Hbf 36 34 rfl rfl (wk_nf wk_cne hc) ?_
        refine wk_Hs 1 35 ⟨rfl, rfl⟩ (ls' := [.ref 18, .int x1, .int x2, .int x3, .int x4, .int s_0]) (st' := [.int (1 : Int32), .int x3]) (σ' := s) rfl ?_
        refine wk_Hgoto (t := 37) rfl ?_
        refine wk_Hs 1 38 ⟨rfl, rfl⟩ (ls' := [.ref 18, .int x1, .int x2, .int x3, .int x4, .int s_0]) (st' := [.int (x3 + (1 : Int32))]) (σ' := s) rfl ?_
        replace h := wk_letE h
        refine wk_Hs 2 40 ⟨rfl, rfl⟩ (ls' := [.ref 18, .int x1, .int x2, .int (x3 + (1 : Int32)), .int (x4 + (1 : Int32)), .int s_0]) (st' := []) (σ' := s) rfl ?_
        refine wk_Hgoto (t := 4) rfl ?_
        cases h
        exact hk _
set_option maxHeartbeats 4000000 in
set_option maxRecDepth 20000 in
theorem ts_S_X0_othersAt_4_18 {x1 : Int32} {x2 : Int32} {x3 : Int32} {x4 : Int32} {w5 : Value} {s : wk_St} {z : wk_R} {o : (Int32) ⊕ (Int32 × Int32)} (h : S_X0_othersAt_4 18 x1 x2 s (x3, x4) = some o) (hk : match (generalizing := false) o with | Sum.inl a => (∀ (u4 u5 : Value), wk_H wk_shC 1 mc_X0_othersAt 41 [.ref 18, .int x1, .int x2, .int a, u4, u5] [] s z) | Sum.inr y => ∀ (u5 : Value), wk_H wk_shC 1 mc_X0_othersAt 4 [.ref 18, .int x1, .int x2, .int y.1, .int y.2, u5] [] s z) : wk_H wk_shC 1 mc_X0_othersAt 4 [.ref 18, .int x1, .int x2, .int x3, .int x4, w5] [] s z := by
  dsimp only [S_X0_othersAt_4] at h
  refine wk_Hs 2 6 ⟨rfl, rfl⟩ (ls' := [.ref 18, .int x1, .int x2, .int x3, .int x4, w5]) (st' := [.int (9 : Int32), .int x4]) (σ' := s) rfl ?_
  rcases wk_ife h with ⟨hc, h⟩ | ⟨hc, h⟩
  · refine wk_Hbt 41 rfl (wk_cge.2 hc) ?_
    cases h
    exact hk _ _
  · refine wk_Hbf 41 7 rfl rfl (wk_nf wk_cge hc) ?_
    refine wk_Hs 3 10 ⟨rfl, rfl⟩ (ls' := [.ref 18, .int x1, .int x2, .int x3, .int x4, w5]) (st' := [.int x4, .int (s.1 18 4)]) (σ' := s) rfl ?_
    refine wk_Hcall (i2 := 11) (args := [.int (s.1 18 4), .int x4]) (rest := []) (r := some (.int (b2i (f_X11_hasBit (s.1 18 4) x4)))) (σ1 := s) rfl rfl ⟨rfl, rfl, rfl, rfl, rfl⟩ rfl ((t_X11_hasBit rfl).up (by decide)) ?_
    rcases wk_ife h with ⟨hc, h⟩ | ⟨hc, h⟩
    · refine wk_H0t 20 rfl (wk_zeq.2 hc) ?_
      refine wk_Hs 1 21 ⟨rfl, rfl⟩ (ls' := [.ref 18, .int x1, .int x2, .int x3, .int x4, w5]) (st' := [.int (0 : Int32)]) (σ' := s) rfl ?_
      exact tj_j_X0_othersAt_21_l4_18 h hk
    · refine wk_H0f 20 12 rfl rfl (wk_nf wk_zeq hc) ?_
      refine wk_Hs 3 15 ⟨rfl, rfl⟩ (ls' := [.ref 18, .int x1, .int x2, .int x3, .int x4, w5]) (st' := [.int x4, .ref 21]) (σ' := s) rfl ?_
      obtain ⟨hg, h⟩ := wk_gdE h
      refine wk_Hia 16 rfl rfl rfl hg rfl ?_
      refine wk_Hs 1 17 ⟨rfl, rfl⟩ (ls' := [.ref 18, .int x1, .int x2, .int x3, .int x4, w5]) (st' := [.int (2 : Int32), .int (s.1 21 (x4.toNatClampNeg))]) (σ' := s) rfl ?_
      rcases wk_ife h with ⟨hc, h⟩ | ⟨hc, h⟩
      · refine wk_Hbt 20 rfl (wk_ceq.2 hc) ?_
        refine wk_Hs 1 21 ⟨rfl, rfl⟩ (ls' := [.ref 18, .int x1, .int x2, .int x3, .int x4, w5]) (st' := [.int (0 : Int32)]) (σ' := s) rfl ?_
        exact tj_j_X0_othersAt_21_l4_18 h hk
      · refine wk_Hbf 20 18 rfl rfl (wk_nf wk_ceq hc) ?_
        refine wk_Hs 1 19 ⟨rfl, rfl⟩ (ls' := [.ref 18, .int x1, .int x2, .int x3, .int x4, w5]) (st' := [.int (1 : Int32)]) (σ' := s) rfl ?_
        refine wk_Hgoto (t := 21) rfl ?_
        exact tj_j_X0_othersAt_21_l4_18 h hk
set_option maxHeartbeats 4000000 in
set_option maxRecDepth 20000 in
theorem tl_S_X0_othersAt_4_18 {x1 : Int32} {x2 : Int32} {s : wk_St} {z : wk_R} (n : Nat) : ∀ {x3 : Int32} {x4 : Int32} {w5 : Value} {a : Int32} (h : wk_loop (S_X0_othersAt_4 18 x1 x2 s) n (x3, x4) = some a) (hk : ∀ (u4 u5 : Value), wk_H wk_shC 1 mc_X0_othersAt 41 [.ref 18, .int x1, .int x2, .int a, u4, u5] [] s z), wk_H wk_shC 1 mc_X0_othersAt 4 [.ref 18, .int x1, .int x2, .int x3, .int x4, w5] [] s z := by
  induction n with
  | zero =>
    intros
    rename_i h _
    exact nomatch (show (none : Option _) = some _ from h)
  | succ n ih =>
    intros
    rename_i h hk
    obtain ⟨o, ho, h⟩ := wk_bindE (show Option.bind _ _ = some _ from h)
    refine ts_S_X0_othersAt_4_18 ho ?_
    cases o with
    | inl a1 =>
      cases h
      exact hk
    | inr p =>
      obtain ⟨p0, p1⟩ := p
      exact fun _ => ih h hk
set_option maxHeartbeats 4000000 in
set_option maxRecDepth 20000 in
theorem t_X0_othersAt_18 {x1 : Int32} {x2 : Int32} {s : wk_St} {r : Int32} (h : f_X0_othersAt 18 x1 x2 s = some r) : wk_T wk_shC 1 163 [.ref 18, .int x1, .int x2] s (some (.int r), s) := by
  suffices H : ∀ z, z = (some (.int r), s) → wk_H wk_shC 1 mc_X0_othersAt 0 [.ref 18, .int x1, .int x2, wk_U, wk_U, wk_U] [] s z from H _ rfl
  intro z hk
  dsimp only [f_X0_othersAt] at h
  refine wk_Hs 4 4 ⟨rfl, rfl⟩ (ls' := [.ref 18, .int x1, .int x2, .int (0 : Int32), .int (0 : Int32), wk_U]) (st' := []) (σ' := s) rfl ?_
  obtain ⟨v6, hv6, h⟩ := wk_bindE h
  refine tl_S_X0_othersAt_4_18 wk_F hv6 ?_
  intro g7 g8
  refine wk_Hs 1 42 ⟨rfl, rfl⟩ (ls' := [.ref 18, .int x1, .int x2, .int v6, g7, g8]) (st' := [.int v6]) (σ' := s) rfl ?_
  cases h
  exact wk_eqz hk (wk_Hret rfl)
set_option maxHeartbeats 4000000 in
set_option maxRecDepth 20000 in
theorem tj_j_X2_stepsBetween_13 {x1 : Int32} {x2 : Int32} {s_0 : Int32} {w3 : Value} {s : wk_St} {z : wk_R} {o : Int32} (h : j_X2_stepsBetween_13 x1 x2 s_0 s = some o) (hk : z = (some (.int o), s)) : wk_H wk_shC 1 mc_X2_stepsBetween 13 [.ref 3, .int x1, .int x2, w3] [.int s_0] s z := by
  dsimp only [j_X2_stepsBetween_13] at h
  refine wk_Hs 2 15 ⟨rfl, rfl⟩ (ls' := [.ref 3, .int x1, .int x2, .int s_0]) (st' := [.int s_0]) (σ' := s) rfl ?_
  rcases wk_ife h with ⟨hc, h⟩ | ⟨hc, h⟩
  · refine wk_H0t 25 rfl (wk_ceq.2 hc) ?_
    refine wk_Hs 1 26 ⟨rfl, rfl⟩ (ls' := [.ref 3, .int x1, .int x2, .int s_0]) (st' := [.int (99 : Int32)]) (σ' := s) rfl ?_
    cases h
    exact wk_eqz hk (wk_Hret rfl)
  · refine wk_H0f 25 16 rfl rfl (wk_nf wk_ceq hc) ?_
    refine wk_Hs 7 23 ⟨rfl, rfl⟩ (ls' := [.ref 3, .int x1, .int x2, .int s_0]) (st' := [.int ((x1 * (12 : Int32)) + x2), .ref 5]) (σ' := s) rfl ?_
    obtain ⟨hg, h⟩ := wk_gdE h
    refine wk_Hia 24 rfl rfl rfl hg rfl ?_
    refine wk_Hgoto (t := 26) rfl ?_
    cases h
    exact wk_eqz hk (wk_Hret rfl)
set_option maxHeartbeats 4000000 in
set_option maxRecDepth 20000 in
theorem t_X2_stepsBetween {x1 : Int32} {x2 : Int32} {s : wk_St} {r : Int32} (h : f_X2_stepsBetween x1 x2 s = some r) : wk_T wk_shC 1 177 [.ref 3, .int x1, .int x2] s (some (.int r), s) := by
  suffices H : ∀ z, z = (some (.int r), s) → wk_H wk_shC 1 mc_X2_stepsBetween 0 [.ref 3, .int x1, .int x2, wk_U] [] s z from H _ rfl
  intro z hk
  dsimp only [f_X2_stepsBetween] at h
  refine wk_Hs 3 3 ⟨rfl, rfl⟩ (ls' := [.ref 3, .int x1, .int x2, wk_U]) (st' := [.int (11 : Int32), .int (0 : Int32), .int x1]) (σ' := s) rfl ?_
  refine wk_Hcall (i2 := 4) (args := [.int x1, .int (0 : Int32), .int (11 : Int32)]) (rest := []) (r := some (.int (b2i (f_X11_isWithin x1 (0 : Int32) (11 : Int32))))) (σ1 := s) rfl rfl ⟨rfl, rfl, rfl, rfl, rfl⟩ rfl ((t_X11_isWithin rfl).up (by decide)) ?_
  rcases wk_ife h with ⟨hc, h⟩ | ⟨hc, h⟩
  · refine wk_H0t 12 rfl (wk_zeq.2 hc) ?_
    refine wk_Hs 1 13 ⟨rfl, rfl⟩ (ls' := [.ref 3, .int x1, .int x2, wk_U]) (st' := [.int (0 : Int32)]) (σ' := s) rfl ?_
    exact tj_j_X2_stepsBetween_13 h hk
  · refine wk_H0f 12 5 rfl rfl (wk_nf wk_zeq hc) ?_
    refine wk_Hs 3 8 ⟨rfl, rfl⟩ (ls' := [.ref 3, .int x1, .int x2, wk_U]) (st' := [.int (11 : Int32), .int (0 : Int32), .int x2]) (σ' := s) rfl ?_
    refine wk_Hcall (i2 := 9) (args := [.int x2, .int (0 : Int32), .int (11 : Int32)]) (rest := []) (r := some (.int (b2i (f_X11_isWithin x2 (0 : Int32) (11 : Int32))))) (σ1 := s) rfl rfl ⟨rfl, rfl, rfl, rfl, rfl⟩ rfl ((t_X11_isWithin rfl).up (by decide)) ?_
    rcases wk_ife h with ⟨hc, h⟩ | ⟨hc, h⟩
    · refine wk_H0t 12 rfl (wk_zeq.2 hc) ?_
      refine wk_Hs 1 13 ⟨rfl, rfl⟩ (ls' := [.ref 3, .int x1, .int x2, wk_U]) (st' := [.int (0 : Int32)]) (σ' := s) rfl ?_
      exact tj_j_X2_stepsBetween_13 h hk
    · refine wk_H0f 12 10 rfl rfl (wk_nf wk_zeq hc) ?_
      refine wk_Hs 1 11 ⟨rfl, rfl⟩ (ls' := [.ref 3, .int x1, .int x2, wk_U]) (st' := [.int (1 : Int32)]) (σ' := s) rfl ?_
      refine wk_Hgoto (t := 13) rfl ?_
      exact tj_j_X2_stepsBetween_13 h hk
set_option maxHeartbeats 4000000 in
set_option maxRecDepth 20000 in
theorem tj_j_X10_look_39_8 {x1 : Int32} {x2 : Int32} {s_0 : Int32} {s_1 : Int32} {s : wk_St} {z : wk_R} {o : wk_St} (h : j_X10_look_39 8 x1 x2 s_0 s_1 s = some o) (hk : z = (none, o)) : wk_H wk_shC 2 mc_X10_look 39 [.ref 23, .int x1, .int x2, .ref 3, .ref 8] [.int s_0, .int s_1, .ref 24] s z := by
  dsimp only [j_X10_look_39] at h
  obtain ⟨hg, h⟩ := wk_gdE h
  refine wk_Hias 40 rfl rfl rfl hg rfl ?_
  refine wk_Hs 6 46 ⟨rfl, rfl⟩ (ls' := [.ref 23, .int x1, .int x2, .ref 3, .ref 8]) (st' := [.int x2, .int x1, .ref 8, .int (5 : Int32), .ref 24]) (σ' := (wk_si s 24 (s_1.toNatClampNeg) s_0)) rfl ?_
  obtain ⟨v5, hv5, h⟩ := wk_bindE h
  refine wk_Hcall (i2 := 47) (args := [.ref 8, .int x1, .int x2]) (rest := [.int (5 : Int32), .ref 24]) (r := some (.int v5)) (σ1 := (wk_si s 24 (s_1.toNatClampNeg) s_0)) rfl rfl ⟨rfl, rfl, rfl, rfl, rfl⟩ rfl ((t_X0_othersAt_8 hv5).up (by decide)) ?_
  refine wk_Hias 48 rfl rfl rfl rfl rfl ?_
  refine wk_Hs 6 54 ⟨rfl, rfl⟩ (ls' := [.ref 23, .int x1, .int x2, .ref 3, .ref 8]) (st' := [.int ((wk_si (wk_si s 24 (s_1.toNatClampNeg) s_0) 24 5 v5).1 8 5), .ref 3, .int (6 : Int32), .ref 24]) (σ' := (wk_si (wk_si s 24 (s_1.toNatClampNeg) s_0) 24 5 v5)) rfl ?_
  obtain ⟨v6, hv6, h⟩ := wk_bindE h
  refine wk_Hcall (i2 := 55) (args := [.ref 3, .int ((wk_si (wk_si s 24 (s_1.toNatClampNeg) s_0) 24 5 v5).1 8 5)]) (rest := [.int (6 : Int32), .ref 24]) (r := some (.int v6)) (σ1 := (wk_si (wk_si s 24 (s_1.toNatClampNeg) s_0) 24 5 v5)) rfl rfl ⟨rfl, rfl, rfl, rfl, rfl⟩ rfl ((t_X2_weekdayOf hv6).up (by decide)) ?_
  refine wk_Hias 56 rfl rfl rfl rfl rfl ?_
  refine wk_Hs 6 62 ⟨rfl, rfl⟩ (ls' := [.ref 23, .int x1, .int x2, .ref 3, .ref 8]) (st' := [.int (100 : Int32), .int ((wk_si (wk_si (wk_si s 24 (s_1.toNatClampNeg) s_0) 24 5 v5) 24 6 v6).1 8 5), .int (7 : Int32), .ref 24]) (σ' := (wk_si (wk_si (wk_si s 24 (s_1.toNatClampNeg) s_0) 24 5 v5) 24 6 v6)) rfl ?_
  refine wk_Hrem 63 rfl rfl (by decide) ?_
  refine wk_Hias 64 rfl rfl rfl rfl rfl ?_
  cases h
  exact wk_eqz hk (wk_Hretv rfl)
set_option maxHeartbeats 4000000 in
set_option maxRecDepth 20000 in
theorem t_X10_look_8 {x1 : Int32} {x2 : Int32} {s : wk_St} {r : wk_St} (h : f_X10_look 8 x1 x2 s = some r) : wk_T wk_shC 2 254 [.ref 23, .int x1, .int x2, .ref 3, .ref 8] s (none, r) := by
  suffices H : ∀ z, z = (none, r) → wk_H wk_shC 2 mc_X10_look 0 [.ref 23, .int x1, .int x2, .ref 3, .ref 8] [] s z from H _ rfl
  intro z hk
  dsimp only [f_X10_look] at h
  refine wk_Hs 4 4 ⟨rfl, rfl⟩ (ls' := [.ref 23, .int x1, .int x2, .ref 3, .ref 8]) (st' := [.int x1, .int (0 : Int32), .ref 24]) (σ' := s) rfl ?_
  refine wk_Hias 5 rfl rfl rfl rfl rfl ?_
  refine wk_Hs 4 9 ⟨rfl, rfl⟩ (ls' := [.ref 23, .int x1, .int x2, .ref 3, .ref 8]) (st' := [.int x2, .int (1 : Int32), .ref 24]) (σ' := (wk_si s 24 0 x1)) rfl ?_
  refine wk_Hias 10 rfl rfl rfl rfl rfl ?_
  refine wk_Hs 5 15 ⟨rfl, rfl⟩ (ls' := [.ref 23, .int x1, .int x2, .ref 3, .ref 8]) (st' := [.int x1, .ref 8, .int (2 : Int32), .ref 24]) (σ' := (wk_si (wk_si s 24 0 x1) 24 1 x2)) rfl ?_
  obtain ⟨v1, hv1, h⟩ := wk_bindE h
  refine wk_Hcall (i2 := 16) (args := [.ref 8, .int x1]) (rest := [.int (2 : Int32), .ref 24]) (r := some (.int v1)) (σ1 := (wk_si (wk_si s 24 0 x1) 24 1 x2)) rfl rfl ⟨rfl, rfl, rfl, rfl, rfl⟩ rfl ((t_X0_placeOf_8 hv1).up (by decide)) ?_
  refine wk_Hias 17 rfl rfl rfl rfl rfl ?_
  refine wk_Hs 7 24 ⟨rfl, rfl⟩ (ls' := [.ref 23, .int x1, .int x2, .ref 3, .ref 8]) (st' := [.int x1, .ref 8, .int x2, .ref 3, .int (3 : Int32), .ref 24]) (σ' := (wk_si (wk_si (wk_si s 24 0 x1) 24 1 x2) 24 2 v1)) rfl ?_
  obtain ⟨v2, hv2, h⟩ := wk_bindE h
  refine wk_Hcall (i2 := 25) (args := [.ref 8, .int x1]) (rest := [.int x2, .ref 3, .int (3 : Int32), .ref 24]) (r := some (.int v2)) (σ1 := (wk_si (wk_si (wk_si s 24 0 x1) 24 1 x2) 24 2 v1)) rfl rfl ⟨rfl, rfl, rfl, rfl, rfl⟩ rfl ((t_X0_clothesOf_8 hv2).up (by decide)) ?_
  obtain ⟨v3, hv3, h⟩ := wk_bindE h
  refine wk_Hcall (i2 := 26) (args := [.ref 3, .int x2, .int v2]) (rest := [.int (3 : Int32), .ref 24]) (r := some (.int v3)) (σ1 := (wk_si (wk_si (wk_si s 24 0 x1) 24 1 x2) 24 2 v1)) rfl rfl ⟨rfl, rfl, rfl, rfl, rfl⟩ rfl ((t_X2_stepsBetween hv3).up (by decide)) ?_
  refine wk_Hias 27 rfl rfl rfl rfl rfl ?_
  refine wk_Hs 7 34 ⟨rfl, rfl⟩ (ls' := [.ref 23, .int x1, .int x2, .ref 3, .ref 8]) (st' := [.int ((wk_si (wk_si (wk_si (wk_si s 24 0 x1) 24 1 x2) 24 2 v1) 24 3 v3).1 8 5), .int x2, .ref 3, .int (4 : Int32), .ref 24]) (σ' := (wk_si (wk_si (wk_si (wk_si s 24 0 x1) 24 1 x2) 24 2 v1) 24 3 v3)) rfl ?_
  obtain ⟨v4, hv4, h⟩ := wk_bindE h
  refine wk_Hcall (i2 := 35) (args := [.ref 3, .int x2, .int ((wk_si (wk_si (wk_si (wk_si s 24 0 x1) 24 1 x2) 24 2 v1) 24 3 v3).1 8 5)]) (rest := [.int (4 : Int32), .ref 24]) (r := some (.int (b2i v4))) (σ1 := (wk_si (wk_si (wk_si (wk_si s 24 0 x1) 24 1 x2) 24 2 v1) 24 3 v3)) rfl rfl ⟨rfl, rfl, rfl, rfl, rfl⟩ rfl ((t_X2_isHunted hv4).up (by decide)) ?_
  rcases wk_ife h with ⟨hc, h⟩ | ⟨hc, h⟩
  · refine wk_H0t 38 rfl (wk_zeq.2 hc) ?_
    refine wk_Hs 1 39 ⟨rfl, rfl⟩ (ls' := [.ref 23, .int x1, .int x2, .ref 3, .ref 8]) (st' := [.int (0 : Int32), .int (4 : Int32), .ref 24]) (σ' := (wk_si (wk_si (wk_si (wk_si s 24 0 x1) 24 1 x2) 24 2 v1) 24 3 v3)) rfl ?_
    exact tj_j_X10_look_39_8 h hk
  · refine wk_H0f 38 36 rfl rfl (wk_nf wk_zeq hc) ?_
    refine wk_Hs 1 37 ⟨rfl, rfl⟩ (ls' := [.ref 23, .int x1, .int x2, .ref 3, .ref 8]) (st' := [.int (1 : Int32), .int (4 : Int32), .ref 24]) (σ' := (wk_si (wk_si (wk_si (wk_si s 24 0 x1) 24 1 x2) 24 2 v1) 24 3 v3)) rfl ?_
    refine wk_Hgoto (t := 39) rfl ?_
    exact tj_j_X10_look_39_8 h hk
set_option maxHeartbeats 4000000 in
set_option maxRecDepth 20000 in
theorem tj_j_X10_look_39_18 {x1 : Int32} {x2 : Int32} {s_0 : Int32} {s_1 : Int32} {s : wk_St} {z : wk_R} {o : wk_St} (h : j_X10_look_39 18 x1 x2 s_0 s_1 s = some o) (hk : z = (none, o)) : wk_H wk_shC 2 mc_X10_look 39 [.ref 23, .int x1, .int x2, .ref 3, .ref 18] [.int s_0, .int s_1, .ref 24] s z := by
  dsimp only [j_X10_look_39] at h
  obtain ⟨hg, h⟩ := wk_gdE h
  refine wk_Hias 40 rfl rfl rfl hg rfl ?_
  refine wk_Hs 6 46 ⟨rfl, rfl⟩ (ls' := [.ref 23, .int x1, .int x2, .ref 3, .ref 18]) (st' := [.int x2, .int x1, .ref 18, .int (5 : Int32), .ref 24]) (σ' := (wk_si s 24 (s_1.toNatClampNeg) s_0)) rfl ?_
  obtain ⟨v5, hv5, h⟩ := wk_bindE h
  refine wk_Hcall (i2 := 47) (args := [.ref 18, .int x1, .int x2]) (rest := [.int (5 : Int32), .ref 24]) (r := some (.int v5)) (σ1 := (wk_si s 24 (s_1.toNatClampNeg) s_0)) rfl rfl ⟨rfl, rfl, rfl, rfl, rfl⟩ rfl ((t_X0_othersAt_18 hv5).up (by decide)) ?_
  refine wk_Hias 48 rfl rfl rfl rfl rfl ?_
  refine wk_Hs 6 54 ⟨rfl, rfl⟩ (ls' := [.ref 23, .int x1, .int x2, .ref 3, .ref 18]) (st' := [.int ((wk_si (wk_si s 24 (s_1.toNatClampNeg) s_0) 24 5 v5).1 18 5), .ref 3, .int (6 : Int32), .ref 24]) (σ' := (wk_si (wk_si s 24 (s_1.toNatClampNeg) s_0) 24 5 v5)) rfl ?_
  obtain ⟨v6, hv6, h⟩ := wk_bindE h
  refine wk_Hcall (i2 := 55) (args := [.ref 3, .int ((wk_si (wk_si s 24 (s_1.toNatClampNeg) s_0) 24 5 v5).1 18 5)]) (rest := [.int (6 : Int32), .ref 24]) (r := some (.int v6)) (σ1 := (wk_si (wk_si s 24 (s_1.toNatClampNeg) s_0) 24 5 v5)) rfl rfl ⟨rfl, rfl, rfl, rfl, rfl⟩ rfl ((t_X2_weekdayOf hv6).up (by decide)) ?_
  refine wk_Hias 56 rfl rfl rfl rfl rfl ?_
  refine wk_Hs 6 62 ⟨rfl, rfl⟩ (ls' := [.ref 23, .int x1, .int x2, .ref 3, .ref 18]) (st' := [.int (100 : Int32), .int ((wk_si (wk_si (wk_si s 24 (s_1.toNatClampNeg) s_0) 24 5 v5) 24 6 v6).1 18 5), .int (7 : Int32), .ref 24]) (σ' := (wk_si (wk_si (wk_si s 24 (s_1.toNatClampNeg) s_0) 24 5 v5) 24 6 v6)) rfl ?_
  refine wk_Hrem 63 rfl rfl (by decide) ?_
  refine wk_Hias 64 rfl rfl rfl rfl rfl ?_
  cases h
  exact wk_eqz hk (wk_Hretv rfl)
set_option maxHeartbeats 4000000 in
set_option maxRecDepth 20000 in
theorem t_X10_look_18 {x1 : Int32} {x2 : Int32} {s : wk_St} {r : wk_St} (h : f_X10_look 18 x1 x2 s = some r) : wk_T wk_shC 2 254 [.ref 23, .int x1, .int x2, .ref 3, .ref 18] s (none, r) := by
  suffices H : ∀ z, z = (none, r) → wk_H wk_shC 2 mc_X10_look 0 [.ref 23, .int x1, .int x2, .ref 3, .ref 18] [] s z from H _ rfl
  intro z hk
  dsimp only [f_X10_look] at h
  refine wk_Hs 4 4 ⟨rfl, rfl⟩ (ls' := [.ref 23, .int x1, .int x2, .ref 3, .ref 18]) (st' := [.int x1, .int (0 : Int32), .ref 24]) (σ' := s) rfl ?_
  refine wk_Hias 5 rfl rfl rfl rfl rfl ?_
  refine wk_Hs 4 9 ⟨rfl, rfl⟩ (ls' := [.ref 23, .int x1, .int x2, .ref 3, .ref 18]) (st' := [.int x2, .int (1 : Int32), .ref 24]) (σ' := (wk_si s 24 0 x1)) rfl ?_
  refine wk_Hias 10 rfl rfl rfl rfl rfl ?_
  refine wk_Hs 5 15 ⟨rfl, rfl⟩ (ls' := [.ref 23, .int x1, .int x2, .ref 3, .ref 18]) (st' := [.int x1, .ref 18, .int (2 : Int32), .ref 24]) (σ' := (wk_si (wk_si s 24 0 x1) 24 1 x2)) rfl ?_
  obtain ⟨v1, hv1, h⟩ := wk_bindE h
  refine wk_Hcall (i2 := 16) (args := [.ref 18, .int x1]) (rest := [.int (2 : Int32), .ref 24]) (r := some (.int v1)) (σ1 := (wk_si (wk_si s 24 0 x1) 24 1 x2)) rfl rfl ⟨rfl, rfl, rfl, rfl, rfl⟩ rfl ((t_X0_placeOf_18 hv1).up (by decide)) ?_
  refine wk_Hias 17 rfl rfl rfl rfl rfl ?_
  refine wk_Hs 7 24 ⟨rfl, rfl⟩ (ls' := [.ref 23, .int x1, .int x2, .ref 3, .ref 18]) (st' := [.int x1, .ref 18, .int x2, .ref 3, .int (3 : Int32), .ref 24]) (σ' := (wk_si (wk_si (wk_si s 24 0 x1) 24 1 x2) 24 2 v1)) rfl ?_
  obtain ⟨v2, hv2, h⟩ := wk_bindE h
  refine wk_Hcall (i2 := 25) (args := [.ref 18, .int x1]) (rest := [.int x2, .ref 3, .int (3 : Int32), .ref 24]) (r := some (.int v2)) (σ1 := (wk_si (wk_si (wk_si s 24 0 x1) 24 1 x2) 24 2 v1)) rfl rfl ⟨rfl, rfl, rfl, rfl, rfl⟩ rfl ((t_X0_clothesOf_18 hv2).up (by decide)) ?_
  obtain ⟨v3, hv3, h⟩ := wk_bindE h
  refine wk_Hcall (i2 := 26) (args := [.ref 3, .int x2, .int v2]) (rest := [.int (3 : Int32), .ref 24]) (r := some (.int v3)) (σ1 := (wk_si (wk_si (wk_si s 24 0 x1) 24 1 x2) 24 2 v1)) rfl rfl ⟨rfl, rfl, rfl, rfl, rfl⟩ rfl ((t_X2_stepsBetween hv3).up (by decide)) ?_
  refine wk_Hias 27 rfl rfl rfl rfl rfl ?_
  refine wk_Hs 7 34 ⟨rfl, rfl⟩ (ls' := [.ref 23, .int x1, .int x2, .ref 3, .ref 18]) (st' := [.int ((wk_si (wk_si (wk_si (wk_si s 24 0 x1) 24 1 x2) 24 2 v1) 24 3 v3).1 18 5), .int x2, .ref 3, .int (4 : Int32), .ref 24]) (σ' := (wk_si (wk_si (wk_si (wk_si s 24 0 x1) 24 1 x2) 24 2 v1) 24 3 v3)) rfl ?_
  obtain ⟨v4, hv4, h⟩ := wk_bindE h
  refine wk_Hcall (i2 := 35) (args := [.ref 3, .int x2, .int ((wk_si (wk_si (wk_si (wk_si s 24 0 x1) 24 1 x2) 24 2 v1) 24 3 v3).1 18 5)]) (rest := [.int (4 : Int32), .ref 24]) (r := some (.int (b2i v4))) (σ1 := (wk_si (wk_si (wk_si (wk_si s 24 0 x1) 24 1 x2) 24 2 v1) 24 3 v3)) rfl rfl ⟨rfl, rfl, rfl, rfl, rfl⟩ rfl ((t_X2_isHunted hv4).up (by decide)) ?_
  rcases wk_ife h with ⟨hc, h⟩ | ⟨hc, h⟩
  · refine wk_H0t 38 rfl (wk_zeq.2 hc) ?_
    refine wk_Hs 1 39 ⟨rfl, rfl⟩ (ls' := [.ref 23, .int x1, .int x2, .ref 3, .ref 18]) (st' := [.int (0 : Int32), .int (4 : Int32), .ref 24]) (σ' := (wk_si (wk_si (wk_si (wk_si s 24 0 x1) 24 1 x2) 24 2 v1) 24 3 v3)) rfl ?_
    exact tj_j_X10_look_39_18 h hk
  · refine wk_H0f 38 36 rfl rfl (wk_nf wk_zeq hc) ?_
    refine wk_Hs 1 37 ⟨rfl, rfl⟩ (ls' := [.ref 23, .int x1, .int x2, .ref 3, .ref 18]) (st' := [.int (1 : Int32), .int (4 : Int32), .ref 24]) (σ' := (wk_si (wk_si (wk_si (wk_si s 24 0 x1) 24 1 x2) 24 2 v1) 24 3 v3)) rfl ?_
    refine wk_Hgoto (t := 39) rfl ?_
    exact tj_j_X10_look_39_18 h hk
set_option maxHeartbeats 4000000 in
set_option maxRecDepth 20000 in
theorem t_X10_liking_8 {x1 : Int32} {x2 : Int32} {s : wk_St} {r : Int32 × wk_St} (h : f_X10_liking 8 x1 x2 s = some r) : wk_T wk_shC 3 251 [.ref 23, .int x1, .int x2, .ref 3, .ref 37, .ref 8] s (some (.int r.1), r.2) := by
  suffices H : ∀ z, z = (some (.int r.1), r.2) → wk_H wk_shC 3 mc_X10_liking 0 [.ref 23, .int x1, .int x2, .ref 3, .ref 37, .ref 8] [] s z from H _ rfl
  intro z hk
  dsimp only [f_X10_liking] at h
  refine wk_Hs 5 5 ⟨rfl, rfl⟩ (ls' := [.ref 23, .int x1, .int x2, .ref 3, .ref 37, .ref 8]) (st' := [.ref 8, .ref 3, .int x2, .int x1, .ref 23]) (σ' := s) rfl ?_
  obtain ⟨v1, hv1, h⟩ := wk_bindE h
  refine wk_Hcall (i2 := 6) (args := [.ref 23, .int x1, .int x2, .ref 3, .ref 8]) (rest := []) (r := none) (σ1 := v1) rfl rfl ⟨rfl, rfl, rfl, rfl, rfl⟩ rfl ((t_X10_look_8 hv1).up (by decide)) ?_
  refine wk_Hs 5 11 ⟨rfl, rfl⟩ (ls' := [.ref 23, .int x1, .int x2, .ref 3, .ref 37, .ref 8]) (st' := [.int (9999 : Int32), .ref 24, .int (101 : Int32), .ref 37]) (σ' := v1) rfl ?_
  obtain ⟨v2, hv2, h⟩ := wk_bindE h
  refine wk_Hcall (i2 := 12) (args := [.ref 37, .int (101 : Int32), .ref 24, .int (9999 : Int32)]) (rest := []) (r := some (.int v2.1)) (σ1 := v2.2) rfl rfl ⟨rfl, rfl, rfl, rfl, rfl⟩ rfl ((t_X4_valueOf hv2).up (by decide)) ?_
  cases h
  exact wk_eqz hk (wk_Hret rfl)
set_option maxHeartbeats 4000000 in
set_option maxRecDepth 20000 in
theorem t_X10_liking_18 {x1 : Int32} {x2 : Int32} {s : wk_St} {r : Int32 × wk_St} (h : f_X10_liking 18 x1 x2 s = some r) : wk_T wk_shC 3 251 [.ref 23, .int x1, .int x2, .ref 3, .ref 37, .ref 18] s (some (.int r.1), r.2) := by
  suffices H : ∀ z, z = (some (.int r.1), r.2) → wk_H wk_shC 3 mc_X10_liking 0 [.ref 23, .int x1, .int x2, .ref 3, .ref 37, .ref 18] [] s z from H _ rfl
  intro z hk
  dsimp only [f_X10_liking] at h
  refine wk_Hs 5 5 ⟨rfl, rfl⟩ (ls' := [.ref 23, .int x1, .int x2, .ref 3, .ref 37, .ref 18]) (st' := [.ref 18, .ref 3, .int x2, .int x1, .ref 23]) (σ' := s) rfl ?_
  obtain ⟨v1, hv1, h⟩ := wk_bindE h
  refine wk_Hcall (i2 := 6) (args := [.ref 23, .int x1, .int x2, .ref 3, .ref 18]) (rest := []) (r := none) (σ1 := v1) rfl rfl ⟨rfl, rfl, rfl, rfl, rfl⟩ rfl ((t_X10_look_18 hv1).up (by decide)) ?_
  refine wk_Hs 5 11 ⟨rfl, rfl⟩ (ls' := [.ref 23, .int x1, .int x2, .ref 3, .ref 37, .ref 18]) (st' := [.int (9999 : Int32), .ref 24, .int (101 : Int32), .ref 37]) (σ' := v1) rfl ?_
  obtain ⟨v2, hv2, h⟩ := wk_bindE h
  refine wk_Hcall (i2 := 12) (args := [.ref 37, .int (101 : Int32), .ref 24, .int (9999 : Int32)]) (rest := []) (r := some (.int v2.1)) (σ1 := v2.2) rfl rfl ⟨rfl, rfl, rfl, rfl, rfl⟩ rfl ((t_X4_valueOf hv2).up (by decide)) ?_
  cases h
  exact wk_eqz hk (wk_Hret rfl)
set_option maxHeartbeats 4000000 in
set_option maxRecDepth 20000 in
theorem tj_j_X10_goalOf_28_l12_8 {x1 : Int32} {x5 : Int32} {x6 : Int32} {x7 : Int32} {x8 : Int32} {s_0 : Int32} {w9 : Value} {s : wk_St} {z : wk_R} {o : (Int32 × wk_St) ⊕ (Int32 × Int32 × Int32 × wk_St)} (h : j_X10_goalOf_28_l12 8 x1 x5 x6 x7 x8 s_0 s = some o) (hk : match (generalizing := false) o with | Sum.inl a => (∀ (u7 u8 u9 : Value), wk_H wk_shC 4 mc_X10_goalOf 38 [.ref 23, .int x1, .ref 3, .ref 37, .ref 8, .int a.1, .int x6, u7, u8, u9] [] a.2 z) | Sum.inr y => ∀ (u9 : Value), wk_H wk_shC 4 mc_X10_goalOf 12 [.ref 23, .int x1, .ref 3, .ref 37, .ref 8, .int y.1, .int x6, .int y.2.1, .int y.2.2.1, u9] [] y.2.2.2 z) : wk_H wk_shC 4 mc_X10_goalOf 28 [.ref 23, .int x1, .ref 3, .ref 37, .ref 8, .int x5, .int x6, .int x7, .int x8, w9] [.int s_0] s z := by
  dsimp only [j_X10_goalOf_28_l12] at h
  refine wk_Hs 3 31 ⟨rfl, rfl⟩ (ls' := [.ref 23, .int x1, .ref 3, .ref 37, .ref 8, .int x5, .int x6, .int x7, .int x8, .int s_0]) (st' := [.int x7, .int s_0]) (σ' := s) rfl ?_
  rcases wk_ife h with ⟨hc, h⟩ | ⟨hc, h⟩
  · refine wk_Hbt 36 rfl (wk_cle.2 hc) ?_
    refine wk_Hs 1 37 ⟨rfl, rfl⟩ (ls' := [.ref 23, .int x1, .ref 3, .ref 37, .ref 8, .int x5, .int x6, .int x7, .int (x8 + (1 : Int32)), .int s_0]) (st' := []) (σ' := s) rfl ?_
    refine wk_Hgoto (t := 12) rfl ?_
    cases h
    exact hk _
  · refine wk_Hbf 36 32 rfl rfl (wk_nf wk_cle hc) ?_
    refine wk_Hs 5 37 ⟨rfl, rfl⟩ (ls' := [.ref 23, .int x1, .ref 3, .ref 37, .ref 8, .int x8, .int x6, .int s_0, .int (x8 + (1 : Int32)), .int s_0]) (st' := []) (σ' := s) rfl ?_
    refine wk_Hgoto (t := 12) rfl ?_
    cases h
    exact hk _
set_option maxHeartbeats 4000000 in
set_option maxRecDepth 20000 in
theorem ts_S_X10_goalOf_12_8 {x1 : Int32} {x6 : Int32} {x5 : Int32} {x7 : Int32} {x8 : Int32} {w9 : Value} {s : wk_St} {z : wk_R} {o : (Int32 × wk_St) ⊕ (Int32 × Int32 × Int32 × wk_St)} (h : S_X10_goalOf_12 8 x1 x6 (x5, x7, x8, s) = some o) (hk : match (generalizing := false) o with | Sum.inl a => (∀ (u7 u8 u9 : Value), wk_H wk_shC 4 mc_X10_goalOf 38 [.ref 23, .int x1, .ref 3, .ref 37, .ref 8, .int a.1, .int x6, u7, u8, u9] [] a.2 z) | Sum.inr y => ∀ (u9 : Value), wk_H wk_shC 4 mc_X10_goalOf 12 [.ref 23, .int x1, .ref 3, .ref 37, .ref 8, .int y.1, .int x6, .int y.2.1, .int y.2.2.1, u9] [] y.2.2.2 z) : wk_H wk_shC 4 mc_X10_goalOf 12 [.ref 23, .int x1, .ref 3, .ref 37, .ref 8, .int x5, .int x6, .int x7, .int x8, w9] [] s z := by
  dsimp only [S_X10_goalOf_12] at h
  refine wk_Hs 2 14 ⟨rfl, rfl⟩ (ls' := [.ref 23, .int x1, .ref 3, .ref 37, .ref 8, .int x5, .int x6, .int x7, .int x8, w9]) (st' := [.int (12 : Int32), .int x8]) (σ' := s) rfl ?_
  rcases wk_ife h with ⟨hc, h⟩ | ⟨hc, h⟩
  · refine wk_Hbt 38 rfl (wk_cge.2 hc) ?_
    cases h
    exact hk _ _ _
  · refine wk_Hbf 38 15 rfl rfl (wk_nf wk_cge hc) ?_
    refine wk_Hs 2 17 ⟨rfl, rfl⟩ (ls' := [.ref 23, .int x1, .ref 3, .ref 37, .ref 8, .int x5, .int x6, .int x7, .int x8, w9]) (st' := [.int x8, .int x6]) (σ' := s) rfl ?_
    refine wk_Hcall (i2 := 18) (args := [.int x6, .int x8]) (rest := []) (r := some (.int (b2i (f_X11_hasBit x6 x8)))) (σ1 := s) rfl rfl ⟨rfl, rfl, rfl, rfl, rfl⟩ rfl ((t_X11_hasBit rfl).up (by decide)) ?_
    rcases wk_ife h with ⟨hc, h⟩ | ⟨hc, h⟩
    · refine wk_H0t 27 rfl (wk_zeq.2 hc) ?_
      refine wk_Hs 1 28 ⟨rfl, rfl⟩ (ls' := [.ref 23, .int x1, .ref 3, .ref 37, .ref 8, .int x5, .int x6, .int x7, .int x8, w9]) (st' := [.int (0 : Int32)]) (σ' := s) rfl ?_
      exact tj_j_X10_goalOf_28_l12_8 h hk
    · refine wk_H0f 27 19 rfl rfl (wk_nf wk_zeq hc) ?_
      refine wk_Hs 6 25 ⟨rfl, rfl⟩ (ls' := [.ref 23, .int x1, .ref 3, .ref 37, .ref 8, .int x5, .int x6, .int x7, .int x8, w9]) (st' := [.ref 8, .ref 37, .ref 3, .int x8, .int x1, .ref 23]) (σ' := s) rfl ?_
      obtain ⟨v4, hv4, h⟩ := wk_bindE h
      refine wk_Hcall (i2 := 26) (args := [.ref 23, .int x1, .int x8, .ref 3, .ref 37, .ref 8]) (rest := []) (r := some (.int v4.1)) (σ1 := v4.2) rfl rfl ⟨rfl, rfl, rfl, rfl, rfl⟩ rfl ((t_X10_liking_8 hv4).up (by decide)) ?_
      refine wk_Hgoto (t := 28) rfl ?_
      exact tj_j_X10_goalOf_28_l12_8 h hk
set_option maxHeartbeats 4000000 in
set_option maxRecDepth 20000 in
theorem tl_S_X10_goalOf_12_8 {x1 : Int32} {x6 : Int32} {z : wk_R} (n : Nat) : ∀ {x5 : Int32} {x7 : Int32} {x8 : Int32} {w9 : Value} {s : wk_St} {a : Int32 × wk_St} (h : wk_loop (S_X10_goalOf_12 8 x1 x6) n (x5, x7, x8, s) = some a) (hk : ∀ (u7 u8 u9 : Value), wk_H wk_shC 4 mc_X10_goalOf 38 [.ref 23, .int x1, .ref 3, .ref 37, .ref 8, .int a.1, .int x6, u7, u8, u9] [] a.2 z), wk_H wk_shC 4 mc_X10_goalOf 12 [.ref 23, .int x1, .ref 3, .ref 37, .ref 8, .int x5, .int x6, .int x7, .int x8, w9] [] s z := by
  induction n with
  | zero =>
    intros
    rename_i h _
    exact nomatch (show (none : Option _) = some _ from h)
  | succ n ih =>
    intros
    rename_i h hk
    obtain ⟨o, ho, h⟩ := wk_bindE (show Option.bind _ _ = some _ from h)
    refine ts_S_X10_goalOf_12_8 ho ?_
    cases o with
    | inl a1 =>
      cases h
      exact hk
    | inr p =>
      obtain ⟨p0, p1, p2, p3⟩ := p
      exact fun _ => ih h hk
set_option maxHeartbeats 4000000 in
set_option maxRecDepth 20000 in
theorem t_X10_goalOf_8 {x1 : Int32} {s : wk_St} {r : Int32 × wk_St} (h : f_X10_goalOf 8 x1 s = some r) : wk_T wk_shC 4 250 [.ref 23, .int x1, .ref 3, .ref 37, .ref 8] s (some (.int r.1), r.2) := by
  suffices H : ∀ z, z = (some (.int r.1), r.2) → wk_H wk_shC 4 mc_X10_goalOf 0 [.ref 23, .int x1, .ref 3, .ref 37, .ref 8, wk_U, wk_U, wk_U, wk_U, wk_U] [] s z from H _ rfl
  intro z hk
  dsimp only [f_X10_goalOf] at h
  refine wk_Hs 2 2 ⟨rfl, rfl⟩ (ls' := [.ref 23, .int x1, .ref 3, .ref 37, .ref 8, wk_U, wk_U, wk_U, wk_U, wk_U]) (st' := [.int x1, .ref 8]) (σ' := s) rfl ?_
  obtain ⟨v1, hv1, h⟩ := wk_bindE h
  refine wk_Hcall (i2 := 3) (args := [.ref 8, .int x1]) (rest := []) (r := some (.int v1)) (σ1 := s) rfl rfl ⟨rfl, rfl, rfl, rfl, rfl⟩ rfl ((t_X0_placeOf_8 hv1).up (by decide)) ?_
  refine wk_Hs 3 6 ⟨rfl, rfl⟩ (ls' := [.ref 23, .int x1, .ref 3, .ref 37, .ref 8, .int v1, wk_U, wk_U, wk_U, wk_U]) (st' := [.int v1, .ref 3]) (σ' := s) rfl ?_
  obtain ⟨v2, hv2, h⟩ := wk_bindE h
  refine wk_Hcall (i2 := 7) (args := [.ref 3, .int v1]) (rest := []) (r := some (.int v2)) (σ1 := s) rfl rfl ⟨rfl, rfl, rfl, rfl, rfl⟩ rfl ((t_X2_nextTo hv2).up (by decide)) ?_
  refine wk_Hs 5 12 ⟨rfl, rfl⟩ (ls' := [.ref 23, .int x1, .ref 3, .ref 37, .ref 8, .int v1, .int v2, .int (0 : Int32), .int (0 : Int32), wk_U]) (st' := []) (σ' := s) rfl ?_
  obtain ⟨v5, hv5, h⟩ := wk_bindE h
  refine tl_S_X10_goalOf_12_8 wk_F hv5 ?_
  intro g6 g7 g8
  refine wk_Hs 1 39 ⟨rfl, rfl⟩ (ls' := [.ref 23, .int x1, .ref 3, .ref 37, .ref 8, .int v5.1, .int v2, g6, g7, g8]) (st' := [.int v5.1]) (σ' := v5.2) rfl ?_
  cases h
  exact wk_eqz hk (wk_Hret rfl)
set_option maxHeartbeats 4000000 in
set_option maxRecDepth 20000 in
theorem tj_j_X10_goalOf_28_l12_18 {x1 : Int32} {x5 : Int32} {x6 : Int32} {x7 : Int32} {x8 : Int32} {s_0 : Int32} {w9 : Value} {s : wk_St} {z : wk_R} {o : (Int32 × wk_St) ⊕ (Int32 × Int32 × Int32 × wk_St)} (h : j_X10_goalOf_28_l12 18 x1 x5 x6 x7 x8 s_0 s = some o) (hk : match (generalizing := false) o with | Sum.inl a => (∀ (u7 u8 u9 : Value), wk_H wk_shC 4 mc_X10_goalOf 38 [.ref 23, .int x1, .ref 3, .ref 37, .ref 18, .int a.1, .int x6, u7, u8, u9] [] a.2 z) | Sum.inr y => ∀ (u9 : Value), wk_H wk_shC 4 mc_X10_goalOf 12 [.ref 23, .int x1, .ref 3, .ref 37, .ref 18, .int y.1, .int x6, .int y.2.1, .int y.2.2.1, u9] [] y.2.2.2 z) : wk_H wk_shC 4 mc_X10_goalOf 28 [.ref 23, .int x1, .ref 3, .ref 37, .ref 18, .int x5, .int x6, .int x7, .int x8, w9] [.int s_0] s z := by
  dsimp only [j_X10_goalOf_28_l12] at h
  refine wk_Hs 3 31 ⟨rfl, rfl⟩ (ls' := [.ref 23, .int x1, .ref 3, .ref 37, .ref 18, .int x5, .int x6, .int x7, .int x8, .int s_0]) (st' := [.int x7, .int s_0]) (σ' := s) rfl ?_
  rcases wk_ife h with ⟨hc, h⟩ | ⟨hc, h⟩
  · refine wk_Hbt 36 rfl (wk_cle.2 hc) ?_
    refine wk_Hs 1 37 ⟨rfl, rfl⟩ (ls' := [.ref 23, .int x1, .ref 3, .ref 37, .ref 18, .int x5, .int x6, .int x7, .int (x8 + (1 : Int32)), .int s_0]) (st' := []) (σ' := s) rfl ?_
    refine wk_Hgoto (t := 12) rfl ?_
    cases h
    exact hk _
  · refine wk_Hbf 36 32 rfl rfl (wk_nf wk_cle hc) ?_
    refine wk_Hs 5 37 ⟨rfl, rfl⟩ (ls' := [.ref 23, .int x1, .ref 3, .ref 37, .ref 18, .int x8, .int x6, .int s_0, .int (x8 + (1 : Int32)), .int s_0]) (st' := []) (σ' := s) rfl ?_
    refine wk_Hgoto (t := 12) rfl ?_
    cases h
    exact hk _
set_option maxHeartbeats 4000000 in
set_option maxRecDepth 20000 in
theorem ts_S_X10_goalOf_12_18 {x1 : Int32} {x6 : Int32} {x5 : Int32} {x7 : Int32} {x8 : Int32} {w9 : Value} {s : wk_St} {z : wk_R} {o : (Int32 × wk_St) ⊕ (Int32 × Int32 × Int32 × wk_St)} (h : S_X10_goalOf_12 18 x1 x6 (x5, x7, x8, s) = some o) (hk : match (generalizing := false) o with | Sum.inl a => (∀ (u7 u8 u9 : Value), wk_H wk_shC 4 mc_X10_goalOf 38 [.ref 23, .int x1, .ref 3, .ref 37, .ref 18, .int a.1, .int x6, u7, u8, u9] [] a.2 z) | Sum.inr y => ∀ (u9 : Value), wk_H wk_shC 4 mc_X10_goalOf 12 [.ref 23, .int x1, .ref 3, .ref 37, .ref 18, .int y.1, .int x6, .int y.2.1, .int y.2.2.1, u9] [] y.2.2.2 z) : wk_H wk_shC 4 mc_X10_goalOf 12 [.ref 23, .int x1, .ref 3, .ref 37, .ref 18, .int x5, .int x6, .int x7, .int x8, w9] [] s z := by
  dsimp only [S_X10_goalOf_12] at h
  refine wk_Hs 2 14 ⟨rfl, rfl⟩ (ls' := [.ref 23, .int x1, .ref 3, .ref 37, .ref 18, .int x5, .int x6, .int x7, .int x8, w9]) (st' := [.int (12 : Int32), .int x8]) (σ' := s) rfl ?_
  rcases wk_ife h with ⟨hc, h⟩ | ⟨hc, h⟩
  · refine wk_Hbt 38 rfl (wk_cge.2 hc) ?_
    cases h
    exact hk _ _ _
  · refine wk_Hbf 38 15 rfl rfl (wk_nf wk_cge hc) ?_
    refine wk_Hs 2 17 ⟨rfl, rfl⟩ (ls' := [.ref 23, .int x1, .ref 3, .ref 37, .ref 18, .int x5, .int x6, .int x7, .int x8, w9]) (st' := [.int x8, .int x6]) (σ' := s) rfl ?_
    refine wk_Hcall (i2 := 18) (args := [.int x6, .int x8]) (rest := []) (r := some (.int (b2i (f_X11_hasBit x6 x8)))) (σ1 := s) rfl rfl ⟨rfl, rfl, rfl, rfl, rfl⟩ rfl ((t_X11_hasBit rfl).up (by decide)) ?_
    rcases wk_ife h with ⟨hc, h⟩ | ⟨hc, h⟩
    · refine wk_H0t 27 rfl (wk_zeq.2 hc) ?_
      refine wk_Hs 1 28 ⟨rfl, rfl⟩ (ls' := [.ref 23, .int x1, .ref 3, .ref 37, .ref 18, .int x5, .int x6, .int x7, .int x8, w9]) (st' := [.int (0 : Int32)]) (σ' := s) rfl ?_
      exact tj_j_X10_goalOf_28_l12_18 h hk
    · refine wk_H0f 27 19 rfl rfl (wk_nf wk_zeq hc) ?_
      refine wk_Hs 6 25 ⟨rfl, rfl⟩ (ls' := [.ref 23, .int x1, .ref 3, .ref 37, .ref 18, .int x5, .int x6, .int x7, .int x8, w9]) (st' := [.ref 18, .ref 37, .ref 3, .int x8, .int x1, .ref 23]) (σ' := s) rfl ?_
      obtain ⟨v4, hv4, h⟩ := wk_bindE h
      refine wk_Hcall (i2 := 26) (args := [.ref 23, .int x1, .int x8, .ref 3, .ref 37, .ref 18]) (rest := []) (r := some (.int v4.1)) (σ1 := v4.2) rfl rfl ⟨rfl, rfl, rfl, rfl, rfl⟩ rfl ((t_X10_liking_18 hv4).up (by decide)) ?_
      refine wk_Hgoto (t := 28) rfl ?_
      exact tj_j_X10_goalOf_28_l12_18 h hk
set_option maxHeartbeats 4000000 in
set_option maxRecDepth 20000 in
theorem tl_S_X10_goalOf_12_18 {x1 : Int32} {x6 : Int32} {z : wk_R} (n : Nat) : ∀ {x5 : Int32} {x7 : Int32} {x8 : Int32} {w9 : Value} {s : wk_St} {a : Int32 × wk_St} (h : wk_loop (S_X10_goalOf_12 18 x1 x6) n (x5, x7, x8, s) = some a) (hk : ∀ (u7 u8 u9 : Value), wk_H wk_shC 4 mc_X10_goalOf 38 [.ref 23, .int x1, .ref 3, .ref 37, .ref 18, .int a.1, .int x6, u7, u8, u9] [] a.2 z), wk_H wk_shC 4 mc_X10_goalOf 12 [.ref 23, .int x1, .ref 3, .ref 37, .ref 18, .int x5, .int x6, .int x7, .int x8, w9] [] s z := by
  induction n with
  | zero =>
    intros
    rename_i h _
    exact nomatch (show (none : Option _) = some _ from h)
  | succ n ih =>
    intros
    rename_i h hk
    obtain ⟨o, ho, h⟩ := wk_bindE (show Option.bind _ _ = some _ from h)
    refine ts_S_X10_goalOf_12_18 ho ?_
    cases o with
    | inl a1 =>
      cases h
      exact hk
    | inr p =>
      obtain ⟨p0, p1, p2, p3⟩ := p
      exact fun _ => ih h hk
set_option maxHeartbeats 4000000 in
set_option maxRecDepth 20000 in
theorem t_X10_goalOf_18 {x1 : Int32} {s : wk_St} {r : Int32 × wk_St} (h : f_X10_goalOf 18 x1 s = some r) : wk_T wk_shC 4 250 [.ref 23, .int x1, .ref 3, .ref 37, .ref 18] s (some (.int r.1), r.2) := by
  suffices H : ∀ z, z = (some (.int r.1), r.2) → wk_H wk_shC 4 mc_X10_goalOf 0 [.ref 23, .int x1, .ref 3, .ref 37, .ref 18, wk_U, wk_U, wk_U, wk_U, wk_U] [] s z from H _ rfl
  intro z hk
  dsimp only [f_X10_goalOf] at h
  refine wk_Hs 2 2 ⟨rfl, rfl⟩ (ls' := [.ref 23, .int x1, .ref 3, .ref 37, .ref 18, wk_U, wk_U, wk_U, wk_U, wk_U]) (st' := [.int x1, .ref 18]) (σ' := s) rfl ?_
  obtain ⟨v1, hv1, h⟩ := wk_bindE h
  refine wk_Hcall (i2 := 3) (args := [.ref 18, .int x1]) (rest := []) (r := some (.int v1)) (σ1 := s) rfl rfl ⟨rfl, rfl, rfl, rfl, rfl⟩ rfl ((t_X0_placeOf_18 hv1).up (by decide)) ?_
  refine wk_Hs 3 6 ⟨rfl, rfl⟩ (ls' := [.ref 23, .int x1, .ref 3, .ref 37, .ref 18, .int v1, wk_U, wk_U, wk_U, wk_U]) (st' := [.int v1, .ref 3]) (σ' := s) rfl ?_
  obtain ⟨v2, hv2, h⟩ := wk_bindE h
  refine wk_Hcall (i2 := 7) (args := [.ref 3, .int v1]) (rest := []) (r := some (.int v2)) (σ1 := s) rfl rfl ⟨rfl, rfl, rfl, rfl, rfl⟩ rfl ((t_X2_nextTo hv2).up (by decide)) ?_
  refine wk_Hs 5 12 ⟨rfl, rfl⟩ (ls' := [.ref 23, .int x1, .ref 3, .ref 37, .ref 18, .int v1, .int v2, .int (0 : Int32), .int (0 : Int32), wk_U]) (st' := []) (σ' := s) rfl ?_
  obtain ⟨v5, hv5, h⟩ := wk_bindE h
  refine tl_S_X10_goalOf_12_18 wk_F hv5 ?_
  intro g6 g7 g8
  refine wk_Hs 1 39 ⟨rfl, rfl⟩ (ls' := [.ref 23, .int x1, .ref 3, .ref 37, .ref 18, .int v5.1, .int v2, g6, g7, g8]) (st' := [.int v5.1]) (σ' := v5.2) rfl ?_
  cases h
  exact wk_eqz hk (wk_Hret rfl)
set_option maxHeartbeats 4000000 in
set_option maxRecDepth 20000 in
theorem ts_S_X4_spares_2 {x2 : Int32} {s : wk_St} {z : wk_R} {o : ((Bool × wk_St) ⊕ (wk_St)) ⊕ (Int32 × wk_St)} (h : S_X4_spares_2 (x2, s) = some o) (hk : match (generalizing := false) o with | Sum.inl a => (match (generalizing := false) a with | Sum.inl r => z = (some (.int (b2i r.1)), r.2) | Sum.inr y => ∀ (u2 : Value), wk_H wk_shC 2 mc_X4_spares 31 [.ref 37, .ref 24, u2] [] y z) | Sum.inr y => wk_H wk_shC 2 mc_X4_spares 2 [.ref 37, .ref 24, .int y.1] [] y.2 z) : wk_H wk_shC 2 mc_X4_spares 2 [.ref 37, .ref 24, .int x2] [] s z := by
  dsimp only [S_X4_spares_2] at h
  refine wk_Hs 3 5 ⟨rfl, rfl⟩ (ls' := [.ref 37, .ref 24, .int x2]) (st' := [.int (s.1 37 7), .int x2]) (σ' := s) rfl ?_
  rcases wk_ife h with ⟨hc, h⟩ | ⟨hc, h⟩
  · refine wk_Hbt 31 rfl (wk_cge.2 hc) ?_
    cases h
    exact hk _
  · refine wk_Hbf 31 6 rfl rfl (wk_nf wk_cge hc) ?_
    refine wk_Hs 2 8 ⟨rfl, rfl⟩ (ls' := [.ref 37, .ref 24, .int x2]) (st' := [.int (16 : Int32), .int x2]) (σ' := s) rfl ?_
    rcases wk_ife h with ⟨hc, h⟩ | ⟨hc, h⟩
    · refine wk_Hbt 31 rfl (wk_cge.2 hc) ?_
      cases h
      exact hk _
    · refine wk_Hbf 31 9 rfl rfl (wk_nf wk_cge hc) ?_
      refine wk_Hs 3 12 ⟨rfl, rfl⟩ (ls' := [.ref 37, .ref 24, .int x2]) (st' := [.int x2, .ref 38]) (σ' := s) rfl ?_
      obtain ⟨hg, h⟩ := wk_gdE h
      refine wk_Hia 13 rfl rfl rfl hg rfl ?_
      refine wk_Hs 1 14 ⟨rfl, rfl⟩ (ls' := [.ref 37, .ref 24, .int x2]) (st' := [.int (115 : Int32), .int (s.1 38 (x2.toNatClampNeg))]) (σ' := s) rfl ?_
      rcases wk_ife h with ⟨hc, h⟩ | ⟨hc, h⟩
      · refine wk_Hbt 29 rfl (wk_cne.2 hc) ?_
        refine wk_Hs 1 30 ⟨rfl, rfl⟩ (ls' := [.ref 37, .ref 24, .int (x2 + (1 : Int32))]) (st' := []) (σ' := s) rfl ?_
        refine wk_Hgoto (t := 2) rfl ?_
        cases h
        exact hk
      · refine wk_Hbf 29 15 rfl rfl (wk_nf wk_cne hc) ?_
        refine wk_Hs 4 19 ⟨rfl, rfl⟩ (ls' := [.ref 37, .ref 24, .int x2]) (st' := [.int x2, .ref 40, .ref 37]) (σ' := s) rfl ?_
        obtain ⟨hg, h⟩ := wk_gdE h
        refine wk_Hia 20 rfl rfl rfl hg rfl ?_
        refine wk_Hs 3 23 ⟨rfl, rfl⟩ (ls' := [.ref 37, .ref 24, .int x2]) (st' := [.int x2, .ref 41, .int (s.1 40 (x2.toNatClampNeg)), .ref 37]) (σ' := s) rfl ?_
        obtain ⟨hg, h⟩ := wk_gdE h
        refine wk_Hia 24 rfl rfl rfl hg rfl ?_
        refine wk_Hs 1 25 ⟨rfl, rfl⟩ (ls' := [.ref 37, .ref 24, .int x2]) (st' := [.ref 24, .int (s.1 41 (x2.toNatClampNeg)), .int (s.1 40 (x2.toNatClampNeg)), .ref 37]) (σ' := s) rfl ?_
        obtain ⟨v1, hv1, h⟩ := wk_bindE h
        refine wk_Hcall (i2 := 26) (args := [.ref 37, .int (s.1 40 (x2.toNatClampNeg)), .int (s.1 41 (x2.toNatClampNeg)), .ref 24]) (rest := []) (r := some (.int v1.1)) (σ1 := v1.2) rfl rfl ⟨rfl, rfl, rfl, rfl, rfl⟩ rfl ((t_X4_run hv1).up (by decide)) ?_
        rcases wk_ife h with ⟨hc, h⟩ | ⟨hc, h⟩
        · refine wk_H0t 29 rfl (wk_ceq.2 hc) ?_
          refine wk_Hs 1 30 ⟨rfl, rfl⟩ (ls' := [.ref 37, .ref 24, .int (x2 + (1 : Int32))]) (st' := []) (σ' := v1.2) rfl ?_
          refine wk_Hgoto (t := 2) rfl ?_
          cases h
          exact hk
        · refine wk_H0f 29 27 rfl rfl (wk_nf wk_ceq hc) ?_
          refine wk_Hs 1 28 ⟨rfl, rfl⟩ (ls' := [.ref 37, .ref 24, .int x2]) (st' := [.int (1 : Int32)]) (σ' := v1.2) rfl ?_
          cases h
          exact wk_eqz hk (wk_Hretz rfl (b2i_01 true))
set_option maxHeartbeats 4000000 in
set_option maxRecDepth 20000 in
theorem tl_S_X4_spares_2 {z : wk_R} (n : Nat) : ∀ {x2 : Int32} {s : wk_St} {a : (Bool × wk_St) ⊕ (wk_St)} (h : wk_loop S_X4_spares_2 n (x2, s) = some a) (hk : match (generalizing := false) a with | Sum.inl r => z = (some (.int (b2i r.1)), r.2) | Sum.inr y => ∀ (u2 : Value), wk_H wk_shC 2 mc_X4_spares 31 [.ref 37, .ref 24, u2] [] y z), wk_H wk_shC 2 mc_X4_spares 2 [.ref 37, .ref 24, .int x2] [] s z := by
  induction n with
  | zero =>
    intros
    rename_i h _
    exact nomatch (show (none : Option _) = some _ from h)
  | succ n ih =>
    intros
    rename_i h hk
    obtain ⟨o, ho, h⟩ := wk_bindE (show Option.bind _ _ = some _ from h)
    refine ts_S_X4_spares_2 ho ?_
    cases o with
    | inl a1 =>
      cases h
      exact hk
    | inr p =>
      obtain ⟨p0, p1⟩ := p
      exact ih h hk
set_option maxHeartbeats 4000000 in
set_option maxRecDepth 20000 in
theorem t_X4_spares {s : wk_St} {r : Bool × wk_St} (h : f_X4_spares s = some r) : wk_T wk_shC 2 203 [.ref 37, .ref 24] s (some (.int (b2i r.1)), r.2) := by
  suffices H : ∀ z, z = (some (.int (b2i r.1)), r.2) → wk_H wk_shC 2 mc_X4_spares 0 [.ref 37, .ref 24, wk_U] [] s z from H _ rfl
  intro z hk
  dsimp only [f_X4_spares] at h
  refine wk_Hs 2 2 ⟨rfl, rfl⟩ (ls' := [.ref 37, .ref 24, .int (0 : Int32)]) (st' := []) (σ' := s) rfl ?_
  obtain ⟨v2, hv2, h⟩ := wk_bindE h
  rcases v2 with v2r | v2
  · cases h
    exact tl_S_X4_spares_2 wk_F hv2 hk
  · refine tl_S_X4_spares_2 wk_F hv2 ?_
    intro g3
    dsimp only at h ⊢
    refine wk_Hs 1 32 ⟨rfl, rfl⟩ (ls' := [.ref 37, .ref 24, g3]) (st' := [.int (0 : Int32)]) (σ' := v2) rfl ?_
    cases h
    exact wk_eqz hk (wk_Hretz rfl (b2i_01 false))
set_option maxHeartbeats 4000000 in
set_option maxRecDepth 20000 in
theorem t_X10_isSpared_8 {x1 : Int32} {s : wk_St} {r : Bool × wk_St} (h : f_X10_isSpared 8 x1 s = some r) : wk_T wk_shC 3 252 [.ref 23, .int x1, .ref 3, .ref 37, .ref 8] s (some (.int (b2i r.1)), r.2) := by
  suffices H : ∀ z, z = (some (.int (b2i r.1)), r.2) → wk_H wk_shC 3 mc_X10_isSpared 0 [.ref 23, .int x1, .ref 3, .ref 37, .ref 8] [] s z from H _ rfl
  intro z hk
  dsimp only [f_X10_isSpared] at h
  refine wk_Hs 4 4 ⟨rfl, rfl⟩ (ls' := [.ref 23, .int x1, .ref 3, .ref 37, .ref 8]) (st' := [.int x1, .ref 8, .int x1, .ref 23]) (σ' := s) rfl ?_
  obtain ⟨v1, hv1, h⟩ := wk_bindE h
  refine wk_Hcall (i2 := 5) (args := [.ref 8, .int x1]) (rest := [.int x1, .ref 23]) (r := some (.int v1)) (σ1 := s) rfl rfl ⟨rfl, rfl, rfl, rfl, rfl⟩ rfl ((t_X0_placeOf_8 hv1).up (by decide)) ?_
  refine wk_Hs 2 7 ⟨rfl, rfl⟩ (ls' := [.ref 23, .int x1, .ref 3, .ref 37, .ref 8]) (st' := [.ref 8, .ref 3, .int v1, .int x1, .ref 23]) (σ' := s) rfl ?_
  obtain ⟨v2, hv2, h⟩ := wk_bindE h
  refine wk_Hcall (i2 := 8) (args := [.ref 23, .int x1, .int v1, .ref 3, .ref 8]) (rest := []) (r := none) (σ1 := v2) rfl rfl ⟨rfl, rfl, rfl, rfl, rfl⟩ rfl ((t_X10_look_8 hv2).up (by decide)) ?_
  refine wk_Hs 3 11 ⟨rfl, rfl⟩ (ls' := [.ref 23, .int x1, .ref 3, .ref 37, .ref 8]) (st' := [.ref 24, .ref 37]) (σ' := v2) rfl ?_
  obtain ⟨v3, hv3, h⟩ := wk_bindE h
  refine wk_Hcall (i2 := 12) (args := [.ref 37, .ref 24]) (rest := []) (r := some (.int (b2i v3.1))) (σ1 := v3.2) rfl rfl ⟨rfl, rfl, rfl, rfl, rfl⟩ rfl ((t_X4_spares hv3).up (by decide)) ?_
  cases h
  exact wk_eqz hk (wk_Hretz rfl (b2i_01 _))
