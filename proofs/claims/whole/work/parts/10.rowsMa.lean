set_option maxHeartbeats 4000000 in
set_option maxRecDepth 20000 in
theorem t_X12_in {x0 : Int32} {x1 : Int32} {x2 : Int32} {s : wk_St} {r : Bool} (h : f_X12_in x0 x1 x2 = r) : wk_T wk_shM 0 43 [.int x0, .int x1, .int x2] s (some (.int (b2i r)), s) := by
  suffices H : ∀ z, z = (some (.int (b2i r)), s) → wk_H wk_shM 0 mc_X12_in 0 [.int x0, .int x1, .int x2] [] s z from H _ rfl
  intro z hk
  dsimp only [f_X12_in] at h
  refine wk_Hs 2 2 ⟨rfl, rfl⟩ (ls' := [.int x0, .int x1, .int x2]) (st' := [.int x1, .int x0]) (σ' := s) rfl ?_
  rcases wk_ife h with ⟨hc, h⟩ | ⟨hc, h⟩
  · refine wk_Hbt 8 rfl (wk_clt.2 hc) ?_
    refine wk_Hs 1 9 ⟨rfl, rfl⟩ (ls' := [.int x0, .int x1, .int x2]) (st' := [.int (0 : Int32)]) (σ' := s) rfl ?_
    cases h
    exact wk_eqz hk (wk_Hretz rfl (b2i_01 false))
  · refine wk_Hbf 8 3 rfl rfl (wk_nf wk_clt hc) ?_
    refine wk_Hs 2 5 ⟨rfl, rfl⟩ (ls' := [.int x0, .int x1, .int x2]) (st' := [.int x2, .int x0]) (σ' := s) rfl ?_
    rcases wk_ife h with ⟨hc, h⟩ | ⟨hc, h⟩
    · refine wk_Hbt 8 rfl (wk_cgt.2 hc) ?_
      refine wk_Hs 1 9 ⟨rfl, rfl⟩ (ls' := [.int x0, .int x1, .int x2]) (st' := [.int (0 : Int32)]) (σ' := s) rfl ?_
      cases h
      exact wk_eqz hk (wk_Hretz rfl (b2i_01 false))
    · refine wk_Hbf 8 6 rfl rfl (wk_nf wk_cgt hc) ?_
      refine wk_Hs 1 7 ⟨rfl, rfl⟩ (ls' := [.int x0, .int x1, .int x2]) (st' := [.int (1 : Int32)]) (σ' := s) rfl ?_
      refine wk_Hgoto (t := 9) rfl ?_
      cases h
      exact wk_eqz hk (wk_Hretz rfl (b2i_01 true))
set_option maxHeartbeats 4000000 in
set_option maxRecDepth 20000 in
theorem t_X12_min {x0 : Int32} {x1 : Int32} {s : wk_St} {r : Int32} (h : f_X12_min x0 x1 = r) : wk_T wk_shM 0 44 [.int x0, .int x1] s (some (.int r), s) := by
  suffices H : ∀ z, z = (some (.int r), s) → wk_H wk_shM 0 mc_X12_min 0 [.int x0, .int x1] [] s z from H _ rfl
  intro z hk
  dsimp only [f_X12_min] at h
  refine wk_Hs 2 2 ⟨rfl, rfl⟩ (ls' := [.int x0, .int x1]) (st' := [.int x1, .int x0]) (σ' := s) rfl ?_
  rcases wk_ife h with ⟨hc, h⟩ | ⟨hc, h⟩
  · refine wk_Hbt 5 rfl (wk_cge.2 hc) ?_
    refine wk_Hs 1 6 ⟨rfl, rfl⟩ (ls' := [.int x0, .int x1]) (st' := [.int x1]) (σ' := s) rfl ?_
    cases h
    exact wk_eqz hk (wk_Hret rfl)
  · refine wk_Hbf 5 3 rfl rfl (wk_nf wk_cge hc) ?_
    refine wk_Hs 1 4 ⟨rfl, rfl⟩ (ls' := [.int x0, .int x1]) (st' := [.int x0]) (σ' := s) rfl ?_
    refine wk_Hgoto (t := 6) rfl ?_
    cases h
    exact wk_eqz hk (wk_Hret rfl)
set_option maxHeartbeats 4000000 in
set_option maxRecDepth 20000 in
theorem t_X12_has {x0 : Int32} {x1 : Int32} {s : wk_St} {r : Bool} (h : f_X12_has x0 x1 = r) : wk_T wk_shM 0 45 [.int x0, .int x1] s (some (.int (b2i r)), s) := by
  suffices H : ∀ z, z = (some (.int (b2i r)), s) → wk_H wk_shM 0 mc_X12_has 0 [.int x0, .int x1] [] s z from H _ rfl
  intro z hk
  dsimp only [f_X12_has] at h
  refine wk_Hs 6 6 ⟨rfl, rfl⟩ (ls' := [.int x0, .int x1]) (st' := [.int (1 : Int32), .int ((x0 >>> (x1 &&& 31)) &&& (1 : Int32))]) (σ' := s) rfl ?_
  rcases wk_ife h with ⟨hc, h⟩ | ⟨hc, h⟩
  · refine wk_Hbt 9 rfl (wk_cne.2 hc) ?_
    refine wk_Hs 1 10 ⟨rfl, rfl⟩ (ls' := [.int x0, .int x1]) (st' := [.int (0 : Int32)]) (σ' := s) rfl ?_
    cases h
    exact wk_eqz hk (wk_Hretz rfl (b2i_01 false))
  · refine wk_Hbf 9 7 rfl rfl (wk_nf wk_cne hc) ?_
    refine wk_Hs 1 8 ⟨rfl, rfl⟩ (ls' := [.int x0, .int x1]) (st' := [.int (1 : Int32)]) (σ' := s) rfl ?_
    refine wk_Hgoto (t := 10) rfl ?_
    cases h
    exact wk_eqz hk (wk_Hretz rfl (b2i_01 true))
set_option maxHeartbeats 4000000 in
set_option maxRecDepth 20000 in
theorem ts_S_X12_bits_4 {x0 : Int32} {x1 : Int32} {x2 : Int32} {s : wk_St} {z : wk_R} {o : (Int32) ⊕ (Int32 × Int32)} (h : S_X12_bits_4 x0 (x1, x2) = some o) (hk : match (generalizing := false) o with | Sum.inl a => (∀ (u2 : Value), wk_H wk_shM 0 mc_X12_bits 17 [.int x0, .int a, u2] [] s z) | Sum.inr y => wk_H wk_shM 0 mc_X12_bits 4 [.int x0, .int y.1, .int y.2] [] s z) : wk_H wk_shM 0 mc_X12_bits 4 [.int x0, .int x1, .int x2] [] s z := by
  dsimp only [S_X12_bits_4] at h
  refine wk_Hs 2 6 ⟨rfl, rfl⟩ (ls' := [.int x0, .int x1, .int x2]) (st' := [.int (12 : Int32), .int x2]) (σ' := s) rfl ?_
  rcases wk_ife h with ⟨hc, h⟩ | ⟨hc, h⟩
  · refine wk_Hbt 17 rfl (wk_cge.2 hc) ?_
    cases h
    exact hk _
  · refine wk_Hbf 17 7 rfl rfl (wk_nf wk_cge hc) ?_
    refine wk_Hs 7 14 ⟨rfl, rfl⟩ (ls' := [.int x0, .int x1, .int x2]) (st' := [.int (x1 + ((x0 >>> (x2 &&& 31)) &&& (1 : Int32)))]) (σ' := s) rfl ?_
    replace h := wk_letE h
    refine wk_Hs 2 16 ⟨rfl, rfl⟩ (ls' := [.int x0, .int (x1 + ((x0 >>> (x2 &&& 31)) &&& (1 : Int32))), .int (x2 + (1 : Int32))]) (st' := []) (σ' := s) rfl ?_
    refine wk_Hgoto (t := 4) rfl ?_
    cases h
    exact hk
set_option maxHeartbeats 4000000 in
set_option maxRecDepth 20000 in
theorem tl_S_X12_bits_4 {x0 : Int32} {s : wk_St} {z : wk_R} (n : Nat) : ∀ {x1 : Int32} {x2 : Int32} {a : Int32} (h : wk_loop (S_X12_bits_4 x0) n (x1, x2) = some a) (hk : ∀ (u2 : Value), wk_H wk_shM 0 mc_X12_bits 17 [.int x0, .int a, u2] [] s z), wk_H wk_shM 0 mc_X12_bits 4 [.int x0, .int x1, .int x2] [] s z := by
  induction n with
  | zero =>
    intros
    rename_i h _
    exact nomatch (show (none : Option _) = some _ from h)
  | succ n ih =>
    intros
    rename_i h hk
    obtain ⟨o, ho, h⟩ := wk_bindE (show Option.bind _ _ = some _ from h)
    refine ts_S_X12_bits_4 ho ?_
    cases o with
    | inl a1 =>
      cases h
      exact hk
    | inr p =>
      obtain ⟨p0, p1⟩ := p
      exact ih h hk
set_option maxHeartbeats 4000000 in
set_option maxRecDepth 20000 in
theorem t_X12_bits {x0 : Int32} {s : wk_St} {r : Int32} (h : f_X12_bits x0 = some r) : wk_T wk_shM 0 46 [.int x0] s (some (.int r), s) := by
  suffices H : ∀ z, z = (some (.int r), s) → wk_H wk_shM 0 mc_X12_bits 0 [.int x0, wk_U, wk_U] [] s z from H _ rfl
  intro z hk
  dsimp only [f_X12_bits] at h
  refine wk_Hs 4 4 ⟨rfl, rfl⟩ (ls' := [.int x0, .int (0 : Int32), .int (0 : Int32)]) (st' := []) (σ' := s) rfl ?_
  obtain ⟨v2, hv2, h⟩ := wk_bindE h
  refine tl_S_X12_bits_4 wk_F hv2 ?_
  intro g3
  refine wk_Hs 1 18 ⟨rfl, rfl⟩ (ls' := [.int x0, .int v2, g3]) (st' := [.int v2]) (σ' := s) rfl ?_
  cases h
  exact wk_eqz hk (wk_Hret rfl)
set_option maxHeartbeats 4000000 in
set_option maxRecDepth 20000 in
theorem ts_S_X12_copies_2_1_2 {x2 : Int32} {s : wk_St} {z : wk_R} {o : (wk_St) ⊕ (Int32 × wk_St)} (h : S_X12_copies_2 1 2 (x2, s) = some o) (hk : match (generalizing := false) o with | Sum.inl a => (∀ (u2 : Value), wk_H wk_shM 0 mc_X12_copies 13 [.ref 1, .ref 2, u2] [] a z) | Sum.inr y => wk_H wk_shM 0 mc_X12_copies 2 [.ref 1, .ref 2, .int y.1] [] y.2 z) : wk_H wk_shM 0 mc_X12_copies 2 [.ref 1, .ref 2, .int x2] [] s z := by
  dsimp only [S_X12_copies_2] at h
  refine wk_Hs 2 4 ⟨rfl, rfl⟩ (ls' := [.ref 1, .ref 2, .int x2]) (st' := [.int (47 : Int32), .int x2]) (σ' := s) rfl ?_
  rcases wk_ife h with ⟨hc, h⟩ | ⟨hc, h⟩
  · refine wk_Hbt 13 rfl (wk_cge.2 hc) ?_
    cases h
    exact hk _
  · refine wk_Hbf 13 5 rfl rfl (wk_nf wk_cge hc) ?_
    refine wk_Hs 4 9 ⟨rfl, rfl⟩ (ls' := [.ref 1, .ref 2, .int x2]) (st' := [.int x2, .ref 1, .int x2, .ref 2]) (σ' := s) rfl ?_
    obtain ⟨hg, h⟩ := wk_gdE h
    refine wk_Hia 10 rfl rfl rfl hg rfl ?_
    obtain ⟨hg, h⟩ := wk_gdE h
    refine wk_Hias 11 rfl rfl rfl hg rfl ?_
    refine wk_Hs 1 12 ⟨rfl, rfl⟩ (ls' := [.ref 1, .ref 2, .int (x2 + (1 : Int32))]) (st' := []) (σ' := (wk_si s 2 (x2.toNatClampNeg) (s.1 1 (x2.toNatClampNeg)))) rfl ?_
    refine wk_Hgoto (t := 2) rfl ?_
    cases h
    exact hk
set_option maxHeartbeats 4000000 in
set_option maxRecDepth 20000 in
theorem tl_S_X12_copies_2_1_2 {z : wk_R} (n : Nat) : ∀ {x2 : Int32} {s : wk_St} {a : wk_St} (h : wk_loop (S_X12_copies_2 1 2) n (x2, s) = some a) (hk : ∀ (u2 : Value), wk_H wk_shM 0 mc_X12_copies 13 [.ref 1, .ref 2, u2] [] a z), wk_H wk_shM 0 mc_X12_copies 2 [.ref 1, .ref 2, .int x2] [] s z := by
  induction n with
  | zero =>
    intros
    rename_i h _
    exact nomatch (show (none : Option _) = some _ from h)
  | succ n ih =>
    intros
    rename_i h hk
    obtain ⟨o, ho, h⟩ := wk_bindE (show Option.bind _ _ = some _ from h)
    refine ts_S_X12_copies_2_1_2 ho ?_
    cases o with
    | inl a1 =>
      cases h
      exact hk
    | inr p =>
      obtain ⟨p0, p1⟩ := p
      exact ih h hk
set_option maxHeartbeats 4000000 in
set_option maxRecDepth 20000 in
theorem t_X12_copies_1_2 {s : wk_St} {r : wk_St} (h : f_X12_copies 1 2 s = some r) : wk_T wk_shM 0 47 [.ref 1, .ref 2] s (none, r) := by
  suffices H : ∀ z, z = (none, r) → wk_H wk_shM 0 mc_X12_copies 0 [.ref 1, .ref 2, wk_U] [] s z from H _ rfl
  intro z hk
  dsimp only [f_X12_copies] at h
  refine wk_Hs 2 2 ⟨rfl, rfl⟩ (ls' := [.ref 1, .ref 2, .int (0 : Int32)]) (st' := []) (σ' := s) rfl ?_
  obtain ⟨v1, hv1, h⟩ := wk_bindE h
  refine tl_S_X12_copies_2_1_2 wk_F hv1 ?_
  intro g2
  cases h
  exact wk_eqz hk (wk_Hretv rfl)
set_option maxHeartbeats 4000000 in
set_option maxRecDepth 20000 in
theorem ts_S_X12_copies_2_1_3 {x2 : Int32} {s : wk_St} {z : wk_R} {o : (wk_St) ⊕ (Int32 × wk_St)} (h : S_X12_copies_2 1 3 (x2, s) = some o) (hk : match (generalizing := false) o with | Sum.inl a => (∀ (u2 : Value), wk_H wk_shM 0 mc_X12_copies 13 [.ref 1, .ref 3, u2] [] a z) | Sum.inr y => wk_H wk_shM 0 mc_X12_copies 2 [.ref 1, .ref 3, .int y.1] [] y.2 z) : wk_H wk_shM 0 mc_X12_copies 2 [.ref 1, .ref 3, .int x2] [] s z := by
  dsimp only [S_X12_copies_2] at h
  refine wk_Hs 2 4 ⟨rfl, rfl⟩ (ls' := [.ref 1, .ref 3, .int x2]) (st' := [.int (47 : Int32), .int x2]) (σ' := s) rfl ?_
  rcases wk_ife h with ⟨hc, h⟩ | ⟨hc, h⟩
  · refine wk_Hbt 13 rfl (wk_cge.2 hc) ?_
    cases h
    exact hk _
  · refine wk_Hbf 13 5 rfl rfl (wk_nf wk_cge hc) ?_
    refine wk_Hs 4 9 ⟨rfl, rfl⟩ (ls' := [.ref 1, .ref 3, .int x2]) (st' := [.int x2, .ref 1, .int x2, .ref 3]) (σ' := s) rfl ?_
    obtain ⟨hg, h⟩ := wk_gdE h
    refine wk_Hia 10 rfl rfl rfl hg rfl ?_
    obtain ⟨hg, h⟩ := wk_gdE h
    refine wk_Hias 11 rfl rfl rfl hg rfl ?_
    refine wk_Hs 1 12 ⟨rfl, rfl⟩ (ls' := [.ref 1, .ref 3, .int (x2 + (1 : Int32))]) (st' := []) (σ' := (wk_si s 3 (x2.toNatClampNeg) (s.1 1 (x2.toNatClampNeg)))) rfl ?_
    refine wk_Hgoto (t := 2) rfl ?_
    cases h
    exact hk
set_option maxHeartbeats 4000000 in
set_option maxRecDepth 20000 in
theorem tl_S_X12_copies_2_1_3 {z : wk_R} (n : Nat) : ∀ {x2 : Int32} {s : wk_St} {a : wk_St} (h : wk_loop (S_X12_copies_2 1 3) n (x2, s) = some a) (hk : ∀ (u2 : Value), wk_H wk_shM 0 mc_X12_copies 13 [.ref 1, .ref 3, u2] [] a z), wk_H wk_shM 0 mc_X12_copies 2 [.ref 1, .ref 3, .int x2] [] s z := by
  induction n with
  | zero =>
    intros
    rename_i h _
    exact nomatch (show (none : Option _) = some _ from h)
  | succ n ih =>
    intros
    rename_i h hk
    obtain ⟨o, ho, h⟩ := wk_bindE (show Option.bind _ _ = some _ from h)
    refine ts_S_X12_copies_2_1_3 ho ?_
    cases o with
    | inl a1 =>
      cases h
      exact hk
    | inr p =>
      obtain ⟨p0, p1⟩ := p
      exact ih h hk
set_option maxHeartbeats 4000000 in
set_option maxRecDepth 20000 in
theorem t_X12_copies_1_3 {s : wk_St} {r : wk_St} (h : f_X12_copies 1 3 s = some r) : wk_T wk_shM 0 47 [.ref 1, .ref 3] s (none, r) := by
  suffices H : ∀ z, z = (none, r) → wk_H wk_shM 0 mc_X12_copies 0 [.ref 1, .ref 3, wk_U] [] s z from H _ rfl
  intro z hk
  dsimp only [f_X12_copies] at h
  refine wk_Hs 2 2 ⟨rfl, rfl⟩ (ls' := [.ref 1, .ref 3, .int (0 : Int32)]) (st' := []) (σ' := s) rfl ?_
  obtain ⟨v1, hv1, h⟩ := wk_bindE h
  refine tl_S_X12_copies_2_1_3 wk_F hv1 ?_
  intro g2
  cases h
  exact wk_eqz hk (wk_Hretv rfl)
set_option maxHeartbeats 4000000 in
set_option maxRecDepth 20000 in
theorem ts_S_X12_copies_2_2_1 {x2 : Int32} {s : wk_St} {z : wk_R} {o : (wk_St) ⊕ (Int32 × wk_St)} (h : S_X12_copies_2 2 1 (x2, s) = some o) (hk : match (generalizing := false) o with | Sum.inl a => (∀ (u2 : Value), wk_H wk_shM 0 mc_X12_copies 13 [.ref 2, .ref 1, u2] [] a z) | Sum.inr y => wk_H wk_shM 0 mc_X12_copies 2 [.ref 2, .ref 1, .int y.1] [] y.2 z) : wk_H wk_shM 0 mc_X12_copies 2 [.ref 2, .ref 1, .int x2] [] s z := by
  dsimp only [S_X12_copies_2] at h
  refine wk_Hs 2 4 ⟨rfl, rfl⟩ (ls' := [.ref 2, .ref 1, .int x2]) (st' := [.int (47 : Int32), .int x2]) (σ' := s) rfl ?_
  rcases wk_ife h with ⟨hc, h⟩ | ⟨hc, h⟩
  · refine wk_Hbt 13 rfl (wk_cge.2 hc) ?_
    cases h
    exact hk _
  · refine wk_Hbf 13 5 rfl rfl (wk_nf wk_cge hc) ?_
    refine wk_Hs 4 9 ⟨rfl, rfl⟩ (ls' := [.ref 2, .ref 1, .int x2]) (st' := [.int x2, .ref 2, .int x2, .ref 1]) (σ' := s) rfl ?_
    obtain ⟨hg, h⟩ := wk_gdE h
    refine wk_Hia 10 rfl rfl rfl hg rfl ?_
    obtain ⟨hg, h⟩ := wk_gdE h
    refine wk_Hias 11 rfl rfl rfl hg rfl ?_
    refine wk_Hs 1 12 ⟨rfl, rfl⟩ (ls' := [.ref 2, .ref 1, .int (x2 + (1 : Int32))]) (st' := []) (σ' := (wk_si s 1 (x2.toNatClampNeg) (s.1 2 (x2.toNatClampNeg)))) rfl ?_
    refine wk_Hgoto (t := 2) rfl ?_
    cases h
    exact hk
set_option maxHeartbeats 4000000 in
set_option maxRecDepth 20000 in
theorem tl_S_X12_copies_2_2_1 {z : wk_R} (n : Nat) : ∀ {x2 : Int32} {s : wk_St} {a : wk_St} (h : wk_loop (S_X12_copies_2 2 1) n (x2, s) = some a) (hk : ∀ (u2 : Value), wk_H wk_shM 0 mc_X12_copies 13 [.ref 2, .ref 1, u2] [] a z), wk_H wk_shM 0 mc_X12_copies 2 [.ref 2, .ref 1, .int x2] [] s z := by
  induction n with
  | zero =>
    intros
    rename_i h _
    exact nomatch (show (none : Option _) = some _ from h)
  | succ n ih =>
    intros
    rename_i h hk
    obtain ⟨o, ho, h⟩ := wk_bindE (show Option.bind _ _ = some _ from h)
    refine ts_S_X12_copies_2_2_1 ho ?_
    cases o with
    | inl a1 =>
      cases h
      exact hk
    | inr p =>
      obtain ⟨p0, p1⟩ := p
      exact ih h hk
set_option maxHeartbeats 4000000 in
set_option maxRecDepth 20000 in
theorem t_X12_copies_2_1 {s : wk_St} {r : wk_St} (h : f_X12_copies 2 1 s = some r) : wk_T wk_shM 0 47 [.ref 2, .ref 1] s (none, r) := by
  suffices H : ∀ z, z = (none, r) → wk_H wk_shM 0 mc_X12_copies 0 [.ref 2, .ref 1, wk_U] [] s z from H _ rfl
  intro z hk
  dsimp only [f_X12_copies] at h
  refine wk_Hs 2 2 ⟨rfl, rfl⟩ (ls' := [.ref 2, .ref 1, .int (0 : Int32)]) (st' := []) (σ' := s) rfl ?_
  obtain ⟨v1, hv1, h⟩ := wk_bindE h
  refine tl_S_X12_copies_2_2_1 wk_F hv1 ?_
  intro g2
  cases h
  exact wk_eqz hk (wk_Hretv rfl)
set_option maxHeartbeats 4000000 in
set_option maxRecDepth 20000 in
theorem ts_S_X12_copies_2_3_1 {x2 : Int32} {s : wk_St} {z : wk_R} {o : (wk_St) ⊕ (Int32 × wk_St)} (h : S_X12_copies_2 3 1 (x2, s) = some o) (hk : match (generalizing := false) o with | Sum.inl a => (∀ (u2 : Value), wk_H wk_shM 0 mc_X12_copies 13 [.ref 3, .ref 1, u2] [] a z) | Sum.inr y => wk_H wk_shM 0 mc_X12_copies 2 [.ref 3, .ref 1, .int y.1] [] y.2 z) : wk_H wk_shM 0 mc_X12_copies 2 [.ref 3, .ref 1, .int x2] [] s z := by
  dsimp only [S_X12_copies_2] at h
  refine wk_Hs 2 4 ⟨rfl, rfl⟩ (ls' := [.ref 3, .ref 1, .int x2]) (st' := [.int (47 : Int32), .int x2]) (σ' := s) rfl ?_
  rcases wk_ife h with ⟨hc, h⟩ | ⟨hc, h⟩
  · refine wk_Hbt 13 rfl (wk_cge.2 hc) ?_
    cases h
    exact hk _
  · refine wk_Hbf 13 5 rfl rfl (wk_nf wk_cge hc) ?_
    refine wk_Hs 4 9 ⟨rfl, rfl⟩ (ls' := [.ref 3, .ref 1, .int x2]) (st' := [.int x2, .ref 3, .int x2, .ref 1]) (σ' := s) rfl ?_
    obtain ⟨hg, h⟩ := wk_gdE h
    refine wk_Hia 10 rfl rfl rfl hg rfl ?_
    obtain ⟨hg, h⟩ := wk_gdE h
    refine wk_Hias 11 rfl rfl rfl hg rfl ?_
    refine wk_Hs 1 12 ⟨rfl, rfl⟩ (ls' := [.ref 3, .ref 1, .int (x2 + (1 : Int32))]) (st' := []) (σ' := (wk_si s 1 (x2.toNatClampNeg) (s.1 3 (x2.toNatClampNeg)))) rfl ?_
    refine wk_Hgoto (t := 2) rfl ?_
    cases h
    exact hk
set_option maxHeartbeats 4000000 in
set_option maxRecDepth 20000 in
theorem tl_S_X12_copies_2_3_1 {z : wk_R} (n : Nat) : ∀ {x2 : Int32} {s : wk_St} {a : wk_St} (h : wk_loop (S_X12_copies_2 3 1) n (x2, s) = some a) (hk : ∀ (u2 : Value), wk_H wk_shM 0 mc_X12_copies 13 [.ref 3, .ref 1, u2] [] a z), wk_H wk_shM 0 mc_X12_copies 2 [.ref 3, .ref 1, .int x2] [] s z := by
  induction n with
  | zero =>
    intros
    rename_i h _
    exact nomatch (show (none : Option _) = some _ from h)
  | succ n ih =>
    intros
    rename_i h hk
    obtain ⟨o, ho, h⟩ := wk_bindE (show Option.bind _ _ = some _ from h)
    refine ts_S_X12_copies_2_3_1 ho ?_
    cases o with
    | inl a1 =>
      cases h
      exact hk
    | inr p =>
      obtain ⟨p0, p1⟩ := p
      exact ih h hk
set_option maxHeartbeats 4000000 in
set_option maxRecDepth 20000 in
theorem t_X12_copies_3_1 {s : wk_St} {r : wk_St} (h : f_X12_copies 3 1 s = some r) : wk_T wk_shM 0 47 [.ref 3, .ref 1] s (none, r) := by
  suffices H : ∀ z, z = (none, r) → wk_H wk_shM 0 mc_X12_copies 0 [.ref 3, .ref 1, wk_U] [] s z from H _ rfl
  intro z hk
  dsimp only [f_X12_copies] at h
  refine wk_Hs 2 2 ⟨rfl, rfl⟩ (ls' := [.ref 3, .ref 1, .int (0 : Int32)]) (st' := []) (σ' := s) rfl ?_
  obtain ⟨v1, hv1, h⟩ := wk_bindE h
  refine tl_S_X12_copies_2_3_1 wk_F hv1 ?_
  intro g2
  cases h
  exact wk_eqz hk (wk_Hretv rfl)
set_option maxHeartbeats 4000000 in
set_option maxRecDepth 20000 in
theorem t_X12_isPlace {x1 : Int32} {s : wk_St} {r : Bool} (h : f_X12_isPlace x1 s = r) : wk_T wk_shM 1 48 [.ref 0, .int x1] s (some (.int (b2i r)), s) := by
  suffices H : ∀ z, z = (some (.int (b2i r)), s) → wk_H wk_shM 1 mc_X12_isPlace 0 [.ref 0, .int x1] [] s z from H _ rfl
  intro z hk
  dsimp only [f_X12_isPlace] at h
  refine wk_Hs 3 3 ⟨rfl, rfl⟩ (ls' := [.ref 0, .int x1]) (st' := [.int (11 : Int32), .int (0 : Int32), .int x1]) (σ' := s) rfl ?_
  refine wk_Hcall (i2 := 4) (args := [.int x1, .int (0 : Int32), .int (11 : Int32)]) (rest := []) (r := some (.int (b2i (f_X12_in x1 (0 : Int32) (11 : Int32))))) (σ1 := s) rfl rfl ⟨rfl, rfl, rfl, rfl, rfl⟩ rfl ((t_X12_in rfl).up (by decide)) ?_
  rcases wk_ife h with ⟨hc, h⟩ | ⟨hc, h⟩
  · refine wk_H0t 12 rfl (wk_zeq.2 hc) ?_
    refine wk_Hs 1 13 ⟨rfl, rfl⟩ (ls' := [.ref 0, .int x1]) (st' := [.int (0 : Int32)]) (σ' := s) rfl ?_
    cases h
    exact wk_eqz hk (wk_Hretz rfl (b2i_01 false))
  · refine wk_H0f 12 5 rfl rfl (wk_nf wk_zeq hc) ?_
    refine wk_Hs 3 8 ⟨rfl, rfl⟩ (ls' := [.ref 0, .int x1]) (st' := [.int x1, .int (s.1 0 4)]) (σ' := s) rfl ?_
    refine wk_Hcall (i2 := 9) (args := [.int (s.1 0 4), .int x1]) (rest := []) (r := some (.int (b2i (f_X12_has (s.1 0 4) x1)))) (σ1 := s) rfl rfl ⟨rfl, rfl, rfl, rfl, rfl⟩ rfl ((t_X12_has rfl).up (by decide)) ?_
    rcases wk_ife h with ⟨hc, h⟩ | ⟨hc, h⟩
    · refine wk_H0t 12 rfl (wk_zeq.2 hc) ?_
      refine wk_Hs 1 13 ⟨rfl, rfl⟩ (ls' := [.ref 0, .int x1]) (st' := [.int (0 : Int32)]) (σ' := s) rfl ?_
      cases h
      exact wk_eqz hk (wk_Hretz rfl (b2i_01 false))
    · refine wk_H0f 12 10 rfl rfl (wk_nf wk_zeq hc) ?_
      refine wk_Hs 1 11 ⟨rfl, rfl⟩ (ls' := [.ref 0, .int x1]) (st' := [.int (1 : Int32)]) (σ' := s) rfl ?_
      refine wk_Hgoto (t := 13) rfl ?_
      cases h
      exact wk_eqz hk (wk_Hretz rfl (b2i_01 true))
set_option maxHeartbeats 4000000 in
set_option maxRecDepth 20000 in
theorem t_X12_isKnight {x1 : Int32} {s : wk_St} {r : Bool} (h : f_X12_isKnight x1 s = some r) : wk_T wk_shM 1 49 [.ref 0, .int x1] s (some (.int (b2i r)), s) := by
  suffices H : ∀ z, z = (some (.int (b2i r)), s) → wk_H wk_shM 1 mc_X12_isKnight 0 [.ref 0, .int x1] [] s z from H _ rfl
  intro z hk
  dsimp only [f_X12_isKnight] at h
  refine wk_Hs 3 3 ⟨rfl, rfl⟩ (ls' := [.ref 0, .int x1]) (st' := [.int (8 : Int32), .int (0 : Int32), .int x1]) (σ' := s) rfl ?_
  refine wk_Hcall (i2 := 4) (args := [.int x1, .int (0 : Int32), .int (8 : Int32)]) (rest := []) (r := some (.int (b2i (f_X12_in x1 (0 : Int32) (8 : Int32))))) (σ1 := s) rfl rfl ⟨rfl, rfl, rfl, rfl, rfl⟩ rfl ((t_X12_in rfl).up (by decide)) ?_
  rcases wk_ife h with ⟨hc, h⟩ | ⟨hc, h⟩
  · refine wk_H0t 15 rfl (wk_zeq.2 hc) ?_
    refine wk_Hs 1 16 ⟨rfl, rfl⟩ (ls' := [.ref 0, .int x1]) (st' := [.int (0 : Int32)]) (σ' := s) rfl ?_
    cases h
    exact wk_eqz hk (wk_Hretz rfl (b2i_01 false))
  · refine wk_H0f 15 5 rfl rfl (wk_nf wk_zeq hc) ?_
    refine wk_Hs 5 10 ⟨rfl, rfl⟩ (ls' := [.ref 0, .int x1]) (st' := [.int ((0 : Int32) + x1), .ref 1]) (σ' := s) rfl ?_
    obtain ⟨hg, h⟩ := wk_gdE h
    refine wk_Hia 11 rfl rfl rfl hg rfl ?_
    refine wk_Hs 1 12 ⟨rfl, rfl⟩ (ls' := [.ref 0, .int x1]) (st' := [.int (1 : Int32), .int (s.1 1 (((0 : Int32) + x1).toNatClampNeg))]) (σ' := s) rfl ?_
    rcases wk_ife h with ⟨hc, h⟩ | ⟨hc, h⟩
    · refine wk_Hbt 15 rfl (wk_cne.2 hc) ?_
      refine wk_Hs 1 16 ⟨rfl, rfl⟩ (ls' := [.ref 0, .int x1]) (st' := [.int (0 : Int32)]) (σ' := s) rfl ?_
      cases h
      exact wk_eqz hk (wk_Hretz rfl (b2i_01 false))
    · refine wk_Hbf 15 13 rfl rfl (wk_nf wk_cne hc) ?_
      refine wk_Hs 1 14 ⟨rfl, rfl⟩ (ls' := [.ref 0, .int x1]) (st' := [.int (1 : Int32)]) (σ' := s) rfl ?_
      refine wk_Hgoto (t := 16) rfl ?_
      cases h
      exact wk_eqz hk (wk_Hretz rfl (b2i_01 true))
set_option maxHeartbeats 4000000 in
set_option maxRecDepth 20000 in
theorem t_X12_isLiving {x1 : Int32} {s : wk_St} {r : Bool} (h : f_X12_isLiving x1 s = some r) : wk_T wk_shM 2 50 [.ref 0, .int x1] s (some (.int (b2i r)), s) := by
  suffices H : ∀ z, z = (some (.int (b2i r)), s) → wk_H wk_shM 2 mc_X12_isLiving 0 [.ref 0, .int x1] [] s z from H _ rfl
  intro z hk
  dsimp only [f_X12_isLiving] at h
  refine wk_Hs 2 2 ⟨rfl, rfl⟩ (ls' := [.ref 0, .int x1]) (st' := [.int x1, .ref 0]) (σ' := s) rfl ?_
  obtain ⟨v1, hv1, h⟩ := wk_bindE h
  refine wk_Hcall (i2 := 3) (args := [.ref 0, .int x1]) (rest := []) (r := some (.int (b2i v1))) (σ1 := s) rfl rfl ⟨rfl, rfl, rfl, rfl, rfl⟩ rfl ((t_X12_isKnight hv1).up (by decide)) ?_
  rcases wk_ife h with ⟨hc, h⟩ | ⟨hc, h⟩
  · refine wk_H0t 14 rfl (wk_zeq.2 hc) ?_
    refine wk_Hs 1 15 ⟨rfl, rfl⟩ (ls' := [.ref 0, .int x1]) (st' := [.int (0 : Int32)]) (σ' := s) rfl ?_
    cases h
    exact wk_eqz hk (wk_Hretz rfl (b2i_01 false))
  · refine wk_H0f 14 4 rfl rfl (wk_nf wk_zeq hc) ?_
    refine wk_Hs 5 9 ⟨rfl, rfl⟩ (ls' := [.ref 0, .int x1]) (st' := [.int ((27 : Int32) + x1), .ref 1]) (σ' := s) rfl ?_
    obtain ⟨hg, h⟩ := wk_gdE h
    refine wk_Hia 10 rfl rfl rfl hg rfl ?_
    refine wk_Hs 1 11 ⟨rfl, rfl⟩ (ls' := [.ref 0, .int x1]) (st' := [.int (2 : Int32), .int (s.1 1 (((27 : Int32) + x1).toNatClampNeg))]) (σ' := s) rfl ?_
    rcases wk_ife h with ⟨hc, h⟩ | ⟨hc, h⟩
    · refine wk_Hbt 14 rfl (wk_ceq.2 hc) ?_
      refine wk_Hs 1 15 ⟨rfl, rfl⟩ (ls' := [.ref 0, .int x1]) (st' := [.int (0 : Int32)]) (σ' := s) rfl ?_
      cases h
      exact wk_eqz hk (wk_Hretz rfl (b2i_01 false))
    · refine wk_Hbf 14 12 rfl rfl (wk_nf wk_ceq hc) ?_
      refine wk_Hs 1 13 ⟨rfl, rfl⟩ (ls' := [.ref 0, .int x1]) (st' := [.int (1 : Int32)]) (σ' := s) rfl ?_
      refine wk_Hgoto (t := 15) rfl ?_
      cases h
      exact wk_eqz hk (wk_Hretz rfl (b2i_01 true))
set_option maxHeartbeats 4000000 in
set_option maxRecDepth 20000 in
theorem t_X12_weekdayIn {x1 : Int32} {s : wk_St} {r : Int32} (h : f_X12_weekdayIn x1 s = r) : wk_T wk_shM 0 51 [.ref 0, .int x1] s (some (.int r), s) := by
  suffices H : ∀ z, z = (some (.int r), s) → wk_H wk_shM 0 mc_X12_weekdayIn 0 [.ref 0, .int x1] [] s z from H _ rfl
  intro z hk
  dsimp only [f_X12_weekdayIn] at h
  refine wk_Hs 3 3 ⟨rfl, rfl⟩ (ls' := [.ref 0, .int x1]) (st' := [.int (45 : Int32), .ref 1]) (σ' := s) rfl ?_
  refine wk_Hia 4 rfl rfl rfl rfl rfl ?_
  refine wk_Hs 6 10 ⟨rfl, rfl⟩ (ls' := [.ref 0, .int x1]) (st' := [.int (7 : Int32), .int (((s.1 1 45) + x1) + (s.1 0 5))]) (σ' := s) rfl ?_
  refine wk_Hrem 11 rfl rfl (by decide) ?_
  cases h
  exact wk_eqz hk (wk_Hret rfl)
set_option maxHeartbeats 4000000 in
set_option maxRecDepth 20000 in
theorem t_X12_place {x1 : Int32} {s : wk_St} {r : Bool × wk_St} (h : f_X12_place x1 s = r) : wk_T wk_shM 1 52 [.ref 0, .int x1] s (some (.int (b2i r.1)), r.2) := by
  suffices H : ∀ z, z = (some (.int (b2i r.1)), r.2) → wk_H wk_shM 1 mc_X12_place 0 [.ref 0, .int x1] [] s z from H _ rfl
  intro z hk
  dsimp only [f_X12_place] at h
  refine wk_Hs 3 3 ⟨rfl, rfl⟩ (ls' := [.ref 0, .int x1]) (st' := [.int (11 : Int32), .int (0 : Int32), .int x1]) (σ' := s) rfl ?_
  refine wk_Hcall (i2 := 4) (args := [.int x1, .int (0 : Int32), .int (11 : Int32)]) (rest := []) (r := some (.int (b2i (f_X12_in x1 (0 : Int32) (11 : Int32))))) (σ1 := s) rfl rfl ⟨rfl, rfl, rfl, rfl, rfl⟩ rfl ((t_X12_in rfl).up (by decide)) ?_
  rcases wk_ife h with ⟨hc, h⟩ | ⟨hc, h⟩
  · refine wk_H0t 7 rfl (wk_zne.2 hc) ?_
    refine wk_Hs 9 16 ⟨rfl, rfl⟩ (ls' := [.ref 0, .int x1]) (st' := [.int (1 : Int32)]) (σ' := (wk_si s 0 4 ((s.1 0 4) ||| ((1 : Int32) <<< (x1 &&& 31))))) rfl ?_
    cases h
    exact wk_eqz hk (wk_Hretz rfl (b2i_01 true))
  · refine wk_H0f 7 5 rfl rfl (wk_nf wk_zne hc) ?_
    refine wk_Hs 1 6 ⟨rfl, rfl⟩ (ls' := [.ref 0, .int x1]) (st' := [.int (0 : Int32)]) (σ' := s) rfl ?_
    cases h
    exact wk_eqz hk (wk_Hretz rfl (b2i_01 false))
set_option maxHeartbeats 4000000 in
set_option maxRecDepth 20000 in
theorem tj_j_X12_next_37 {x1 : Int32} {x2 : Int32} {x3 : Int32} {s_0 : Int32} {s_1 : Int32} {s : wk_St} {z : wk_R} {o : Bool × wk_St} (h : j_X12_next_37 x1 x2 x3 s_0 s_1 s = some o) (hk : z = (some (.int (b2i o.1)), o.2)) : wk_H wk_shM 2 mc_X12_next 37 [.ref 0, .int x1, .int x2, .int x3] [.int s_0, .int s_1, .ref 4] s z := by
  dsimp only [j_X12_next_37] at h
  obtain ⟨hg, h⟩ := wk_gdE h
  refine wk_Hias 38 rfl rfl rfl hg rfl ?_
  refine wk_Hs 4 42 ⟨rfl, rfl⟩ (ls' := [.ref 0, .int x1, .int x2, .int x3]) (st' := [.int x3, .int x2, .ref 4]) (σ' := (wk_si s 4 (s_1.toNatClampNeg) s_0)) rfl ?_
  rcases wk_ife h with ⟨hc, h⟩ | ⟨hc, h⟩
  · refine wk_H0t 52 rfl (wk_ceq.2 hc) ?_
    refine wk_Hs 3 55 ⟨rfl, rfl⟩ (ls' := [.ref 0, .int x1, .int x2, .int x3]) (st' := [.int x2, .ref 4, .int x2, .ref 4]) (σ' := (wk_si s 4 (s_1.toNatClampNeg) s_0)) rfl ?_
    obtain ⟨hg, h⟩ := wk_gdE h
    refine wk_Hia 56 rfl rfl rfl hg rfl ?_
    refine wk_Hs 6 62 ⟨rfl, rfl⟩ (ls' := [.ref 0, .int x1, .int x2, .int x3]) (st' := [.int (((wk_si s 4 (s_1.toNatClampNeg) s_0).1 4 (x2.toNatClampNeg)) &&& (((1 : Int32) <<< (x1 &&& 31)) ^^^ (-1 : Int32))), .int x2, .ref 4]) (σ' := (wk_si s 4 (s_1.toNatClampNeg) s_0)) rfl ?_
    obtain ⟨hg, h⟩ := wk_gdE h
    refine wk_Hias 63 rfl rfl rfl hg rfl ?_
    refine wk_Hs 1 64 ⟨rfl, rfl⟩ (ls' := [.ref 0, .int x1, .int x2, .int x3]) (st' := [.int (1 : Int32)]) (σ' := (wk_si (wk_si s 4 (s_1.toNatClampNeg) s_0) 4 (x2.toNatClampNeg) (((wk_si s 4 (s_1.toNatClampNeg) s_0).1 4 (x2.toNatClampNeg)) &&& (((1 : Int32) <<< (x1 &&& 31)) ^^^ (-1 : Int32))))) rfl ?_
    cases h
    exact wk_eqz hk (wk_Hretz rfl (b2i_01 true))
  · refine wk_H0f 52 43 rfl rfl (wk_nf wk_ceq hc) ?_
    refine wk_Hs 3 46 ⟨rfl, rfl⟩ (ls' := [.ref 0, .int x1, .int x2, .int x3]) (st' := [.int x2, .ref 4, .int x2, .ref 4]) (σ' := (wk_si s 4 (s_1.toNatClampNeg) s_0)) rfl ?_
    obtain ⟨hg, h⟩ := wk_gdE h
    refine wk_Hia 47 rfl rfl rfl hg rfl ?_
    refine wk_Hs 4 51 ⟨rfl, rfl⟩ (ls' := [.ref 0, .int x1, .int x2, .int x3]) (st' := [.int (((wk_si s 4 (s_1.toNatClampNeg) s_0).1 4 (x2.toNatClampNeg)) ||| ((1 : Int32) <<< (x1 &&& 31))), .int x2, .ref 4]) (σ' := (wk_si s 4 (s_1.toNatClampNeg) s_0)) rfl ?_
    refine wk_Hgoto (t := 62) rfl ?_
    obtain ⟨hg, h⟩ := wk_gdE h
    refine wk_Hias 63 rfl rfl rfl hg rfl ?_
    refine wk_Hs 1 64 ⟨rfl, rfl⟩ (ls' := [.ref 0, .int x1, .int x2, .int x3]) (st' := [.int (1 : Int32)]) (σ' := (wk_si (wk_si s 4 (s_1.toNatClampNeg) s_0) 4 (x2.toNatClampNeg) (((wk_si s 4 (s_1.toNatClampNeg) s_0).1 4 (x2.toNatClampNeg)) ||| ((1 : Int32) <<< (x1 &&& 31))))) rfl ?_
    cases h
    exact wk_eqz hk (wk_Hretz rfl (b2i_01 true))
set_option maxHeartbeats 4000000 in
set_option maxRecDepth 20000 in
theorem t_X12_next {x1 : Int32} {x2 : Int32} {x3 : Int32} {s : wk_St} {r : Bool × wk_St} (h : f_X12_next x1 x2 x3 s = some r) : wk_T wk_shM 2 53 [.ref 0, .int x1, .int x2, .int x3] s (some (.int (b2i r.1)), r.2) := by
  suffices H : ∀ z, z = (some (.int (b2i r.1)), r.2) → wk_H wk_shM 2 mc_X12_next 0 [.ref 0, .int x1, .int x2, .int x3] [] s z from H _ rfl
  intro z hk
  dsimp only [f_X12_next] at h
  refine wk_Hs 2 2 ⟨rfl, rfl⟩ (ls' := [.ref 0, .int x1, .int x2, .int x3]) (st' := [.int x1, .ref 0]) (σ' := s) rfl ?_
  refine wk_Hcall (i2 := 3) (args := [.ref 0, .int x1]) (rest := []) (r := some (.int (b2i (f_X12_isPlace x1 s)))) (σ1 := s) rfl rfl ⟨rfl, rfl, rfl, rfl, rfl⟩ rfl ((t_X12_isPlace rfl).up (by decide)) ?_
  rcases wk_ife h with ⟨hc, h⟩ | ⟨hc, h⟩
  · refine wk_H0t 11 rfl (wk_zeq.2 hc) ?_
    refine wk_Hs 1 12 ⟨rfl, rfl⟩ (ls' := [.ref 0, .int x1, .int x2, .int x3]) (st' := [.int (0 : Int32)]) (σ' := s) rfl ?_
    cases h
    exact wk_eqz hk (wk_Hretz rfl (b2i_01 false))
  · refine wk_H0f 11 4 rfl rfl (wk_nf wk_zeq hc) ?_
    refine wk_Hs 2 6 ⟨rfl, rfl⟩ (ls' := [.ref 0, .int x1, .int x2, .int x3]) (st' := [.int x2, .ref 0]) (σ' := s) rfl ?_
    refine wk_Hcall (i2 := 7) (args := [.ref 0, .int x2]) (rest := []) (r := some (.int (b2i (f_X12_isPlace x2 s)))) (σ1 := s) rfl rfl ⟨rfl, rfl, rfl, rfl, rfl⟩ rfl ((t_X12_isPlace rfl).up (by decide)) ?_
    rcases wk_ife h with ⟨hc, h⟩ | ⟨hc, h⟩
    · refine wk_H0t 11 rfl (wk_zeq.2 hc) ?_
      refine wk_Hs 1 12 ⟨rfl, rfl⟩ (ls' := [.ref 0, .int x1, .int x2, .int x3]) (st' := [.int (0 : Int32)]) (σ' := s) rfl ?_
      cases h
      exact wk_eqz hk (wk_Hretz rfl (b2i_01 false))
    · refine wk_H0f 11 8 rfl rfl (wk_nf wk_zeq hc) ?_
      refine wk_Hs 2 10 ⟨rfl, rfl⟩ (ls' := [.ref 0, .int x1, .int x2, .int x3]) (st' := [.int x2, .int x1]) (σ' := s) rfl ?_
      rcases wk_ife h with ⟨hc, h⟩ | ⟨hc, h⟩
      · refine wk_Hbt 13 rfl (wk_cne.2 hc) ?_
        refine wk_Hs 4 17 ⟨rfl, rfl⟩ (ls' := [.ref 0, .int x1, .int x2, .int x3]) (st' := [.int x3, .int x1, .ref 4]) (σ' := s) rfl ?_
        rcases wk_ife h with ⟨hc, h⟩ | ⟨hc, h⟩
        · refine wk_H0t 27 rfl (wk_ceq.2 hc) ?_
          refine wk_Hs 3 30 ⟨rfl, rfl⟩ (ls' := [.ref 0, .int x1, .int x2, .int x3]) (st' := [.int x1, .ref 4, .int x1, .ref 4]) (σ' := s) rfl ?_
          obtain ⟨hg, h⟩ := wk_gdE h
          refine wk_Hia 31 rfl rfl rfl hg rfl ?_
          refine wk_Hs 6 37 ⟨rfl, rfl⟩ (ls' := [.ref 0, .int x1, .int x2, .int x3]) (st' := [.int ((s.1 4 (x1.toNatClampNeg)) &&& (((1 : Int32) <<< (x2 &&& 31)) ^^^ (-1 : Int32))), .int x1, .ref 4]) (σ' := s) rfl ?_
          exact tj_j_X12_next_37 h hk
        · refine wk_H0f 27 18 rfl rfl (wk_nf wk_ceq hc) ?_
          refine wk_Hs 3 21 ⟨rfl, rfl⟩ (ls' := [.ref 0, .int x1, .int x2, .int x3]) (st' := [.int x1, .ref 4, .int x1, .ref 4]) (σ' := s) rfl ?_
          obtain ⟨hg, h⟩ := wk_gdE h
          refine wk_Hia 22 rfl rfl rfl hg rfl ?_
          refine wk_Hs 4 26 ⟨rfl, rfl⟩ (ls' := [.ref 0, .int x1, .int x2, .int x3]) (st' := [.int ((s.1 4 (x1.toNatClampNeg)) ||| ((1 : Int32) <<< (x2 &&& 31))), .int x1, .ref 4]) (σ' := s) rfl ?_
          refine wk_Hgoto (t := 37) rfl ?_
          exact tj_j_X12_next_37 h hk
      · refine wk_Hbf 13 11 rfl rfl (wk_nf wk_cne hc) ?_
        refine wk_Hs 1 12 ⟨rfl, rfl⟩ (ls' := [.ref 0, .int x1, .int x2, .int x3]) (st' := [.int (0 : Int32)]) (σ' := s) rfl ?_
        cases h
        exact wk_eqz hk (wk_Hretz rfl (b2i_01 false))
set_option maxHeartbeats 4000000 in
set_option maxRecDepth 20000 in
theorem t_X12_knight {x1 : Int32} {x2 : Int32} {x3 : Int32} {s : wk_St} {r : Bool × wk_St} (h : f_X12_knight x1 x2 x3 s = some r) : wk_T wk_shM 2 54 [.ref 0, .int x1, .int x2, .int x3] s (some (.int (b2i r.1)), r.2) := by
  suffices H : ∀ z, z = (some (.int (b2i r.1)), r.2) → wk_H wk_shM 2 mc_X12_knight 0 [.ref 0, .int x1, .int x2, .int x3] [] s z from H _ rfl
  intro z hk
  dsimp only [f_X12_knight] at h
  refine wk_Hs 3 3 ⟨rfl, rfl⟩ (ls' := [.ref 0, .int x1, .int x2, .int x3]) (st' := [.int (8 : Int32), .int (0 : Int32), .int x1]) (σ' := s) rfl ?_
  refine wk_Hcall (i2 := 4) (args := [.int x1, .int (0 : Int32), .int (8 : Int32)]) (rest := []) (r := some (.int (b2i (f_X12_in x1 (0 : Int32) (8 : Int32))))) (σ1 := s) rfl rfl ⟨rfl, rfl, rfl, rfl, rfl⟩ rfl ((t_X12_in rfl).up (by decide)) ?_
  rcases wk_ife h with ⟨hc, h⟩ | ⟨hc, h⟩
  · refine wk_H0t 14 rfl (wk_zeq.2 hc) ?_
    refine wk_Hs 1 15 ⟨rfl, rfl⟩ (ls' := [.ref 0, .int x1, .int x2, .int x3]) (st' := [.int (0 : Int32)]) (σ' := s) rfl ?_
    cases h
    exact wk_eqz hk (wk_Hretz rfl (b2i_01 false))
  · refine wk_H0f 14 5 rfl rfl (wk_nf wk_zeq hc) ?_
    refine wk_Hs 2 7 ⟨rfl, rfl⟩ (ls' := [.ref 0, .int x1, .int x2, .int x3]) (st' := [.int x2, .ref 0]) (σ' := s) rfl ?_
    refine wk_Hcall (i2 := 8) (args := [.ref 0, .int x2]) (rest := []) (r := some (.int (b2i (f_X12_isPlace x2 s)))) (σ1 := s) rfl rfl ⟨rfl, rfl, rfl, rfl, rfl⟩ rfl ((t_X12_isPlace rfl).up (by decide)) ?_
    rcases wk_ife h with ⟨hc, h⟩ | ⟨hc, h⟩
    · refine wk_H0t 14 rfl (wk_zeq.2 hc) ?_
      refine wk_Hs 1 15 ⟨rfl, rfl⟩ (ls' := [.ref 0, .int x1, .int x2, .int x3]) (st' := [.int (0 : Int32)]) (σ' := s) rfl ?_
      cases h
      exact wk_eqz hk (wk_Hretz rfl (b2i_01 false))
    · refine wk_H0f 14 9 rfl rfl (wk_nf wk_zeq hc) ?_
      refine wk_Hs 3 12 ⟨rfl, rfl⟩ (ls' := [.ref 0, .int x1, .int x2, .int x3]) (st' := [.int (127 : Int32), .int (0 : Int32), .int x3]) (σ' := s) rfl ?_
      refine wk_Hcall (i2 := 13) (args := [.int x3, .int (0 : Int32), .int (127 : Int32)]) (rest := []) (r := some (.int (b2i (f_X12_in x3 (0 : Int32) (127 : Int32))))) (σ1 := s) rfl rfl ⟨rfl, rfl, rfl, rfl, rfl⟩ rfl ((t_X12_in rfl).up (by decide)) ?_
      rcases wk_ife h with ⟨hc, h⟩ | ⟨hc, h⟩
      · refine wk_H0t 16 rfl (wk_zne.2 hc) ?_
        refine wk_Hs 6 22 ⟨rfl, rfl⟩ (ls' := [.ref 0, .int x1, .int x2, .int x3]) (st' := [.int (1 : Int32), .int ((0 : Int32) + x1), .ref 1]) (σ' := s) rfl ?_
        obtain ⟨hg, h⟩ := wk_gdE h
        refine wk_Hias 23 rfl rfl rfl hg rfl ?_
        refine wk_Hs 6 29 ⟨rfl, rfl⟩ (ls' := [.ref 0, .int x1, .int x2, .int x3]) (st' := [.int x3, .int ((9 : Int32) + x1), .ref 1]) (σ' := (wk_si s 1 (((0 : Int32) + x1).toNatClampNeg) (1 : Int32))) rfl ?_
        obtain ⟨hg, h⟩ := wk_gdE h
        refine wk_Hias 30 rfl rfl rfl hg rfl ?_
        refine wk_Hs 6 36 ⟨rfl, rfl⟩ (ls' := [.ref 0, .int x1, .int x2, .int x3]) (st' := [.int x2, .int ((18 : Int32) + x1), .ref 1]) (σ' := (wk_si (wk_si s 1 (((0 : Int32) + x1).toNatClampNeg) (1 : Int32)) 1 (((9 : Int32) + x1).toNatClampNeg) x3)) rfl ?_
        obtain ⟨hg, h⟩ := wk_gdE h
        refine wk_Hias 37 rfl rfl rfl hg rfl ?_
        refine wk_Hs 6 43 ⟨rfl, rfl⟩ (ls' := [.ref 0, .int x1, .int x2, .int x3]) (st' := [.int (0 : Int32), .int ((27 : Int32) + x1), .ref 1]) (σ' := (wk_si (wk_si (wk_si s 1 (((0 : Int32) + x1).toNatClampNeg) (1 : Int32)) 1 (((9 : Int32) + x1).toNatClampNeg) x3) 1 (((18 : Int32) + x1).toNatClampNeg) x2)) rfl ?_
        obtain ⟨hg, h⟩ := wk_gdE h
        refine wk_Hias 44 rfl rfl rfl hg rfl ?_
        refine wk_Hs 6 50 ⟨rfl, rfl⟩ (ls' := [.ref 0, .int x1, .int x2, .int x3]) (st' := [.int (-2 : Int32), .int ((36 : Int32) + x1), .ref 1]) (σ' := (wk_si (wk_si (wk_si (wk_si s 1 (((0 : Int32) + x1).toNatClampNeg) (1 : Int32)) 1 (((9 : Int32) + x1).toNatClampNeg) x3) 1 (((18 : Int32) + x1).toNatClampNeg) x2) 1 (((27 : Int32) + x1).toNatClampNeg) (0 : Int32))) rfl ?_
        obtain ⟨hg, h⟩ := wk_gdE h
        refine wk_Hias 51 rfl rfl rfl hg rfl ?_
        refine wk_Hs 1 52 ⟨rfl, rfl⟩ (ls' := [.ref 0, .int x1, .int x2, .int x3]) (st' := [.int (1 : Int32)]) (σ' := (wk_si (wk_si (wk_si (wk_si (wk_si s 1 (((0 : Int32) + x1).toNatClampNeg) (1 : Int32)) 1 (((9 : Int32) + x1).toNatClampNeg) x3) 1 (((18 : Int32) + x1).toNatClampNeg) x2) 1 (((27 : Int32) + x1).toNatClampNeg) (0 : Int32)) 1 (((36 : Int32) + x1).toNatClampNeg) (-2 : Int32))) rfl ?_
        cases h
        exact wk_eqz hk (wk_Hretz rfl (b2i_01 true))
      · refine wk_H0f 16 14 rfl rfl (wk_nf wk_zne hc) ?_
        refine wk_Hs 1 15 ⟨rfl, rfl⟩ (ls' := [.ref 0, .int x1, .int x2, .int x3]) (st' := [.int (0 : Int32)]) (σ' := s) rfl ?_
        cases h
        exact wk_eqz hk (wk_Hretz rfl (b2i_01 false))
set_option maxHeartbeats 4000000 in
set_option maxRecDepth 20000 in
theorem t_X12_first {x1 : Int32} {s : wk_St} {r : Bool × wk_St} (h : f_X12_first x1 s = r) : wk_T wk_shM 1 55 [.ref 0, .int x1] s (some (.int (b2i r.1)), r.2) := by
  suffices H : ∀ z, z = (some (.int (b2i r.1)), r.2) → wk_H wk_shM 1 mc_X12_first 0 [.ref 0, .int x1] [] s z from H _ rfl
  intro z hk
  dsimp only [f_X12_first] at h
  refine wk_Hs 3 3 ⟨rfl, rfl⟩ (ls' := [.ref 0, .int x1]) (st' := [.int (6 : Int32), .int (0 : Int32), .int x1]) (σ' := s) rfl ?_
  refine wk_Hcall (i2 := 4) (args := [.int x1, .int (0 : Int32), .int (6 : Int32)]) (rest := []) (r := some (.int (b2i (f_X12_in x1 (0 : Int32) (6 : Int32))))) (σ1 := s) rfl rfl ⟨rfl, rfl, rfl, rfl, rfl⟩ rfl ((t_X12_in rfl).up (by decide)) ?_
  rcases wk_ife h with ⟨hc, h⟩ | ⟨hc, h⟩
  · refine wk_H0t 7 rfl (wk_zne.2 hc) ?_
    refine wk_Hs 4 11 ⟨rfl, rfl⟩ (ls' := [.ref 0, .int x1]) (st' := [.int (1 : Int32)]) (σ' := (wk_si s 0 5 x1)) rfl ?_
    cases h
    exact wk_eqz hk (wk_Hretz rfl (b2i_01 true))
  · refine wk_H0f 7 5 rfl rfl (wk_nf wk_zne hc) ?_
    refine wk_Hs 1 6 ⟨rfl, rfl⟩ (ls' := [.ref 0, .int x1]) (st' := [.int (0 : Int32)]) (σ' := s) rfl ?_
    cases h
    exact wk_eqz hk (wk_Hretz rfl (b2i_01 false))
set_option maxHeartbeats 4000000 in
set_option maxRecDepth 20000 in
theorem ts_S_X12_laysSteps_2 {x1 : Int32} {x2 : Int32} {w3 : Value} {w4 : Value} {s : wk_St} {z : wk_R} {o : (wk_St) ⊕ (Int32 × wk_St)} (h : S_X12_laysSteps_2 x1 (x2, s) = some o) (hk : match (generalizing := false) o with | Sum.inl a => (∀ (u2 : Value), wk_H wk_shM 1 mc_X12_laysSteps 12 [.ref 0, .int x1, u2, w3, w4] [] a z) | Sum.inr y => wk_H wk_shM 1 mc_X12_laysSteps 2 [.ref 0, .int x1, .int y.1, w3, w4] [] y.2 z) : wk_H wk_shM 1 mc_X12_laysSteps 2 [.ref 0, .int x1, .int x2, w3, w4] [] s z := by
  dsimp only [S_X12_laysSteps_2] at h
  refine wk_Hs 2 4 ⟨rfl, rfl⟩ (ls' := [.ref 0, .int x1, .int x2, w3, w4]) (st' := [.int (12 : Int32), .int x2]) (σ' := s) rfl ?_
  rcases wk_ife h with ⟨hc, h⟩ | ⟨hc, h⟩
  · refine wk_Hbt 12 rfl (wk_cge.2 hc) ?_
    cases h
    exact hk _
  · refine wk_Hbf 12 5 rfl rfl (wk_nf wk_cge hc) ?_
    refine wk_Hs 4 9 ⟨rfl, rfl⟩ (ls' := [.ref 0, .int x1, .int x2, w3, w4]) (st' := [.int (-1 : Int32), .int x2, .ref 5]) (σ' := s) rfl ?_
    obtain ⟨hg, h⟩ := wk_gdE h
    refine wk_Hias 10 rfl rfl rfl hg rfl ?_
    refine wk_Hs 1 11 ⟨rfl, rfl⟩ (ls' := [.ref 0, .int x1, .int (x2 + (1 : Int32)), w3, w4]) (st' := []) (σ' := (wk_si s 5 (x2.toNatClampNeg) (-1 : Int32))) rfl ?_
    refine wk_Hgoto (t := 2) rfl ?_
    cases h
    exact hk
set_option maxHeartbeats 4000000 in
set_option maxRecDepth 20000 in
theorem tl_S_X12_laysSteps_2 {x1 : Int32} {w3 : Value} {w4 : Value} {z : wk_R} (n : Nat) : ∀ {x2 : Int32} {s : wk_St} {a : wk_St} (h : wk_loop (S_X12_laysSteps_2 x1) n (x2, s) = some a) (hk : ∀ (u2 : Value), wk_H wk_shM 1 mc_X12_laysSteps 12 [.ref 0, .int x1, u2, w3, w4] [] a z), wk_H wk_shM 1 mc_X12_laysSteps 2 [.ref 0, .int x1, .int x2, w3, w4] [] s z := by
  induction n with
  | zero =>
    intros
    rename_i h _
    exact nomatch (show (none : Option _) = some _ from h)
  | succ n ih =>
    intros
    rename_i h hk
    obtain ⟨o, ho, h⟩ := wk_bindE (show Option.bind _ _ = some _ from h)
    refine ts_S_X12_laysSteps_2 ho ?_
    cases o with
    | inl a1 =>
      cases h
      exact hk
    | inr p =>
      obtain ⟨p0, p1⟩ := p
      exact ih h hk
set_option maxHeartbeats 4000000 in
set_option maxRecDepth 20000 in
theorem ts_S_X12_laysSteps_31 {x3 : Int32} {x2 : Int32} {x4 : Int32} {w1 : Value} {s : wk_St} {z : wk_R} {o : (Int32 × wk_St) ⊕ (Int32 × Int32 × wk_St)} (h : S_X12_laysSteps_31 x3 (x2, x4, s) = some o) (hk : match (generalizing := false) o with | Sum.inl a => (∀ (u1 u4 : Value), wk_H wk_shM 1 mc_X12_laysSteps 75 [.ref 0, u1, .int a.1, .int x3, u4] [] a.2 z) | Sum.inr y => ∀ (u1 : Value), wk_H wk_shM 1 mc_X12_laysSteps 31 [.ref 0, u1, .int y.1, .int x3, .int y.2.1] [] y.2.2 z) : wk_H wk_shM 1 mc_X12_laysSteps 31 [.ref 0, w1, .int x2, .int x3, .int x4] [] s z := by
  dsimp only [S_X12_laysSteps_31] at h
  refine wk_Hs 2 33 ⟨rfl, rfl⟩ (ls' := [.ref 0, w1, .int x2, .int x3, .int x4]) (st' := [.int (12 : Int32), .int x4]) (σ' := s) rfl ?_
  rcases wk_ife h with ⟨hc, h⟩ | ⟨hc, h⟩
  · refine wk_Hbt 75 rfl (wk_cge.2 hc) ?_
    cases h
    exact hk _ _
  · refine wk_Hbf 75 34 rfl rfl (wk_nf wk_cge hc) ?_
    refine wk_Hs 5 39 ⟨rfl, rfl⟩ (ls' := [.ref 0, w1, .int x2, .int x3, .int x4]) (st' := [.int x3, .ref 6, .ref 4]) (σ' := s) rfl ?_
    obtain ⟨hg, h⟩ := wk_gdE h
    refine wk_Hia 40 rfl rfl rfl hg rfl ?_
    obtain ⟨hg, h⟩ := wk_gdE h
    refine wk_Hia 41 rfl rfl rfl hg rfl ?_
    refine wk_Hs 1 42 ⟨rfl, rfl⟩ (ls' := [.ref 0, w1, .int x2, .int x3, .int x4]) (st' := [.int x4, .int (s.1 4 ((s.1 6 (x3.toNatClampNeg)).toNatClampNeg))]) (σ' := s) rfl ?_
    refine wk_Hcall (i2 := 43) (args := [.int (s.1 4 ((s.1 6 (x3.toNatClampNeg)).toNatClampNeg)), .int x4]) (rest := []) (r := some (.int (b2i (f_X12_has (s.1 4 ((s.1 6 (x3.toNatClampNeg)).toNatClampNeg)) x4)))) (σ1 := s) rfl rfl ⟨rfl, rfl, rfl, rfl, rfl⟩ rfl ((t_X12_has rfl).up (by decide)) ?_
    rcases wk_ife h with ⟨hc, h⟩ | ⟨hc, h⟩
    · refine wk_H0t 73 rfl (wk_zeq.2 hc) ?_
      refine wk_Hs 1 74 ⟨rfl, rfl⟩ (ls' := [.ref 0, w1, .int x2, .int x3, .int (x4 + (1 : Int32))]) (st' := []) (σ' := s) rfl ?_
      refine wk_Hgoto (t := 31) rfl ?_
      cases h
      exact hk _
    · refine wk_H0f 73 44 rfl rfl (wk_nf wk_zeq hc) ?_
      refine wk_Hs 3 47 ⟨rfl, rfl⟩ (ls' := [.ref 0, w1, .int x2, .int x3, .int x4]) (st' := [.int x4, .ref 5]) (σ' := s) rfl ?_
      obtain ⟨hg, h⟩ := wk_gdE h
      refine wk_Hia 48 rfl rfl rfl hg rfl ?_
      refine wk_Hs 1 49 ⟨rfl, rfl⟩ (ls' := [.ref 0, w1, .int x2, .int x3, .int x4]) (st' := [.int (-1 : Int32), .int (s.1 5 (x4.toNatClampNeg))]) (σ' := s) rfl ?_
      rcases wk_ife h with ⟨hc, h⟩ | ⟨hc, h⟩
      · refine wk_Hbt 51 rfl (wk_ceq.2 hc) ?_
        refine wk_Hs 8 59 ⟨rfl, rfl⟩ (ls' := [.ref 0, w1, .int x2, .int x3, .int x4]) (st' := [.int x3, .ref 6, .ref 5, .int x4, .ref 5]) (σ' := s) rfl ?_
        obtain ⟨hg, h⟩ := wk_gdE h
        refine wk_Hia 60 rfl rfl rfl hg rfl ?_
        obtain ⟨hg, h⟩ := wk_gdE h
        refine wk_Hia 61 rfl rfl rfl hg rfl ?_
        refine wk_Hs 2 63 ⟨rfl, rfl⟩ (ls' := [.ref 0, w1, .int x2, .int x3, .int x4]) (st' := [.int ((s.1 5 ((s.1 6 (x3.toNatClampNeg)).toNatClampNeg)) + (1 : Int32)), .int x4, .ref 5]) (σ' := s) rfl ?_
        obtain ⟨hg, h⟩ := wk_gdE h
        refine wk_Hias 64 rfl rfl rfl hg rfl ?_
        refine wk_Hs 4 68 ⟨rfl, rfl⟩ (ls' := [.ref 0, w1, .int x2, .int x3, .int x4]) (st' := [.int x4, .int x2, .ref 6]) (σ' := (wk_si s 5 (x4.toNatClampNeg) ((s.1 5 ((s.1 6 (x3.toNatClampNeg)).toNatClampNeg)) + (1 : Int32)))) rfl ?_
        obtain ⟨hg, h⟩ := wk_gdE h
        refine wk_Hias 69 rfl rfl rfl hg rfl ?_
        refine wk_Hs 3 72 ⟨rfl, rfl⟩ (ls' := [.ref 0, w1, .int x2, .int x3, .int x4]) (st' := [.int (x2 + (1 : Int32))]) (σ' := (wk_si (wk_si s 5 (x4.toNatClampNeg) ((s.1 5 ((s.1 6 (x3.toNatClampNeg)).toNatClampNeg)) + (1 : Int32))) 6 (x2.toNatClampNeg) x4)) rfl ?_
        replace h := wk_letE h
        refine wk_Hs 2 74 ⟨rfl, rfl⟩ (ls' := [.ref 0, (wk_cl w1), .int (x2 + (1 : Int32)), .int x3, .int (x4 + (1 : Int32))]) (st' := []) (σ' := (wk_si (wk_si s 5 (x4.toNatClampNeg) ((s.1 5 ((s.1 6 (x3.toNatClampNeg)).toNatClampNeg)) + (1 : Int32))) 6 (x2.toNatClampNeg) x4)) rfl ?_
        refine wk_Hgoto (t := 31) rfl ?_
        cases h
        exact hk _
      · refine wk_Hbf 51 50 rfl rfl (wk_nf wk_ceq hc) ?_
        refine wk_Hgoto (t := 73) rfl ?_
        refine wk_Hs 1 74 ⟨rfl, rfl⟩ (ls' := [.ref 0, w1, .int x2, .int x3, .int (x4 + (1 : Int32))]) (st' := []) (σ' := s) rfl ?_
        refine wk_Hgoto (t := 31) rfl ?_
        cases h
        exact hk _
set_option maxHeartbeats 4000000 in
set_option maxRecDepth 20000 in
theorem tl_S_X12_laysSteps_31 {x3 : Int32} {z : wk_R} (n : Nat) : ∀ {x2 : Int32} {x4 : Int32} {w1 : Value} {s : wk_St} {a : Int32 × wk_St} (h : wk_loop (S_X12_laysSteps_31 x3) n (x2, x4, s) = some a) (hk : ∀ (u1 u4 : Value), wk_H wk_shM 1 mc_X12_laysSteps 75 [.ref 0, u1, .int a.1, .int x3, u4] [] a.2 z), wk_H wk_shM 1 mc_X12_laysSteps 31 [.ref 0, w1, .int x2, .int x3, .int x4] [] s z := by
  induction n with
  | zero =>
    intros
    rename_i h _
    exact nomatch (show (none : Option _) = some _ from h)
  | succ n ih =>
    intros
    rename_i h hk
    obtain ⟨o, ho, h⟩ := wk_bindE (show Option.bind _ _ = some _ from h)
    refine ts_S_X12_laysSteps_31 ho ?_
    cases o with
    | inl a1 =>
      cases h
      exact hk
    | inr p =>
      obtain ⟨p0, p1, p2⟩ := p
      exact fun _ => ih h hk
set_option maxHeartbeats 4000000 in
set_option maxRecDepth 20000 in
theorem ts_S_X12_laysSteps_26 {x2 : Int32} {x3 : Int32} {w1 : Value} {w4 : Value} {s : wk_St} {z : wk_R} {o : (Int32 × wk_St) ⊕ (Int32 × Int32 × wk_St)} (h : S_X12_laysSteps_26 (x2, x3, s) = some o) (hk : match (generalizing := false) o with | Sum.inl a => (∀ (u1 u3 u4 : Value), wk_H wk_shM 1 mc_X12_laysSteps 77 [.ref 0, u1, .int a.1, u3, u4] [] a.2 z) | Sum.inr y => ∀ (u1 u4 : Value), wk_H wk_shM 1 mc_X12_laysSteps 26 [.ref 0, u1, .int y.1, .int y.2.1, u4] [] y.2.2 z) : wk_H wk_shM 1 mc_X12_laysSteps 26 [.ref 0, w1, .int x2, .int x3, w4] [] s z := by
  dsimp only [S_X12_laysSteps_26] at h
  refine wk_Hs 2 28 ⟨rfl, rfl⟩ (ls' := [.ref 0, w1, .int x2, .int x3, w4]) (st' := [.int x2, .int x3]) (σ' := s) rfl ?_
  rcases wk_ife h with ⟨hc, h⟩ | ⟨hc, h⟩
  · refine wk_Hbt 77 rfl (wk_cge.2 hc) ?_
    cases h
    exact hk _ _ _
  · refine wk_Hbf 77 29 rfl rfl (wk_nf wk_cge hc) ?_
    refine wk_Hs 2 31 ⟨rfl, rfl⟩ (ls' := [.ref 0, w1, .int x2, .int x3, .int (0 : Int32)]) (st' := []) (σ' := s) rfl ?_
    obtain ⟨v5, hv5, h⟩ := wk_bindE h
    refine tl_S_X12_laysSteps_31 wk_F hv5 ?_
    intro g6 g7
    refine wk_Hs 1 76 ⟨rfl, rfl⟩ (ls' := [.ref 0, g6, .int v5.1, .int (x3 + (1 : Int32)), g7]) (st' := []) (σ' := v5.2) rfl ?_
    refine wk_Hgoto (t := 26) rfl ?_
    cases h
    exact hk _ _
set_option maxHeartbeats 4000000 in
set_option maxRecDepth 20000 in
theorem tl_S_X12_laysSteps_26 {z : wk_R} (n : Nat) : ∀ {x2 : Int32} {x3 : Int32} {w1 : Value} {w4 : Value} {s : wk_St} {a : Int32 × wk_St} (h : wk_loop S_X12_laysSteps_26 n (x2, x3, s) = some a) (hk : ∀ (u1 u3 u4 : Value), wk_H wk_shM 1 mc_X12_laysSteps 77 [.ref 0, u1, .int a.1, u3, u4] [] a.2 z), wk_H wk_shM 1 mc_X12_laysSteps 26 [.ref 0, w1, .int x2, .int x3, w4] [] s z := by
  induction n with
  | zero =>
    intros
    rename_i h _
    exact nomatch (show (none : Option _) = some _ from h)
  | succ n ih =>
    intros
    rename_i h hk
    obtain ⟨o, ho, h⟩ := wk_bindE (show Option.bind _ _ = some _ from h)
    refine ts_S_X12_laysSteps_26 ho ?_
    cases o with
    | inl a1 =>
      cases h
      exact hk
    | inr p =>
      obtain ⟨p0, p1, p2⟩ := p
      exact fun _ _ => ih h hk
set_option maxHeartbeats 4000000 in
set_option maxRecDepth 20000 in
theorem t_X12_laysSteps {x1 : Int32} {s : wk_St} {r : Int32 × wk_St} (h : f_X12_laysSteps x1 s = some r) : wk_T wk_shM 1 56 [.ref 0, .int x1] s (some (.int r.1), r.2) := by
  suffices H : ∀ z, z = (some (.int r.1), r.2) → wk_H wk_shM 1 mc_X12_laysSteps 0 [.ref 0, .int x1, wk_U, wk_U, wk_U] [] s z from H _ rfl
  intro z hk
  dsimp only [f_X12_laysSteps] at h
  refine wk_Hs 2 2 ⟨rfl, rfl⟩ (ls' := [.ref 0, .int x1, .int (0 : Int32), wk_U, wk_U]) (st' := []) (σ' := s) rfl ?_
  obtain ⟨v1, hv1, h⟩ := wk_bindE h
  refine tl_S_X12_laysSteps_2 wk_F hv1 ?_
  intro g2
  refine wk_Hs 4 16 ⟨rfl, rfl⟩ (ls' := [.ref 0, .int x1, g2, wk_U, wk_U]) (st' := [.int (0 : Int32), .int x1, .ref 5]) (σ' := v1) rfl ?_
  obtain ⟨hg, h⟩ := wk_gdE h
  refine wk_Hias 17 rfl rfl rfl hg rfl ?_
  refine wk_Hs 4 21 ⟨rfl, rfl⟩ (ls' := [.ref 0, .int x1, g2, wk_U, wk_U]) (st' := [.int x1, .int (0 : Int32), .ref 6]) (σ' := (wk_si v1 5 (x1.toNatClampNeg) (0 : Int32))) rfl ?_
  refine wk_Hias 22 rfl rfl rfl rfl rfl ?_
  refine wk_Hs 4 26 ⟨rfl, rfl⟩ (ls' := [.ref 0, .int x1, .int (1 : Int32), .int (0 : Int32), wk_U]) (st' := []) (σ' := (wk_si (wk_si v1 5 (x1.toNatClampNeg) (0 : Int32)) 6 0 x1)) rfl ?_
  obtain ⟨v8, hv8, h⟩ := wk_bindE h
  refine tl_S_X12_laysSteps_26 wk_F hv8 ?_
  intro g9 g10 g11
  refine wk_Hs 1 78 ⟨rfl, rfl⟩ (ls' := [.ref 0, g9, .int v8.1, g10, g11]) (st' := [.int v8.1]) (σ' := v8.2) rfl ?_
  cases h
  exact wk_eqz hk (wk_Hret rfl)
set_option maxHeartbeats 4000000 in
set_option maxRecDepth 20000 in
theorem t_X12_stepsBetween {x1 : Int32} {x2 : Int32} {s : wk_St} {r : Int32 × wk_St} (h : f_X12_stepsBetween x1 x2 s = some r) : wk_T wk_shM 2 57 [.ref 0, .int x1, .int x2] s (some (.int r.1), r.2) := by
  suffices H : ∀ z, z = (some (.int r.1), r.2) → wk_H wk_shM 2 mc_X12_stepsBetween 0 [.ref 0, .int x1, .int x2] [] s z from H _ rfl
  intro z hk
  dsimp only [f_X12_stepsBetween] at h
  refine wk_Hs 2 2 ⟨rfl, rfl⟩ (ls' := [.ref 0, .int x1, .int x2]) (st' := [.int x1, .ref 0]) (σ' := s) rfl ?_
  obtain ⟨v1, hv1, h⟩ := wk_bindE h
  refine wk_Hcall (i2 := 3) (args := [.ref 0, .int x1]) (rest := []) (r := some (.int v1.1)) (σ1 := v1.2) rfl rfl ⟨rfl, rfl, rfl, rfl, rfl⟩ rfl ((t_X12_laysSteps hv1).up (by decide)) ?_
  refine wk_Hs 4 7 ⟨rfl, rfl⟩ (ls' := [.ref 0, .int x1, .int x2]) (st' := [.int x2, .ref 5]) (σ' := v1.2) rfl ?_
  obtain ⟨hg, h⟩ := wk_gdE h
  refine wk_Hia 8 rfl rfl rfl hg rfl ?_
  cases h
  exact wk_eqz hk (wk_Hret rfl)
set_option maxHeartbeats 4000000 in
set_option maxRecDepth 20000 in
theorem t_X12_toClothes {x1 : Int32} {x2 : Int32} {s : wk_St} {r : Int32 × wk_St} (h : f_X12_toClothes x1 x2 s = some r) : wk_T wk_shM 3 58 [.ref 0, .int x1, .int x2] s (some (.int r.1), r.2) := by
  suffices H : ∀ z, z = (some (.int r.1), r.2) → wk_H wk_shM 3 mc_X12_toClothes 0 [.ref 0, .int x1, .int x2, wk_U] [] s z from H _ rfl
  intro z hk
  dsimp only [f_X12_toClothes] at h
  refine wk_Hs 5 5 ⟨rfl, rfl⟩ (ls' := [.ref 0, .int x1, .int x2, wk_U]) (st' := [.int ((36 : Int32) + x1), .ref 1]) (σ' := s) rfl ?_
  obtain ⟨hg, h⟩ := wk_gdE h
  refine wk_Hia 6 rfl rfl rfl hg rfl ?_
  refine wk_Hs 1 7 ⟨rfl, rfl⟩ (ls' := [.ref 0, .int x1, .int x2, wk_U]) (st' := [.int (-2 : Int32), .int (s.1 1 (((36 : Int32) + x1).toNatClampNeg))]) (σ' := s) rfl ?_
  rcases wk_ife h with ⟨hc, h⟩ | ⟨hc, h⟩
  · refine wk_Hbt 10 rfl (wk_cne.2 hc) ?_
    refine wk_Hs 7 17 ⟨rfl, rfl⟩ (ls' := [.ref 0, .int x1, .int x2, wk_U]) (st' := [.int ((36 : Int32) + x1), .ref 1, .int x2, .ref 0]) (σ' := s) rfl ?_
    obtain ⟨hg, h⟩ := wk_gdE h
    refine wk_Hia 18 rfl rfl rfl hg rfl ?_
    obtain ⟨v1, hv1, h⟩ := wk_bindE h
    refine wk_Hcall (i2 := 19) (args := [.ref 0, .int x2, .int (s.1 1 (((36 : Int32) + x1).toNatClampNeg))]) (rest := []) (r := some (.int v1.1)) (σ1 := v1.2) rfl rfl ⟨rfl, rfl, rfl, rfl, rfl⟩ rfl ((t_X12_stepsBetween hv1).up (by decide)) ?_
    refine wk_Hs 3 22 ⟨rfl, rfl⟩ (ls' := [.ref 0, .int x1, .int x2, .int v1.1]) (st' := [.int (-1 : Int32), .int v1.1]) (σ' := v1.2) rfl ?_
    rcases wk_ife h with ⟨hc, h⟩ | ⟨hc, h⟩
    · refine wk_Hbt 25 rfl (wk_cne.2 hc) ?_
      refine wk_Hs 1 26 ⟨rfl, rfl⟩ (ls' := [.ref 0, .int x1, .int x2, .int v1.1]) (st' := [.int v1.1]) (σ' := v1.2) rfl ?_
      cases h
      exact wk_eqz hk (wk_Hret rfl)
    · refine wk_Hbf 25 23 rfl rfl (wk_nf wk_cne hc) ?_
      refine wk_Hs 1 24 ⟨rfl, rfl⟩ (ls' := [.ref 0, .int x1, .int x2, .int v1.1]) (st' := [.int (99 : Int32)]) (σ' := v1.2) rfl ?_
      refine wk_Hgoto (t := 26) rfl ?_
      cases h
      exact wk_eqz hk (wk_Hret rfl)
  · refine wk_Hbf 10 8 rfl rfl (wk_nf wk_cne hc) ?_
    refine wk_Hs 1 9 ⟨rfl, rfl⟩ (ls' := [.ref 0, .int x1, .int x2, wk_U]) (st' := [.int (99 : Int32)]) (σ' := s) rfl ?_
    cases h
    exact wk_eqz hk (wk_Hret rfl)
set_option maxHeartbeats 4000000 in
set_option maxRecDepth 20000 in
theorem ts_S_X12_types_2 {x1 : Int32} {x2 : Int32} {s : wk_St} {z : wk_R} {o : (wk_St) ⊕ (Int32 × wk_St)} (h : S_X12_types_2 x1 (x2, s) = some o) (hk : match (generalizing := false) o with | Sum.inl a => (∀ (u2 : Value), wk_H wk_shM 0 mc_X12_types 23 [.ref 0, .int x1, u2] [] a z) | Sum.inr y => wk_H wk_shM 0 mc_X12_types 2 [.ref 0, .int x1, .int y.1] [] y.2 z) : wk_H wk_shM 0 mc_X12_types 2 [.ref 0, .int x1, .int x2] [] s z := by
  dsimp only [S_X12_types_2] at h
  refine wk_Hs 1 3 ⟨rfl, rfl⟩ (ls' := [.ref 0, .int x1, .int x2]) (st' := [.int x2]) (σ' := s) rfl ?_
  rcases wk_ife h with ⟨hc, h⟩ | ⟨hc, h⟩
  · refine wk_H0t 23 rfl (wk_clt.2 hc) ?_
    cases h
    exact hk _
  · refine wk_H0f 23 4 rfl rfl (wk_nf wk_clt hc) ?_
    refine wk_Hs 10 14 ⟨rfl, rfl⟩ (ls' := [.ref 0, .int x1, .int x2]) (st' := [.int ((x1 >>> (((8 : Int32) * x2) &&& 31)).toInt8.toInt32), .int (s.1 0 9), .ref 7]) (σ' := s) rfl ?_
    obtain ⟨hg, h⟩ := wk_gdE h
    refine wk_Hbas 15 rfl rfl rfl hg rfl ?_
    refine wk_Hs 7 22 ⟨rfl, rfl⟩ (ls' := [.ref 0, .int x1, .int (x2 + (-1 : Int32))]) (st' := []) (σ' := (wk_si (wk_si s 7 ((s.1 0 9).toNatClampNeg) (((x1 >>> (((8 : Int32) * x2) &&& 31)).toInt8.toInt32).toInt8.toInt32)) 0 9 (((wk_si s 7 ((s.1 0 9).toNatClampNeg) (((x1 >>> (((8 : Int32) * x2) &&& 31)).toInt8.toInt32).toInt8.toInt32)).1 0 9) + (1 : Int32)))) rfl ?_
    refine wk_Hgoto (t := 2) rfl ?_
    cases h
    exact hk
set_option maxHeartbeats 4000000 in
set_option maxRecDepth 20000 in
theorem tl_S_X12_types_2 {x1 : Int32} {z : wk_R} (n : Nat) : ∀ {x2 : Int32} {s : wk_St} {a : wk_St} (h : wk_loop (S_X12_types_2 x1) n (x2, s) = some a) (hk : ∀ (u2 : Value), wk_H wk_shM 0 mc_X12_types 23 [.ref 0, .int x1, u2] [] a z), wk_H wk_shM 0 mc_X12_types 2 [.ref 0, .int x1, .int x2] [] s z := by
  induction n with
  | zero =>
    intros
    rename_i h _
    exact nomatch (show (none : Option _) = some _ from h)
  | succ n ih =>
    intros
    rename_i h hk
    obtain ⟨o, ho, h⟩ := wk_bindE (show Option.bind _ _ = some _ from h)
    refine ts_S_X12_types_2 ho ?_
    cases o with
    | inl a1 =>
      cases h
      exact hk
    | inr p =>
      obtain ⟨p0, p1⟩ := p
      exact ih h hk
set_option maxHeartbeats 4000000 in
set_option maxRecDepth 20000 in
theorem t_X12_types {x1 : Int32} {s : wk_St} {r : wk_St} (h : f_X12_types x1 s = some r) : wk_T wk_shM 0 59 [.ref 0, .int x1] s (none, r) := by
  suffices H : ∀ z, z = (none, r) → wk_H wk_shM 0 mc_X12_types 0 [.ref 0, .int x1, wk_U] [] s z from H _ rfl
  intro z hk
  dsimp only [f_X12_types] at h
  refine wk_Hs 2 2 ⟨rfl, rfl⟩ (ls' := [.ref 0, .int x1, .int (3 : Int32)]) (st' := []) (σ' := s) rfl ?_
  obtain ⟨v1, hv1, h⟩ := wk_bindE h
  refine tl_S_X12_types_2 wk_F hv1 ?_
  intro g2
  cases h
  exact wk_eqz hk (wk_Hretv rfl)
set_option maxHeartbeats 4000000 in
set_option maxRecDepth 20000 in
theorem t_X12_feed {x1 : Int32} {x2 : Int32} {x3 : Int32} {x4 : Int32} {x5 : Int32} {s : wk_St} {r : Int32 × wk_St} (h : f_X12_feed x1 x2 x3 x4 x5 s = some r) : wk_T wk_shM 1 60 [.ref 0, .int x1, .int x2, .int x3, .int x4, .int x5] s (some (.int r.1), r.2) := by
  suffices H : ∀ z, z = (some (.int r.1), r.2) → wk_H wk_shM 1 mc_X12_feed 0 [.ref 0, .int x1, .int x2, .int x3, .int x4, .int x5] [] s z from H _ rfl
  intro z hk
  dsimp only [f_X12_feed] at h
  refine wk_Hs 5 5 ⟨rfl, rfl⟩ (ls' := [.ref 0, .int x1, .int x2, .int x3, .int x4, .int x5]) (st' := [.int (260 : Int32), .int ((s.1 0 9) + (20 : Int32))]) (σ' := s) rfl ?_
  rcases wk_ife h with ⟨hc, h⟩ | ⟨hc, h⟩
  · refine wk_Hbt 8 rfl (wk_cle.2 hc) ?_
    refine wk_Hs 2 10 ⟨rfl, rfl⟩ (ls' := [.ref 0, .int x1, .int x2, .int x3, .int x4, .int x5]) (st' := [.int x1, .ref 0]) (σ' := s) rfl ?_
    obtain ⟨v1, hv1, h⟩ := wk_bindE h
    refine wk_Hcall (i2 := 11) (args := [.ref 0, .int x1]) (rest := []) (r := none) (σ1 := v1) rfl rfl ⟨rfl, rfl, rfl, rfl, rfl⟩ rfl ((t_X12_types hv1).up (by decide)) ?_
    refine wk_Hs 2 13 ⟨rfl, rfl⟩ (ls' := [.ref 0, .int x1, .int x2, .int x3, .int x4, .int x5]) (st' := [.int x2, .ref 0]) (σ' := v1) rfl ?_
    obtain ⟨v2, hv2, h⟩ := wk_bindE h
    refine wk_Hcall (i2 := 14) (args := [.ref 0, .int x2]) (rest := []) (r := none) (σ1 := v2) rfl rfl ⟨rfl, rfl, rfl, rfl, rfl⟩ rfl ((t_X12_types hv2).up (by decide)) ?_
    refine wk_Hs 2 16 ⟨rfl, rfl⟩ (ls' := [.ref 0, .int x1, .int x2, .int x3, .int x4, .int x5]) (st' := [.int x3, .ref 0]) (σ' := v2) rfl ?_
    obtain ⟨v3, hv3, h⟩ := wk_bindE h
    refine wk_Hcall (i2 := 17) (args := [.ref 0, .int x3]) (rest := []) (r := none) (σ1 := v3) rfl rfl ⟨rfl, rfl, rfl, rfl, rfl⟩ rfl ((t_X12_types hv3).up (by decide)) ?_
    refine wk_Hs 2 19 ⟨rfl, rfl⟩ (ls' := [.ref 0, .int x1, .int x2, .int x3, .int x4, .int x5]) (st' := [.int x4, .ref 0]) (σ' := v3) rfl ?_
    obtain ⟨v4, hv4, h⟩ := wk_bindE h
    refine wk_Hcall (i2 := 20) (args := [.ref 0, .int x4]) (rest := []) (r := none) (σ1 := v4) rfl rfl ⟨rfl, rfl, rfl, rfl, rfl⟩ rfl ((t_X12_types hv4).up (by decide)) ?_
    refine wk_Hs 2 22 ⟨rfl, rfl⟩ (ls' := [.ref 0, .int x1, .int x2, .int x3, .int x4, .int x5]) (st' := [.int x5, .ref 0]) (σ' := v4) rfl ?_
    obtain ⟨v5, hv5, h⟩ := wk_bindE h
    refine wk_Hcall (i2 := 23) (args := [.ref 0, .int x5]) (rest := []) (r := none) (σ1 := v5) rfl rfl ⟨rfl, rfl, rfl, rfl, rfl⟩ rfl ((t_X12_types hv5).up (by decide)) ?_
    refine wk_Hs 2 25 ⟨rfl, rfl⟩ (ls' := [.ref 0, .int x1, .int x2, .int x3, .int x4, .int x5]) (st' := [.int (v5.1 0 9)]) (σ' := v5) rfl ?_
    cases h
    exact wk_eqz hk (wk_Hret rfl)
  · refine wk_Hbf 8 6 rfl rfl (wk_nf wk_cle hc) ?_
    refine wk_Hs 1 7 ⟨rfl, rfl⟩ (ls' := [.ref 0, .int x1, .int x2, .int x3, .int x4, .int x5]) (st' := [.int (-1 : Int32)]) (σ' := s) rfl ?_
    cases h
    exact wk_eqz hk (wk_Hret rfl)
set_option maxHeartbeats 4000000 in
set_option maxRecDepth 20000 in
theorem t_X12_octet {x1 : Int32} {s : wk_St} {r : Int32} (h : f_X12_octet x1 s = some r) : wk_T wk_shM 0 61 [.ref 0, .int x1] s (some (.int r), s) := by
  suffices H : ∀ z, z = (some (.int r), s) → wk_H wk_shM 0 mc_X12_octet 0 [.ref 0, .int x1] [] s z from H _ rfl
  intro z hk
  dsimp only [f_X12_octet] at h
  refine wk_Hs 3 3 ⟨rfl, rfl⟩ (ls' := [.ref 0, .int x1]) (st' := [.int x1, .ref 7]) (σ' := s) rfl ?_
  obtain ⟨hg, h⟩ := wk_gdE h
  refine wk_Hba 4 rfl rfl rfl hg rfl ?_
  refine wk_Hs 2 6 ⟨rfl, rfl⟩ (ls' := [.ref 0, .int x1]) (st' := [.int ((s.1 7 (x1.toNatClampNeg)) &&& (255 : Int32))]) (σ' := s) rfl ?_
  cases h
  exact wk_eqz hk (wk_Hret rfl)
set_option maxHeartbeats 4000000 in
set_option maxRecDepth 20000 in
theorem t_X12_here {s : wk_St} {r : Int32} (h : f_X12_here s = some r) : wk_T wk_shM 0 62 [.ref 0] s (some (.int r), s) := by
  suffices H : ∀ z, z = (some (.int r), s) → wk_H wk_shM 0 mc_X12_here 0 [.ref 0] [] s z from H _ rfl
  intro z hk
  dsimp only [f_X12_here] at h
  refine wk_Hs 4 4 ⟨rfl, rfl⟩ (ls' := [.ref 0]) (st' := [.int (s.1 0 11), .int (s.1 0 10)]) (σ' := s) rfl ?_
  rcases wk_ife h with ⟨hc, h⟩ | ⟨hc, h⟩
  · refine wk_Hbt 13 rfl (wk_cge.2 hc) ?_
    refine wk_Hs 1 14 ⟨rfl, rfl⟩ (ls' := [.ref 0]) (st' := [.int (-1 : Int32)]) (σ' := s) rfl ?_
    cases h
    exact wk_eqz hk (wk_Hret rfl)
  · refine wk_Hbf 13 5 rfl rfl (wk_nf wk_cge hc) ?_
    refine wk_Hs 4 9 ⟨rfl, rfl⟩ (ls' := [.ref 0]) (st' := [.int (s.1 0 10), .ref 7]) (σ' := s) rfl ?_
    obtain ⟨hg, h⟩ := wk_gdE h
    refine wk_Hba 10 rfl rfl rfl hg rfl ?_
    refine wk_Hs 2 12 ⟨rfl, rfl⟩ (ls' := [.ref 0]) (st' := [.int ((s.1 7 ((s.1 0 10).toNatClampNeg)) &&& (255 : Int32))]) (σ' := s) rfl ?_
    refine wk_Hgoto (t := 14) rfl ?_
    cases h
    exact wk_eqz hk (wk_Hret rfl)
set_option maxHeartbeats 4000000 in
set_option maxRecDepth 20000 in
theorem t_X12_isDigit {s : wk_St} {r : Bool} (h : f_X12_isDigit s = some r) : wk_T wk_shM 1 63 [.ref 0] s (some (.int (b2i r)), s) := by
  suffices H : ∀ z, z = (some (.int (b2i r)), s) → wk_H wk_shM 1 mc_X12_isDigit 0 [.ref 0] [] s z from H _ rfl
  intro z hk
  dsimp only [f_X12_isDigit] at h
  refine wk_Hs 1 1 ⟨rfl, rfl⟩ (ls' := [.ref 0]) (st' := [.ref 0]) (σ' := s) rfl ?_
  obtain ⟨v1, hv1, h⟩ := wk_bindE h
  refine wk_Hcall (i2 := 2) (args := [.ref 0]) (rest := []) (r := some (.int v1)) (σ1 := s) rfl rfl ⟨rfl, rfl, rfl, rfl, rfl⟩ rfl ((t_X12_here hv1).up (by decide)) ?_
  refine wk_Hs 1 3 ⟨rfl, rfl⟩ (ls' := [.ref 0]) (st' := [.int (48 : Int32), .int v1]) (σ' := s) rfl ?_
  rcases wk_ife h with ⟨hc, h⟩ | ⟨hc, h⟩
  · refine wk_Hbt 10 rfl (wk_clt.2 hc) ?_
    refine wk_Hs 1 11 ⟨rfl, rfl⟩ (ls' := [.ref 0]) (st' := [.int (0 : Int32)]) (σ' := s) rfl ?_
    cases h
    exact wk_eqz hk (wk_Hretz rfl (b2i_01 false))
  · refine wk_Hbf 10 4 rfl rfl (wk_nf wk_clt hc) ?_
    refine wk_Hs 1 5 ⟨rfl, rfl⟩ (ls' := [.ref 0]) (st' := [.ref 0]) (σ' := s) rfl ?_
    obtain ⟨v2, hv2, h⟩ := wk_bindE h
    refine wk_Hcall (i2 := 6) (args := [.ref 0]) (rest := []) (r := some (.int v2)) (σ1 := s) rfl rfl ⟨rfl, rfl, rfl, rfl, rfl⟩ rfl ((t_X12_here hv2).up (by decide)) ?_
    refine wk_Hs 1 7 ⟨rfl, rfl⟩ (ls' := [.ref 0]) (st' := [.int (57 : Int32), .int v2]) (σ' := s) rfl ?_
    rcases wk_ife h with ⟨hc, h⟩ | ⟨hc, h⟩
    · refine wk_Hbt 10 rfl (wk_cgt.2 hc) ?_
      refine wk_Hs 1 11 ⟨rfl, rfl⟩ (ls' := [.ref 0]) (st' := [.int (0 : Int32)]) (σ' := s) rfl ?_
      cases h
      exact wk_eqz hk (wk_Hretz rfl (b2i_01 false))
    · refine wk_Hbf 10 8 rfl rfl (wk_nf wk_cgt hc) ?_
      refine wk_Hs 1 9 ⟨rfl, rfl⟩ (ls' := [.ref 0]) (st' := [.int (1 : Int32)]) (σ' := s) rfl ?_
      refine wk_Hgoto (t := 11) rfl ?_
      cases h
      exact wk_eqz hk (wk_Hretz rfl (b2i_01 true))
set_option maxHeartbeats 4000000 in
set_option maxRecDepth 20000 in
theorem t_X12_wrongAt {x1 : Int32} {x2 : Int32} {s : wk_St} {r : Bool × wk_St} (h : f_X12_wrongAt x1 x2 s = r) : wk_T wk_shM 0 64 [.ref 0, .int x1, .int x2] s (some (.int (b2i r.1)), r.2) := by
  suffices H : ∀ z, z = (some (.int (b2i r.1)), r.2) → wk_H wk_shM 0 mc_X12_wrongAt 0 [.ref 0, .int x1, .int x2] [] s z from H _ rfl
  intro z hk
  dsimp only [f_X12_wrongAt] at h
  refine wk_Hs 8 8 ⟨rfl, rfl⟩ (ls' := [.ref 0, .int x1, .int x2]) (st' := [.int (0 : Int32)]) (σ' := (wk_si s 0 12 (((-1000 : Int32) * x1) - x2))) rfl ?_
  cases h
  exact wk_eqz hk (wk_Hretz rfl (b2i_01 false))
set_option maxHeartbeats 4000000 in
set_option maxRecDepth 20000 in
theorem t_X12_takes {x1 : Int32} {s : wk_St} {r : Bool × wk_St} (h : f_X12_takes x1 s = some r) : wk_T wk_shM 1 65 [.ref 0, .int x1] s (some (.int (b2i r.1)), r.2) := by
  suffices H : ∀ z, z = (some (.int (b2i r.1)), r.2) → wk_H wk_shM 1 mc_X12_takes 0 [.ref 0, .int x1] [] s z from H _ rfl
  intro z hk
  dsimp only [f_X12_takes] at h
  refine wk_Hs 1 1 ⟨rfl, rfl⟩ (ls' := [.ref 0, .int x1]) (st' := [.ref 0]) (σ' := s) rfl ?_
  obtain ⟨v1, hv1, h⟩ := wk_bindE h
  refine wk_Hcall (i2 := 2) (args := [.ref 0]) (rest := []) (r := some (.int v1)) (σ1 := s) rfl rfl ⟨rfl, rfl, rfl, rfl, rfl⟩ rfl ((t_X12_here hv1).up (by decide)) ?_
  refine wk_Hs 1 3 ⟨rfl, rfl⟩ (ls' := [.ref 0, .int x1]) (st' := [.int x1, .int v1]) (σ' := s) rfl ?_
  rcases wk_ife h with ⟨hc, h⟩ | ⟨hc, h⟩
  · refine wk_Hbt 10 rfl (wk_ceq.2 hc) ?_
    refine wk_Hs 7 17 ⟨rfl, rfl⟩ (ls' := [.ref 0, .int x1]) (st' := [.int (1 : Int32)]) (σ' := (wk_si s 0 10 ((s.1 0 10) + (1 : Int32)))) rfl ?_
    cases h
    exact wk_eqz hk (wk_Hretz rfl (b2i_01 true))
  · refine wk_Hbf 10 4 rfl rfl (wk_nf wk_ceq hc) ?_
    refine wk_Hs 4 8 ⟨rfl, rfl⟩ (ls' := [.ref 0, .int x1]) (st' := [.int (s.1 0 10), .int (1 : Int32), .ref 0]) (σ' := s) rfl ?_
    replace h := wk_letE h
    refine wk_Hcall (i2 := 9) (args := [.ref 0, .int (1 : Int32), .int (s.1 0 10)]) (rest := []) (r := some (.int (b2i ((f_X12_wrongAt (1 : Int32) (s.1 0 10) s).1)))) (σ1 := (f_X12_wrongAt (1 : Int32) (s.1 0 10) s).2) rfl rfl ⟨rfl, rfl, rfl, rfl, rfl⟩ rfl ((t_X12_wrongAt rfl).up (by decide)) ?_
    cases h
    exact wk_eqz hk (wk_Hretz rfl (b2i_01 _))
set_option maxHeartbeats 4000000 in
set_option maxRecDepth 20000 in
theorem ts_S_X12_readsNumber_6 {x1 : Int32} {s : wk_St} {z : wk_R} {o : ((Bool × wk_St) ⊕ (wk_St)) ⊕ (wk_St)} (h : S_X12_readsNumber_6 x1 s = some o) (hk : match (generalizing := false) o with | Sum.inl a => (match (generalizing := false) a with | Sum.inl r => z = (some (.int (b2i r.1)), r.2) | Sum.inr y => wk_H wk_shM 2 mc_X12_readsNumber 39 [.ref 0, .int x1] [] y z) | Sum.inr y => wk_H wk_shM 2 mc_X12_readsNumber 6 [.ref 0, .int x1] [] y z) : wk_H wk_shM 2 mc_X12_readsNumber 6 [.ref 0, .int x1] [] s z := by
  dsimp only [S_X12_readsNumber_6] at h
  refine wk_Hs 1 7 ⟨rfl, rfl⟩ (ls' := [.ref 0, .int x1]) (st' := [.ref 0]) (σ' := s) rfl ?_
  obtain ⟨v1, hv1, h⟩ := wk_bindE h
  refine wk_Hcall (i2 := 8) (args := [.ref 0]) (rest := []) (r := some (.int (b2i v1))) (σ1 := s) rfl rfl ⟨rfl, rfl, rfl, rfl, rfl⟩ rfl ((t_X12_isDigit hv1).up (by decide)) ?_
  rcases wk_ife h with ⟨hc, h⟩ | ⟨hc, h⟩
  · refine wk_H0t 39 rfl (wk_zeq.2 hc) ?_
    cases h
    exact hk
  · refine wk_H0f 39 9 rfl rfl (wk_nf wk_zeq hc) ?_
    refine wk_Hs 5 14 ⟨rfl, rfl⟩ (ls' := [.ref 0, .int x1]) (st' := [.int (x1 + (5 : Int32)), .int (s.1 0 10)]) (σ' := s) rfl ?_
    rcases wk_ife h with ⟨hc, h⟩ | ⟨hc, h⟩
    · refine wk_Hbt 21 rfl (wk_cne.2 hc) ?_
      refine wk_Hs 6 27 ⟨rfl, rfl⟩ (ls' := [.ref 0, .int x1]) (st' := [.ref 0, .int ((10 : Int32) * (s.1 0 13)), .ref 0]) (σ' := s) rfl ?_
      obtain ⟨v2, hv2, h⟩ := wk_bindE h
      refine wk_Hcall (i2 := 28) (args := [.ref 0]) (rest := [.int ((10 : Int32) * (s.1 0 13)), .ref 0]) (r := some (.int v2)) (σ1 := s) rfl rfl ⟨rfl, rfl, rfl, rfl, rfl⟩ rfl ((t_X12_here hv2).up (by decide)) ?_
      refine wk_Hs 10 38 ⟨rfl, rfl⟩ (ls' := [.ref 0, .int x1]) (st' := []) (σ' := (wk_si (wk_si s 0 13 ((((10 : Int32) * (s.1 0 13)) + v2) - (48 : Int32))) 0 10 (((wk_si s 0 13 ((((10 : Int32) * (s.1 0 13)) + v2) - (48 : Int32))).1 0 10) + (1 : Int32)))) rfl ?_
      refine wk_Hgoto (t := 6) rfl ?_
      cases h
      exact hk
    · refine wk_Hbf 21 15 rfl rfl (wk_nf wk_cne hc) ?_
      refine wk_Hs 4 19 ⟨rfl, rfl⟩ (ls' := [.ref 0, .int x1]) (st' := [.int (s.1 0 10), .int (2 : Int32), .ref 0]) (σ' := s) rfl ?_
      replace h := wk_letE h
      refine wk_Hcall (i2 := 20) (args := [.ref 0, .int (2 : Int32), .int (s.1 0 10)]) (rest := []) (r := some (.int (b2i ((f_X12_wrongAt (2 : Int32) (s.1 0 10) s).1)))) (σ1 := (f_X12_wrongAt (2 : Int32) (s.1 0 10) s).2) rfl rfl ⟨rfl, rfl, rfl, rfl, rfl⟩ rfl ((t_X12_wrongAt rfl).up (by decide)) ?_
      cases h
      exact wk_eqz hk (wk_Hretz rfl (b2i_01 _))
set_option maxHeartbeats 4000000 in
set_option maxRecDepth 20000 in
theorem tl_S_X12_readsNumber_6 {x1 : Int32} {z : wk_R} (n : Nat) : ∀ {s : wk_St} {a : (Bool × wk_St) ⊕ (wk_St)} (h : wk_loop (S_X12_readsNumber_6 x1) n s = some a) (hk : match (generalizing := false) a with | Sum.inl r => z = (some (.int (b2i r.1)), r.2) | Sum.inr y => wk_H wk_shM 2 mc_X12_readsNumber 39 [.ref 0, .int x1] [] y z), wk_H wk_shM 2 mc_X12_readsNumber 6 [.ref 0, .int x1] [] s z := by
  induction n with
  | zero =>
    intros
    rename_i h _
    exact nomatch (show (none : Option _) = some _ from h)
  | succ n ih =>
    intros
    rename_i h hk
    obtain ⟨o, ho, h⟩ := wk_bindE (show Option.bind _ _ = some _ from h)
    refine ts_S_X12_readsNumber_6 ho ?_
    cases o with
    | inl a1 =>
      cases h
      exact hk
    | inr p =>
      exact ih h hk
set_option maxHeartbeats 4000000 in
set_option maxRecDepth 20000 in
theorem t_X12_readsNumber {s : wk_St} {r : Bool × wk_St} (h : f_X12_readsNumber s = some r) : wk_T wk_shM 2 66 [.ref 0] s (some (.int (b2i r.1)), r.2) := by
  suffices H : ∀ z, z = (some (.int (b2i r.1)), r.2) → wk_H wk_shM 2 mc_X12_readsNumber 0 [.ref 0, wk_U] [] s z from H _ rfl
  intro z hk
  dsimp only [f_X12_readsNumber] at h
  refine wk_Hs 6 6 ⟨rfl, rfl⟩ (ls' := [.ref 0, .int (s.1 0 10)]) (st' := []) (σ' := (wk_si s 0 13 (0 : Int32))) rfl ?_
  obtain ⟨v4, hv4, h⟩ := wk_bindE h
  rcases v4 with v4r | v4
  · cases h
    exact tl_S_X12_readsNumber_6 wk_F hv4 hk
  · refine tl_S_X12_readsNumber_6 wk_F hv4 ?_
    dsimp only at h ⊢
    refine wk_Hs 1 40 ⟨rfl, rfl⟩ (ls' := [.ref 0, .int (s.1 0 10)]) (st' := [.int (1 : Int32)]) (σ' := v4) rfl ?_
    cases h
    exact wk_eqz hk (wk_Hretz rfl (b2i_01 true))
set_option maxHeartbeats 4000000 in
set_option maxRecDepth 20000 in
theorem t_X12_notes {x1 : Int32} {x2 : Int32} {s : wk_St} {r : wk_St} (h : f_X12_notes x1 x2 s = some r) : wk_T wk_shM 0 67 [.ref 0, .int x1, .int x2] s (none, r) := by
  suffices H : ∀ z, z = (none, r) → wk_H wk_shM 0 mc_X12_notes 0 [.ref 0, .int x1, .int x2] [] s z from H _ rfl
  intro z hk
  dsimp only [f_X12_notes] at h
  refine wk_Hs 9 9 ⟨rfl, rfl⟩ (ls' := [.ref 0, .int x1, .int x2]) (st' := [.int (((1048576 : Int32) * x1) + x2), .int (s.1 0 15), .ref 8]) (σ' := s) rfl ?_
  obtain ⟨hg, h⟩ := wk_gdE h
  refine wk_Hias 10 rfl rfl rfl hg rfl ?_
  refine wk_Hs 6 16 ⟨rfl, rfl⟩ (ls' := [.ref 0, .int x1, .int x2]) (st' := []) (σ' := (wk_si (wk_si s 8 ((s.1 0 15).toNatClampNeg) (((1048576 : Int32) * x1) + x2)) 0 15 (((wk_si s 8 ((s.1 0 15).toNatClampNeg) (((1048576 : Int32) * x1) + x2)).1 0 15) + (1 : Int32)))) rfl ?_
  cases h
  exact wk_eqz hk (wk_Hretv rfl)
set_option maxHeartbeats 4000000 in
set_option maxRecDepth 20000 in
theorem t_X12_opens {x1 : Int32} {s : wk_St} {r : Bool × wk_St} (h : f_X12_opens x1 s = some r) : wk_T wk_shM 1 68 [.ref 0, .int x1] s (some (.int (b2i r.1)), r.2) := by
  suffices H : ∀ z, z = (some (.int (b2i r.1)), r.2) → wk_H wk_shM 1 mc_X12_opens 0 [.ref 0, .int x1] [] s z from H _ rfl
  intro z hk
  dsimp only [f_X12_opens] at h
  refine wk_Hs 3 3 ⟨rfl, rfl⟩ (ls' := [.ref 0, .int x1]) (st' := [.int (6 : Int32), .int (s.1 0 14)]) (σ' := s) rfl ?_
  rcases wk_ife h with ⟨hc, h⟩ | ⟨hc, h⟩
  · refine wk_Hbt 10 rfl (wk_cne.2 hc) ?_
    refine wk_Hs 13 23 ⟨rfl, rfl⟩ (ls' := [.ref 0, .int x1]) (st' := [.int ((1048576 : Int32) * x1), .int ((wk_si s 0 14 ((s.1 0 14) + (1 : Int32))).1 0 16), .ref 9]) (σ' := (wk_si s 0 14 ((s.1 0 14) + (1 : Int32)))) rfl ?_
    obtain ⟨hg, h⟩ := wk_gdE h
    refine wk_Hias 24 rfl rfl rfl hg rfl ?_
    refine wk_Hs 13 37 ⟨rfl, rfl⟩ (ls' := [.ref 0, .int x1]) (st' := [.int (1 : Int32)]) (σ' := (wk_si (wk_si (wk_si (wk_si s 0 14 ((s.1 0 14) + (1 : Int32))) 9 (((wk_si s 0 14 ((s.1 0 14) + (1 : Int32))).1 0 16).toNatClampNeg) ((1048576 : Int32) * x1)) 0 16 (((wk_si (wk_si s 0 14 ((s.1 0 14) + (1 : Int32))) 9 (((wk_si s 0 14 ((s.1 0 14) + (1 : Int32))).1 0 16).toNatClampNeg) ((1048576 : Int32) * x1)).1 0 16) + (1 : Int32))) 0 10 (((wk_si (wk_si (wk_si s 0 14 ((s.1 0 14) + (1 : Int32))) 9 (((wk_si s 0 14 ((s.1 0 14) + (1 : Int32))).1 0 16).toNatClampNeg) ((1048576 : Int32) * x1)) 0 16 (((wk_si (wk_si s 0 14 ((s.1 0 14) + (1 : Int32))) 9 (((wk_si s 0 14 ((s.1 0 14) + (1 : Int32))).1 0 16).toNatClampNeg) ((1048576 : Int32) * x1)).1 0 16) + (1 : Int32))).1 0 10) + (1 : Int32)))) rfl ?_
    cases h
    exact wk_eqz hk (wk_Hretz rfl (b2i_01 true))
  · refine wk_Hbf 10 4 rfl rfl (wk_nf wk_cne hc) ?_
    refine wk_Hs 4 8 ⟨rfl, rfl⟩ (ls' := [.ref 0, .int x1]) (st' := [.int (s.1 0 10), .int (5 : Int32), .ref 0]) (σ' := s) rfl ?_
    replace h := wk_letE h
    refine wk_Hcall (i2 := 9) (args := [.ref 0, .int (5 : Int32), .int (s.1 0 10)]) (rest := []) (r := some (.int (b2i ((f_X12_wrongAt (5 : Int32) (s.1 0 10) s).1)))) (σ1 := (f_X12_wrongAt (5 : Int32) (s.1 0 10) s).2) rfl rfl ⟨rfl, rfl, rfl, rfl, rfl⟩ rfl ((t_X12_wrongAt rfl).up (by decide)) ?_
    cases h
    exact wk_eqz hk (wk_Hretz rfl (b2i_01 _))
set_option maxHeartbeats 4000000 in
set_option maxRecDepth 20000 in
theorem t_X12_waitTop {s : wk_St} {r : Int32} (h : f_X12_waitTop s = some r) : wk_T wk_shM 0 69 [.ref 0] s (some (.int r), s) := by
  suffices H : ∀ z, z = (some (.int r), s) → wk_H wk_shM 0 mc_X12_waitTop 0 [.ref 0] [] s z from H _ rfl
  intro z hk
  dsimp only [f_X12_waitTop] at h
  refine wk_Hs 2 2 ⟨rfl, rfl⟩ (ls' := [.ref 0]) (st' := [.int (s.1 0 16)]) (σ' := s) rfl ?_
  rcases wk_ife h with ⟨hc, h⟩ | ⟨hc, h⟩
  · refine wk_H0t 5 rfl (wk_cne.2 hc) ?_
    refine wk_Hs 6 11 ⟨rfl, rfl⟩ (ls' := [.ref 0]) (st' := [.int ((s.1 0 16) - (1 : Int32)), .ref 9]) (σ' := s) rfl ?_
    obtain ⟨hg, h⟩ := wk_gdE h
    refine wk_Hia 12 rfl rfl rfl hg rfl ?_
    refine wk_Hs 1 13 ⟨rfl, rfl⟩ (ls' := [.ref 0]) (st' := [.int (1048576 : Int32), .int (s.1 9 (((s.1 0 16) - (1 : Int32)).toNatClampNeg))]) (σ' := s) rfl ?_
    refine wk_Hdiv 14 rfl rfl (by decide) ?_
    cases h
    exact wk_eqz hk (wk_Hret rfl)
  · refine wk_H0f 5 3 rfl rfl (wk_nf wk_cne hc) ?_
    refine wk_Hs 1 4 ⟨rfl, rfl⟩ (ls' := [.ref 0]) (st' := [.int (-1 : Int32)]) (σ' := s) rfl ?_
    refine wk_Hgoto (t := 14) rfl ?_
    cases h
    exact wk_eqz hk (wk_Hret rfl)
set_option maxHeartbeats 4000000 in
set_option maxRecDepth 20000 in
theorem tj_j_X12_factOf_18 {w0 : Value} {s : wk_St} {z : wk_R} {o : Int32} (h : j_X12_factOf_18 = o) (hk : z = (some (.int o), s)) : wk_H wk_shM 0 mc_X12_factOf 18 [w0] [] s z := by
  dsimp only [j_X12_factOf_18] at h
  refine wk_Hs 1 19 ⟨rfl, rfl⟩ (ls' := [w0]) (st' := [.int (-1 : Int32)]) (σ' := s) rfl ?_
  cases h
  exact wk_eqz hk (wk_Hret rfl)
set_option maxHeartbeats 4000000 in
set_option maxRecDepth 20000 in
theorem t_X12_factOf {x0 : Int32} {s : wk_St} {r : Int32} (h : f_X12_factOf x0 = r) : wk_T wk_shM 0 70 [.int x0] s (some (.int r), s) := by
  suffices H : ∀ z, z = (some (.int r), s) → wk_H wk_shM 0 mc_X12_factOf 0 [.int x0] [] s z from H _ rfl
  intro z hk
  dsimp only [f_X12_factOf] at h
  refine wk_Hs 1 1 ⟨rfl, rfl⟩ (ls' := [.int x0]) (st' := [.int x0]) (σ' := s) rfl ?_
  rcases wk_ife h with ⟨hc0, h⟩ | ⟨hc0, h⟩
  · refine wk_Hts (t := 10) rfl (wk_tswE hc0 (by decide)) ?_
    refine wk_Hs 1 11 ⟨rfl, rfl⟩ (ls' := [.int x0]) (st' := [.int (4 : Int32)]) (σ' := s) rfl ?_
    cases h
    exact wk_eqz hk (wk_Hret rfl)
  rcases wk_ife h with ⟨hc1, h⟩ | ⟨hc1, h⟩
  · refine wk_Hts (t := 8) rfl (wk_tswE hc1 (by decide)) ?_
    refine wk_Hs 1 9 ⟨rfl, rfl⟩ (ls' := [.int x0]) (st' := [.int (3 : Int32)]) (σ' := s) rfl ?_
    cases h
    exact wk_eqz hk (wk_Hret rfl)
  rcases wk_ife h with ⟨hc2, h⟩ | ⟨hc2, h⟩
  · refine wk_Hts (t := 2) rfl (wk_tswE hc2 (by decide)) ?_
    refine wk_Hs 1 3 ⟨rfl, rfl⟩ (ls' := [.int x0]) (st' := [.int (0 : Int32)]) (σ' := s) rfl ?_
    cases h
    exact wk_eqz hk (wk_Hret rfl)
  rcases wk_ife h with ⟨hc3, h⟩ | ⟨hc3, h⟩
  · refine wk_Hts (t := 6) rfl (wk_tswE hc3 (by decide)) ?_
    refine wk_Hs 1 7 ⟨rfl, rfl⟩ (ls' := [.int x0]) (st' := [.int (2 : Int32)]) (σ' := s) rfl ?_
    cases h
    exact wk_eqz hk (wk_Hret rfl)
  rcases wk_ife h with ⟨hc4, h⟩ | ⟨hc4, h⟩
  · refine wk_Hts (t := 12) rfl (wk_tswE hc4 (by decide)) ?_
    refine wk_Hs 1 13 ⟨rfl, rfl⟩ (ls' := [.int x0]) (st' := [.int (5 : Int32)]) (σ' := s) rfl ?_
    cases h
    exact wk_eqz hk (wk_Hret rfl)
  rcases wk_ife h with ⟨hc5, h⟩ | ⟨hc5, h⟩
  · refine wk_Hts (t := 4) rfl (wk_tswE hc5 (by decide)) ?_
    refine wk_Hs 1 5 ⟨rfl, rfl⟩ (ls' := [.int x0]) (st' := [.int (1 : Int32)]) (σ' := s) rfl ?_
    cases h
    exact wk_eqz hk (wk_Hret rfl)
  rcases wk_ife h with ⟨hc6, h⟩ | ⟨hc6, h⟩
  · refine wk_Hts (t := 16) rfl (wk_tswE hc6 (by decide)) ?_
    refine wk_Hs 1 17 ⟨rfl, rfl⟩ (ls' := [.int x0]) (st' := [.int (7 : Int32)]) (σ' := s) rfl ?_
    cases h
    exact wk_eqz hk (wk_Hret rfl)
  rcases wk_ife h with ⟨hc7, h⟩ | ⟨hc7, h⟩
  · refine wk_Hts (t := 14) rfl (wk_tswE hc7 (by decide)) ?_
    refine wk_Hs 1 15 ⟨rfl, rfl⟩ (ls' := [.int x0]) (st' := [.int (6 : Int32)]) (σ' := s) rfl ?_
    cases h
    exact wk_eqz hk (wk_Hret rfl)
  refine wk_Hts (t := 18) rfl (wk_tswD (L := [102, 106, 107, 110, 111, 112, 116, 119]) (by decide) (List.forall_mem_cons.2 ⟨wk_nt hc0 (by decide), (List.forall_mem_cons.2 ⟨wk_nt hc1 (by decide), (List.forall_mem_cons.2 ⟨wk_nt hc2 (by decide), (List.forall_mem_cons.2 ⟨wk_nt hc3 (by decide), (List.forall_mem_cons.2 ⟨wk_nt hc4 (by decide), (List.forall_mem_cons.2 ⟨wk_nt hc5 (by decide), (List.forall_mem_cons.2 ⟨wk_nt hc6 (by decide), (List.forall_mem_cons.2 ⟨wk_nt hc7 (by decide), (fun _ hq => absurd hq List.not_mem_nil)⟩)⟩)⟩)⟩)⟩)⟩)⟩)⟩)) ?_
  exact tj_j_X12_factOf_18 h hk
set_option maxHeartbeats 4000000 in
set_option maxRecDepth 20000 in
theorem t_X12_sumSign {x0 : Int32} {s : wk_St} {r : Int32} (h : f_X12_sumSign x0 = r) : wk_T wk_shM 0 71 [.int x0] s (some (.int r), s) := by
  suffices H : ∀ z, z = (some (.int r), s) → wk_H wk_shM 0 mc_X12_sumSign 0 [.int x0] [] s z from H _ rfl
  intro z hk
  dsimp only [f_X12_sumSign] at h
  refine wk_Hs 2 2 ⟨rfl, rfl⟩ (ls' := [.int x0]) (st' := [.int (43 : Int32), .int x0]) (σ' := s) rfl ?_
  rcases wk_ife h with ⟨hc, h⟩ | ⟨hc, h⟩
  · refine wk_Hbt 5 rfl (wk_cne.2 hc) ?_
    refine wk_Hs 2 7 ⟨rfl, rfl⟩ (ls' := [.int x0]) (st' := [.int (45 : Int32), .int x0]) (σ' := s) rfl ?_
    rcases wk_ife h with ⟨hc, h⟩ | ⟨hc, h⟩
    · refine wk_Hbt 10 rfl (wk_cne.2 hc) ?_
      refine wk_Hs 2 12 ⟨rfl, rfl⟩ (ls' := [.int x0]) (st' := [.int (42 : Int32), .int x0]) (σ' := s) rfl ?_
      rcases wk_ife h with ⟨hc, h⟩ | ⟨hc, h⟩
      · refine wk_Hbt 15 rfl (wk_cne.2 hc) ?_
        refine wk_Hs 2 17 ⟨rfl, rfl⟩ (ls' := [.int x0]) (st' := [.int (47 : Int32), .int x0]) (σ' := s) rfl ?_
        rcases wk_ife h with ⟨hc, h⟩ | ⟨hc, h⟩
        · refine wk_Hbt 20 rfl (wk_cne.2 hc) ?_
          refine wk_Hs 2 22 ⟨rfl, rfl⟩ (ls' := [.int x0]) (st' := [.int (37 : Int32), .int x0]) (σ' := s) rfl ?_
          rcases wk_ife h with ⟨hc, h⟩ | ⟨hc, h⟩
          · refine wk_Hbt 25 rfl (wk_cne.2 hc) ?_
            refine wk_Hs 1 26 ⟨rfl, rfl⟩ (ls' := [.int x0]) (st' := [.int (-1 : Int32)]) (σ' := s) rfl ?_
            cases h
            exact wk_eqz hk (wk_Hret rfl)
          · refine wk_Hbf 25 23 rfl rfl (wk_nf wk_cne hc) ?_
            refine wk_Hs 1 24 ⟨rfl, rfl⟩ (ls' := [.int x0]) (st' := [.int (6 : Int32)]) (σ' := s) rfl ?_
            refine wk_Hgoto (t := 26) rfl ?_
            cases h
            exact wk_eqz hk (wk_Hret rfl)
        · refine wk_Hbf 20 18 rfl rfl (wk_nf wk_cne hc) ?_
          refine wk_Hs 1 19 ⟨rfl, rfl⟩ (ls' := [.int x0]) (st' := [.int (5 : Int32)]) (σ' := s) rfl ?_
          refine wk_Hgoto (t := 26) rfl ?_
          cases h
          exact wk_eqz hk (wk_Hret rfl)
      · refine wk_Hbf 15 13 rfl rfl (wk_nf wk_cne hc) ?_
        refine wk_Hs 1 14 ⟨rfl, rfl⟩ (ls' := [.int x0]) (st' := [.int (4 : Int32)]) (σ' := s) rfl ?_
        refine wk_Hgoto (t := 26) rfl ?_
        cases h
        exact wk_eqz hk (wk_Hret rfl)
    · refine wk_Hbf 10 8 rfl rfl (wk_nf wk_cne hc) ?_
      refine wk_Hs 1 9 ⟨rfl, rfl⟩ (ls' := [.int x0]) (st' := [.int (3 : Int32)]) (σ' := s) rfl ?_
      refine wk_Hgoto (t := 26) rfl ?_
      cases h
      exact wk_eqz hk (wk_Hret rfl)
  · refine wk_Hbf 5 3 rfl rfl (wk_nf wk_cne hc) ?_
    refine wk_Hs 1 4 ⟨rfl, rfl⟩ (ls' := [.int x0]) (st' := [.int (2 : Int32)]) (σ' := s) rfl ?_
    refine wk_Hgoto (t := 26) rfl ?_
    cases h
    exact wk_eqz hk (wk_Hret rfl)
set_option maxHeartbeats 4000000 in
set_option maxRecDepth 20000 in
theorem tj_j_X12_closesSums_18_l0 {x1 : Int32} {s : wk_St} {z : wk_R} {o : (wk_St) ⊕ (wk_St)} (h : j_X12_closesSums_18_l0 x1 s = some o) (hk : match (generalizing := false) o with | Sum.inl a => (wk_H wk_shM 1 mc_X12_closesSums 30 [.ref 0, .int x1] [] a z) | Sum.inr y => wk_H wk_shM 1 mc_X12_closesSums 0 [.ref 0, .int x1] [] y z) : wk_H wk_shM 1 mc_X12_closesSums 18 [.ref 0, .int x1] [] s z := by
  dsimp only [j_X12_closesSums_18_l0] at h
  refine wk_Hs 2 20 ⟨rfl, rfl⟩ (ls' := [.ref 0, .int x1]) (st' := [.ref 0, .ref 0]) (σ' := s) rfl ?_
  obtain ⟨v3, hv3, h⟩ := wk_bindE h
  refine wk_Hcall (i2 := 21) (args := [.ref 0]) (rest := [.ref 0]) (r := some (.int v3)) (σ1 := s) rfl rfl ⟨rfl, rfl, rfl, rfl, rfl⟩ rfl ((t_X12_waitTop hv3).up (by decide)) ?_
  refine wk_Hs 1 22 ⟨rfl, rfl⟩ (ls' := [.ref 0, .int x1]) (st' := [.int (0 : Int32), .int v3, .ref 0]) (σ' := s) rfl ?_
  obtain ⟨v4, hv4, h⟩ := wk_bindE h
  refine wk_Hcall (i2 := 23) (args := [.ref 0, .int v3, .int (0 : Int32)]) (rest := []) (r := none) (σ1 := v4) rfl rfl ⟨rfl, rfl, rfl, rfl, rfl⟩ rfl ((t_X12_notes hv4).up (by decide)) ?_
  refine wk_Hs 6 29 ⟨rfl, rfl⟩ (ls' := [.ref 0, .int x1]) (st' := []) (σ' := (wk_si v4 0 16 ((v4.1 0 16) - (1 : Int32)))) rfl ?_
  refine wk_Hgoto (t := 0) rfl ?_
  cases h
  exact hk
set_option maxHeartbeats 4000000 in
set_option maxRecDepth 20000 in
theorem tj_j_X12_closesSums_8_l0 {x1 : Int32} {s : wk_St} {z : wk_R} {o : (wk_St) ⊕ (wk_St)} (h : j_X12_closesSums_8_l0 x1 s = some o) (hk : match (generalizing := false) o with | Sum.inl a => (wk_H wk_shM 1 mc_X12_closesSums 30 [.ref 0, .int x1] [] a z) | Sum.inr y => wk_H wk_shM 1 mc_X12_closesSums 0 [.ref 0, .int x1] [] y z) : wk_H wk_shM 1 mc_X12_closesSums 8 [.ref 0, .int x1] [] s z := by
  dsimp only [j_X12_closesSums_8_l0] at h
  refine wk_Hs 1 9 ⟨rfl, rfl⟩ (ls' := [.ref 0, .int x1]) (st' := [.int x1]) (σ' := s) rfl ?_
  rcases wk_ife h with ⟨hc, h⟩ | ⟨hc, h⟩
  · refine wk_H0t 30 rfl (wk_ceq.2 hc) ?_
    cases h
    exact hk
  · refine wk_H0f 30 10 rfl rfl (wk_nf wk_ceq hc) ?_
    refine wk_Hs 1 11 ⟨rfl, rfl⟩ (ls' := [.ref 0, .int x1]) (st' := [.ref 0]) (σ' := s) rfl ?_
    obtain ⟨v2, hv2, h⟩ := wk_bindE h
    refine wk_Hcall (i2 := 12) (args := [.ref 0]) (rest := []) (r := some (.int v2)) (σ1 := s) rfl rfl ⟨rfl, rfl, rfl, rfl, rfl⟩ rfl ((t_X12_waitTop hv2).up (by decide)) ?_
    refine wk_Hs 1 13 ⟨rfl, rfl⟩ (ls' := [.ref 0, .int x1]) (st' := [.int (2 : Int32), .int v2]) (σ' := s) rfl ?_
    rcases wk_ife h with ⟨hc, h⟩ | ⟨hc, h⟩
    · refine wk_Hbt 18 rfl (wk_ceq.2 hc) ?_
      exact tj_j_X12_closesSums_18_l0 h hk
    · refine wk_Hbf 18 14 rfl rfl (wk_nf wk_ceq hc) ?_
      refine wk_Hs 1 15 ⟨rfl, rfl⟩ (ls' := [.ref 0, .int x1]) (st' := [.ref 0]) (σ' := s) rfl ?_
      obtain ⟨v5, hv5, h⟩ := wk_bindE h
      refine wk_Hcall (i2 := 16) (args := [.ref 0]) (rest := []) (r := some (.int v5)) (σ1 := s) rfl rfl ⟨rfl, rfl, rfl, rfl, rfl⟩ rfl ((t_X12_waitTop hv5).up (by decide)) ?_
      refine wk_Hs 1 17 ⟨rfl, rfl⟩ (ls' := [.ref 0, .int x1]) (st' := [.int (3 : Int32), .int v5]) (σ' := s) rfl ?_
      rcases wk_ife h with ⟨hc, h⟩ | ⟨hc, h⟩
      · refine wk_Hbt 30 rfl (wk_cne.2 hc) ?_
        cases h
        exact hk
      · refine wk_Hbf 30 18 rfl rfl (wk_nf wk_cne hc) ?_
        exact tj_j_X12_closesSums_18_l0 h hk
set_option maxHeartbeats 4000000 in
set_option maxRecDepth 20000 in
theorem ts_S_X12_closesSums_0 {x1 : Int32} {s : wk_St} {z : wk_R} {o : (wk_St) ⊕ (wk_St)} (h : S_X12_closesSums_0 x1 s = some o) (hk : match (generalizing := false) o with | Sum.inl a => (wk_H wk_shM 1 mc_X12_closesSums 30 [.ref 0, .int x1] [] a z) | Sum.inr y => wk_H wk_shM 1 mc_X12_closesSums 0 [.ref 0, .int x1] [] y z) : wk_H wk_shM 1 mc_X12_closesSums 0 [.ref 0, .int x1] [] s z := by
  dsimp only [S_X12_closesSums_0] at h
  refine wk_Hs 1 1 ⟨rfl, rfl⟩ (ls' := [.ref 0, .int x1]) (st' := [.ref 0]) (σ' := s) rfl ?_
  obtain ⟨v1, hv1, h⟩ := wk_bindE h
  refine wk_Hcall (i2 := 2) (args := [.ref 0]) (rest := []) (r := some (.int v1)) (σ1 := s) rfl rfl ⟨rfl, rfl, rfl, rfl, rfl⟩ rfl ((t_X12_waitTop hv1).up (by decide)) ?_
  refine wk_Hs 1 3 ⟨rfl, rfl⟩ (ls' := [.ref 0, .int x1]) (st' := [.int (4 : Int32), .int v1]) (σ' := s) rfl ?_
  rcases wk_ife h with ⟨hc, h⟩ | ⟨hc, h⟩
  · refine wk_Hbt 8 rfl (wk_clt.2 hc) ?_
    exact tj_j_X12_closesSums_8_l0 h hk
  · refine wk_Hbf 8 4 rfl rfl (wk_nf wk_clt hc) ?_
    refine wk_Hs 1 5 ⟨rfl, rfl⟩ (ls' := [.ref 0, .int x1]) (st' := [.ref 0]) (σ' := s) rfl ?_
    obtain ⟨v6, hv6, h⟩ := wk_bindE h
    refine wk_Hcall (i2 := 6) (args := [.ref 0]) (rest := []) (r := some (.int v6)) (σ1 := s) rfl rfl ⟨rfl, rfl, rfl, rfl, rfl⟩ rfl ((t_X12_waitTop hv6).up (by decide)) ?_
    refine wk_Hs 1 7 ⟨rfl, rfl⟩ (ls' := [.ref 0, .int x1]) (st' := [.int (6 : Int32), .int v6]) (σ' := s) rfl ?_
    rcases wk_ife h with ⟨hc, h⟩ | ⟨hc, h⟩
    · refine wk_Hbt 18 rfl (wk_cle.2 hc) ?_
      exact tj_j_X12_closesSums_18_l0 h hk
    · refine wk_Hbf 18 8 rfl rfl (wk_nf wk_cle hc) ?_
      exact tj_j_X12_closesSums_8_l0 h hk
set_option maxHeartbeats 4000000 in
set_option maxRecDepth 20000 in
theorem tl_S_X12_closesSums_0 {x1 : Int32} {z : wk_R} (n : Nat) : ∀ {s : wk_St} {a : wk_St} (h : wk_loop (S_X12_closesSums_0 x1) n s = some a) (hk : wk_H wk_shM 1 mc_X12_closesSums 30 [.ref 0, .int x1] [] a z), wk_H wk_shM 1 mc_X12_closesSums 0 [.ref 0, .int x1] [] s z := by
  induction n with
  | zero =>
    intros
    rename_i h _
    exact nomatch (show (none : Option _) = some _ from h)
  | succ n ih =>
    intros
    rename_i h hk
    obtain ⟨o, ho, h⟩ := wk_bindE (show Option.bind _ _ = some _ from h)
    refine ts_S_X12_closesSums_0 ho ?_
    cases o with
    | inl a1 =>
      cases h
      exact hk
    | inr p =>
      exact ih h hk
set_option maxHeartbeats 4000000 in
set_option maxRecDepth 20000 in
theorem t_X12_closesSums {x1 : Int32} {s : wk_St} {r : wk_St} (h : f_X12_closesSums x1 s = some r) : wk_T wk_shM 1 72 [.ref 0, .int x1] s (none, r) := by
  suffices H : ∀ z, z = (none, r) → wk_H wk_shM 1 mc_X12_closesSums 0 [.ref 0, .int x1] [] s z from H _ rfl
  intro z hk
  dsimp only [f_X12_closesSums] at h
  obtain ⟨v7, hv7, h⟩ := wk_bindE h
  refine tl_S_X12_closesSums_0 wk_F hv7 ?_
  cases h
  exact wk_eqz hk (wk_Hretv rfl)
set_option maxHeartbeats 4000000 in
set_option maxRecDepth 20000 in
theorem ts_S_X12_readsFactor_0 {w1 : Value} {s : wk_St} {z : wk_R} {o : ((Bool × wk_St) ⊕ (wk_St)) ⊕ (wk_St)} (h : S_X12_readsFactor_0 s = some o) (hk : match (generalizing := false) o with | Sum.inl a => (match (generalizing := false) a with | Sum.inl r => z = (some (.int (b2i r.1)), r.2) | Sum.inr y => wk_H wk_shM 3 mc_X12_readsFactor 10 [.ref 0, w1] [] y z) | Sum.inr y => wk_H wk_shM 3 mc_X12_readsFactor 0 [.ref 0, w1] [] y z) : wk_H wk_shM 3 mc_X12_readsFactor 0 [.ref 0, w1] [] s z := by
  dsimp only [S_X12_readsFactor_0] at h
  refine wk_Hs 1 1 ⟨rfl, rfl⟩ (ls' := [.ref 0, w1]) (st' := [.ref 0]) (σ' := s) rfl ?_
  obtain ⟨v1, hv1, h⟩ := wk_bindE h
  refine wk_Hcall (i2 := 2) (args := [.ref 0]) (rest := []) (r := some (.int v1)) (σ1 := s) rfl rfl ⟨rfl, rfl, rfl, rfl, rfl⟩ rfl ((t_X12_here hv1).up (by decide)) ?_
  refine wk_Hs 1 3 ⟨rfl, rfl⟩ (ls' := [.ref 0, w1]) (st' := [.int (91 : Int32), .int v1]) (σ' := s) rfl ?_
  rcases wk_ife h with ⟨hc, h⟩ | ⟨hc, h⟩
  · refine wk_Hbt 10 rfl (wk_cne.2 hc) ?_
    cases h
    exact hk
  · refine wk_Hbf 10 4 rfl rfl (wk_nf wk_cne hc) ?_
    refine wk_Hs 2 6 ⟨rfl, rfl⟩ (ls' := [.ref 0, w1]) (st' := [.int (14 : Int32), .ref 0]) (σ' := s) rfl ?_
    obtain ⟨v2, hv2, h⟩ := wk_bindE h
    refine wk_Hcall (i2 := 7) (args := [.ref 0, .int (14 : Int32)]) (rest := []) (r := some (.int (b2i v2.1))) (σ1 := v2.2) rfl rfl ⟨rfl, rfl, rfl, rfl, rfl⟩ rfl ((t_X12_opens hv2).up (by decide)) ?_
    rcases wk_ife h with ⟨hc, h⟩ | ⟨hc, h⟩
    · refine wk_H0t 0 rfl (wk_zne.2 hc) ?_
      cases h
      exact hk
    · refine wk_H0f 0 8 rfl rfl (wk_nf wk_zne hc) ?_
      refine wk_Hs 1 9 ⟨rfl, rfl⟩ (ls' := [.ref 0, w1]) (st' := [.int (0 : Int32)]) (σ' := v2.2) rfl ?_
      cases h
      exact wk_eqz hk (wk_Hretz rfl (b2i_01 false))
set_option maxHeartbeats 4000000 in
set_option maxRecDepth 20000 in
theorem tl_S_X12_readsFactor_0 {w1 : Value} {z : wk_R} (n : Nat) : ∀ {s : wk_St} {a : (Bool × wk_St) ⊕ (wk_St)} (h : wk_loop S_X12_readsFactor_0 n s = some a) (hk : match (generalizing := false) a with | Sum.inl r => z = (some (.int (b2i r.1)), r.2) | Sum.inr y => wk_H wk_shM 3 mc_X12_readsFactor 10 [.ref 0, w1] [] y z), wk_H wk_shM 3 mc_X12_readsFactor 0 [.ref 0, w1] [] s z := by
  induction n with
  | zero =>
    intros
    rename_i h _
    exact nomatch (show (none : Option _) = some _ from h)
  | succ n ih =>
    intros
    rename_i h hk
    obtain ⟨o, ho, h⟩ := wk_bindE (show Option.bind _ _ = some _ from h)
    refine ts_S_X12_readsFactor_0 ho ?_
    cases o with
    | inl a1 =>
      cases h
      exact hk
    | inr p =>
      exact ih h hk
set_option maxHeartbeats 4000000 in
set_option maxRecDepth 20000 in
theorem t_X12_readsFactor {s : wk_St} {r : Bool × wk_St} (h : f_X12_readsFactor s = some r) : wk_T wk_shM 3 73 [.ref 0] s (some (.int (b2i r.1)), r.2) := by
  suffices H : ∀ z, z = (some (.int (b2i r.1)), r.2) → wk_H wk_shM 3 mc_X12_readsFactor 0 [.ref 0, wk_U] [] s z from H _ rfl
  intro z hk
  dsimp only [f_X12_readsFactor] at h
  obtain ⟨v3, hv3, h⟩ := wk_bindE h
  rcases v3 with v3r | v3
  · cases h
    exact tl_S_X12_readsFactor_0 wk_F hv3 hk
  · refine tl_S_X12_readsFactor_0 wk_F hv3 ?_
    dsimp only at h ⊢
    refine wk_Hs 1 11 ⟨rfl, rfl⟩ (ls' := [.ref 0, wk_U]) (st' := [.ref 0]) (σ' := v3) rfl ?_
    obtain ⟨v4, hv4, h⟩ := wk_bindE h
    refine wk_Hcall (i2 := 12) (args := [.ref 0]) (rest := []) (r := some (.int (b2i v4))) (σ1 := v3) rfl rfl ⟨rfl, rfl, rfl, rfl, rfl⟩ rfl ((t_X12_isDigit hv4).up (by decide)) ?_
    rcases wk_ife h with ⟨hc, h⟩ | ⟨hc, h⟩
    · refine wk_H0t 25 rfl (wk_zeq.2 hc) ?_
      refine wk_Hs 1 26 ⟨rfl, rfl⟩ (ls' := [.ref 0, wk_U]) (st' := [.ref 0]) (σ' := v3) rfl ?_
      obtain ⟨v5, hv5, h⟩ := wk_bindE h
      refine wk_Hcall (i2 := 27) (args := [.ref 0]) (rest := []) (r := some (.int v5)) (σ1 := v3) rfl rfl ⟨rfl, rfl, rfl, rfl, rfl⟩ rfl ((t_X12_here hv5).up (by decide)) ?_
      refine wk_Hcall (i2 := 28) (args := [.int v5]) (rest := []) (r := some (.int (f_X12_factOf v5))) (σ1 := v3) rfl rfl ⟨rfl, rfl, rfl, rfl, rfl⟩ rfl ((t_X12_factOf rfl).up (by decide)) ?_
      replace h := wk_letE h
      refine wk_Hs 3 31 ⟨rfl, rfl⟩ (ls' := [.ref 0, .int (f_X12_factOf v5)]) (st' := [.int (-1 : Int32), .int (f_X12_factOf v5)]) (σ' := v3) rfl ?_
      rcases wk_ife h with ⟨hc, h⟩ | ⟨hc, h⟩
      · refine wk_Hbt 38 rfl (wk_cne.2 hc) ?_
        refine wk_Hs 3 41 ⟨rfl, rfl⟩ (ls' := [.ref 0, .int (f_X12_factOf v5)]) (st' := [.int (f_X12_factOf v5), .int (1 : Int32), .ref 0]) (σ' := v3) rfl ?_
        obtain ⟨v8, hv8, h⟩ := wk_bindE h
        refine wk_Hcall (i2 := 42) (args := [.ref 0, .int (1 : Int32), .int (f_X12_factOf v5)]) (rest := []) (r := none) (σ1 := v8) rfl rfl ⟨rfl, rfl, rfl, rfl, rfl⟩ rfl ((t_X12_notes hv8).up (by decide)) ?_
        refine wk_Hs 7 49 ⟨rfl, rfl⟩ (ls' := [.ref 0, .int (f_X12_factOf v5)]) (st' := [.int (1 : Int32)]) (σ' := (wk_si v8 0 10 ((v8.1 0 10) + (1 : Int32)))) rfl ?_
        cases h
        exact wk_eqz hk (wk_Hretz rfl (b2i_01 true))
      · refine wk_Hbf 38 32 rfl rfl (wk_nf wk_cne hc) ?_
        refine wk_Hs 4 36 ⟨rfl, rfl⟩ (ls' := [.ref 0, .int (f_X12_factOf v5)]) (st' := [.int (v3.1 0 10), .int (1 : Int32), .ref 0]) (σ' := v3) rfl ?_
        replace h := wk_letE h
        refine wk_Hcall (i2 := 37) (args := [.ref 0, .int (1 : Int32), .int (v3.1 0 10)]) (rest := []) (r := some (.int (b2i ((f_X12_wrongAt (1 : Int32) (v3.1 0 10) v3).1)))) (σ1 := (f_X12_wrongAt (1 : Int32) (v3.1 0 10) v3).2) rfl rfl ⟨rfl, rfl, rfl, rfl, rfl⟩ rfl ((t_X12_wrongAt rfl).up (by decide)) ?_
        cases h
        exact wk_eqz hk (wk_Hretz rfl (b2i_01 _))
    · refine wk_H0f 25 13 rfl rfl (wk_nf wk_zeq hc) ?_
      refine wk_Hs 1 14 ⟨rfl, rfl⟩ (ls' := [.ref 0, wk_U]) (st' := [.ref 0]) (σ' := v3) rfl ?_
      obtain ⟨v10, hv10, h⟩ := wk_bindE h
      refine wk_Hcall (i2 := 15) (args := [.ref 0]) (rest := []) (r := some (.int (b2i v10.1))) (σ1 := v10.2) rfl rfl ⟨rfl, rfl, rfl, rfl, rfl⟩ rfl ((t_X12_readsNumber hv10).up (by decide)) ?_
      rcases wk_ife h with ⟨hc, h⟩ | ⟨hc, h⟩
      · refine wk_H0t 18 rfl (wk_zne.2 hc) ?_
        refine wk_Hs 4 22 ⟨rfl, rfl⟩ (ls' := [.ref 0, wk_U]) (st' := [.int (v10.2.1 0 13), .int (0 : Int32), .ref 0]) (σ' := v10.2) rfl ?_
        obtain ⟨v11, hv11, h⟩ := wk_bindE h
        refine wk_Hcall (i2 := 23) (args := [.ref 0, .int (0 : Int32), .int (v10.2.1 0 13)]) (rest := []) (r := none) (σ1 := v11) rfl rfl ⟨rfl, rfl, rfl, rfl, rfl⟩ rfl ((t_X12_notes hv11).up (by decide)) ?_
        refine wk_Hs 1 24 ⟨rfl, rfl⟩ (ls' := [.ref 0, wk_U]) (st' := [.int (1 : Int32)]) (σ' := v11) rfl ?_
        cases h
        exact wk_eqz hk (wk_Hretz rfl (b2i_01 true))
      · refine wk_H0f 18 16 rfl rfl (wk_nf wk_zne hc) ?_
        refine wk_Hs 1 17 ⟨rfl, rfl⟩ (ls' := [.ref 0, wk_U]) (st' := [.int (0 : Int32)]) (σ' := v10.2) rfl ?_
        cases h
        exact wk_eqz hk (wk_Hretz rfl (b2i_01 false))
set_option maxHeartbeats 4000000 in
set_option maxRecDepth 20000 in
theorem ts_S_X12_hasOpenSum_2 {x2 : Int32} {w1 : Value} {s : wk_St} {z : wk_R} {o : ((Bool) ⊕ (Unit)) ⊕ (Int32)} (h : S_X12_hasOpenSum_2 s x2 = some o) (hk : match (generalizing := false) o with | Sum.inl a => (match (generalizing := false) a with | Sum.inl r => z = (some (.int (b2i r)), s) | Sum.inr _ => ∀ (u1 u2 : Value), wk_H wk_shM 0 mc_X12_hasOpenSum 18 [.ref 0, u1, u2] [] s z) | Sum.inr y => ∀ (u1 : Value), wk_H wk_shM 0 mc_X12_hasOpenSum 2 [.ref 0, u1, .int y] [] s z) : wk_H wk_shM 0 mc_X12_hasOpenSum 2 [.ref 0, w1, .int x2] [] s z := by
  dsimp only [S_X12_hasOpenSum_2] at h
  refine wk_Hs 3 5 ⟨rfl, rfl⟩ (ls' := [.ref 0, w1, .int x2]) (st' := [.int (s.1 0 16), .int x2]) (σ' := s) rfl ?_
  rcases wk_ife h with ⟨hc, h⟩ | ⟨hc, h⟩
  · refine wk_Hbt 18 rfl (wk_cge.2 hc) ?_
    cases h
    exact hk _ _
  · refine wk_Hbf 18 6 rfl rfl (wk_nf wk_cge hc) ?_
    refine wk_Hs 3 9 ⟨rfl, rfl⟩ (ls' := [.ref 0, w1, .int x2]) (st' := [.int x2, .ref 9]) (σ' := s) rfl ?_
    obtain ⟨hg, h⟩ := wk_gdE h
    refine wk_Hia 10 rfl rfl rfl hg rfl ?_
    refine wk_Hs 1 11 ⟨rfl, rfl⟩ (ls' := [.ref 0, w1, .int x2]) (st' := [.int (1048576 : Int32), .int (s.1 9 (x2.toNatClampNeg))]) (σ' := s) rfl ?_
    refine wk_Hdiv 12 rfl rfl (by decide) ?_
    refine wk_Hs 1 13 ⟨rfl, rfl⟩ (ls' := [.ref 0, w1, .int x2]) (st' := [.int (14 : Int32), .int ((s.1 9 (x2.toNatClampNeg)) / (1048576 : Int32))]) (σ' := s) rfl ?_
    rcases wk_ife h with ⟨hc, h⟩ | ⟨hc, h⟩
    · refine wk_Hbt 16 rfl (wk_cne.2 hc) ?_
      refine wk_Hs 1 17 ⟨rfl, rfl⟩ (ls' := [.ref 0, (wk_cl w1), .int (x2 + (1 : Int32))]) (st' := []) (σ' := s) rfl ?_
      refine wk_Hgoto (t := 2) rfl ?_
      cases h
      exact hk _
    · refine wk_Hbf 16 14 rfl rfl (wk_nf wk_cne hc) ?_
      refine wk_Hs 1 15 ⟨rfl, rfl⟩ (ls' := [.ref 0, w1, .int x2]) (st' := [.int (1 : Int32)]) (σ' := s) rfl ?_
      cases h
      exact wk_eqz hk (wk_Hretz rfl (b2i_01 true))
set_option maxHeartbeats 4000000 in
set_option maxRecDepth 20000 in
theorem tl_S_X12_hasOpenSum_2 {s : wk_St} {z : wk_R} (n : Nat) : ∀ {x2 : Int32} {w1 : Value} {a : (Bool) ⊕ (Unit)} (h : wk_loop (S_X12_hasOpenSum_2 s) n x2 = some a) (hk : match (generalizing := false) a with | Sum.inl r => z = (some (.int (b2i r)), s) | Sum.inr _ => ∀ (u1 u2 : Value), wk_H wk_shM 0 mc_X12_hasOpenSum 18 [.ref 0, u1, u2] [] s z), wk_H wk_shM 0 mc_X12_hasOpenSum 2 [.ref 0, w1, .int x2] [] s z := by
  induction n with
  | zero =>
    intros
    rename_i h _
    exact nomatch (show (none : Option _) = some _ from h)
  | succ n ih =>
    intros
    rename_i h hk
    obtain ⟨o, ho, h⟩ := wk_bindE (show Option.bind _ _ = some _ from h)
    refine ts_S_X12_hasOpenSum_2 ho ?_
    cases o with
    | inl a1 =>
      cases h
      exact hk
    | inr p =>
      exact fun _ => ih h hk
set_option maxHeartbeats 4000000 in
set_option maxRecDepth 20000 in
theorem t_X12_hasOpenSum {x1 : Int32} {s : wk_St} {r : Bool} (h : f_X12_hasOpenSum x1 s = some r) : wk_T wk_shM 0 74 [.ref 0, .int x1] s (some (.int (b2i r)), s) := by
  suffices H : ∀ z, z = (some (.int (b2i r)), s) → wk_H wk_shM 0 mc_X12_hasOpenSum 0 [.ref 0, .int x1, wk_U] [] s z from H _ rfl
  intro z hk
  dsimp only [f_X12_hasOpenSum] at h
  refine wk_Hs 2 2 ⟨rfl, rfl⟩ (ls' := [.ref 0, .int x1, .int x1]) (st' := []) (σ' := s) rfl ?_
  obtain ⟨v1, hv1, h⟩ := wk_bindE h
  rcases v1 with v1r | v1
  · cases h
    exact tl_S_X12_hasOpenSum_2 wk_F hv1 hk
  · refine tl_S_X12_hasOpenSum_2 wk_F hv1 ?_
    intro g2 g3
    dsimp only at h ⊢
    refine wk_Hs 1 19 ⟨rfl, rfl⟩ (ls' := [.ref 0, g2, g3]) (st' := [.int (0 : Int32)]) (σ' := s) rfl ?_
    cases h
    exact wk_eqz hk (wk_Hretz rfl (b2i_01 false))
set_option maxHeartbeats 4000000 in
set_option maxRecDepth 20000 in
theorem tj_j_X12_readsSum_78_l8 {x1 : Int32} {w2 : Value} {s : wk_St} {z : wk_R} {o : (Bool × wk_St) ⊕ (wk_St)} (h : j_X12_readsSum_78_l8 x1 s = some o) (hk : match (generalizing := false) o with | Sum.inl a => (z = (some (.int (b2i a.1)), a.2)) | Sum.inr y => ∀ (u2 : Value), wk_H wk_shM 4 mc_X12_readsSum 8 [.ref 0, .int x1, u2] [] y z) : wk_H wk_shM 4 mc_X12_readsSum 78 [.ref 0, .int x1, w2] [] s z := by
  dsimp only [j_X12_readsSum_78_l8] at h
  refine wk_Hs 2 80 ⟨rfl, rfl⟩ (ls' := [.ref 0, .int x1, w2]) (st' := [.int x1, .ref 0]) (σ' := s) rfl ?_
  obtain ⟨v6, hv6, h⟩ := wk_bindE h
  refine wk_Hcall (i2 := 81) (args := [.ref 0, .int x1]) (rest := []) (r := some (.int (b2i v6))) (σ1 := s) rfl rfl ⟨rfl, rfl, rfl, rfl, rfl⟩ rfl ((t_X12_hasOpenSum hv6).up (by decide)) ?_
  rcases wk_ife h with ⟨hc, h⟩ | ⟨hc, h⟩
  · refine wk_H0t 88 rfl (wk_zeq.2 hc) ?_
    refine wk_Hs 2 90 ⟨rfl, rfl⟩ (ls' := [.ref 0, .int x1, w2]) (st' := [.int (1 : Int32), .ref 0]) (σ' := s) rfl ?_
    obtain ⟨v7, hv7, h⟩ := wk_bindE h
    refine wk_Hcall (i2 := 91) (args := [.ref 0, .int (1 : Int32)]) (rest := []) (r := none) (σ1 := v7) rfl rfl ⟨rfl, rfl, rfl, rfl, rfl⟩ rfl ((t_X12_closesSums hv7).up (by decide)) ?_
    refine wk_Hs 1 92 ⟨rfl, rfl⟩ (ls' := [.ref 0, .int x1, w2]) (st' := [.int (1 : Int32)]) (σ' := v7) rfl ?_
    cases h
    exact wk_eqz hk (wk_Hretz rfl (b2i_01 true))
  · refine wk_H0f 88 82 rfl rfl (wk_nf wk_zeq hc) ?_
    refine wk_Hs 4 86 ⟨rfl, rfl⟩ (ls' := [.ref 0, .int x1, w2]) (st' := [.int (s.1 0 10), .int (1 : Int32), .ref 0]) (σ' := s) rfl ?_
    replace h := wk_letE h
    refine wk_Hcall (i2 := 87) (args := [.ref 0, .int (1 : Int32), .int (s.1 0 10)]) (rest := []) (r := some (.int (b2i ((f_X12_wrongAt (1 : Int32) (s.1 0 10) s).1)))) (σ1 := (f_X12_wrongAt (1 : Int32) (s.1 0 10) s).2) rfl rfl ⟨rfl, rfl, rfl, rfl, rfl⟩ rfl ((t_X12_wrongAt rfl).up (by decide)) ?_
    cases h
    exact wk_eqz hk (wk_Hretz rfl (b2i_01 _))
set_option maxHeartbeats 4000000 in
set_option maxRecDepth 20000 in
theorem tj_j_X12_readsSum_22_l8 {x1 : Int32} {x2 : Int32} {s_0 : Int32} {s : wk_St} {z : wk_R} {o : (Bool × wk_St) ⊕ (wk_St)} (h : j_X12_readsSum_22_l8 x1 x2 s_0 s = some o) (hk : match (generalizing := false) o with | Sum.inl a => (z = (some (.int (b2i a.1)), a.2)) | Sum.inr y => ∀ (u2 : Value), wk_H wk_shM 4 mc_X12_readsSum 8 [.ref 0, .int x1, u2] [] y z) : wk_H wk_shM 4 mc_X12_readsSum 22 [.ref 0, .int x1, .int x2] [.int s_0, .ref 0] s z := by
  dsimp only [j_X12_readsSum_22_l8] at h
  obtain ⟨v11, hv11, h⟩ := wk_bindE h
  refine wk_Hcall (i2 := 23) (args := [.ref 0, .int s_0]) (rest := []) (r := none) (σ1 := v11) rfl rfl ⟨rfl, rfl, rfl, rfl, rfl⟩ rfl ((t_X12_closesSums hv11).up (by decide)) ?_
  refine wk_Hs 7 30 ⟨rfl, rfl⟩ (ls' := [.ref 0, .int x1, .int x2]) (st' := [.int ((1048576 : Int32) * x2), .int (v11.1 0 16), .ref 9]) (σ' := v11) rfl ?_
  obtain ⟨hg, h⟩ := wk_gdE h
  refine wk_Hias 31 rfl rfl rfl hg rfl ?_
  refine wk_Hs 13 44 ⟨rfl, rfl⟩ (ls' := [.ref 0, .int x1, .int x2]) (st' := [.ref 0]) (σ' := (wk_si (wk_si (wk_si v11 9 ((v11.1 0 16).toNatClampNeg) ((1048576 : Int32) * x2)) 0 16 (((wk_si v11 9 ((v11.1 0 16).toNatClampNeg) ((1048576 : Int32) * x2)).1 0 16) + (1 : Int32))) 0 10 (((wk_si (wk_si v11 9 ((v11.1 0 16).toNatClampNeg) ((1048576 : Int32) * x2)) 0 16 (((wk_si v11 9 ((v11.1 0 16).toNatClampNeg) ((1048576 : Int32) * x2)).1 0 16) + (1 : Int32))).1 0 10) + (1 : Int32)))) rfl ?_
  obtain ⟨v12, hv12, h⟩ := wk_bindE h
  refine wk_Hcall (i2 := 45) (args := [.ref 0]) (rest := []) (r := some (.int (b2i v12.1))) (σ1 := v12.2) rfl rfl ⟨rfl, rfl, rfl, rfl, rfl⟩ rfl ((t_X12_readsFactor hv12).up (by decide)) ?_
  rcases wk_ife h with ⟨hc, h⟩ | ⟨hc, h⟩
  · refine wk_H0t 93 rfl (wk_zne.2 hc) ?_
    refine wk_Hgoto (t := 8) rfl ?_
    cases h
    exact hk _
  · refine wk_H0f 93 46 rfl rfl (wk_nf wk_zne hc) ?_
    refine wk_Hs 1 47 ⟨rfl, rfl⟩ (ls' := [.ref 0, .int x1, .int x2]) (st' := [.int (0 : Int32)]) (σ' := v12.2) rfl ?_
    cases h
    exact wk_eqz hk (wk_Hretz rfl (b2i_01 false))
set_option maxHeartbeats 4000000 in
set_option maxRecDepth 20000 in
theorem ts_S_X12_readsSum_8 {x1 : Int32} {w2 : Value} {s : wk_St} {z : wk_R} {o : (Bool × wk_St) ⊕ (wk_St)} (h : S_X12_readsSum_8 x1 s = some o) (hk : match (generalizing := false) o with | Sum.inl a => (z = (some (.int (b2i a.1)), a.2)) | Sum.inr y => ∀ (u2 : Value), wk_H wk_shM 4 mc_X12_readsSum 8 [.ref 0, .int x1, u2] [] y z) : wk_H wk_shM 4 mc_X12_readsSum 8 [.ref 0, .int x1, w2] [] s z := by
  dsimp only [S_X12_readsSum_8] at h
  refine wk_Hs 1 9 ⟨rfl, rfl⟩ (ls' := [.ref 0, .int x1, w2]) (st' := [.ref 0]) (σ' := s) rfl ?_
  obtain ⟨v2, hv2, h⟩ := wk_bindE h
  refine wk_Hcall (i2 := 10) (args := [.ref 0]) (rest := []) (r := some (.int v2)) (σ1 := s) rfl rfl ⟨rfl, rfl, rfl, rfl, rfl⟩ rfl ((t_X12_here hv2).up (by decide)) ?_
  refine wk_Hcall (i2 := 11) (args := [.int v2]) (rest := []) (r := some (.int (f_X12_sumSign v2))) (σ1 := s) rfl rfl ⟨rfl, rfl, rfl, rfl, rfl⟩ rfl ((t_X12_sumSign rfl).up (by decide)) ?_
  replace h := wk_letE h
  refine wk_Hs 3 14 ⟨rfl, rfl⟩ (ls' := [.ref 0, .int x1, .int (f_X12_sumSign v2)]) (st' := [.int (-1 : Int32), .int (f_X12_sumSign v2)]) (σ' := s) rfl ?_
  rcases wk_ife h with ⟨hc, h⟩ | ⟨hc, h⟩
  · refine wk_Hbt 48 rfl (wk_ceq.2 hc) ?_
    refine wk_Hs 1 49 ⟨rfl, rfl⟩ (ls' := [.ref 0, .int x1, .int (f_X12_sumSign v2)]) (st' := [.ref 0]) (σ' := s) rfl ?_
    obtain ⟨v5, hv5, h⟩ := wk_bindE h
    refine wk_Hcall (i2 := 50) (args := [.ref 0]) (rest := []) (r := some (.int v5)) (σ1 := s) rfl rfl ⟨rfl, rfl, rfl, rfl, rfl⟩ rfl ((t_X12_here hv5).up (by decide)) ?_
    refine wk_Hs 1 51 ⟨rfl, rfl⟩ (ls' := [.ref 0, .int x1, .int (f_X12_sumSign v2)]) (st' := [.int (93 : Int32), .int v5]) (σ' := s) rfl ?_
    rcases wk_ife h with ⟨hc, h⟩ | ⟨hc, h⟩
    · refine wk_Hbt 78 rfl (wk_cne.2 hc) ?_
      exact tj_j_X12_readsSum_78_l8 h hk
    · refine wk_Hbf 78 52 rfl rfl (wk_nf wk_cne hc) ?_
      refine wk_Hs 2 54 ⟨rfl, rfl⟩ (ls' := [.ref 0, .int x1, .int (f_X12_sumSign v2)]) (st' := [.int x1, .ref 0]) (σ' := s) rfl ?_
      obtain ⟨v9, hv9, h⟩ := wk_bindE h
      refine wk_Hcall (i2 := 55) (args := [.ref 0, .int x1]) (rest := []) (r := some (.int (b2i v9))) (σ1 := s) rfl rfl ⟨rfl, rfl, rfl, rfl, rfl⟩ rfl ((t_X12_hasOpenSum hv9).up (by decide)) ?_
      rcases wk_ife h with ⟨hc, h⟩ | ⟨hc, h⟩
      · refine wk_H0t 78 rfl (wk_zeq.2 hc) ?_
        exact tj_j_X12_readsSum_78_l8 h hk
      · refine wk_H0f 78 56 rfl rfl (wk_nf wk_zeq hc) ?_
        refine wk_Hs 2 58 ⟨rfl, rfl⟩ (ls' := [.ref 0, .int x1, .int (f_X12_sumSign v2)]) (st' := [.int (1 : Int32), .ref 0]) (σ' := s) rfl ?_
        obtain ⟨v10, hv10, h⟩ := wk_bindE h
        refine wk_Hcall (i2 := 59) (args := [.ref 0, .int (1 : Int32)]) (rest := []) (r := none) (σ1 := v10) rfl rfl ⟨rfl, rfl, rfl, rfl, rfl⟩ rfl ((t_X12_closesSums hv10).up (by decide)) ?_
        refine wk_Hs 18 77 ⟨rfl, rfl⟩ (ls' := [.ref 0, .int x1, .int (f_X12_sumSign v2)]) (st' := []) (σ' := (wk_si (wk_si (wk_si v10 0 16 ((v10.1 0 16) - (1 : Int32))) 0 14 (((wk_si v10 0 16 ((v10.1 0 16) - (1 : Int32))).1 0 14) - (1 : Int32))) 0 10 (((wk_si (wk_si v10 0 16 ((v10.1 0 16) - (1 : Int32))) 0 14 (((wk_si v10 0 16 ((v10.1 0 16) - (1 : Int32))).1 0 14) - (1 : Int32))).1 0 10) + (1 : Int32)))) rfl ?_
        refine wk_Hgoto (t := 93) rfl ?_
        refine wk_Hgoto (t := 8) rfl ?_
        cases h
        exact hk _
  · refine wk_Hbf 48 15 rfl rfl (wk_nf wk_ceq hc) ?_
    refine wk_Hs 3 18 ⟨rfl, rfl⟩ (ls' := [.ref 0, .int x1, .int (f_X12_sumSign v2)]) (st' := [.int (4 : Int32), .int (f_X12_sumSign v2), .ref 0]) (σ' := s) rfl ?_
    rcases wk_ife h with ⟨hc, h⟩ | ⟨hc, h⟩
    · refine wk_Hbt 21 rfl (wk_cge.2 hc) ?_
      refine wk_Hs 1 22 ⟨rfl, rfl⟩ (ls' := [.ref 0, .int x1, .int (f_X12_sumSign v2)]) (st' := [.int (0 : Int32), .ref 0]) (σ' := s) rfl ?_
      exact tj_j_X12_readsSum_22_l8 h hk
    · refine wk_Hbf 21 19 rfl rfl (wk_nf wk_cge hc) ?_
      refine wk_Hs 1 20 ⟨rfl, rfl⟩ (ls' := [.ref 0, .int x1, .int (f_X12_sumSign v2)]) (st' := [.int (1 : Int32), .ref 0]) (σ' := s) rfl ?_
      refine wk_Hgoto (t := 22) rfl ?_
      exact tj_j_X12_readsSum_22_l8 h hk
set_option maxHeartbeats 4000000 in
set_option maxRecDepth 20000 in
theorem tl_S_X12_readsSum_8 {x1 : Int32} {z : wk_R} (n : Nat) : ∀ {w2 : Value} {s : wk_St} {a : Bool × wk_St} (h : wk_loop (S_X12_readsSum_8 x1) n s = some a) (hk : z = (some (.int (b2i a.1)), a.2)), wk_H wk_shM 4 mc_X12_readsSum 8 [.ref 0, .int x1, w2] [] s z := by
  induction n with
  | zero =>
    intros
    rename_i h _
    exact nomatch (show (none : Option _) = some _ from h)
  | succ n ih =>
    intros
    rename_i h hk
    obtain ⟨o, ho, h⟩ := wk_bindE (show Option.bind _ _ = some _ from h)
    refine ts_S_X12_readsSum_8 ho ?_
    cases o with
    | inl a1 =>
      cases h
      exact hk
    | inr p =>
      exact fun _ => ih h hk
set_option maxHeartbeats 4000000 in
set_option maxRecDepth 20000 in
theorem t_X12_readsSum {s : wk_St} {r : Bool × wk_St} (h : f_X12_readsSum s = some r) : wk_T wk_shM 4 75 [.ref 0] s (some (.int (b2i r.1)), r.2) := by
  suffices H : ∀ z, z = (some (.int (b2i r.1)), r.2) → wk_H wk_shM 4 mc_X12_readsSum 0 [.ref 0, wk_U, wk_U] [] s z from H _ rfl
  intro z hk
  dsimp only [f_X12_readsSum] at h
  refine wk_Hs 4 4 ⟨rfl, rfl⟩ (ls' := [.ref 0, .int (s.1 0 16), wk_U]) (st' := [.ref 0]) (σ' := s) rfl ?_
  obtain ⟨v1, hv1, h⟩ := wk_bindE h
  refine wk_Hcall (i2 := 5) (args := [.ref 0]) (rest := []) (r := some (.int (b2i v1.1))) (σ1 := v1.2) rfl rfl ⟨rfl, rfl, rfl, rfl, rfl⟩ rfl ((t_X12_readsFactor hv1).up (by decide)) ?_
  rcases wk_ife h with ⟨hc, h⟩ | ⟨hc, h⟩
  · refine wk_H0t 8 rfl (wk_zne.2 hc) ?_
    obtain ⟨v13, hv13, h⟩ := wk_bindE h
    cases h
    exact tl_S_X12_readsSum_8 wk_F hv13 hk
  · refine wk_H0f 8 6 rfl rfl (wk_nf wk_zne hc) ?_
    refine wk_Hs 1 7 ⟨rfl, rfl⟩ (ls' := [.ref 0, .int (s.1 0 16), wk_U]) (st' := [.int (0 : Int32)]) (σ' := v1.2) rfl ?_
    cases h
    exact wk_eqz hk (wk_Hretz rfl (b2i_01 false))
set_option maxHeartbeats 4000000 in
set_option maxRecDepth 20000 in
theorem ts_S_X12_endsPiece_0 {s : wk_St} {z : wk_R} {o : (wk_St) ⊕ (wk_St)} (h : S_X12_endsPiece_0 s = some o) (hk : match (generalizing := false) o with | Sum.inl a => (wk_H wk_shM 1 mc_X12_endsPiece 21 [.ref 0] [] a z) | Sum.inr y => wk_H wk_shM 1 mc_X12_endsPiece 0 [.ref 0] [] y z) : wk_H wk_shM 1 mc_X12_endsPiece 0 [.ref 0] [] s z := by
  dsimp only [S_X12_endsPiece_0] at h
  refine wk_Hs 1 1 ⟨rfl, rfl⟩ (ls' := [.ref 0]) (st' := [.ref 0]) (σ' := s) rfl ?_
  obtain ⟨v1, hv1, h⟩ := wk_bindE h
  refine wk_Hcall (i2 := 2) (args := [.ref 0]) (rest := []) (r := some (.int v1)) (σ1 := s) rfl rfl ⟨rfl, rfl, rfl, rfl, rfl⟩ rfl ((t_X12_waitTop hv1).up (by decide)) ?_
  refine wk_Hs 1 3 ⟨rfl, rfl⟩ (ls' := [.ref 0]) (st' := [.int (10 : Int32), .int v1]) (σ' := s) rfl ?_
  rcases wk_ife h with ⟨hc, h⟩ | ⟨hc, h⟩
  · refine wk_Hbt 21 rfl (wk_cne.2 hc) ?_
    cases h
    exact hk
  · refine wk_Hbf 21 4 rfl rfl (wk_nf wk_cne hc) ?_
    refine wk_Hs 3 7 ⟨rfl, rfl⟩ (ls' := [.ref 0]) (st' := [.int (0 : Int32), .int (10 : Int32), .ref 0]) (σ' := s) rfl ?_
    obtain ⟨v2, hv2, h⟩ := wk_bindE h
    refine wk_Hcall (i2 := 8) (args := [.ref 0, .int (10 : Int32), .int (0 : Int32)]) (rest := []) (r := none) (σ1 := v2) rfl rfl ⟨rfl, rfl, rfl, rfl, rfl⟩ rfl ((t_X12_notes hv2).up (by decide)) ?_
    refine wk_Hs 12 20 ⟨rfl, rfl⟩ (ls' := [.ref 0]) (st' := []) (σ' := (wk_si (wk_si v2 0 16 ((v2.1 0 16) - (1 : Int32))) 0 14 (((wk_si v2 0 16 ((v2.1 0 16) - (1 : Int32))).1 0 14) - (1 : Int32)))) rfl ?_
    refine wk_Hgoto (t := 0) rfl ?_
    cases h
    exact hk
set_option maxHeartbeats 4000000 in
set_option maxRecDepth 20000 in
theorem tl_S_X12_endsPiece_0 {z : wk_R} (n : Nat) : ∀ {s : wk_St} {a : wk_St} (h : wk_loop S_X12_endsPiece_0 n s = some a) (hk : wk_H wk_shM 1 mc_X12_endsPiece 21 [.ref 0] [] a z), wk_H wk_shM 1 mc_X12_endsPiece 0 [.ref 0] [] s z := by
  induction n with
  | zero =>
    intros
    rename_i h _
    exact nomatch (show (none : Option _) = some _ from h)
  | succ n ih =>
    intros
    rename_i h hk
    obtain ⟨o, ho, h⟩ := wk_bindE (show Option.bind _ _ = some _ from h)
    refine ts_S_X12_endsPiece_0 ho ?_
    cases o with
    | inl a1 =>
      cases h
      exact hk
    | inr p =>
      exact ih h hk
set_option maxHeartbeats 4000000 in
set_option maxRecDepth 20000 in
theorem t_X12_endsPiece {s : wk_St} {r : wk_St} (h : f_X12_endsPiece s = some r) : wk_T wk_shM 1 76 [.ref 0] s (none, r) := by
  suffices H : ∀ z, z = (none, r) → wk_H wk_shM 1 mc_X12_endsPiece 0 [.ref 0] [] s z from H _ rfl
  intro z hk
  dsimp only [f_X12_endsPiece] at h
  obtain ⟨v3, hv3, h⟩ := wk_bindE h
  refine tl_S_X12_endsPiece_0 wk_F hv3 ?_
  cases h
  exact wk_eqz hk (wk_Hretv rfl)
set_option maxHeartbeats 4000000 in
set_option maxRecDepth 20000 in
theorem tj_j_X12_lands_10_l0 {x1 : Int32} {w2 : Value} {s : wk_St} {z : wk_R} {o : (wk_St) ⊕ (wk_St)} (h : j_X12_lands_10_l0 x1 s = some o) (hk : match (generalizing := false) o with | Sum.inl a => (∀ (u2 : Value), wk_H wk_shM 1 mc_X12_lands 42 [.ref 0, .int x1, u2] [] a z) | Sum.inr y => ∀ (u2 : Value), wk_H wk_shM 1 mc_X12_lands 0 [.ref 0, .int x1, u2] [] y z) : wk_H wk_shM 1 mc_X12_lands 10 [.ref 0, .int x1, w2] [] s z := by
  dsimp only [j_X12_lands_10_l0] at h
  refine wk_Hs 6 16 ⟨rfl, rfl⟩ (ls' := [.ref 0, .int x1, w2]) (st' := [.int ((s.1 0 16) - (1 : Int32)), .ref 9]) (σ' := s) rfl ?_
  obtain ⟨hg, h⟩ := wk_gdE h
  refine wk_Hia 17 rfl rfl rfl hg rfl ?_
  refine wk_Hs 1 18 ⟨rfl, rfl⟩ (ls' := [.ref 0, .int x1, w2]) (st' := [.int (1048576 : Int32), .int (s.1 9 (((s.1 0 16) - (1 : Int32)).toNatClampNeg))]) (σ' := s) rfl ?_
  refine wk_Hrem 19 rfl rfl (by decide) ?_
  replace h := wk_letE h
  refine wk_Hs 8 27 ⟨rfl, rfl⟩ (ls' := [.ref 0, .int x1, .int (wk_rem (s.1 9 (((s.1 0 16) - (1 : Int32)).toNatClampNeg)) (1048576 : Int32))]) (st' := [.int (wk_rem (s.1 9 (((s.1 0 16) - (1 : Int32)).toNatClampNeg)) (1048576 : Int32)), .ref 8, .int (1048576 : Int32), .int (wk_rem (s.1 9 (((s.1 0 16) - (1 : Int32)).toNatClampNeg)) (1048576 : Int32)), .ref 8]) (σ' := s) rfl ?_
  obtain ⟨hg, h⟩ := wk_gdE h
  refine wk_Hia 28 rfl rfl rfl hg rfl ?_
  refine wk_Hs 1 29 ⟨rfl, rfl⟩ (ls' := [.ref 0, .int x1, .int (wk_rem (s.1 9 (((s.1 0 16) - (1 : Int32)).toNatClampNeg)) (1048576 : Int32))]) (st' := [.int (1048576 : Int32), .int (s.1 8 ((wk_rem (s.1 9 (((s.1 0 16) - (1 : Int32)).toNatClampNeg)) (1048576 : Int32)).toNatClampNeg)), .int (1048576 : Int32), .int (wk_rem (s.1 9 (((s.1 0 16) - (1 : Int32)).toNatClampNeg)) (1048576 : Int32)), .ref 8]) (σ' := s) rfl ?_
  refine wk_Hdiv 30 rfl rfl (by decide) ?_
  refine wk_Hs 4 34 ⟨rfl, rfl⟩ (ls' := [.ref 0, .int x1, .int (wk_rem (s.1 9 (((s.1 0 16) - (1 : Int32)).toNatClampNeg)) (1048576 : Int32))]) (st' := [.int (((1048576 : Int32) * ((s.1 8 ((wk_rem (s.1 9 (((s.1 0 16) - (1 : Int32)).toNatClampNeg)) (1048576 : Int32)).toNatClampNeg)) / (1048576 : Int32))) + (s.1 0 15)), .int (wk_rem (s.1 9 (((s.1 0 16) - (1 : Int32)).toNatClampNeg)) (1048576 : Int32)), .ref 8]) (σ' := s) rfl ?_
  obtain ⟨hg, h⟩ := wk_gdE h
  refine wk_Hias 35 rfl rfl rfl hg rfl ?_
  refine wk_Hs 6 41 ⟨rfl, rfl⟩ (ls' := [.ref 0, .int x1, .int (wk_rem (s.1 9 (((s.1 0 16) - (1 : Int32)).toNatClampNeg)) (1048576 : Int32))]) (st' := []) (σ' := (wk_si (wk_si s 8 ((wk_rem (s.1 9 (((s.1 0 16) - (1 : Int32)).toNatClampNeg)) (1048576 : Int32)).toNatClampNeg) (((1048576 : Int32) * ((s.1 8 ((wk_rem (s.1 9 (((s.1 0 16) - (1 : Int32)).toNatClampNeg)) (1048576 : Int32)).toNatClampNeg)) / (1048576 : Int32))) + (s.1 0 15))) 0 16 (((wk_si s 8 ((wk_rem (s.1 9 (((s.1 0 16) - (1 : Int32)).toNatClampNeg)) (1048576 : Int32)).toNatClampNeg) (((1048576 : Int32) * ((s.1 8 ((wk_rem (s.1 9 (((s.1 0 16) - (1 : Int32)).toNatClampNeg)) (1048576 : Int32)).toNatClampNeg)) / (1048576 : Int32))) + (s.1 0 15))).1 0 16) - (1 : Int32)))) rfl ?_
  refine wk_Hgoto (t := 0) rfl ?_
  cases h
  exact hk _
set_option maxHeartbeats 4000000 in
set_option maxRecDepth 20000 in
theorem ts_S_X12_lands_0 {x1 : Int32} {w2 : Value} {s : wk_St} {z : wk_R} {o : (wk_St) ⊕ (wk_St)} (h : S_X12_lands_0 x1 s = some o) (hk : match (generalizing := false) o with | Sum.inl a => (∀ (u2 : Value), wk_H wk_shM 1 mc_X12_lands 42 [.ref 0, .int x1, u2] [] a z) | Sum.inr y => ∀ (u2 : Value), wk_H wk_shM 1 mc_X12_lands 0 [.ref 0, .int x1, u2] [] y z) : wk_H wk_shM 1 mc_X12_lands 0 [.ref 0, .int x1, w2] [] s z := by
  dsimp only [S_X12_lands_0] at h
  refine wk_Hs 1 1 ⟨rfl, rfl⟩ (ls' := [.ref 0, .int x1, w2]) (st' := [.ref 0]) (σ' := s) rfl ?_
  obtain ⟨v1, hv1, h⟩ := wk_bindE h
  refine wk_Hcall (i2 := 2) (args := [.ref 0]) (rest := []) (r := some (.int v1)) (σ1 := s) rfl rfl ⟨rfl, rfl, rfl, rfl, rfl⟩ rfl ((t_X12_waitTop hv1).up (by decide)) ?_
  refine wk_Hs 1 3 ⟨rfl, rfl⟩ (ls' := [.ref 0, .int x1, w2]) (st' := [.int (11 : Int32), .int v1]) (σ' := s) rfl ?_
  rcases wk_ife h with ⟨hc, h⟩ | ⟨hc, h⟩
  · refine wk_Hbt 10 rfl (wk_ceq.2 hc) ?_
    exact tj_j_X12_lands_10_l0 h hk
  · refine wk_Hbf 10 4 rfl rfl (wk_nf wk_ceq hc) ?_
    refine wk_Hs 1 5 ⟨rfl, rfl⟩ (ls' := [.ref 0, .int x1, w2]) (st' := [.int x1]) (σ' := s) rfl ?_
    rcases wk_ife h with ⟨hc, h⟩ | ⟨hc, h⟩
    · refine wk_H0t 42 rfl (wk_ceq.2 hc) ?_
      cases h
      exact hk _
    · refine wk_H0f 42 6 rfl rfl (wk_nf wk_ceq hc) ?_
      refine wk_Hs 1 7 ⟨rfl, rfl⟩ (ls' := [.ref 0, .int x1, w2]) (st' := [.ref 0]) (σ' := s) rfl ?_
      obtain ⟨v3, hv3, h⟩ := wk_bindE h
      refine wk_Hcall (i2 := 8) (args := [.ref 0]) (rest := []) (r := some (.int v3)) (σ1 := s) rfl rfl ⟨rfl, rfl, rfl, rfl, rfl⟩ rfl ((t_X12_waitTop hv3).up (by decide)) ?_
      refine wk_Hs 1 9 ⟨rfl, rfl⟩ (ls' := [.ref 0, .int x1, w2]) (st' := [.int (12 : Int32), .int v3]) (σ' := s) rfl ?_
      rcases wk_ife h with ⟨hc, h⟩ | ⟨hc, h⟩
      · refine wk_Hbt 42 rfl (wk_cne.2 hc) ?_
        cases h
        exact hk _
      · refine wk_Hbf 42 10 rfl rfl (wk_nf wk_cne hc) ?_
        exact tj_j_X12_lands_10_l0 h hk
set_option maxHeartbeats 4000000 in
set_option maxRecDepth 20000 in
theorem tl_S_X12_lands_0 {x1 : Int32} {z : wk_R} (n : Nat) : ∀ {w2 : Value} {s : wk_St} {a : wk_St} (h : wk_loop (S_X12_lands_0 x1) n s = some a) (hk : ∀ (u2 : Value), wk_H wk_shM 1 mc_X12_lands 42 [.ref 0, .int x1, u2] [] a z), wk_H wk_shM 1 mc_X12_lands 0 [.ref 0, .int x1, w2] [] s z := by
  induction n with
  | zero =>
    intros
    rename_i h _
    exact nomatch (show (none : Option _) = some _ from h)
  | succ n ih =>
    intros
    rename_i h hk
    obtain ⟨o, ho, h⟩ := wk_bindE (show Option.bind _ _ = some _ from h)
    refine ts_S_X12_lands_0 ho ?_
    cases o with
    | inl a1 =>
      cases h
      exact hk
    | inr p =>
      exact fun _ => ih h hk
set_option maxHeartbeats 4000000 in
set_option maxRecDepth 20000 in
theorem t_X12_lands {x1 : Int32} {s : wk_St} {r : wk_St} (h : f_X12_lands x1 s = some r) : wk_T wk_shM 1 77 [.ref 0, .int x1] s (none, r) := by
  suffices H : ∀ z, z = (none, r) → wk_H wk_shM 1 mc_X12_lands 0 [.ref 0, .int x1, wk_U] [] s z from H _ rfl
  intro z hk
  dsimp only [f_X12_lands] at h
  obtain ⟨v4, hv4, h⟩ := wk_bindE h
  refine tl_S_X12_lands_0 wk_F hv4 ?_
  intro g5
  cases h
  exact wk_eqz hk (wk_Hretv rfl)
set_option maxHeartbeats 4000000 in
set_option maxRecDepth 20000 in
theorem t_X12_jumps {x1 : Int32} {s : wk_St} {r : wk_St} (h : f_X12_jumps x1 s = some r) : wk_T wk_shM 1 78 [.ref 0, .int x1] s (none, r) := by
  suffices H : ∀ z, z = (none, r) → wk_H wk_shM 1 mc_X12_jumps 0 [.ref 0, .int x1] [] s z from H _ rfl
  intro z hk
  dsimp only [f_X12_jumps] at h
  refine wk_Hs 10 10 ⟨rfl, rfl⟩ (ls' := [.ref 0, .int x1]) (st' := [.int (((1048576 : Int32) * x1) + (s.1 0 15)), .int (s.1 0 16), .ref 9]) (σ' := s) rfl ?_
  obtain ⟨hg, h⟩ := wk_gdE h
  refine wk_Hias 11 rfl rfl rfl hg rfl ?_
  refine wk_Hs 9 20 ⟨rfl, rfl⟩ (ls' := [.ref 0, .int x1]) (st' := [.int (0 : Int32), .int x1, .ref 0]) (σ' := (wk_si (wk_si s 9 ((s.1 0 16).toNatClampNeg) (((1048576 : Int32) * x1) + (s.1 0 15))) 0 16 (((wk_si s 9 ((s.1 0 16).toNatClampNeg) (((1048576 : Int32) * x1) + (s.1 0 15))).1 0 16) + (1 : Int32)))) rfl ?_
  obtain ⟨v1, hv1, h⟩ := wk_bindE h
  refine wk_Hcall (i2 := 21) (args := [.ref 0, .int x1, .int (0 : Int32)]) (rest := []) (r := none) (σ1 := v1) rfl rfl ⟨rfl, rfl, rfl, rfl, rfl⟩ rfl ((t_X12_notes hv1).up (by decide)) ?_
  refine wk_Hs 6 27 ⟨rfl, rfl⟩ (ls' := [.ref 0, .int x1]) (st' := []) (σ' := (wk_si v1 0 10 ((v1.1 0 10) + (1 : Int32)))) rfl ?_
  cases h
  exact wk_eqz hk (wk_Hretv rfl)
set_option maxHeartbeats 4000000 in
set_option maxRecDepth 20000 in
theorem tj_j_X12_readsCompared_24 {s_0 : Int32} {w1 : Value} {s : wk_St} {z : wk_R} {o : Bool × wk_St} (h : j_X12_readsCompared_24 s_0 s = some o) (hk : z = (some (.int (b2i o.1)), o.2)) : wk_H wk_shM 5 mc_X12_readsCompared 24 [.ref 0, w1] [.int s_0] s z := by
  dsimp only [j_X12_readsCompared_24] at h
  refine wk_Hs 3 27 ⟨rfl, rfl⟩ (ls' := [.ref 0, .int s_0]) (st' := [.int (-1 : Int32), .int s_0]) (σ' := s) rfl ?_
  rcases wk_ife h with ⟨hc, h⟩ | ⟨hc, h⟩
  · refine wk_Hbt 34 rfl (wk_cne.2 hc) ?_
    refine wk_Hs 7 41 ⟨rfl, rfl⟩ (ls' := [.ref 0, .int s_0]) (st' := [.ref 0]) (σ' := (wk_si s 0 10 ((s.1 0 10) + (1 : Int32)))) rfl ?_
    obtain ⟨v5, hv5, h⟩ := wk_bindE h
    refine wk_Hcall (i2 := 42) (args := [.ref 0]) (rest := []) (r := some (.int (b2i v5.1))) (σ1 := v5.2) rfl rfl ⟨rfl, rfl, rfl, rfl, rfl⟩ rfl ((t_X12_readsSum hv5).up (by decide)) ?_
    rcases wk_ife h with ⟨hc, h⟩ | ⟨hc, h⟩
    · refine wk_H0t 45 rfl (wk_zne.2 hc) ?_
      refine wk_Hs 3 48 ⟨rfl, rfl⟩ (ls' := [.ref 0, .int s_0]) (st' := [.int (0 : Int32), .int s_0, .ref 0]) (σ' := v5.2) rfl ?_
      obtain ⟨v6, hv6, h⟩ := wk_bindE h
      refine wk_Hcall (i2 := 49) (args := [.ref 0, .int s_0, .int (0 : Int32)]) (rest := []) (r := none) (σ1 := v6) rfl rfl ⟨rfl, rfl, rfl, rfl, rfl⟩ rfl ((t_X12_notes hv6).up (by decide)) ?_
      refine wk_Hs 1 50 ⟨rfl, rfl⟩ (ls' := [.ref 0, .int s_0]) (st' := [.ref 0]) (σ' := v6) rfl ?_
      obtain ⟨v7, hv7, h⟩ := wk_bindE h
      refine wk_Hcall (i2 := 51) (args := [.ref 0]) (rest := []) (r := none) (σ1 := v7) rfl rfl ⟨rfl, rfl, rfl, rfl, rfl⟩ rfl ((t_X12_endsPiece hv7).up (by decide)) ?_
      refine wk_Hs 1 52 ⟨rfl, rfl⟩ (ls' := [.ref 0, .int s_0]) (st' := [.int (1 : Int32)]) (σ' := v7) rfl ?_
      cases h
      exact wk_eqz hk (wk_Hretz rfl (b2i_01 true))
    · refine wk_H0f 45 43 rfl rfl (wk_nf wk_zne hc) ?_
      refine wk_Hs 1 44 ⟨rfl, rfl⟩ (ls' := [.ref 0, .int s_0]) (st' := [.int (0 : Int32)]) (σ' := v5.2) rfl ?_
      cases h
      exact wk_eqz hk (wk_Hretz rfl (b2i_01 false))
  · refine wk_Hbf 34 28 rfl rfl (wk_nf wk_cne hc) ?_
    refine wk_Hs 4 32 ⟨rfl, rfl⟩ (ls' := [.ref 0, .int s_0]) (st' := [.int (s.1 0 10), .int (1 : Int32), .ref 0]) (σ' := s) rfl ?_
    replace h := wk_letE h
    refine wk_Hcall (i2 := 33) (args := [.ref 0, .int (1 : Int32), .int (s.1 0 10)]) (rest := []) (r := some (.int (b2i ((f_X12_wrongAt (1 : Int32) (s.1 0 10) s).1)))) (σ1 := (f_X12_wrongAt (1 : Int32) (s.1 0 10) s).2) rfl rfl ⟨rfl, rfl, rfl, rfl, rfl⟩ rfl ((t_X12_wrongAt rfl).up (by decide)) ?_
    cases h
    exact wk_eqz hk (wk_Hretz rfl (b2i_01 _))
set_option maxHeartbeats 4000000 in
set_option maxRecDepth 20000 in
theorem t_X12_readsCompared {s : wk_St} {r : Bool × wk_St} (h : f_X12_readsCompared s = some r) : wk_T wk_shM 5 79 [.ref 0] s (some (.int (b2i r.1)), r.2) := by
  suffices H : ∀ z, z = (some (.int (b2i r.1)), r.2) → wk_H wk_shM 5 mc_X12_readsCompared 0 [.ref 0, wk_U] [] s z from H _ rfl
  intro z hk
  dsimp only [f_X12_readsCompared] at h
  refine wk_Hs 1 1 ⟨rfl, rfl⟩ (ls' := [.ref 0, wk_U]) (st' := [.ref 0]) (σ' := s) rfl ?_
  obtain ⟨v1, hv1, h⟩ := wk_bindE h
  refine wk_Hcall (i2 := 2) (args := [.ref 0]) (rest := []) (r := some (.int (b2i v1.1))) (σ1 := v1.2) rfl rfl ⟨rfl, rfl, rfl, rfl, rfl⟩ rfl ((t_X12_readsSum hv1).up (by decide)) ?_
  rcases wk_ife h with ⟨hc, h⟩ | ⟨hc, h⟩
  · refine wk_H0t 5 rfl (wk_zne.2 hc) ?_
    refine wk_Hs 1 6 ⟨rfl, rfl⟩ (ls' := [.ref 0, wk_U]) (st' := [.ref 0]) (σ' := v1.2) rfl ?_
    obtain ⟨v2, hv2, h⟩ := wk_bindE h
    refine wk_Hcall (i2 := 7) (args := [.ref 0]) (rest := []) (r := some (.int v2)) (σ1 := v1.2) rfl rfl ⟨rfl, rfl, rfl, rfl, rfl⟩ rfl ((t_X12_here hv2).up (by decide)) ?_
    refine wk_Hs 1 8 ⟨rfl, rfl⟩ (ls' := [.ref 0, wk_U]) (st' := [.int (60 : Int32), .int v2]) (σ' := v1.2) rfl ?_
    rcases wk_ife h with ⟨hc, h⟩ | ⟨hc, h⟩
    · refine wk_Hbt 11 rfl (wk_cne.2 hc) ?_
      refine wk_Hs 1 12 ⟨rfl, rfl⟩ (ls' := [.ref 0, wk_U]) (st' := [.ref 0]) (σ' := v1.2) rfl ?_
      obtain ⟨v3, hv3, h⟩ := wk_bindE h
      refine wk_Hcall (i2 := 13) (args := [.ref 0]) (rest := []) (r := some (.int v3)) (σ1 := v1.2) rfl rfl ⟨rfl, rfl, rfl, rfl, rfl⟩ rfl ((t_X12_here hv3).up (by decide)) ?_
      refine wk_Hs 1 14 ⟨rfl, rfl⟩ (ls' := [.ref 0, wk_U]) (st' := [.int (62 : Int32), .int v3]) (σ' := v1.2) rfl ?_
      rcases wk_ife h with ⟨hc, h⟩ | ⟨hc, h⟩
      · refine wk_Hbt 17 rfl (wk_cne.2 hc) ?_
        refine wk_Hs 1 18 ⟨rfl, rfl⟩ (ls' := [.ref 0, wk_U]) (st' := [.ref 0]) (σ' := v1.2) rfl ?_
        obtain ⟨v4, hv4, h⟩ := wk_bindE h
        refine wk_Hcall (i2 := 19) (args := [.ref 0]) (rest := []) (r := some (.int v4)) (σ1 := v1.2) rfl rfl ⟨rfl, rfl, rfl, rfl, rfl⟩ rfl ((t_X12_here hv4).up (by decide)) ?_
        refine wk_Hs 1 20 ⟨rfl, rfl⟩ (ls' := [.ref 0, wk_U]) (st' := [.int (61 : Int32), .int v4]) (σ' := v1.2) rfl ?_
        rcases wk_ife h with ⟨hc, h⟩ | ⟨hc, h⟩
        · refine wk_Hbt 23 rfl (wk_cne.2 hc) ?_
          refine wk_Hs 1 24 ⟨rfl, rfl⟩ (ls' := [.ref 0, wk_U]) (st' := [.int (-1 : Int32)]) (σ' := v1.2) rfl ?_
          exact tj_j_X12_readsCompared_24 h hk
        · refine wk_Hbf 23 21 rfl rfl (wk_nf wk_cne hc) ?_
          refine wk_Hs 1 22 ⟨rfl, rfl⟩ (ls' := [.ref 0, wk_U]) (st' := [.int (9 : Int32)]) (σ' := v1.2) rfl ?_
          refine wk_Hgoto (t := 24) rfl ?_
          exact tj_j_X12_readsCompared_24 h hk
      · refine wk_Hbf 17 15 rfl rfl (wk_nf wk_cne hc) ?_
        refine wk_Hs 1 16 ⟨rfl, rfl⟩ (ls' := [.ref 0, wk_U]) (st' := [.int (8 : Int32)]) (σ' := v1.2) rfl ?_
        refine wk_Hgoto (t := 24) rfl ?_
        exact tj_j_X12_readsCompared_24 h hk
    · refine wk_Hbf 11 9 rfl rfl (wk_nf wk_cne hc) ?_
      refine wk_Hs 1 10 ⟨rfl, rfl⟩ (ls' := [.ref 0, wk_U]) (st' := [.int (7 : Int32)]) (σ' := v1.2) rfl ?_
      refine wk_Hgoto (t := 24) rfl ?_
      exact tj_j_X12_readsCompared_24 h hk
  · refine wk_H0f 5 3 rfl rfl (wk_nf wk_zne hc) ?_
    refine wk_Hs 1 4 ⟨rfl, rfl⟩ (ls' := [.ref 0, wk_U]) (st' := [.int (0 : Int32)]) (σ' := v1.2) rfl ?_
    cases h
    exact wk_eqz hk (wk_Hretz rfl (b2i_01 false))
set_option maxHeartbeats 4000000 in
set_option maxRecDepth 20000 in
theorem tj_j_X12_readsCondition_30_l22 {s : wk_St} {z : wk_R} {o : (Bool × wk_St) ⊕ (wk_St)} (h : j_X12_readsCondition_30_l22 s = some o) (hk : match (generalizing := false) o with | Sum.inl a => (z = (some (.int (b2i a.1)), a.2)) | Sum.inr y => wk_H wk_shM 6 mc_X12_readsCondition 22 [.ref 0] [] y z) : wk_H wk_shM 6 mc_X12_readsCondition 30 [.ref 0] [] s z := by
  dsimp only [j_X12_readsCondition_30_l22] at h
  refine wk_Hs 2 32 ⟨rfl, rfl⟩ (ls' := [.ref 0]) (st' := [.ref 0, .ref 0]) (σ' := s) rfl ?_
  obtain ⟨v4, hv4, h⟩ := wk_bindE h
  refine wk_Hcall (i2 := 33) (args := [.ref 0]) (rest := [.ref 0]) (r := some (.int v4)) (σ1 := s) rfl rfl ⟨rfl, rfl, rfl, rfl, rfl⟩ rfl ((t_X12_here hv4).up (by decide)) ?_
  refine wk_Hs 1 34 ⟨rfl, rfl⟩ (ls' := [.ref 0]) (st' := [.int (33 : Int32), .int v4, .ref 0]) (σ' := s) rfl ?_
  rcases wk_ife h with ⟨hc, h⟩ | ⟨hc, h⟩
  · refine wk_Hbt 37 rfl (wk_cne.2 hc) ?_
    refine wk_Hs 1 38 ⟨rfl, rfl⟩ (ls' := [.ref 0]) (st' := [.int (13 : Int32), .ref 0]) (σ' := s) rfl ?_
    obtain ⟨v5, hv5, h⟩ := wk_bindE h
    refine wk_Hcall (i2 := 39) (args := [.ref 0, .int (13 : Int32)]) (rest := []) (r := some (.int (b2i v5.1))) (σ1 := v5.2) rfl rfl ⟨rfl, rfl, rfl, rfl, rfl⟩ rfl ((t_X12_opens hv5).up (by decide)) ?_
    rcases wk_ife h with ⟨hc, h⟩ | ⟨hc, h⟩
    · refine wk_H0t 22 rfl (wk_zne.2 hc) ?_
      cases h
      exact hk
    · refine wk_H0f 22 40 rfl rfl (wk_nf wk_zne hc) ?_
      refine wk_Hs 1 41 ⟨rfl, rfl⟩ (ls' := [.ref 0]) (st' := [.int (0 : Int32)]) (σ' := v5.2) rfl ?_
      cases h
      exact wk_eqz hk (wk_Hretz rfl (b2i_01 false))
  · refine wk_Hbf 37 35 rfl rfl (wk_nf wk_cne hc) ?_
    refine wk_Hs 1 36 ⟨rfl, rfl⟩ (ls' := [.ref 0]) (st' := [.int (10 : Int32), .ref 0]) (σ' := s) rfl ?_
    refine wk_Hgoto (t := 38) rfl ?_
    obtain ⟨v6, hv6, h⟩ := wk_bindE h
    refine wk_Hcall (i2 := 39) (args := [.ref 0, .int (10 : Int32)]) (rest := []) (r := some (.int (b2i v6.1))) (σ1 := v6.2) rfl rfl ⟨rfl, rfl, rfl, rfl, rfl⟩ rfl ((t_X12_opens hv6).up (by decide)) ?_
    rcases wk_ife h with ⟨hc, h⟩ | ⟨hc, h⟩
    · refine wk_H0t 22 rfl (wk_zne.2 hc) ?_
      cases h
      exact hk
    · refine wk_H0f 22 40 rfl rfl (wk_nf wk_zne hc) ?_
      refine wk_Hs 1 41 ⟨rfl, rfl⟩ (ls' := [.ref 0]) (st' := [.int (0 : Int32)]) (σ' := v6.2) rfl ?_
      cases h
      exact wk_eqz hk (wk_Hretz rfl (b2i_01 false))
set_option maxHeartbeats 4000000 in
set_option maxRecDepth 20000 in
theorem ts_S_X12_readsCondition_47 {s : wk_St} {z : wk_R} {o : ((Bool × wk_St) ⊕ (wk_St)) ⊕ (wk_St)} (h : S_X12_readsCondition_47 s = some o) (hk : match (generalizing := false) o with | Sum.inl a => (match (generalizing := false) a with | Sum.inl r => z = (some (.int (b2i r.1)), r.2) | Sum.inr y => wk_H wk_shM 6 mc_X12_readsCondition 80 [.ref 0] [] y z) | Sum.inr y => wk_H wk_shM 6 mc_X12_readsCondition 47 [.ref 0] [] y z) : wk_H wk_shM 6 mc_X12_readsCondition 47 [.ref 0] [] s z := by
  dsimp only [S_X12_readsCondition_47] at h
  refine wk_Hs 1 48 ⟨rfl, rfl⟩ (ls' := [.ref 0]) (st' := [.ref 0]) (σ' := s) rfl ?_
  obtain ⟨v9, hv9, h⟩ := wk_bindE h
  refine wk_Hcall (i2 := 49) (args := [.ref 0]) (rest := []) (r := some (.int v9)) (σ1 := s) rfl rfl ⟨rfl, rfl, rfl, rfl, rfl⟩ rfl ((t_X12_here hv9).up (by decide)) ?_
  refine wk_Hs 1 50 ⟨rfl, rfl⟩ (ls' := [.ref 0]) (st' := [.int (41 : Int32), .int v9]) (σ' := s) rfl ?_
  rcases wk_ife h with ⟨hc, h⟩ | ⟨hc, h⟩
  · refine wk_Hbt 80 rfl (wk_cne.2 hc) ?_
    cases h
    exact hk
  · refine wk_Hbf 80 51 rfl rfl (wk_nf wk_cne hc) ?_
    refine wk_Hs 2 53 ⟨rfl, rfl⟩ (ls' := [.ref 0]) (st' := [.int (1 : Int32), .ref 0]) (σ' := s) rfl ?_
    obtain ⟨v10, hv10, h⟩ := wk_bindE h
    refine wk_Hcall (i2 := 54) (args := [.ref 0, .int (1 : Int32)]) (rest := []) (r := none) (σ1 := v10) rfl rfl ⟨rfl, rfl, rfl, rfl, rfl⟩ rfl ((t_X12_lands hv10).up (by decide)) ?_
    refine wk_Hs 20 74 ⟨rfl, rfl⟩ (ls' := [.ref 0]) (st' := [.int ((wk_si (wk_si (wk_si v10 0 16 ((v10.1 0 16) - (1 : Int32))) 0 14 (((wk_si v10 0 16 ((v10.1 0 16) - (1 : Int32))).1 0 14) - (1 : Int32))) 0 10 (((wk_si (wk_si v10 0 16 ((v10.1 0 16) - (1 : Int32))) 0 14 (((wk_si v10 0 16 ((v10.1 0 16) - (1 : Int32))).1 0 14) - (1 : Int32))).1 0 10) + (1 : Int32))).1 0 16)]) (σ' := (wk_si (wk_si (wk_si v10 0 16 ((v10.1 0 16) - (1 : Int32))) 0 14 (((wk_si v10 0 16 ((v10.1 0 16) - (1 : Int32))).1 0 14) - (1 : Int32))) 0 10 (((wk_si (wk_si v10 0 16 ((v10.1 0 16) - (1 : Int32))) 0 14 (((wk_si v10 0 16 ((v10.1 0 16) - (1 : Int32))).1 0 14) - (1 : Int32))).1 0 10) + (1 : Int32)))) rfl ?_
    rcases wk_ife h with ⟨hc, h⟩ | ⟨hc, h⟩
    · refine wk_H0t 77 rfl (wk_cne.2 hc) ?_
      refine wk_Hs 1 78 ⟨rfl, rfl⟩ (ls' := [.ref 0]) (st' := [.ref 0]) (σ' := (wk_si (wk_si (wk_si v10 0 16 ((v10.1 0 16) - (1 : Int32))) 0 14 (((wk_si v10 0 16 ((v10.1 0 16) - (1 : Int32))).1 0 14) - (1 : Int32))) 0 10 (((wk_si (wk_si v10 0 16 ((v10.1 0 16) - (1 : Int32))) 0 14 (((wk_si v10 0 16 ((v10.1 0 16) - (1 : Int32))).1 0 14) - (1 : Int32))).1 0 10) + (1 : Int32)))) rfl ?_
      obtain ⟨v11, hv11, h⟩ := wk_bindE h
      refine wk_Hcall (i2 := 79) (args := [.ref 0]) (rest := []) (r := none) (σ1 := v11) rfl rfl ⟨rfl, rfl, rfl, rfl, rfl⟩ rfl ((t_X12_endsPiece hv11).up (by decide)) ?_
      refine wk_Hgoto (t := 47) rfl ?_
      cases h
      exact hk
    · refine wk_H0f 77 75 rfl rfl (wk_nf wk_cne hc) ?_
      refine wk_Hs 1 76 ⟨rfl, rfl⟩ (ls' := [.ref 0]) (st' := [.int (1 : Int32)]) (σ' := (wk_si (wk_si (wk_si v10 0 16 ((v10.1 0 16) - (1 : Int32))) 0 14 (((wk_si v10 0 16 ((v10.1 0 16) - (1 : Int32))).1 0 14) - (1 : Int32))) 0 10 (((wk_si (wk_si v10 0 16 ((v10.1 0 16) - (1 : Int32))) 0 14 (((wk_si v10 0 16 ((v10.1 0 16) - (1 : Int32))).1 0 14) - (1 : Int32))).1 0 10) + (1 : Int32)))) rfl ?_
      cases h
      exact wk_eqz hk (wk_Hretz rfl (b2i_01 true))
set_option maxHeartbeats 4000000 in
set_option maxRecDepth 20000 in
theorem tl_S_X12_readsCondition_47 {z : wk_R} (n : Nat) : ∀ {s : wk_St} {a : (Bool × wk_St) ⊕ (wk_St)} (h : wk_loop S_X12_readsCondition_47 n s = some a) (hk : match (generalizing := false) a with | Sum.inl r => z = (some (.int (b2i r.1)), r.2) | Sum.inr y => wk_H wk_shM 6 mc_X12_readsCondition 80 [.ref 0] [] y z), wk_H wk_shM 6 mc_X12_readsCondition 47 [.ref 0] [] s z := by
  induction n with
  | zero =>
    intros
    rename_i h _
    exact nomatch (show (none : Option _) = some _ from h)
  | succ n ih =>
    intros
    rename_i h hk
    obtain ⟨o, ho, h⟩ := wk_bindE (show Option.bind _ _ = some _ from h)
    refine ts_S_X12_readsCondition_47 ho ?_
    cases o with
    | inl a1 =>
      cases h
      exact hk
    | inr p =>
      exact ih h hk
set_option maxHeartbeats 4000000 in
set_option maxRecDepth 20000 in
theorem tj_j_X12_readsCondition_102_l22 {s_0 : Int32} {s : wk_St} {z : wk_R} {o : (Bool × wk_St) ⊕ (wk_St)} (h : j_X12_readsCondition_102_l22 s_0 s = some o) (hk : match (generalizing := false) o with | Sum.inl a => (z = (some (.int (b2i a.1)), a.2)) | Sum.inr y => wk_H wk_shM 6 mc_X12_readsCondition 22 [.ref 0] [] y z) : wk_H wk_shM 6 mc_X12_readsCondition 102 [.ref 0] [.int s_0, .ref 0] s z := by
  dsimp only [j_X12_readsCondition_102_l22] at h
  obtain ⟨v15, hv15, h⟩ := wk_bindE h
  refine wk_Hcall (i2 := 103) (args := [.ref 0, .int s_0]) (rest := []) (r := none) (σ1 := v15) rfl rfl ⟨rfl, rfl, rfl, rfl, rfl⟩ rfl ((t_X12_lands hv15).up (by decide)) ?_
  refine wk_Hs 2 105 ⟨rfl, rfl⟩ (ls' := [.ref 0]) (st' := [.ref 0, .ref 0]) (σ' := v15) rfl ?_
  obtain ⟨v16, hv16, h⟩ := wk_bindE h
  refine wk_Hcall (i2 := 106) (args := [.ref 0]) (rest := [.ref 0]) (r := some (.int v16)) (σ1 := v15) rfl rfl ⟨rfl, rfl, rfl, rfl, rfl⟩ rfl ((t_X12_here hv16).up (by decide)) ?_
  refine wk_Hs 1 107 ⟨rfl, rfl⟩ (ls' := [.ref 0]) (st' := [.int (38 : Int32), .int v16, .ref 0]) (σ' := v15) rfl ?_
  rcases wk_ife h with ⟨hc, h⟩ | ⟨hc, h⟩
  · refine wk_Hbt 110 rfl (wk_cne.2 hc) ?_
    refine wk_Hs 1 111 ⟨rfl, rfl⟩ (ls' := [.ref 0]) (st' := [.int (12 : Int32), .ref 0]) (σ' := v15) rfl ?_
    obtain ⟨v17, hv17, h⟩ := wk_bindE h
    refine wk_Hcall (i2 := 112) (args := [.ref 0, .int (12 : Int32)]) (rest := []) (r := none) (σ1 := v17) rfl rfl ⟨rfl, rfl, rfl, rfl, rfl⟩ rfl ((t_X12_jumps hv17).up (by decide)) ?_
    refine wk_Hgoto (t := 22) rfl ?_
    cases h
    exact hk
  · refine wk_Hbf 110 108 rfl rfl (wk_nf wk_cne hc) ?_
    refine wk_Hs 1 109 ⟨rfl, rfl⟩ (ls' := [.ref 0]) (st' := [.int (11 : Int32), .ref 0]) (σ' := v15) rfl ?_
    refine wk_Hgoto (t := 111) rfl ?_
    obtain ⟨v18, hv18, h⟩ := wk_bindE h
    refine wk_Hcall (i2 := 112) (args := [.ref 0, .int (11 : Int32)]) (rest := []) (r := none) (σ1 := v18) rfl rfl ⟨rfl, rfl, rfl, rfl, rfl⟩ rfl ((t_X12_jumps hv18).up (by decide)) ?_
    refine wk_Hgoto (t := 22) rfl ?_
    cases h
    exact hk
set_option maxHeartbeats 4000000 in
set_option maxRecDepth 20000 in
theorem ts_S_X12_readsCondition_22 {s : wk_St} {z : wk_R} {o : (Bool × wk_St) ⊕ (wk_St)} (h : S_X12_readsCondition_22 s = some o) (hk : match (generalizing := false) o with | Sum.inl a => (z = (some (.int (b2i a.1)), a.2)) | Sum.inr y => wk_H wk_shM 6 mc_X12_readsCondition 22 [.ref 0] [] y z) : wk_H wk_shM 6 mc_X12_readsCondition 22 [.ref 0] [] s z := by
  dsimp only [S_X12_readsCondition_22] at h
  refine wk_Hs 1 23 ⟨rfl, rfl⟩ (ls' := [.ref 0]) (st' := [.ref 0]) (σ' := s) rfl ?_
  obtain ⟨v3, hv3, h⟩ := wk_bindE h
  refine wk_Hcall (i2 := 24) (args := [.ref 0]) (rest := []) (r := some (.int v3)) (σ1 := s) rfl rfl ⟨rfl, rfl, rfl, rfl, rfl⟩ rfl ((t_X12_here hv3).up (by decide)) ?_
  refine wk_Hs 1 25 ⟨rfl, rfl⟩ (ls' := [.ref 0]) (st' := [.int (33 : Int32), .int v3]) (σ' := s) rfl ?_
  rcases wk_ife h with ⟨hc, h⟩ | ⟨hc, h⟩
  · refine wk_Hbt 30 rfl (wk_ceq.2 hc) ?_
    exact tj_j_X12_readsCondition_30_l22 h hk
  · refine wk_Hbf 30 26 rfl rfl (wk_nf wk_ceq hc) ?_
    refine wk_Hs 1 27 ⟨rfl, rfl⟩ (ls' := [.ref 0]) (st' := [.ref 0]) (σ' := s) rfl ?_
    obtain ⟨v7, hv7, h⟩ := wk_bindE h
    refine wk_Hcall (i2 := 28) (args := [.ref 0]) (rest := []) (r := some (.int v7)) (σ1 := s) rfl rfl ⟨rfl, rfl, rfl, rfl, rfl⟩ rfl ((t_X12_here hv7).up (by decide)) ?_
    refine wk_Hs 1 29 ⟨rfl, rfl⟩ (ls' := [.ref 0]) (st' := [.int (40 : Int32), .int v7]) (σ' := s) rfl ?_
    rcases wk_ife h with ⟨hc, h⟩ | ⟨hc, h⟩
    · refine wk_Hbt 42 rfl (wk_cne.2 hc) ?_
      refine wk_Hs 1 43 ⟨rfl, rfl⟩ (ls' := [.ref 0]) (st' := [.ref 0]) (σ' := s) rfl ?_
      obtain ⟨v8, hv8, h⟩ := wk_bindE h
      refine wk_Hcall (i2 := 44) (args := [.ref 0]) (rest := []) (r := some (.int (b2i v8.1))) (σ1 := v8.2) rfl rfl ⟨rfl, rfl, rfl, rfl, rfl⟩ rfl ((t_X12_readsCompared hv8).up (by decide)) ?_
      rcases wk_ife h with ⟨hc, h⟩ | ⟨hc, h⟩
      · refine wk_H0t 47 rfl (wk_zne.2 hc) ?_
        obtain ⟨v12, hv12, h⟩ := wk_bindE h
        rcases v12 with v12r | v12
        · cases h
          exact tl_S_X12_readsCondition_47 wk_F hv12 hk
        · refine tl_S_X12_readsCondition_47 wk_F hv12 ?_
          dsimp only at h ⊢
          refine wk_Hs 1 81 ⟨rfl, rfl⟩ (ls' := [.ref 0]) (st' := [.ref 0]) (σ' := v12) rfl ?_
          obtain ⟨v13, hv13, h⟩ := wk_bindE h
          refine wk_Hcall (i2 := 82) (args := [.ref 0]) (rest := []) (r := some (.int v13)) (σ1 := v12) rfl rfl ⟨rfl, rfl, rfl, rfl, rfl⟩ rfl ((t_X12_here hv13).up (by decide)) ?_
          refine wk_Hs 1 83 ⟨rfl, rfl⟩ (ls' := [.ref 0]) (st' := [.int (38 : Int32), .int v13]) (σ' := v12) rfl ?_
          rcases wk_ife h with ⟨hc, h⟩ | ⟨hc, h⟩
          · refine wk_Hbt 94 rfl (wk_ceq.2 hc) ?_
            refine wk_Hs 2 96 ⟨rfl, rfl⟩ (ls' := [.ref 0]) (st' := [.ref 0, .ref 0]) (σ' := v12) rfl ?_
            obtain ⟨v14, hv14, h⟩ := wk_bindE h
            refine wk_Hcall (i2 := 97) (args := [.ref 0]) (rest := [.ref 0]) (r := some (.int v14)) (σ1 := v12) rfl rfl ⟨rfl, rfl, rfl, rfl, rfl⟩ rfl ((t_X12_here hv14).up (by decide)) ?_
            refine wk_Hs 1 98 ⟨rfl, rfl⟩ (ls' := [.ref 0]) (st' := [.int (124 : Int32), .int v14, .ref 0]) (σ' := v12) rfl ?_
            rcases wk_ife h with ⟨hc, h⟩ | ⟨hc, h⟩
            · refine wk_Hbt 101 rfl (wk_cne.2 hc) ?_
              refine wk_Hs 1 102 ⟨rfl, rfl⟩ (ls' := [.ref 0]) (st' := [.int (0 : Int32), .ref 0]) (σ' := v12) rfl ?_
              exact tj_j_X12_readsCondition_102_l22 h hk
            · refine wk_Hbf 101 99 rfl rfl (wk_nf wk_cne hc) ?_
              refine wk_Hs 1 100 ⟨rfl, rfl⟩ (ls' := [.ref 0]) (st' := [.int (1 : Int32), .ref 0]) (σ' := v12) rfl ?_
              refine wk_Hgoto (t := 102) rfl ?_
              exact tj_j_X12_readsCondition_102_l22 h hk
          · refine wk_Hbf 94 84 rfl rfl (wk_nf wk_ceq hc) ?_
            refine wk_Hs 1 85 ⟨rfl, rfl⟩ (ls' := [.ref 0]) (st' := [.ref 0]) (σ' := v12) rfl ?_
            obtain ⟨v19, hv19, h⟩ := wk_bindE h
            refine wk_Hcall (i2 := 86) (args := [.ref 0]) (rest := []) (r := some (.int v19)) (σ1 := v12) rfl rfl ⟨rfl, rfl, rfl, rfl, rfl⟩ rfl ((t_X12_here hv19).up (by decide)) ?_
            refine wk_Hs 1 87 ⟨rfl, rfl⟩ (ls' := [.ref 0]) (st' := [.int (124 : Int32), .int v19]) (σ' := v12) rfl ?_
            rcases wk_ife h with ⟨hc, h⟩ | ⟨hc, h⟩
            · refine wk_Hbt 94 rfl (wk_ceq.2 hc) ?_
              refine wk_Hs 2 96 ⟨rfl, rfl⟩ (ls' := [.ref 0]) (st' := [.ref 0, .ref 0]) (σ' := v12) rfl ?_
              obtain ⟨v20, hv20, h⟩ := wk_bindE h
              refine wk_Hcall (i2 := 97) (args := [.ref 0]) (rest := [.ref 0]) (r := some (.int v20)) (σ1 := v12) rfl rfl ⟨rfl, rfl, rfl, rfl, rfl⟩ rfl ((t_X12_here hv20).up (by decide)) ?_
              refine wk_Hs 1 98 ⟨rfl, rfl⟩ (ls' := [.ref 0]) (st' := [.int (124 : Int32), .int v20, .ref 0]) (σ' := v12) rfl ?_
              rcases wk_ife h with ⟨hc, h⟩ | ⟨hc, h⟩
              · refine wk_Hbt 101 rfl (wk_cne.2 hc) ?_
                refine wk_Hs 1 102 ⟨rfl, rfl⟩ (ls' := [.ref 0]) (st' := [.int (0 : Int32), .ref 0]) (σ' := v12) rfl ?_
                exact tj_j_X12_readsCondition_102_l22 h hk
              · refine wk_Hbf 101 99 rfl rfl (wk_nf wk_cne hc) ?_
                refine wk_Hs 1 100 ⟨rfl, rfl⟩ (ls' := [.ref 0]) (st' := [.int (1 : Int32), .ref 0]) (σ' := v12) rfl ?_
                refine wk_Hgoto (t := 102) rfl ?_
                exact tj_j_X12_readsCondition_102_l22 h hk
            · refine wk_Hbf 94 88 rfl rfl (wk_nf wk_ceq hc) ?_
              refine wk_Hs 4 92 ⟨rfl, rfl⟩ (ls' := [.ref 0]) (st' := [.int (v12.1 0 10), .int (1 : Int32), .ref 0]) (σ' := v12) rfl ?_
              replace h := wk_letE h
              refine wk_Hcall (i2 := 93) (args := [.ref 0, .int (1 : Int32), .int (v12.1 0 10)]) (rest := []) (r := some (.int (b2i ((f_X12_wrongAt (1 : Int32) (v12.1 0 10) v12).1)))) (σ1 := (f_X12_wrongAt (1 : Int32) (v12.1 0 10) v12).2) rfl rfl ⟨rfl, rfl, rfl, rfl, rfl⟩ rfl ((t_X12_wrongAt rfl).up (by decide)) ?_
              cases h
              exact wk_eqz hk (wk_Hretz rfl (b2i_01 _))
      · refine wk_H0f 47 45 rfl rfl (wk_nf wk_zne hc) ?_
        refine wk_Hs 1 46 ⟨rfl, rfl⟩ (ls' := [.ref 0]) (st' := [.int (0 : Int32)]) (σ' := v8.2) rfl ?_
        cases h
        exact wk_eqz hk (wk_Hretz rfl (b2i_01 false))
    · refine wk_Hbf 42 30 rfl rfl (wk_nf wk_cne hc) ?_
      exact tj_j_X12_readsCondition_30_l22 h hk
set_option maxHeartbeats 4000000 in
set_option maxRecDepth 20000 in
theorem tl_S_X12_readsCondition_22 {z : wk_R} (n : Nat) : ∀ {s : wk_St} {a : Bool × wk_St} (h : wk_loop S_X12_readsCondition_22 n s = some a) (hk : z = (some (.int (b2i a.1)), a.2)), wk_H wk_shM 6 mc_X12_readsCondition 22 [.ref 0] [] s z := by
  induction n with
  | zero =>
    intros
    rename_i h _
    exact nomatch (show (none : Option _) = some _ from h)
  | succ n ih =>
    intros
    rename_i h hk
    obtain ⟨o, ho, h⟩ := wk_bindE (show Option.bind _ _ = some _ from h)
    refine ts_S_X12_readsCondition_22 ho ?_
    cases o with
    | inl a1 =>
      cases h
      exact hk
    | inr p =>
      exact ih h hk
set_option maxHeartbeats 4000000 in
set_option maxRecDepth 20000 in
theorem t_X12_readsCondition {s : wk_St} {r : Bool × wk_St} (h : f_X12_readsCondition s = some r) : wk_T wk_shM 6 80 [.ref 0] s (some (.int (b2i r.1)), r.2) := by
  suffices H : ∀ z, z = (some (.int (b2i r.1)), r.2) → wk_H wk_shM 6 mc_X12_readsCondition 0 [.ref 0] [] s z from H _ rfl
  intro z hk
  dsimp only [f_X12_readsCondition] at h
  refine wk_Hs 1 1 ⟨rfl, rfl⟩ (ls' := [.ref 0]) (st' := [.ref 0]) (σ' := s) rfl ?_
  obtain ⟨v1, hv1, h⟩ := wk_bindE h
  refine wk_Hcall (i2 := 2) (args := [.ref 0]) (rest := []) (r := some (.int v1)) (σ1 := s) rfl rfl ⟨rfl, rfl, rfl, rfl, rfl⟩ rfl ((t_X12_here hv1).up (by decide)) ?_
  refine wk_Hs 1 3 ⟨rfl, rfl⟩ (ls' := [.ref 0]) (st' := [.int (40 : Int32), .int v1]) (σ' := s) rfl ?_
  rcases wk_ife h with ⟨hc, h⟩ | ⟨hc, h⟩
  · refine wk_Hbt 10 rfl (wk_ceq.2 hc) ?_
    refine wk_Hs 8 18 ⟨rfl, rfl⟩ (ls' := [.ref 0]) (st' := [.int (13 : Int32), .ref 0]) (σ' := (wk_si (wk_si s 0 14 (0 : Int32)) 0 16 (0 : Int32))) rfl ?_
    obtain ⟨v2, hv2, h⟩ := wk_bindE h
    refine wk_Hcall (i2 := 19) (args := [.ref 0, .int (13 : Int32)]) (rest := []) (r := some (.int (b2i v2.1))) (σ1 := v2.2) rfl rfl ⟨rfl, rfl, rfl, rfl, rfl⟩ rfl ((t_X12_opens hv2).up (by decide)) ?_
    rcases wk_ife h with ⟨hc, h⟩ | ⟨hc, h⟩
    · refine wk_H0t 22 rfl (wk_zne.2 hc) ?_
      obtain ⟨v22, hv22, h⟩ := wk_bindE h
      cases h
      exact tl_S_X12_readsCondition_22 wk_F hv22 hk
    · refine wk_H0f 22 20 rfl rfl (wk_nf wk_zne hc) ?_
      refine wk_Hs 1 21 ⟨rfl, rfl⟩ (ls' := [.ref 0]) (st' := [.int (0 : Int32)]) (σ' := v2.2) rfl ?_
      cases h
      exact wk_eqz hk (wk_Hretz rfl (b2i_01 false))
  · refine wk_Hbf 10 4 rfl rfl (wk_nf wk_ceq hc) ?_
    refine wk_Hs 4 8 ⟨rfl, rfl⟩ (ls' := [.ref 0]) (st' := [.int (s.1 0 10), .int (1 : Int32), .ref 0]) (σ' := s) rfl ?_
    replace h := wk_letE h
    refine wk_Hcall (i2 := 9) (args := [.ref 0, .int (1 : Int32), .int (s.1 0 10)]) (rest := []) (r := some (.int (b2i ((f_X12_wrongAt (1 : Int32) (s.1 0 10) s).1)))) (σ1 := (f_X12_wrongAt (1 : Int32) (s.1 0 10) s).2) rfl rfl ⟨rfl, rfl, rfl, rfl, rfl⟩ rfl ((t_X12_wrongAt rfl).up (by decide)) ?_
    cases h
    exact wk_eqz hk (wk_Hretz rfl (b2i_01 _))
set_option maxHeartbeats 4000000 in
set_option maxRecDepth 20000 in
theorem tj_j_X12_readsRule_61 {w1 : Value} {s : wk_St} {z : wk_R} {o : Bool × wk_St} (h : j_X12_readsRule_61 s = some o) (hk : z = (some (.int (b2i o.1)), o.2)) : wk_H wk_shM 7 mc_X12_readsRule 61 [.ref 0, w1] [] s z := by
  dsimp only [j_X12_readsRule_61] at h
  refine wk_Hs 6 67 ⟨rfl, rfl⟩ (ls' := [.ref 0, w1]) (st' := [.int (s.1 0 15), .int (s.1 0 17), .ref 12]) (σ' := s) rfl ?_
  obtain ⟨hg, h⟩ := wk_gdE h
  refine wk_Hias 68 rfl rfl rfl hg rfl ?_
  refine wk_Hs 1 69 ⟨rfl, rfl⟩ (ls' := [.ref 0, w1]) (st' := [.ref 0]) (σ' := (wk_si s 12 ((s.1 0 17).toNatClampNeg) (s.1 0 15))) rfl ?_
  obtain ⟨v2, hv2, h⟩ := wk_bindE h
  refine wk_Hcall (i2 := 70) (args := [.ref 0]) (rest := []) (r := some (.int (b2i v2.1))) (σ1 := v2.2) rfl rfl ⟨rfl, rfl, rfl, rfl, rfl⟩ rfl ((t_X12_readsCondition hv2).up (by decide)) ?_
  rcases wk_ife h with ⟨hc, h⟩ | ⟨hc, h⟩
  · refine wk_H0t 73 rfl (wk_zne.2 hc) ?_
    refine wk_Hs 6 79 ⟨rfl, rfl⟩ (ls' := [.ref 0, w1]) (st' := [.int (v2.2.1 0 15), .int (v2.2.1 0 17), .ref 13]) (σ' := v2.2) rfl ?_
    obtain ⟨hg, h⟩ := wk_gdE h
    refine wk_Hias 80 rfl rfl rfl hg rfl ?_
    refine wk_Hs 7 87 ⟨rfl, rfl⟩ (ls' := [.ref 0, w1]) (st' := [.int (1 : Int32)]) (σ' := (wk_si (wk_si v2.2 13 ((v2.2.1 0 17).toNatClampNeg) (v2.2.1 0 15)) 0 17 (((wk_si v2.2 13 ((v2.2.1 0 17).toNatClampNeg) (v2.2.1 0 15)).1 0 17) + (1 : Int32)))) rfl ?_
    cases h
    exact wk_eqz hk (wk_Hretz rfl (b2i_01 true))
  · refine wk_H0f 73 71 rfl rfl (wk_nf wk_zne hc) ?_
    refine wk_Hs 1 72 ⟨rfl, rfl⟩ (ls' := [.ref 0, w1]) (st' := [.int (0 : Int32)]) (σ' := v2.2) rfl ?_
    cases h
    exact wk_eqz hk (wk_Hretz rfl (b2i_01 false))
set_option maxHeartbeats 4000000 in
set_option maxRecDepth 20000 in
theorem tj_j_X12_readsRule_18 {x1 : Int32} {s : wk_St} {z : wk_R} {o : Bool × wk_St} (h : j_X12_readsRule_18 x1 s = some o) (hk : z = (some (.int (b2i o.1)), o.2)) : wk_H wk_shM 7 mc_X12_readsRule 18 [.ref 0, .int x1] [] s z := by
  dsimp only [j_X12_readsRule_18] at h
  refine wk_Hs 3 21 ⟨rfl, rfl⟩ (ls' := [.ref 0, .int x1]) (st' := [.int (16 : Int32), .int (s.1 0 17)]) (σ' := s) rfl ?_
  rcases wk_ife h with ⟨hc, h⟩ | ⟨hc, h⟩
  · refine wk_Hbt 28 rfl (wk_cne.2 hc) ?_
    refine wk_Hs 5 33 ⟨rfl, rfl⟩ (ls' := [.ref 0, .int x1]) (st' := [.int x1, .int (s.1 0 17), .ref 10]) (σ' := s) rfl ?_
    obtain ⟨hg, h⟩ := wk_gdE h
    refine wk_Hias 34 rfl rfl rfl hg rfl ?_
    refine wk_Hs 12 46 ⟨rfl, rfl⟩ (ls' := [.ref 0, .int x1]) (st' := [.int ((wk_si (wk_si s 10 ((s.1 0 17).toNatClampNeg) x1) 0 10 (((wk_si s 10 ((s.1 0 17).toNatClampNeg) x1).1 0 10) + (1 : Int32))).1 0 15), .int ((wk_si (wk_si s 10 ((s.1 0 17).toNatClampNeg) x1) 0 10 (((wk_si s 10 ((s.1 0 17).toNatClampNeg) x1).1 0 10) + (1 : Int32))).1 0 17), .ref 11]) (σ' := (wk_si (wk_si s 10 ((s.1 0 17).toNatClampNeg) x1) 0 10 (((wk_si s 10 ((s.1 0 17).toNatClampNeg) x1).1 0 10) + (1 : Int32)))) rfl ?_
    obtain ⟨hg, h⟩ := wk_gdE h
    refine wk_Hias 47 rfl rfl rfl hg rfl ?_
    refine wk_Hs 8 55 ⟨rfl, rfl⟩ (ls' := [.ref 0, .int x1]) (st' := [.int (115 : Int32), .int x1]) (σ' := (wk_si (wk_si (wk_si (wk_si (wk_si s 10 ((s.1 0 17).toNatClampNeg) x1) 0 10 (((wk_si s 10 ((s.1 0 17).toNatClampNeg) x1).1 0 10) + (1 : Int32))) 11 (((wk_si (wk_si s 10 ((s.1 0 17).toNatClampNeg) x1) 0 10 (((wk_si s 10 ((s.1 0 17).toNatClampNeg) x1).1 0 10) + (1 : Int32))).1 0 17).toNatClampNeg) ((wk_si (wk_si s 10 ((s.1 0 17).toNatClampNeg) x1) 0 10 (((wk_si s 10 ((s.1 0 17).toNatClampNeg) x1).1 0 10) + (1 : Int32))).1 0 15)) 0 14 (0 : Int32)) 0 16 (0 : Int32))) rfl ?_
    rcases wk_ife h with ⟨hc, h⟩ | ⟨hc, h⟩
    · refine wk_Hbt 61 rfl (wk_ceq.2 hc) ?_
      exact tj_j_X12_readsRule_61 h hk
    · refine wk_Hbf 61 56 rfl rfl (wk_nf wk_ceq hc) ?_
      refine wk_Hs 1 57 ⟨rfl, rfl⟩ (ls' := [.ref 0, .int x1]) (st' := [.ref 0]) (σ' := (wk_si (wk_si (wk_si (wk_si (wk_si s 10 ((s.1 0 17).toNatClampNeg) x1) 0 10 (((wk_si s 10 ((s.1 0 17).toNatClampNeg) x1).1 0 10) + (1 : Int32))) 11 (((wk_si (wk_si s 10 ((s.1 0 17).toNatClampNeg) x1) 0 10 (((wk_si s 10 ((s.1 0 17).toNatClampNeg) x1).1 0 10) + (1 : Int32))).1 0 17).toNatClampNeg) ((wk_si (wk_si s 10 ((s.1 0 17).toNatClampNeg) x1) 0 10 (((wk_si s 10 ((s.1 0 17).toNatClampNeg) x1).1 0 10) + (1 : Int32))).1 0 15)) 0 14 (0 : Int32)) 0 16 (0 : Int32))) rfl ?_
      obtain ⟨v3, hv3, h⟩ := wk_bindE h
      refine wk_Hcall (i2 := 58) (args := [.ref 0]) (rest := []) (r := some (.int (b2i v3.1))) (σ1 := v3.2) rfl rfl ⟨rfl, rfl, rfl, rfl, rfl⟩ rfl ((t_X12_readsSum hv3).up (by decide)) ?_
      rcases wk_ife h with ⟨hc, h⟩ | ⟨hc, h⟩
      · refine wk_H0t 61 rfl (wk_zne.2 hc) ?_
        exact tj_j_X12_readsRule_61 h hk
      · refine wk_H0f 61 59 rfl rfl (wk_nf wk_zne hc) ?_
        refine wk_Hs 1 60 ⟨rfl, rfl⟩ (ls' := [.ref 0, .int x1]) (st' := [.int (0 : Int32)]) (σ' := v3.2) rfl ?_
        cases h
        exact wk_eqz hk (wk_Hretz rfl (b2i_01 false))
  · refine wk_Hbf 28 22 rfl rfl (wk_nf wk_cne hc) ?_
    refine wk_Hs 4 26 ⟨rfl, rfl⟩ (ls' := [.ref 0, .int x1]) (st' := [.int (s.1 0 10), .int (4 : Int32), .ref 0]) (σ' := s) rfl ?_
    replace h := wk_letE h
    refine wk_Hcall (i2 := 27) (args := [.ref 0, .int (4 : Int32), .int (s.1 0 10)]) (rest := []) (r := some (.int (b2i ((f_X12_wrongAt (4 : Int32) (s.1 0 10) s).1)))) (σ1 := (f_X12_wrongAt (4 : Int32) (s.1 0 10) s).2) rfl rfl ⟨rfl, rfl, rfl, rfl, rfl⟩ rfl ((t_X12_wrongAt rfl).up (by decide)) ?_
    cases h
    exact wk_eqz hk (wk_Hretz rfl (b2i_01 _))
set_option maxHeartbeats 4000000 in
set_option maxRecDepth 20000 in
theorem t_X12_readsRule {s : wk_St} {r : Bool × wk_St} (h : f_X12_readsRule s = some r) : wk_T wk_shM 7 81 [.ref 0] s (some (.int (b2i r.1)), r.2) := by
  suffices H : ∀ z, z = (some (.int (b2i r.1)), r.2) → wk_H wk_shM 7 mc_X12_readsRule 0 [.ref 0, wk_U] [] s z from H _ rfl
  intro z hk
  dsimp only [f_X12_readsRule] at h
  refine wk_Hs 1 1 ⟨rfl, rfl⟩ (ls' := [.ref 0, wk_U]) (st' := [.ref 0]) (σ' := s) rfl ?_
  obtain ⟨v1, hv1, h⟩ := wk_bindE h
  refine wk_Hcall (i2 := 2) (args := [.ref 0]) (rest := []) (r := some (.int v1)) (σ1 := s) rfl rfl ⟨rfl, rfl, rfl, rfl, rfl⟩ rfl ((t_X12_here hv1).up (by decide)) ?_
  refine wk_Hs 3 5 ⟨rfl, rfl⟩ (ls' := [.ref 0, .int v1]) (st' := [.int (101 : Int32), .int v1]) (σ' := s) rfl ?_
  rcases wk_ife h with ⟨hc, h⟩ | ⟨hc, h⟩
  · refine wk_Hbt 18 rfl (wk_ceq.2 hc) ?_
    exact tj_j_X12_readsRule_18 h hk
  · refine wk_Hbf 18 6 rfl rfl (wk_nf wk_ceq hc) ?_
    refine wk_Hs 2 8 ⟨rfl, rfl⟩ (ls' := [.ref 0, .int v1]) (st' := [.int (104 : Int32), .int v1]) (σ' := s) rfl ?_
    rcases wk_ife h with ⟨hc, h⟩ | ⟨hc, h⟩
    · refine wk_Hbt 18 rfl (wk_ceq.2 hc) ?_
      exact tj_j_X12_readsRule_18 h hk
    · refine wk_Hbf 18 9 rfl rfl (wk_nf wk_ceq hc) ?_
      refine wk_Hs 2 11 ⟨rfl, rfl⟩ (ls' := [.ref 0, .int v1]) (st' := [.int (115 : Int32), .int v1]) (σ' := s) rfl ?_
      rcases wk_ife h with ⟨hc, h⟩ | ⟨hc, h⟩
      · refine wk_Hbt 18 rfl (wk_ceq.2 hc) ?_
        exact tj_j_X12_readsRule_18 h hk
      · refine wk_Hbf 18 12 rfl rfl (wk_nf wk_ceq hc) ?_
        refine wk_Hs 4 16 ⟨rfl, rfl⟩ (ls' := [.ref 0, .int v1]) (st' := [.int (s.1 0 10), .int (1 : Int32), .ref 0]) (σ' := s) rfl ?_
        replace h := wk_letE h
        refine wk_Hcall (i2 := 17) (args := [.ref 0, .int (1 : Int32), .int (s.1 0 10)]) (rest := []) (r := some (.int (b2i ((f_X12_wrongAt (1 : Int32) (s.1 0 10) s).1)))) (σ1 := (f_X12_wrongAt (1 : Int32) (s.1 0 10) s).2) rfl rfl ⟨rfl, rfl, rfl, rfl, rfl⟩ rfl ((t_X12_wrongAt rfl).up (by decide)) ?_
        cases h
        exact wk_eqz hk (wk_Hretz rfl (b2i_01 _))
set_option maxHeartbeats 4000000 in
set_option maxRecDepth 20000 in
theorem t_X12_beginsText {x1 : Int32} {s : wk_St} {r : wk_St} (h : f_X12_beginsText x1 s = r) : wk_T wk_shM 0 82 [.ref 0, .int x1] s (none, r) := by
  suffices H : ∀ z, z = (none, r) → wk_H wk_shM 0 mc_X12_beginsText 0 [.ref 0, .int x1] [] s z from H _ rfl
  intro z hk
  dsimp only [f_X12_beginsText] at h
  refine wk_Hs 12 12 ⟨rfl, rfl⟩ (ls' := [.ref 0, .int x1]) (st' := []) (σ' := (wk_si (wk_si (wk_si (wk_si s 0 10 (0 : Int32)) 0 11 x1) 0 15 (0 : Int32)) 0 17 (0 : Int32))) rfl ?_
  cases h
  exact wk_eqz hk (wk_Hretv rfl)
set_option maxHeartbeats 4000000 in
set_option maxRecDepth 20000 in
theorem ts_S_X12_law_17 {x2 : Int32} {w1 : Value} {w3 : Value} {s : wk_St} {z : wk_R} {o : (Int32 × wk_St) ⊕ (Int32 × wk_St)} (h : S_X12_law_17 (x2, s) = some o) (hk : match (generalizing := false) o with | Sum.inl a => (∀ (u1 : Value), wk_H wk_shM 8 mc_X12_law 36 [.ref 0, u1, .int a.1, w3] [] a.2 z) | Sum.inr y => ∀ (u1 : Value), wk_H wk_shM 8 mc_X12_law 17 [.ref 0, u1, .int y.1, w3] [] y.2 z) : wk_H wk_shM 8 mc_X12_law 17 [.ref 0, w1, .int x2, w3] [] s z := by
  dsimp only [S_X12_law_17] at h
  refine wk_Hs 1 18 ⟨rfl, rfl⟩ (ls' := [.ref 0, w1, .int x2, w3]) (st' := [.int x2]) (σ' := s) rfl ?_
  rcases wk_ife h with ⟨hc, h⟩ | ⟨hc, h⟩
  · refine wk_H0t 36 rfl (wk_ceq.2 hc) ?_
    cases h
    exact hk _
  · refine wk_H0f 36 19 rfl rfl (wk_nf wk_ceq hc) ?_
    refine wk_Hs 4 23 ⟨rfl, rfl⟩ (ls' := [.ref 0, w1, .int x2, w3]) (st' := [.int (s.1 0 11), .int (s.1 0 10)]) (σ' := s) rfl ?_
    rcases wk_ife h with ⟨hc, h⟩ | ⟨hc, h⟩
    · refine wk_Hbt 36 rfl (wk_cge.2 hc) ?_
      cases h
      exact hk _
    · refine wk_Hbf 36 24 rfl rfl (wk_nf wk_cge hc) ?_
      refine wk_Hs 2 26 ⟨rfl, rfl⟩ (ls' := [.ref 0, w1, .int x2, w3]) (st' := [.int (59 : Int32), .ref 0]) (σ' := s) rfl ?_
      obtain ⟨v4, hv4, h⟩ := wk_bindE h
      refine wk_Hcall (i2 := 27) (args := [.ref 0, .int (59 : Int32)]) (rest := []) (r := some (.int (b2i v4.1))) (σ1 := v4.2) rfl rfl ⟨rfl, rfl, rfl, rfl, rfl⟩ rfl ((t_X12_takes hv4).up (by decide)) ?_
      rcases wk_ife h with ⟨hc, h⟩ | ⟨hc, h⟩
      · refine wk_H0t 33 rfl (wk_zeq.2 hc) ?_
        refine wk_Hs 2 35 ⟨rfl, rfl⟩ (ls' := [.ref 0, (wk_cl w1), .int (0 : Int32), w3]) (st' := []) (σ' := v4.2) rfl ?_
        refine wk_Hgoto (t := 17) rfl ?_
        cases h
        exact hk _
      · refine wk_H0f 33 28 rfl rfl (wk_nf wk_zeq hc) ?_
        refine wk_Hs 1 29 ⟨rfl, rfl⟩ (ls' := [.ref 0, w1, .int x2, w3]) (st' := [.ref 0]) (σ' := v4.2) rfl ?_
        obtain ⟨v5, hv5, h⟩ := wk_bindE h
        refine wk_Hcall (i2 := 30) (args := [.ref 0]) (rest := []) (r := some (.int (b2i v5.1))) (σ1 := v5.2) rfl rfl ⟨rfl, rfl, rfl, rfl, rfl⟩ rfl ((t_X12_readsRule hv5).up (by decide)) ?_
        rcases wk_ife h with ⟨hc, h⟩ | ⟨hc, h⟩
        · refine wk_H0t 33 rfl (wk_zeq.2 hc) ?_
          refine wk_Hs 2 35 ⟨rfl, rfl⟩ (ls' := [.ref 0, (wk_cl w1), .int (0 : Int32), w3]) (st' := []) (σ' := v5.2) rfl ?_
          refine wk_Hgoto (t := 17) rfl ?_
          cases h
          exact hk _
        · refine wk_H0f 33 31 rfl rfl (wk_nf wk_zeq hc) ?_
          refine wk_Hs 1 32 ⟨rfl, rfl⟩ (ls' := [.ref 0, w1, .int x2, w3]) (st' := [.int (1 : Int32)]) (σ' := v5.2) rfl ?_
          refine wk_Hgoto (t := 34) rfl ?_
          refine wk_Hs 1 35 ⟨rfl, rfl⟩ (ls' := [.ref 0, (wk_cl w1), .int (1 : Int32), w3]) (st' := []) (σ' := v5.2) rfl ?_
          refine wk_Hgoto (t := 17) rfl ?_
          cases h
          exact hk _
set_option maxHeartbeats 4000000 in
set_option maxRecDepth 20000 in
theorem tl_S_X12_law_17 {w3 : Value} {z : wk_R} (n : Nat) : ∀ {x2 : Int32} {w1 : Value} {s : wk_St} {a : Int32 × wk_St} (h : wk_loop S_X12_law_17 n (x2, s) = some a) (hk : ∀ (u1 : Value), wk_H wk_shM 8 mc_X12_law 36 [.ref 0, u1, .int a.1, w3] [] a.2 z), wk_H wk_shM 8 mc_X12_law 17 [.ref 0, w1, .int x2, w3] [] s z := by
  induction n with
  | zero =>
    intros
    rename_i h _
    exact nomatch (show (none : Option _) = some _ from h)
  | succ n ih =>
    intros
    rename_i h hk
    obtain ⟨o, ho, h⟩ := wk_bindE (show Option.bind _ _ = some _ from h)
    refine ts_S_X12_law_17 ho ?_
    cases o with
    | inl a1 =>
      cases h
      exact hk
    | inr p =>
      obtain ⟨p0, p1⟩ := p
      exact fun _ => ih h hk
set_option maxHeartbeats 4000000 in
set_option maxRecDepth 20000 in
theorem ts_S_X12_law_50 {x3 : Int32} {w1 : Value} {w2 : Value} {s : wk_St} {z : wk_R} {o : (wk_St) ⊕ (Int32 × wk_St)} (h : S_X12_law_50 (x3, s) = some o) (hk : match (generalizing := false) o with | Sum.inl a => (∀ (u2 u3 : Value), wk_H wk_shM 8 mc_X12_law 64 [.ref 0, w1, u2, u3] [] a z) | Sum.inr y => ∀ (u2 : Value), wk_H wk_shM 8 mc_X12_law 50 [.ref 0, w1, u2, .int y.1] [] y.2 z) : wk_H wk_shM 8 mc_X12_law 50 [.ref 0, w1, w2, .int x3] [] s z := by
  dsimp only [S_X12_law_50] at h
  refine wk_Hs 3 53 ⟨rfl, rfl⟩ (ls' := [.ref 0, w1, w2, .int x3]) (st' := [.int (s.1 0 15), .int x3]) (σ' := s) rfl ?_
  rcases wk_ife h with ⟨hc, h⟩ | ⟨hc, h⟩
  · refine wk_Hbt 64 rfl (wk_cge.2 hc) ?_
    cases h
    exact hk _ _
  · refine wk_Hbf 64 54 rfl rfl (wk_nf wk_cge hc) ?_
    refine wk_Hs 6 60 ⟨rfl, rfl⟩ (ls' := [.ref 0, w1, w2, .int x3]) (st' := [.int x3, .ref 8, .int x3, .ref 14]) (σ' := s) rfl ?_
    obtain ⟨hg, h⟩ := wk_gdE h
    refine wk_Hia 61 rfl rfl rfl hg rfl ?_
    obtain ⟨hg, h⟩ := wk_gdE h
    refine wk_Hias 62 rfl rfl rfl hg rfl ?_
    refine wk_Hs 1 63 ⟨rfl, rfl⟩ (ls' := [.ref 0, w1, (wk_cl w2), .int (x3 + (1 : Int32))]) (st' := []) (σ' := (wk_si s 14 (x3.toNatClampNeg) (s.1 8 (x3.toNatClampNeg)))) rfl ?_
    refine wk_Hgoto (t := 50) rfl ?_
    cases h
    exact hk _
set_option maxHeartbeats 4000000 in
set_option maxRecDepth 20000 in
theorem tl_S_X12_law_50 {w1 : Value} {z : wk_R} (n : Nat) : ∀ {x3 : Int32} {w2 : Value} {s : wk_St} {a : wk_St} (h : wk_loop S_X12_law_50 n (x3, s) = some a) (hk : ∀ (u2 u3 : Value), wk_H wk_shM 8 mc_X12_law 64 [.ref 0, w1, u2, u3] [] a z), wk_H wk_shM 8 mc_X12_law 50 [.ref 0, w1, w2, .int x3] [] s z := by
  induction n with
  | zero =>
    intros
    rename_i h _
    exact nomatch (show (none : Option _) = some _ from h)
  | succ n ih =>
    intros
    rename_i h hk
    obtain ⟨o, ho, h⟩ := wk_bindE (show Option.bind _ _ = some _ from h)
    refine ts_S_X12_law_50 ho ?_
    cases o with
    | inl a1 =>
      cases h
      exact hk
    | inr p =>
      obtain ⟨p0, p1⟩ := p
      exact fun _ => ih h hk
set_option maxHeartbeats 4000000 in
set_option maxRecDepth 20000 in
theorem ts_S_X12_law_66 {x3 : Int32} {w1 : Value} {w2 : Value} {s : wk_St} {z : wk_R} {o : (wk_St) ⊕ (Int32 × wk_St)} (h : S_X12_law_66 (x3, s) = some o) (hk : match (generalizing := false) o with | Sum.inl a => (∀ (u2 u3 : Value), wk_H wk_shM 8 mc_X12_law 104 [.ref 0, w1, u2, u3] [] a z) | Sum.inr y => ∀ (u2 : Value), wk_H wk_shM 8 mc_X12_law 66 [.ref 0, w1, u2, .int y.1] [] y.2 z) : wk_H wk_shM 8 mc_X12_law 66 [.ref 0, w1, w2, .int x3] [] s z := by
  dsimp only [S_X12_law_66] at h
  refine wk_Hs 3 69 ⟨rfl, rfl⟩ (ls' := [.ref 0, w1, w2, .int x3]) (st' := [.int (s.1 0 17), .int x3]) (σ' := s) rfl ?_
  rcases wk_ife h with ⟨hc, h⟩ | ⟨hc, h⟩
  · refine wk_Hbt 104 rfl (wk_cge.2 hc) ?_
    cases h
    exact hk _ _
  · refine wk_Hbf 104 70 rfl rfl (wk_nf wk_cge hc) ?_
    refine wk_Hs 6 76 ⟨rfl, rfl⟩ (ls' := [.ref 0, w1, w2, .int x3]) (st' := [.int x3, .ref 10, .int x3, .ref 15]) (σ' := s) rfl ?_
    obtain ⟨hg, h⟩ := wk_gdE h
    refine wk_Hia 77 rfl rfl rfl hg rfl ?_
    obtain ⟨hg, h⟩ := wk_gdE h
    refine wk_Hias 78 rfl rfl rfl hg rfl ?_
    refine wk_Hs 6 84 ⟨rfl, rfl⟩ (ls' := [.ref 0, w1, w2, .int x3]) (st' := [.int x3, .ref 11, .int x3, .ref 16]) (σ' := (wk_si s 15 (x3.toNatClampNeg) (s.1 10 (x3.toNatClampNeg)))) rfl ?_
    obtain ⟨hg, h⟩ := wk_gdE h
    refine wk_Hia 85 rfl rfl rfl hg rfl ?_
    obtain ⟨hg, h⟩ := wk_gdE h
    refine wk_Hias 86 rfl rfl rfl hg rfl ?_
    refine wk_Hs 6 92 ⟨rfl, rfl⟩ (ls' := [.ref 0, w1, w2, .int x3]) (st' := [.int x3, .ref 12, .int x3, .ref 17]) (σ' := (wk_si (wk_si s 15 (x3.toNatClampNeg) (s.1 10 (x3.toNatClampNeg))) 16 (x3.toNatClampNeg) ((wk_si s 15 (x3.toNatClampNeg) (s.1 10 (x3.toNatClampNeg))).1 11 (x3.toNatClampNeg)))) rfl ?_
    obtain ⟨hg, h⟩ := wk_gdE h
    refine wk_Hia 93 rfl rfl rfl hg rfl ?_
    obtain ⟨hg, h⟩ := wk_gdE h
    refine wk_Hias 94 rfl rfl rfl hg rfl ?_
    refine wk_Hs 6 100 ⟨rfl, rfl⟩ (ls' := [.ref 0, w1, w2, .int x3]) (st' := [.int x3, .ref 13, .int x3, .ref 18]) (σ' := (wk_si (wk_si (wk_si s 15 (x3.toNatClampNeg) (s.1 10 (x3.toNatClampNeg))) 16 (x3.toNatClampNeg) ((wk_si s 15 (x3.toNatClampNeg) (s.1 10 (x3.toNatClampNeg))).1 11 (x3.toNatClampNeg))) 17 (x3.toNatClampNeg) ((wk_si (wk_si s 15 (x3.toNatClampNeg) (s.1 10 (x3.toNatClampNeg))) 16 (x3.toNatClampNeg) ((wk_si s 15 (x3.toNatClampNeg) (s.1 10 (x3.toNatClampNeg))).1 11 (x3.toNatClampNeg))).1 12 (x3.toNatClampNeg)))) rfl ?_
    obtain ⟨hg, h⟩ := wk_gdE h
    refine wk_Hia 101 rfl rfl rfl hg rfl ?_
    obtain ⟨hg, h⟩ := wk_gdE h
    refine wk_Hias 102 rfl rfl rfl hg rfl ?_
    refine wk_Hs 1 103 ⟨rfl, rfl⟩ (ls' := [.ref 0, w1, (wk_cl w2), .int (x3 + (1 : Int32))]) (st' := []) (σ' := (wk_si (wk_si (wk_si (wk_si s 15 (x3.toNatClampNeg) (s.1 10 (x3.toNatClampNeg))) 16 (x3.toNatClampNeg) ((wk_si s 15 (x3.toNatClampNeg) (s.1 10 (x3.toNatClampNeg))).1 11 (x3.toNatClampNeg))) 17 (x3.toNatClampNeg) ((wk_si (wk_si s 15 (x3.toNatClampNeg) (s.1 10 (x3.toNatClampNeg))) 16 (x3.toNatClampNeg) ((wk_si s 15 (x3.toNatClampNeg) (s.1 10 (x3.toNatClampNeg))).1 11 (x3.toNatClampNeg))).1 12 (x3.toNatClampNeg))) 18 (x3.toNatClampNeg) ((wk_si (wk_si (wk_si s 15 (x3.toNatClampNeg) (s.1 10 (x3.toNatClampNeg))) 16 (x3.toNatClampNeg) ((wk_si s 15 (x3.toNatClampNeg) (s.1 10 (x3.toNatClampNeg))).1 11 (x3.toNatClampNeg))) 17 (x3.toNatClampNeg) ((wk_si (wk_si s 15 (x3.toNatClampNeg) (s.1 10 (x3.toNatClampNeg))) 16 (x3.toNatClampNeg) ((wk_si s 15 (x3.toNatClampNeg) (s.1 10 (x3.toNatClampNeg))).1 11 (x3.toNatClampNeg))).1 12 (x3.toNatClampNeg))).1 13 (x3.toNatClampNeg)))) rfl ?_
    refine wk_Hgoto (t := 66) rfl ?_
    cases h
    exact hk _
set_option maxHeartbeats 4000000 in
set_option maxRecDepth 20000 in
theorem tl_S_X12_law_66 {w1 : Value} {z : wk_R} (n : Nat) : ∀ {x3 : Int32} {w2 : Value} {s : wk_St} {a : wk_St} (h : wk_loop S_X12_law_66 n (x3, s) = some a) (hk : ∀ (u2 u3 : Value), wk_H wk_shM 8 mc_X12_law 104 [.ref 0, w1, u2, u3] [] a z), wk_H wk_shM 8 mc_X12_law 66 [.ref 0, w1, w2, .int x3] [] s z := by
  induction n with
  | zero =>
    intros
    rename_i h _
    exact nomatch (show (none : Option _) = some _ from h)
  | succ n ih =>
    intros
    rename_i h hk
    obtain ⟨o, ho, h⟩ := wk_bindE (show Option.bind _ _ = some _ from h)
    refine ts_S_X12_law_66 ho ?_
    cases o with
    | inl a1 =>
      cases h
      exact hk
    | inr p =>
      obtain ⟨p0, p1⟩ := p
      exact fun _ => ih h hk
set_option maxHeartbeats 4000000 in
set_option maxRecDepth 20000 in
theorem tj_j_X12_law_36 {x2 : Int32} {w1 : Value} {w3 : Value} {s : wk_St} {z : wk_R} {o : Int32 × wk_St} (h : j_X12_law_36 x2 s = some o) (hk : z = (some (.int o.1), o.2)) : wk_H wk_shM 8 mc_X12_law 36 [.ref 0, w1, .int x2, w3] [] s z := by
  dsimp only [j_X12_law_36] at h
  refine wk_Hs 4 40 ⟨rfl, rfl⟩ (ls' := [.ref 0, w1, .int x2, w3]) (st' := [.int x2]) (σ' := (wk_si s 0 9 (0 : Int32))) rfl ?_
  rcases wk_ife h with ⟨hc, h⟩ | ⟨hc, h⟩
  · refine wk_H0t 44 rfl (wk_cne.2 hc) ?_
    refine wk_Hs 6 50 ⟨rfl, rfl⟩ (ls' := [.ref 0, w1, .int x2, .int (0 : Int32)]) (st' := []) (σ' := (wk_si (wk_si s 0 9 (0 : Int32)) 0 18 ((wk_si s 0 9 (0 : Int32)).1 0 17))) rfl ?_
    obtain ⟨v8, hv8, h⟩ := wk_bindE h
    refine tl_S_X12_law_50 wk_F hv8 ?_
    intro g9 g10
    refine wk_Hs 2 66 ⟨rfl, rfl⟩ (ls' := [.ref 0, w1, (wk_cl g9), .int (0 : Int32)]) (st' := []) (σ' := v8) rfl ?_
    obtain ⟨v11, hv11, h⟩ := wk_bindE h
    refine tl_S_X12_law_66 wk_F hv11 ?_
    intro g12 g13
    refine wk_Hs 2 106 ⟨rfl, rfl⟩ (ls' := [.ref 0, w1, g12, g13]) (st' := [.int (v11.1 0 17)]) (σ' := v11) rfl ?_
    cases h
    exact wk_eqz hk (wk_Hret rfl)
  · refine wk_H0f 44 41 rfl rfl (wk_nf wk_cne hc) ?_
    refine wk_Hs 2 43 ⟨rfl, rfl⟩ (ls' := [.ref 0, w1, .int x2, w3]) (st' := [.int ((wk_si s 0 9 (0 : Int32)).1 0 12)]) (σ' := (wk_si s 0 9 (0 : Int32))) rfl ?_
    cases h
    exact wk_eqz hk (wk_Hret rfl)
set_option maxHeartbeats 4000000 in
set_option maxRecDepth 20000 in
theorem t_X12_law {x1 : Int32} {s : wk_St} {r : Int32 × wk_St} (h : f_X12_law x1 s = some r) : wk_T wk_shM 8 83 [.ref 0, .int x1] s (some (.int r.1), r.2) := by
  suffices H : ∀ z, z = (some (.int r.1), r.2) → wk_H wk_shM 8 mc_X12_law 0 [.ref 0, .int x1, wk_U, wk_U] [] s z from H _ rfl
  intro z hk
  dsimp only [f_X12_law] at h
  refine wk_Hs 3 3 ⟨rfl, rfl⟩ (ls' := [.ref 0, .int x1, wk_U, wk_U]) (st' := [.int (240 : Int32), .int (1 : Int32), .int x1]) (σ' := s) rfl ?_
  refine wk_Hcall (i2 := 4) (args := [.int x1, .int (1 : Int32), .int (240 : Int32)]) (rest := []) (r := some (.int (b2i (f_X12_in x1 (1 : Int32) (240 : Int32))))) (σ1 := s) rfl rfl ⟨rfl, rfl, rfl, rfl, rfl⟩ rfl ((t_X12_in rfl).up (by decide)) ?_
  rcases wk_ife h with ⟨hc, h⟩ | ⟨hc, h⟩
  · refine wk_H0t 9 rfl (wk_zeq.2 hc) ?_
    refine wk_Hs 1 10 ⟨rfl, rfl⟩ (ls' := [.ref 0, .int x1, wk_U, wk_U]) (st' := [.int (-1 : Int32)]) (σ' := s) rfl ?_
    cases h
    exact wk_eqz hk (wk_Hret rfl)
  · refine wk_H0f 9 5 rfl rfl (wk_nf wk_zeq hc) ?_
    refine wk_Hs 3 8 ⟨rfl, rfl⟩ (ls' := [.ref 0, .int x1, wk_U, wk_U]) (st' := [.int (s.1 0 9), .int x1]) (σ' := s) rfl ?_
    rcases wk_ife h with ⟨hc, h⟩ | ⟨hc, h⟩
    · refine wk_Hbt 11 rfl (wk_cle.2 hc) ?_
      refine wk_Hs 2 13 ⟨rfl, rfl⟩ (ls' := [.ref 0, .int x1, wk_U, wk_U]) (st' := [.int x1, .ref 0]) (σ' := s) rfl ?_
      replace h := wk_letE h
      refine wk_Hcall (i2 := 14) (args := [.ref 0, .int x1]) (rest := []) (r := none) (σ1 := (f_X12_beginsText x1 s)) rfl rfl ⟨rfl, rfl, rfl, rfl, rfl⟩ rfl ((t_X12_beginsText rfl).up (by decide)) ?_
      refine wk_Hs 1 15 ⟨rfl, rfl⟩ (ls' := [.ref 0, .int x1, wk_U, wk_U]) (st' := [.ref 0]) (σ' := (f_X12_beginsText x1 s)) rfl ?_
      obtain ⟨v3, hv3, h⟩ := wk_bindE h
      refine wk_Hcall (i2 := 16) (args := [.ref 0]) (rest := []) (r := some (.int (b2i v3.1))) (σ1 := v3.2) rfl rfl ⟨rfl, rfl, rfl, rfl, rfl⟩ rfl ((t_X12_readsRule hv3).up (by decide)) ?_
      refine wk_Hs 1 17 ⟨rfl, rfl⟩ (ls' := [.ref 0, .int x1, .int (b2i v3.1), wk_U]) (st' := []) (σ' := v3.2) rfl ?_
      obtain ⟨v6, hv6, h⟩ := wk_bindE h
      refine tl_S_X12_law_17 wk_F hv6 ?_
      intro g7
      exact tj_j_X12_law_36 h hk
    · refine wk_Hbf 11 9 rfl rfl (wk_nf wk_cle hc) ?_
      refine wk_Hs 1 10 ⟨rfl, rfl⟩ (ls' := [.ref 0, .int x1, wk_U, wk_U]) (st' := [.int (-1 : Int32)]) (σ' := s) rfl ?_
      cases h
      exact wk_eqz hk (wk_Hret rfl)
set_option maxHeartbeats 4000000 in
set_option maxRecDepth 20000 in
theorem t_X12_reckon {x0 : Int32} {x1 : Int32} {x2 : Int32} {s : wk_St} {r : Int32} (h : f_X12_reckon x0 x1 x2 = some r) : wk_T wk_shM 0 84 [.int x0, .int x1, .int x2] s (some (.int r), s) := by
  suffices H : ∀ z, z = (some (.int r), s) → wk_H wk_shM 0 mc_X12_reckon 0 [.int x0, .int x1, .int x2] [] s z from H _ rfl
  intro z hk
  dsimp only [f_X12_reckon] at h
  refine wk_Hs 1 1 ⟨rfl, rfl⟩ (ls' := [.int x0, .int x1, .int x2]) (st' := [.int x0]) (σ' := s) rfl ?_
  rcases wk_ife h with ⟨hc0, h⟩ | ⟨hc0, h⟩
  · refine wk_Hts (t := 2) rfl (wk_tswE hc0 (by decide)) ?_
    refine wk_Hs 3 5 ⟨rfl, rfl⟩ (ls' := [.int x0, .int x1, .int x2]) (st' := [.int (x1 + x2)]) (σ' := s) rfl ?_
    cases h
    exact wk_eqz hk (wk_Hret rfl)
  rcases wk_ife h with ⟨hc1, h⟩ | ⟨hc1, h⟩
  · refine wk_Hts (t := 6) rfl (wk_tswE hc1 (by decide)) ?_
    refine wk_Hs 3 9 ⟨rfl, rfl⟩ (ls' := [.int x0, .int x1, .int x2]) (st' := [.int (x1 - x2)]) (σ' := s) rfl ?_
    cases h
    exact wk_eqz hk (wk_Hret rfl)
  rcases wk_ife h with ⟨hc2, h⟩ | ⟨hc2, h⟩
  · refine wk_Hts (t := 10) rfl (wk_tswE hc2 (by decide)) ?_
    refine wk_Hs 3 13 ⟨rfl, rfl⟩ (ls' := [.int x0, .int x1, .int x2]) (st' := [.int (x1 * x2)]) (σ' := s) rfl ?_
    cases h
    exact wk_eqz hk (wk_Hret rfl)
  rcases wk_ife h with ⟨hc3, h⟩ | ⟨hc3, h⟩
  · refine wk_Hts (t := 14) rfl (wk_tswE hc3 (by decide)) ?_
    refine wk_Hs 2 16 ⟨rfl, rfl⟩ (ls' := [.int x0, .int x1, .int x2]) (st' := [.int x2, .int x1]) (σ' := s) rfl ?_
    obtain ⟨hg, h⟩ := wk_gdN h
    refine wk_Hdiv 17 rfl rfl hg ?_
    cases h
    exact wk_eqz hk (wk_Hret rfl)
  rcases wk_ife h with ⟨hc4, h⟩ | ⟨hc4, h⟩
  · refine wk_Hts (t := 18) rfl (wk_tswE hc4 (by decide)) ?_
    refine wk_Hs 2 20 ⟨rfl, rfl⟩ (ls' := [.int x0, .int x1, .int x2]) (st' := [.int x2, .int x1]) (σ' := s) rfl ?_
    obtain ⟨hg, h⟩ := wk_gdN h
    refine wk_Hrem 21 rfl rfl hg ?_
    cases h
    exact wk_eqz hk (wk_Hret rfl)
  rcases wk_ife h with ⟨hc5, h⟩ | ⟨hc5, h⟩
  · refine wk_Hts (t := 22) rfl (wk_tswE hc5 (by decide)) ?_
    refine wk_Hs 2 24 ⟨rfl, rfl⟩ (ls' := [.int x0, .int x1, .int x2]) (st' := [.int x2, .int x1]) (σ' := s) rfl ?_
    rcases wk_ife h with ⟨hc, h⟩ | ⟨hc, h⟩
    · refine wk_Hbt 27 rfl (wk_cge.2 hc) ?_
      refine wk_Hs 1 28 ⟨rfl, rfl⟩ (ls' := [.int x0, .int x1, .int x2]) (st' := [.int (0 : Int32)]) (σ' := s) rfl ?_
      cases h
      exact wk_eqz hk (wk_Hret rfl)
    · refine wk_Hbf 27 25 rfl rfl (wk_nf wk_cge hc) ?_
      refine wk_Hs 1 26 ⟨rfl, rfl⟩ (ls' := [.int x0, .int x1, .int x2]) (st' := [.int (1 : Int32)]) (σ' := s) rfl ?_
      refine wk_Hgoto (t := 28) rfl ?_
      cases h
      exact wk_eqz hk (wk_Hret rfl)
  rcases wk_ife h with ⟨hc6, h⟩ | ⟨hc6, h⟩
  · refine wk_Hts (t := 29) rfl (wk_tswE hc6 (by decide)) ?_
    refine wk_Hs 2 31 ⟨rfl, rfl⟩ (ls' := [.int x0, .int x1, .int x2]) (st' := [.int x2, .int x1]) (σ' := s) rfl ?_
    rcases wk_ife h with ⟨hc, h⟩ | ⟨hc, h⟩
    · refine wk_Hbt 34 rfl (wk_cle.2 hc) ?_
      refine wk_Hs 1 35 ⟨rfl, rfl⟩ (ls' := [.int x0, .int x1, .int x2]) (st' := [.int (0 : Int32)]) (σ' := s) rfl ?_
      cases h
      exact wk_eqz hk (wk_Hret rfl)
    · refine wk_Hbf 34 32 rfl rfl (wk_nf wk_cle hc) ?_
      refine wk_Hs 1 33 ⟨rfl, rfl⟩ (ls' := [.int x0, .int x1, .int x2]) (st' := [.int (1 : Int32)]) (σ' := s) rfl ?_
      refine wk_Hgoto (t := 35) rfl ?_
      cases h
      exact wk_eqz hk (wk_Hret rfl)
  refine wk_Hts (t := 36) rfl (wk_tswD (L := [2, 3, 4, 5, 6, 7, 8]) (by decide) (List.forall_mem_cons.2 ⟨wk_nt hc0 (by decide), (List.forall_mem_cons.2 ⟨wk_nt hc1 (by decide), (List.forall_mem_cons.2 ⟨wk_nt hc2 (by decide), (List.forall_mem_cons.2 ⟨wk_nt hc3 (by decide), (List.forall_mem_cons.2 ⟨wk_nt hc4 (by decide), (List.forall_mem_cons.2 ⟨wk_nt hc5 (by decide), (List.forall_mem_cons.2 ⟨wk_nt hc6 (by decide), (fun _ hq => absurd hq List.not_mem_nil)⟩)⟩)⟩)⟩)⟩)⟩)⟩)) ?_
  refine wk_Hs 2 38 ⟨rfl, rfl⟩ (ls' := [.int x0, .int x1, .int x2]) (st' := [.int x2, .int x1]) (σ' := s) rfl ?_
  rcases wk_ife h with ⟨hc, h⟩ | ⟨hc, h⟩
  · refine wk_Hbt 41 rfl (wk_cne.2 hc) ?_
    refine wk_Hs 1 42 ⟨rfl, rfl⟩ (ls' := [.int x0, .int x1, .int x2]) (st' := [.int (0 : Int32)]) (σ' := s) rfl ?_
    cases h
    exact wk_eqz hk (wk_Hret rfl)
  · refine wk_Hbf 41 39 rfl rfl (wk_nf wk_cne hc) ?_
    refine wk_Hs 1 40 ⟨rfl, rfl⟩ (ls' := [.int x0, .int x1, .int x2]) (st' := [.int (1 : Int32)]) (σ' := s) rfl ?_
    refine wk_Hgoto (t := 42) rfl ?_
    cases h
    exact wk_eqz hk (wk_Hret rfl)
set_option maxHeartbeats 4000000 in
set_option maxRecDepth 20000 in
theorem tj_j_X12_comesTo_36_l10 {x2 : Int32} {x3 : Int32} {x4 : Int32} {x5 : Int32} {x6 : Int32} {x7 : Int32} {w1 : Value} {s : wk_St} {z : wk_R} {o : ((Int32 × wk_St) ⊕ (wk_St)) ⊕ (Int32 × Int32 × wk_St)} (h : j_X12_comesTo_36_l10 x2 x3 x4 x5 x6 x7 s = some o) (hk : match (generalizing := false) o with | Sum.inl a => (match (generalizing := false) a with | Sum.inl r => z = (some (.int r.1), r.2) | Sum.inr y => ∀ (u3 u5 u6 u7 : Value), wk_H wk_shM 1 mc_X12_comesTo 136 [.ref 0, w1, .int x2, u3, .int x4, u5, u6, u7] [] y z) | Sum.inr y => ∀ (u6 u7 : Value), wk_H wk_shM 1 mc_X12_comesTo 10 [.ref 0, w1, .int x2, .int y.1, .int x4, .int y.2.1, u6, u7] [] y.2.2 z) : wk_H wk_shM 1 mc_X12_comesTo 36 [.ref 0, w1, .int x2, .int x3, .int x4, .int x5, .int x6, .int x7] [] s z := by
  dsimp only [j_X12_comesTo_36_l10] at h
  refine wk_Hs 4 40 ⟨rfl, rfl⟩ (ls' := [.ref 0, w1, .int x2, .int x3, .int x4, .int x5, .int x6, .int x7]) (st' := [.int x6, .int x3, .ref 19]) (σ' := s) rfl ?_
  rcases wk_ife h with ⟨hc, h⟩ | ⟨hc, h⟩
  · refine wk_H0t 43 rfl (wk_cne.2 hc) ?_
    refine wk_Hs 3 46 ⟨rfl, rfl⟩ (ls' := [.ref 0, w1, .int x2, .int x3, .int x4, .int x5, .int x6, .int x7]) (st' := [.int x7, .ref 20, .int x3, .ref 19]) (σ' := s) rfl ?_
    obtain ⟨hg, h⟩ := wk_gdE h
    refine wk_Hia 47 rfl rfl rfl hg rfl ?_
    obtain ⟨hg, h⟩ := wk_gdE h
    refine wk_Hias 48 rfl rfl rfl hg rfl ?_
    refine wk_Hs 3 51 ⟨rfl, rfl⟩ (ls' := [.ref 0, w1, .int x2, .int x3, .int x4, .int x5, .int x6, .int x7]) (st' := [.int (x3 + (1 : Int32))]) (σ' := (wk_si s 19 (x3.toNatClampNeg) (s.1 20 (x7.toNatClampNeg)))) rfl ?_
    replace h := wk_letE h
    refine wk_Hs 1 52 ⟨rfl, rfl⟩ (ls' := [.ref 0, w1, .int x2, .int (x3 + (1 : Int32)), .int x4, .int x5, .int x6, .int x7]) (st' := []) (σ' := (wk_si s 19 (x3.toNatClampNeg) (s.1 20 (x7.toNatClampNeg)))) rfl ?_
    refine wk_Hgoto (t := 135) rfl ?_
    refine wk_Hgoto (t := 10) rfl ?_
    cases h
    exact hk _ _
  · refine wk_H0f 43 41 rfl rfl (wk_nf wk_cne hc) ?_
    refine wk_Hs 1 42 ⟨rfl, rfl⟩ (ls' := [.ref 0, w1, .int x2, .int x3, .int x4, .int x5, .int x6, .int x7]) (st' := [.int x7, .int x3, .ref 19]) (σ' := s) rfl ?_
    refine wk_Hgoto (t := 47) rfl ?_
    obtain ⟨hg, h⟩ := wk_gdE h
    refine wk_Hias 48 rfl rfl rfl hg rfl ?_
    refine wk_Hs 3 51 ⟨rfl, rfl⟩ (ls' := [.ref 0, w1, .int x2, .int x3, .int x4, .int x5, .int x6, .int x7]) (st' := [.int (x3 + (1 : Int32))]) (σ' := (wk_si s 19 (x3.toNatClampNeg) x7)) rfl ?_
    replace h := wk_letE h
    refine wk_Hs 1 52 ⟨rfl, rfl⟩ (ls' := [.ref 0, w1, .int x2, .int (x3 + (1 : Int32)), .int x4, .int x5, .int x6, .int x7]) (st' := []) (σ' := (wk_si s 19 (x3.toNatClampNeg) x7)) rfl ?_
    refine wk_Hgoto (t := 135) rfl ?_
    refine wk_Hgoto (t := 10) rfl ?_
    cases h
    exact hk _ _
set_option maxHeartbeats 4000000 in
set_option maxRecDepth 20000 in
theorem tj_j_X12_comesTo_89_l10 {x2 : Int32} {x3 : Int32} {x4 : Int32} {x5 : Int32} {x7 : Int32} {s_0 : Int32} {s_1 : Int32} {w1 : Value} {w6 : Value} {s : wk_St} {z : wk_R} {o : ((Int32 × wk_St) ⊕ (wk_St)) ⊕ (Int32 × Int32 × wk_St)} (h : j_X12_comesTo_89_l10 x2 x3 x4 x5 x7 s_0 s_1 s = some o) (hk : match (generalizing := false) o with | Sum.inl a => (match (generalizing := false) a with | Sum.inl r => z = (some (.int r.1), r.2) | Sum.inr y => ∀ (u3 u5 u6 u7 : Value), wk_H wk_shM 1 mc_X12_comesTo 136 [.ref 0, w1, .int x2, u3, .int x4, u5, u6, u7] [] y z) | Sum.inr y => ∀ (u6 u7 : Value), wk_H wk_shM 1 mc_X12_comesTo 10 [.ref 0, w1, .int x2, .int y.1, .int x4, .int y.2.1, u6, u7] [] y.2.2 z) : wk_H wk_shM 1 mc_X12_comesTo 89 [.ref 0, w1, .int x2, .int x3, .int x4, .int x5, w6, .int x7] [.int s_0, .int s_1] s z := by
  dsimp only [j_X12_comesTo_89_l10] at h
  rcases wk_ife h with ⟨hc, h⟩ | ⟨hc, h⟩
  · refine wk_Hbt 95 rfl (wk_cne.2 hc) ?_
    refine wk_Hs 3 98 ⟨rfl, rfl⟩ (ls' := [.ref 0, w1, .int x2, .int x3, .int x4, .int x5, w6, .int x7]) (st' := [.int (x3 - (1 : Int32))]) (σ' := s) rfl ?_
    replace h := wk_letE h
    refine wk_Hs 1 99 ⟨rfl, rfl⟩ (ls' := [.ref 0, w1, .int x2, .int (x3 - (1 : Int32)), .int x4, .int x5, w6, .int x7]) (st' := []) (σ' := s) rfl ?_
    refine wk_Hgoto (t := 135) rfl ?_
    refine wk_Hgoto (t := 10) rfl ?_
    cases h
    exact hk _ _
  · refine wk_Hbf 95 90 rfl rfl (wk_nf wk_cne hc) ?_
    refine wk_Hs 4 94 ⟨rfl, rfl⟩ (ls' := [.ref 0, w1, .int x2, .int x3, .int x4, .int (x4 + x7), w6, .int x7]) (st' := []) (σ' := s) rfl ?_
    refine wk_Hgoto (t := 135) rfl ?_
    refine wk_Hgoto (t := 10) rfl ?_
    cases h
    exact hk _ _
set_option maxHeartbeats 4000000 in
set_option maxRecDepth 20000 in
theorem tj_j_X12_comesTo_77_l10 {x2 : Int32} {x3 : Int32} {x4 : Int32} {x5 : Int32} {x6 : Int32} {x7 : Int32} {w1 : Value} {s : wk_St} {z : wk_R} {o : ((Int32 × wk_St) ⊕ (wk_St)) ⊕ (Int32 × Int32 × wk_St)} (h : j_X12_comesTo_77_l10 x2 x3 x4 x5 x6 x7 s = some o) (hk : match (generalizing := false) o with | Sum.inl a => (match (generalizing := false) a with | Sum.inl r => z = (some (.int r.1), r.2) | Sum.inr y => ∀ (u3 u5 u6 u7 : Value), wk_H wk_shM 1 mc_X12_comesTo 136 [.ref 0, w1, .int x2, u3, .int x4, u5, u6, u7] [] y z) | Sum.inr y => ∀ (u6 u7 : Value), wk_H wk_shM 1 mc_X12_comesTo 10 [.ref 0, w1, .int x2, .int y.1, .int x4, .int y.2.1, u6, u7] [] y.2.2 z) : wk_H wk_shM 1 mc_X12_comesTo 77 [.ref 0, w1, .int x2, .int x3, .int x4, .int x5, .int x6, .int x7] [] s z := by
  dsimp only [j_X12_comesTo_77_l10] at h
  refine wk_Hs 5 82 ⟨rfl, rfl⟩ (ls' := [.ref 0, w1, .int x2, .int x3, .int x4, .int x5, .int x6, .int x7]) (st' := [.int (x3 - (1 : Int32)), .ref 19]) (σ' := s) rfl ?_
  obtain ⟨hg, h⟩ := wk_gdE h
  refine wk_Hia 83 rfl rfl rfl hg rfl ?_
  refine wk_Hs 2 85 ⟨rfl, rfl⟩ (ls' := [.ref 0, w1, .int x2, .int x3, .int x4, .int x5, .int x6, .int x7]) (st' := [.int (12 : Int32), .int x6, .int (s.1 19 ((x3 - (1 : Int32)).toNatClampNeg))]) (σ' := s) rfl ?_
  rcases wk_ife h with ⟨hc, h⟩ | ⟨hc, h⟩
  · refine wk_Hbt 88 rfl (wk_cne.2 hc) ?_
    refine wk_Hs 1 89 ⟨rfl, rfl⟩ (ls' := [.ref 0, w1, .int x2, .int x3, .int x4, .int x5, .int x6, .int x7]) (st' := [.int (0 : Int32), .int (s.1 19 ((x3 - (1 : Int32)).toNatClampNeg))]) (σ' := s) rfl ?_
    exact tj_j_X12_comesTo_89_l10 h hk
  · refine wk_Hbf 88 86 rfl rfl (wk_nf wk_cne hc) ?_
    refine wk_Hs 1 87 ⟨rfl, rfl⟩ (ls' := [.ref 0, w1, .int x2, .int x3, .int x4, .int x5, .int x6, .int x7]) (st' := [.int (1 : Int32), .int (s.1 19 ((x3 - (1 : Int32)).toNatClampNeg))]) (σ' := s) rfl ?_
    refine wk_Hgoto (t := 89) rfl ?_
    exact tj_j_X12_comesTo_89_l10 h hk
set_option maxHeartbeats 4000000 in
set_option maxRecDepth 20000 in
theorem tj_j_X12_comesTo_117_l10 {x2 : Int32} {x3 : Int32} {x4 : Int32} {x5 : Int32} {x6 : Int32} {w1 : Value} {w7 : Value} {s : wk_St} {z : wk_R} {o : ((Int32 × wk_St) ⊕ (wk_St)) ⊕ (Int32 × Int32 × wk_St)} (h : j_X12_comesTo_117_l10 x2 x3 x4 x5 x6 s = some o) (hk : match (generalizing := false) o with | Sum.inl a => (match (generalizing := false) a with | Sum.inl r => z = (some (.int r.1), r.2) | Sum.inr y => ∀ (u3 u5 u6 u7 : Value), wk_H wk_shM 1 mc_X12_comesTo 136 [.ref 0, w1, .int x2, u3, .int x4, u5, u6, u7] [] y z) | Sum.inr y => ∀ (u6 u7 : Value), wk_H wk_shM 1 mc_X12_comesTo 10 [.ref 0, w1, .int x2, .int y.1, .int x4, .int y.2.1, u6, u7] [] y.2.2 z) : wk_H wk_shM 1 mc_X12_comesTo 117 [.ref 0, w1, .int x2, .int x3, .int x4, .int x5, .int x6, w7] [] s z := by
  dsimp only [j_X12_comesTo_117_l10] at h
  refine wk_Hs 11 128 ⟨rfl, rfl⟩ (ls' := [.ref 0, w1, .int x2, .int x3, .int x4, .int x5, .int x6, w7]) (st' := [.int (x3 - (1 : Int32)), .ref 19, .int x6, .int (x3 - (1 : Int32)), .ref 19]) (σ' := s) rfl ?_
  obtain ⟨hg, h⟩ := wk_gdE h
  refine wk_Hia 129 rfl rfl rfl hg rfl ?_
  refine wk_Hs 3 132 ⟨rfl, rfl⟩ (ls' := [.ref 0, w1, .int x2, .int x3, .int x4, .int x5, .int x6, w7]) (st' := [.int x3, .ref 19, .int (s.1 19 ((x3 - (1 : Int32)).toNatClampNeg)), .int x6, .int (x3 - (1 : Int32)), .ref 19]) (σ' := s) rfl ?_
  obtain ⟨hg, h⟩ := wk_gdE h
  refine wk_Hia 133 rfl rfl rfl hg rfl ?_
  obtain ⟨v9, hv9, h⟩ := wk_bindE h
  refine wk_Hcall (i2 := 134) (args := [.int x6, .int (s.1 19 ((x3 - (1 : Int32)).toNatClampNeg)), .int (s.1 19 (x3.toNatClampNeg))]) (rest := [.int (x3 - (1 : Int32)), .ref 19]) (r := some (.int v9)) (σ1 := s) rfl rfl ⟨rfl, rfl, rfl, rfl, rfl⟩ rfl ((t_X12_reckon hv9).up (by decide)) ?_
  obtain ⟨hg, h⟩ := wk_gdE h
  refine wk_Hias 135 rfl rfl rfl hg rfl ?_
  refine wk_Hgoto (t := 10) rfl ?_
  cases h
  exact hk _ _
set_option maxHeartbeats 4000000 in
set_option maxRecDepth 20000 in
theorem ts_S_X12_comesTo_10 {x2 : Int32} {x4 : Int32} {x3 : Int32} {x5 : Int32} {w1 : Value} {w6 : Value} {w7 : Value} {s : wk_St} {z : wk_R} {o : ((Int32 × wk_St) ⊕ (wk_St)) ⊕ (Int32 × Int32 × wk_St)} (h : S_X12_comesTo_10 x2 x4 (x3, x5, s) = some o) (hk : match (generalizing := false) o with | Sum.inl a => (match (generalizing := false) a with | Sum.inl r => z = (some (.int r.1), r.2) | Sum.inr y => ∀ (u3 u5 u6 u7 : Value), wk_H wk_shM 1 mc_X12_comesTo 136 [.ref 0, w1, .int x2, u3, .int x4, u5, u6, u7] [] y z) | Sum.inr y => ∀ (u6 u7 : Value), wk_H wk_shM 1 mc_X12_comesTo 10 [.ref 0, w1, .int x2, .int y.1, .int x4, .int y.2.1, u6, u7] [] y.2.2 z) : wk_H wk_shM 1 mc_X12_comesTo 10 [.ref 0, w1, .int x2, .int x3, .int x4, .int x5, w6, w7] [] s z := by
  dsimp only [S_X12_comesTo_10] at h
  refine wk_Hs 2 12 ⟨rfl, rfl⟩ (ls' := [.ref 0, w1, .int x2, .int x3, .int x4, .int x5, w6, w7]) (st' := [.int x2, .int x5]) (σ' := s) rfl ?_
  rcases wk_ife h with ⟨hc, h⟩ | ⟨hc, h⟩
  · refine wk_Hbt 136 rfl (wk_cge.2 hc) ?_
    cases h
    exact hk _ _ _ _
  · refine wk_Hbf 136 13 rfl rfl (wk_nf wk_cge hc) ?_
    refine wk_Hs 3 16 ⟨rfl, rfl⟩ (ls' := [.ref 0, w1, .int x2, .int x3, .int x4, .int x5, w6, w7]) (st' := [.int x5, .ref 14]) (σ' := s) rfl ?_
    obtain ⟨hg, h⟩ := wk_gdE h
    refine wk_Hia 17 rfl rfl rfl hg rfl ?_
    refine wk_Hs 1 18 ⟨rfl, rfl⟩ (ls' := [.ref 0, w1, .int x2, .int x3, .int x4, .int x5, w6, w7]) (st' := [.int (1048576 : Int32), .int (s.1 14 (x5.toNatClampNeg))]) (σ' := s) rfl ?_
    refine wk_Hdiv 19 rfl rfl (by decide) ?_
    replace h := wk_letE h
    refine wk_Hs 4 23 ⟨rfl, rfl⟩ (ls' := [.ref 0, w1, .int x2, .int x3, .int x4, .int x5, .int ((s.1 14 (x5.toNatClampNeg)) / (1048576 : Int32)), w7]) (st' := [.int x5, .ref 14]) (σ' := s) rfl ?_
    obtain ⟨hg, h⟩ := wk_gdE h
    refine wk_Hia 24 rfl rfl rfl hg rfl ?_
    refine wk_Hs 1 25 ⟨rfl, rfl⟩ (ls' := [.ref 0, w1, .int x2, .int x3, .int x4, .int x5, .int ((s.1 14 (x5.toNatClampNeg)) / (1048576 : Int32)), w7]) (st' := [.int (1048576 : Int32), .int (s.1 14 (x5.toNatClampNeg))]) (σ' := s) rfl ?_
    refine wk_Hrem 26 rfl rfl (by decide) ?_
    replace h := wk_letE h
    refine wk_Hs 4 30 ⟨rfl, rfl⟩ (ls' := [.ref 0, w1, .int x2, .int x3, .int x4, .int x5, .int ((s.1 14 (x5.toNatClampNeg)) / (1048576 : Int32)), .int (wk_rem (s.1 14 (x5.toNatClampNeg)) (1048576 : Int32))]) (st' := [.int (x5 + (1 : Int32))]) (σ' := s) rfl ?_
    replace h := wk_letE h
    refine wk_Hs 2 32 ⟨rfl, rfl⟩ (ls' := [.ref 0, w1, .int x2, .int x3, .int x4, .int (x5 + (1 : Int32)), .int ((s.1 14 (x5.toNatClampNeg)) / (1048576 : Int32)), .int (wk_rem (s.1 14 (x5.toNatClampNeg)) (1048576 : Int32))]) (st' := [.int ((s.1 14 (x5.toNatClampNeg)) / (1048576 : Int32))]) (σ' := s) rfl ?_
    rcases wk_ife h with ⟨hc, h⟩ | ⟨hc, h⟩
    · refine wk_H0t 36 rfl (wk_ceq.2 hc) ?_
      exact tj_j_X12_comesTo_36_l10 h hk
    · refine wk_H0f 36 33 rfl rfl (wk_nf wk_ceq hc) ?_
      refine wk_Hs 2 35 ⟨rfl, rfl⟩ (ls' := [.ref 0, w1, .int x2, .int x3, .int x4, .int (x5 + (1 : Int32)), .int ((s.1 14 (x5.toNatClampNeg)) / (1048576 : Int32)), .int (wk_rem (s.1 14 (x5.toNatClampNeg)) (1048576 : Int32))]) (st' := [.int (1 : Int32), .int ((s.1 14 (x5.toNatClampNeg)) / (1048576 : Int32))]) (σ' := s) rfl ?_
      rcases wk_ife h with ⟨hc, h⟩ | ⟨hc, h⟩
      · refine wk_Hbt 53 rfl (wk_cne.2 hc) ?_
        refine wk_Hs 2 55 ⟨rfl, rfl⟩ (ls' := [.ref 0, w1, .int x2, .int x3, .int x4, .int (x5 + (1 : Int32)), .int ((s.1 14 (x5.toNatClampNeg)) / (1048576 : Int32)), .int (wk_rem (s.1 14 (x5.toNatClampNeg)) (1048576 : Int32))]) (st' := [.int (10 : Int32), .int ((s.1 14 (x5.toNatClampNeg)) / (1048576 : Int32))]) (σ' := s) rfl ?_
        rcases wk_ife h with ⟨hc, h⟩ | ⟨hc, h⟩
        · refine wk_Hbt 71 rfl (wk_cne.2 hc) ?_
          refine wk_Hs 2 73 ⟨rfl, rfl⟩ (ls' := [.ref 0, w1, .int x2, .int x3, .int x4, .int (x5 + (1 : Int32)), .int ((s.1 14 (x5.toNatClampNeg)) / (1048576 : Int32)), .int (wk_rem (s.1 14 (x5.toNatClampNeg)) (1048576 : Int32))]) (st' := [.int (11 : Int32), .int ((s.1 14 (x5.toNatClampNeg)) / (1048576 : Int32))]) (σ' := s) rfl ?_
          rcases wk_ife h with ⟨hc, h⟩ | ⟨hc, h⟩
          · refine wk_Hbt 77 rfl (wk_ceq.2 hc) ?_
            exact tj_j_X12_comesTo_77_l10 h hk
          · refine wk_Hbf 77 74 rfl rfl (wk_nf wk_ceq hc) ?_
            refine wk_Hs 2 76 ⟨rfl, rfl⟩ (ls' := [.ref 0, w1, .int x2, .int x3, .int x4, .int (x5 + (1 : Int32)), .int ((s.1 14 (x5.toNatClampNeg)) / (1048576 : Int32)), .int (wk_rem (s.1 14 (x5.toNatClampNeg)) (1048576 : Int32))]) (st' := [.int (12 : Int32), .int ((s.1 14 (x5.toNatClampNeg)) / (1048576 : Int32))]) (σ' := s) rfl ?_
            rcases wk_ife h with ⟨hc, h⟩ | ⟨hc, h⟩
            · refine wk_Hbt 100 rfl (wk_cne.2 hc) ?_
              refine wk_Hs 3 103 ⟨rfl, rfl⟩ (ls' := [.ref 0, w1, .int x2, .int x3, .int x4, .int (x5 + (1 : Int32)), .int ((s.1 14 (x5.toNatClampNeg)) / (1048576 : Int32)), .int (wk_rem (s.1 14 (x5.toNatClampNeg)) (1048576 : Int32))]) (st' := [.int (x3 - (1 : Int32))]) (σ' := s) rfl ?_
              replace h := wk_letE h
              refine wk_Hs 3 106 ⟨rfl, rfl⟩ (ls' := [.ref 0, w1, .int x2, .int (x3 - (1 : Int32)), .int x4, .int (x5 + (1 : Int32)), .int ((s.1 14 (x5.toNatClampNeg)) / (1048576 : Int32)), .int (wk_rem (s.1 14 (x5.toNatClampNeg)) (1048576 : Int32))]) (st' := [.int (5 : Int32), .int ((s.1 14 (x5.toNatClampNeg)) / (1048576 : Int32))]) (σ' := s) rfl ?_
              rcases wk_ife h with ⟨hc, h⟩ | ⟨hc, h⟩
              · refine wk_Hbt 110 rfl (wk_ceq.2 hc) ?_
                refine wk_Hs 3 113 ⟨rfl, rfl⟩ (ls' := [.ref 0, w1, .int x2, .int (x3 - (1 : Int32)), .int x4, .int (x5 + (1 : Int32)), .int ((s.1 14 (x5.toNatClampNeg)) / (1048576 : Int32)), .int (wk_rem (s.1 14 (x5.toNatClampNeg)) (1048576 : Int32))]) (st' := [.int (x3 - (1 : Int32)), .ref 19]) (σ' := s) rfl ?_
                obtain ⟨hg, h⟩ := wk_gdE h
                refine wk_Hia 114 rfl rfl rfl hg rfl ?_
                rcases wk_ife h with ⟨hc, h⟩ | ⟨hc, h⟩
                · refine wk_H0t 117 rfl (wk_cne.2 hc) ?_
                  exact tj_j_X12_comesTo_117_l10 h hk
                · refine wk_H0f 117 115 rfl rfl (wk_nf wk_cne hc) ?_
                  refine wk_Hs 1 116 ⟨rfl, rfl⟩ (ls' := [.ref 0, w1, .int x2, .int (x3 - (1 : Int32)), .int x4, .int (x5 + (1 : Int32)), .int ((s.1 14 (x5.toNatClampNeg)) / (1048576 : Int32)), .int (wk_rem (s.1 14 (x5.toNatClampNeg)) (1048576 : Int32))]) (st' := [.int (0 : Int32)]) (σ' := s) rfl ?_
                  cases h
                  exact wk_eqz hk (wk_Hret rfl)
              · refine wk_Hbf 110 107 rfl rfl (wk_nf wk_ceq hc) ?_
                refine wk_Hs 2 109 ⟨rfl, rfl⟩ (ls' := [.ref 0, w1, .int x2, .int (x3 - (1 : Int32)), .int x4, .int (x5 + (1 : Int32)), .int ((s.1 14 (x5.toNatClampNeg)) / (1048576 : Int32)), .int (wk_rem (s.1 14 (x5.toNatClampNeg)) (1048576 : Int32))]) (st' := [.int (6 : Int32), .int ((s.1 14 (x5.toNatClampNeg)) / (1048576 : Int32))]) (σ' := s) rfl ?_
                rcases wk_ife h with ⟨hc, h⟩ | ⟨hc, h⟩
                · refine wk_Hbt 117 rfl (wk_cne.2 hc) ?_
                  exact tj_j_X12_comesTo_117_l10 h hk
                · refine wk_Hbf 117 110 rfl rfl (wk_nf wk_cne hc) ?_
                  refine wk_Hs 3 113 ⟨rfl, rfl⟩ (ls' := [.ref 0, w1, .int x2, .int (x3 - (1 : Int32)), .int x4, .int (x5 + (1 : Int32)), .int ((s.1 14 (x5.toNatClampNeg)) / (1048576 : Int32)), .int (wk_rem (s.1 14 (x5.toNatClampNeg)) (1048576 : Int32))]) (st' := [.int (x3 - (1 : Int32)), .ref 19]) (σ' := s) rfl ?_
                  obtain ⟨hg, h⟩ := wk_gdE h
                  refine wk_Hia 114 rfl rfl rfl hg rfl ?_
                  rcases wk_ife h with ⟨hc, h⟩ | ⟨hc, h⟩
                  · refine wk_H0t 117 rfl (wk_cne.2 hc) ?_
                    exact tj_j_X12_comesTo_117_l10 h hk
                  · refine wk_H0f 117 115 rfl rfl (wk_nf wk_cne hc) ?_
                    refine wk_Hs 1 116 ⟨rfl, rfl⟩ (ls' := [.ref 0, w1, .int x2, .int (x3 - (1 : Int32)), .int x4, .int (x5 + (1 : Int32)), .int ((s.1 14 (x5.toNatClampNeg)) / (1048576 : Int32)), .int (wk_rem (s.1 14 (x5.toNatClampNeg)) (1048576 : Int32))]) (st' := [.int (0 : Int32)]) (σ' := s) rfl ?_
                    cases h
                    exact wk_eqz hk (wk_Hret rfl)
            · refine wk_Hbf 100 77 rfl rfl (wk_nf wk_cne hc) ?_
              exact tj_j_X12_comesTo_77_l10 h hk
        · refine wk_Hbf 71 56 rfl rfl (wk_nf wk_cne hc) ?_
          refine wk_Hs 11 67 ⟨rfl, rfl⟩ (ls' := [.ref 0, w1, .int x2, .int x3, .int x4, .int (x5 + (1 : Int32)), .int ((s.1 14 (x5.toNatClampNeg)) / (1048576 : Int32)), .int (wk_rem (s.1 14 (x5.toNatClampNeg)) (1048576 : Int32))]) (st' := [.int (x3 - (1 : Int32)), .ref 19, .int (1 : Int32), .int (x3 - (1 : Int32)), .ref 19]) (σ' := s) rfl ?_
          obtain ⟨hg, h⟩ := wk_gdE h
          refine wk_Hia 68 rfl rfl rfl hg rfl ?_
          refine wk_Hs 1 69 ⟨rfl, rfl⟩ (ls' := [.ref 0, w1, .int x2, .int x3, .int x4, .int (x5 + (1 : Int32)), .int ((s.1 14 (x5.toNatClampNeg)) / (1048576 : Int32)), .int (wk_rem (s.1 14 (x5.toNatClampNeg)) (1048576 : Int32))]) (st' := [.int ((1 : Int32) - (s.1 19 ((x3 - (1 : Int32)).toNatClampNeg))), .int (x3 - (1 : Int32)), .ref 19]) (σ' := s) rfl ?_
          obtain ⟨hg, h⟩ := wk_gdE h
          refine wk_Hias 70 rfl rfl rfl hg rfl ?_
          refine wk_Hgoto (t := 135) rfl ?_
          refine wk_Hgoto (t := 10) rfl ?_
          cases h
          exact hk _ _
      · refine wk_Hbf 53 36 rfl rfl (wk_nf wk_cne hc) ?_
        exact tj_j_X12_comesTo_36_l10 h hk
set_option maxHeartbeats 4000000 in
set_option maxRecDepth 20000 in
theorem tl_S_X12_comesTo_10 {x2 : Int32} {x4 : Int32} {w1 : Value} {z : wk_R} (n : Nat) : ∀ {x3 : Int32} {x5 : Int32} {w6 : Value} {w7 : Value} {s : wk_St} {a : (Int32 × wk_St) ⊕ (wk_St)} (h : wk_loop (S_X12_comesTo_10 x2 x4) n (x3, x5, s) = some a) (hk : match (generalizing := false) a with | Sum.inl r => z = (some (.int r.1), r.2) | Sum.inr y => ∀ (u3 u5 u6 u7 : Value), wk_H wk_shM 1 mc_X12_comesTo 136 [.ref 0, w1, .int x2, u3, .int x4, u5, u6, u7] [] y z), wk_H wk_shM 1 mc_X12_comesTo 10 [.ref 0, w1, .int x2, .int x3, .int x4, .int x5, w6, w7] [] s z := by
  induction n with
  | zero =>
    intros
    rename_i h _
    exact nomatch (show (none : Option _) = some _ from h)
  | succ n ih =>
    intros
    rename_i h hk
    obtain ⟨o, ho, h⟩ := wk_bindE (show Option.bind _ _ = some _ from h)
    refine ts_S_X12_comesTo_10 ho ?_
    cases o with
    | inl a1 =>
      cases h
      exact hk
    | inr p =>
      obtain ⟨p0, p1, p2⟩ := p
      exact fun _ _ => ih h hk
set_option maxHeartbeats 4000000 in
set_option maxRecDepth 20000 in
theorem t_X12_comesTo {x1 : Int32} {x2 : Int32} {s : wk_St} {r : Int32 × wk_St} (h : f_X12_comesTo x1 x2 s = some r) : wk_T wk_shM 1 85 [.ref 0, .int x1, .int x2] s (some (.int r.1), r.2) := by
  suffices H : ∀ z, z = (some (.int r.1), r.2) → wk_H wk_shM 1 mc_X12_comesTo 0 [.ref 0, .int x1, .int x2, wk_U, wk_U, wk_U, wk_U, wk_U] [] s z from H _ rfl
  intro z hk
  dsimp only [f_X12_comesTo] at h
  refine wk_Hs 5 5 ⟨rfl, rfl⟩ (ls' := [.ref 0, .int x1, .int x2, .int (0 : Int32), wk_U, wk_U, wk_U, wk_U]) (st' := [.int (260 : Int32), .int x1, .int (260 : Int32)]) (σ' := s) rfl ?_
  refine wk_Hdiv 6 rfl rfl (by decide) ?_
  refine wk_Hs 1 7 ⟨rfl, rfl⟩ (ls' := [.ref 0, .int x1, .int x2, .int (0 : Int32), wk_U, wk_U, wk_U, wk_U]) (st' := [.int ((260 : Int32) * (x1 / (260 : Int32)))]) (σ' := s) rfl ?_
  replace h := wk_letE h
  refine wk_Hs 3 10 ⟨rfl, rfl⟩ (ls' := [.ref 0, .int x1, .int x2, .int (0 : Int32), .int ((260 : Int32) * (x1 / (260 : Int32))), .int x1, wk_U, wk_U]) (st' := []) (σ' := s) rfl ?_
  obtain ⟨v10, hv10, h⟩ := wk_bindE h
  rcases v10 with v10r | v10
  · cases h
    exact tl_S_X12_comesTo_10 wk_F hv10 hk
  · refine tl_S_X12_comesTo_10 wk_F hv10 ?_
    intro g11 g12 g13 g14
    dsimp only at h ⊢
    refine wk_Hs 3 139 ⟨rfl, rfl⟩ (ls' := [.ref 0, .int x1, .int x2, g11, .int ((260 : Int32) * (x1 / (260 : Int32))), g12, g13, g14]) (st' := [.int (0 : Int32), .ref 19]) (σ' := v10) rfl ?_
    refine wk_Hia 140 rfl rfl rfl rfl rfl ?_
    cases h
    exact wk_eqz hk (wk_Hret rfl)
set_option maxHeartbeats 4000000 in
set_option maxRecDepth 20000 in
theorem ts_S_X12_byLaw_2 {x1 : Int32} {x2 : Int32} {x3 : Int32} {w4 : Value} {s : wk_St} {z : wk_R} {o : ((Int32 × wk_St) ⊕ (wk_St)) ⊕ (Int32 × wk_St)} (h : S_X12_byLaw_2 x1 x2 (x3, s) = some o) (hk : match (generalizing := false) o with | Sum.inl a => (match (generalizing := false) a with | Sum.inl r => z = (some (.int r.1), r.2) | Sum.inr y => ∀ (u3 : Value), wk_H wk_shM 2 mc_X12_byLaw 49 [.ref 0, .int x1, .int x2, u3, w4] [] y z) | Sum.inr y => wk_H wk_shM 2 mc_X12_byLaw 2 [.ref 0, .int x1, .int x2, .int y.1, w4] [] y.2 z) : wk_H wk_shM 2 mc_X12_byLaw 2 [.ref 0, .int x1, .int x2, .int x3, w4] [] s z := by
  dsimp only [S_X12_byLaw_2] at h
  refine wk_Hs 3 5 ⟨rfl, rfl⟩ (ls' := [.ref 0, .int x1, .int x2, .int x3, w4]) (st' := [.int (s.1 0 18), .int x3]) (σ' := s) rfl ?_
  rcases wk_ife h with ⟨hc, h⟩ | ⟨hc, h⟩
  · refine wk_Hbt 49 rfl (wk_cge.2 hc) ?_
    cases h
    exact hk _
  · refine wk_Hbf 49 6 rfl rfl (wk_nf wk_cge hc) ?_
    refine wk_Hs 3 9 ⟨rfl, rfl⟩ (ls' := [.ref 0, .int x1, .int x2, .int x3, w4]) (st' := [.int x3, .ref 15]) (σ' := s) rfl ?_
    obtain ⟨hg, h⟩ := wk_gdE h
    refine wk_Hia 10 rfl rfl rfl hg rfl ?_
    refine wk_Hs 1 11 ⟨rfl, rfl⟩ (ls' := [.ref 0, .int x1, .int x2, .int x3, w4]) (st' := [.int x1, .int (s.1 15 (x3.toNatClampNeg))]) (σ' := s) rfl ?_
    rcases wk_ife h with ⟨hc, h⟩ | ⟨hc, h⟩
    · refine wk_Hbt 47 rfl (wk_cne.2 hc) ?_
      refine wk_Hs 1 48 ⟨rfl, rfl⟩ (ls' := [.ref 0, .int x1, .int x2, .int (x3 + (1 : Int32)), w4]) (st' := []) (σ' := s) rfl ?_
      refine wk_Hgoto (t := 2) rfl ?_
      cases h
      exact hk
    · refine wk_Hbf 47 12 rfl rfl (wk_nf wk_cne hc) ?_
      refine wk_Hs 4 16 ⟨rfl, rfl⟩ (ls' := [.ref 0, .int x1, .int x2, .int x3, w4]) (st' := [.int x3, .ref 17, .ref 0]) (σ' := s) rfl ?_
      obtain ⟨hg, h⟩ := wk_gdE h
      refine wk_Hia 17 rfl rfl rfl hg rfl ?_
      refine wk_Hs 3 20 ⟨rfl, rfl⟩ (ls' := [.ref 0, .int x1, .int x2, .int x3, w4]) (st' := [.int x3, .ref 18, .int (s.1 17 (x3.toNatClampNeg)), .ref 0]) (σ' := s) rfl ?_
      obtain ⟨hg, h⟩ := wk_gdE h
      refine wk_Hia 21 rfl rfl rfl hg rfl ?_
      obtain ⟨v1, hv1, h⟩ := wk_bindE h
      refine wk_Hcall (i2 := 22) (args := [.ref 0, .int (s.1 17 (x3.toNatClampNeg)), .int (s.1 18 (x3.toNatClampNeg))]) (rest := []) (r := some (.int v1.1)) (σ1 := v1.2) rfl rfl ⟨rfl, rfl, rfl, rfl, rfl⟩ rfl ((t_X12_comesTo hv1).up (by decide)) ?_
      refine wk_Hs 1 23 ⟨rfl, rfl⟩ (ls' := [.ref 0, .int x1, .int x2, .int x3, w4]) (st' := [.int (1 : Int32), .int v1.1]) (σ' := v1.2) rfl ?_
      rcases wk_ife h with ⟨hc, h⟩ | ⟨hc, h⟩
      · refine wk_Hbt 25 rfl (wk_ceq.2 hc) ?_
        refine wk_Hs 4 29 ⟨rfl, rfl⟩ (ls' := [.ref 0, .int x1, .int x2, .int x3, w4]) (st' := [.int x3, .ref 16, .ref 0]) (σ' := v1.2) rfl ?_
        obtain ⟨hg, h⟩ := wk_gdE h
        refine wk_Hia 30 rfl rfl rfl hg rfl ?_
        refine wk_Hs 3 33 ⟨rfl, rfl⟩ (ls' := [.ref 0, .int x1, .int x2, .int x3, w4]) (st' := [.int x3, .ref 17, .int (v1.2.1 16 (x3.toNatClampNeg)), .ref 0]) (σ' := v1.2) rfl ?_
        obtain ⟨hg, h⟩ := wk_gdE h
        refine wk_Hia 34 rfl rfl rfl hg rfl ?_
        obtain ⟨v2, hv2, h⟩ := wk_bindE h
        refine wk_Hcall (i2 := 35) (args := [.ref 0, .int (v1.2.1 16 (x3.toNatClampNeg)), .int (v1.2.1 17 (x3.toNatClampNeg))]) (rest := []) (r := some (.int v2.1)) (σ1 := v2.2) rfl rfl ⟨rfl, rfl, rfl, rfl, rfl⟩ rfl ((t_X12_comesTo hv2).up (by decide)) ?_
        refine wk_Hs 2 37 ⟨rfl, rfl⟩ (ls' := [.ref 0, .int x1, .int x2, .int x3, .int v2.1]) (st' := [.int v2.1]) (σ' := v2.2) rfl ?_
        rcases wk_ife h with ⟨hc, h⟩ | ⟨hc, h⟩
        · refine wk_H0t 40 rfl (wk_cge.2 hc) ?_
          refine wk_Hs 2 42 ⟨rfl, rfl⟩ (ls' := [.ref 0, .int x1, .int x2, .int x3, .int v2.1]) (st' := [.int x2, .int v2.1]) (σ' := v2.2) rfl ?_
          rcases wk_ife h with ⟨hc, h⟩ | ⟨hc, h⟩
          · refine wk_Hbt 45 rfl (wk_cle.2 hc) ?_
            refine wk_Hs 1 46 ⟨rfl, rfl⟩ (ls' := [.ref 0, .int x1, .int x2, .int x3, .int v2.1]) (st' := [.int v2.1]) (σ' := v2.2) rfl ?_
            cases h
            exact wk_eqz hk (wk_Hret rfl)
          · refine wk_Hbf 45 43 rfl rfl (wk_nf wk_cle hc) ?_
            refine wk_Hs 1 44 ⟨rfl, rfl⟩ (ls' := [.ref 0, .int x1, .int x2, .int x3, .int v2.1]) (st' := [.int x2]) (σ' := v2.2) rfl ?_
            refine wk_Hgoto (t := 46) rfl ?_
            cases h
            exact wk_eqz hk (wk_Hret rfl)
        · refine wk_H0f 40 38 rfl rfl (wk_nf wk_cge hc) ?_
          refine wk_Hs 1 39 ⟨rfl, rfl⟩ (ls' := [.ref 0, .int x1, .int x2, .int x3, .int v2.1]) (st' := [.int (0 : Int32)]) (σ' := v2.2) rfl ?_
          refine wk_Hgoto (t := 46) rfl ?_
          cases h
          exact wk_eqz hk (wk_Hret rfl)
      · refine wk_Hbf 25 24 rfl rfl (wk_nf wk_ceq hc) ?_
        refine wk_Hgoto (t := 47) rfl ?_
        refine wk_Hs 1 48 ⟨rfl, rfl⟩ (ls' := [.ref 0, .int x1, .int x2, .int (x3 + (1 : Int32)), w4]) (st' := []) (σ' := v1.2) rfl ?_
        refine wk_Hgoto (t := 2) rfl ?_
        cases h
        exact hk
