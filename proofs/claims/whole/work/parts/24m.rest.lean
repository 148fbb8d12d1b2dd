/-! PURE: law: what the model's condition has still to do -/
def iv_cR (v12 : wk_St) : Option ((Bool × wk_St) ⊕ (wk_St)) :=
  Option.bind (f_X12_here v12) fun v13 =>
  if v13 = (38 : Int32) then
    Option.bind (f_X12_here v12) fun v14 =>
    if ¬ v14 = (124 : Int32) then
      j_X12_readsCondition_102_l22 (0 : Int32) v12
    else
      j_X12_readsCondition_102_l22 (1 : Int32) v12
  else
    Option.bind (f_X12_here v12) fun v19 =>
    if v19 = (124 : Int32) then
      Option.bind (f_X12_here v12) fun v20 =>
      if ¬ v20 = (124 : Int32) then
        j_X12_readsCondition_102_l22 (0 : Int32) v12
      else
        j_X12_readsCondition_102_l22 (1 : Int32) v12
    else
      wk_let (f_X12_wrongAt (1 : Int32) (v12.1 0 10) v12) fun v21 =>
      some (Sum.inl (v21.1, v21.2))
def iv_cK (G : Nat) (m : wk_St) : Option (Bool × wk_St) := Option.bind (iv_cR m) fun o => match o with
  | Sum.inl a => some a
  | Sum.inr q => wk_loop S_X12_readsCondition_22 G q
def iv_cD (F G : Nat) (m : wk_St) : Option (Bool × wk_St) := Option.bind (wk_loop S_X12_readsCondition_47 F m) fun o => match o with
  | Sum.inl a => some a
  | Sum.inr q => iv_cK G q
def iv_cE (Fe F G : Nat) (m : wk_St) : Option (Bool × wk_St) := Option.bind (wk_loop S_X12_endsPiece_0 Fe m) fun q => iv_cD F G q
theorem po_cC {m m2 : wk_St} {G : Nat} {z : Int32} (hs : f_X12_here m = some z) (h33 : ¬ z = 33) (h40 : ¬ z = 40) (h : f_X12_readsCompared m = Option.bind (f_X12_endsPiece m2) fun v7 => some (true, v7)) : wk_loop S_X12_readsCondition_22 (G + 1) m = iv_cE wk_F wk_F G m2 := by
  have e : S_X12_readsCondition_22 m = Option.bind (wk_loop S_X12_endsPiece_0 wk_F m2) fun v => Option.bind (wk_loop S_X12_readsCondition_47 wk_F v) fun o => match o with
      | Sum.inl r => some (Sum.inl r)
      | Sum.inr q => iv_cR q := by
    unfold S_X12_readsCondition_22
    rw [hs]
    dsimp only [Option.bind]
    rw [if_neg h33, if_pos h40, h]
    unfold f_X12_endsPiece
    cases wk_loop S_X12_endsPiece_0 wk_F m2 with
    | none => rfl
    | some v =>
      dsimp only [Option.bind]
      rw [if_pos rfl]
      rfl
  unfold iv_cE
  conv => lhs; unfold wk_loop
  rw [e]
  cases wk_loop S_X12_endsPiece_0 wk_F m2 with
  | none => rfl
  | some v =>
    dsimp only [Option.bind]
    unfold iv_cD
    cases wk_loop S_X12_readsCondition_47 wk_F v with
    | none => rfl
    | some o =>
      cases o with
      | inl r => rfl
      | inr q =>
        dsimp only [Option.bind]
        unfold iv_cK
        cases iv_cR q with
        | none => rfl
        | some o =>
          cases o with
          | inl a => rfl
          | inr a => rfl
theorem po_cCn {m m2 : wk_St} {G : Nat} {z : Int32} (hs : f_X12_here m = some z) (h33 : ¬ z = 33) (h40 : ¬ z = 40) (h : f_X12_readsCompared m = some (false, m2)) : wk_loop S_X12_readsCondition_22 (G + 1) m = some (false, m2) := by
  refine wk_loopI ?_
  unfold S_X12_readsCondition_22
  rw [hs]
  dsimp only [Option.bind]
  rw [if_neg h33, if_pos h40, h]
  rfl
/-- '!' (x = 10) or '(' (x = 13) -/
theorem po_cO {m : wk_St} {z x : Int32} (hs : f_X12_here m = some z) (h : (z = 33 ∧ x = 10) ∨ (z = 40 ∧ x = 13)) : S_X12_readsCondition_22 m = Option.bind (f_X12_opens x m) fun v => if v.1 = true then some (Sum.inr v.2) else some (Sum.inl (false, v.2)) := by
  unfold S_X12_readsCondition_22 j_X12_readsCondition_30_l22
  rw [hs]
  dsimp only [Option.bind]
  rcases h with ⟨rfl, rfl⟩ | ⟨rfl, rfl⟩
  · rw [if_pos rfl, if_neg (fun k => k rfl)]
  · rw [if_neg (by decide), if_neg (fun k => k rfl), if_pos (by decide)]
theorem po_cEb {m m2 : wk_St} {Fe F G : Nat} (h : S_X12_endsPiece_0 m = some (Sum.inr m2)) : iv_cE (Fe + 1) F G m = iv_cE Fe F G m2 := by
  unfold iv_cE
  rw [wk_loopS h]
theorem po_cEs {m : wk_St} {Fe F G : Nat} (h : S_X12_endsPiece_0 m = some (Sum.inl m)) : iv_cE (Fe + 1) F G m = iv_cD F G m := by
  unfold iv_cE
  rw [wk_loopI h]
  rfl
theorem po_cDs {m : wk_St} {F G : Nat} {z : Int32} (hs : f_X12_here m = some z) (h : ¬ z = 41) : iv_cD (F + 1) G m = iv_cK G m := by
  have e : S_X12_readsCondition_47 m = some (Sum.inl (Sum.inr m)) := by
    unfold S_X12_readsCondition_47
    rw [hs]
    dsimp only [Option.bind]
    rw [if_pos h]
  unfold iv_cD
  rw [wk_loopI e]
  rfl
/-- ')': what waits lands, the bracket is closed -/
theorem po_c47 {m m2 M : wk_St} {h d p : Nat} (hs : f_X12_here m = some 41) (hl : f_X12_lands 1 m = some m2) (h16 : m2.1 0 16 = nI (h + 1)) (h14 : m2.1 0 14 = nI (d + 1)) (h10 : m2.1 0 10 = nI p) (hM : M = wk_si (wk_si (wk_si m2 0 16 (nI h)) 0 14 (nI d)) 0 10 (nI (p + 1))) :
    S_X12_readsCondition_47 m = if ¬ nI h = 0 then Option.bind (f_X12_endsPiece M) fun v => some (Sum.inr v) else some (Sum.inl (Sum.inl (true, M))) := by
  have u1 : m2.1 0 16 - 1 = nI h := by rw [h16, Int32.sub_eq_iff_eq_add, nI_1]
  have u2 : (wk_si m2 0 16 (nI h)).1 0 14 - 1 = nI d := by rw [po_si_ne (by decide), h14, Int32.sub_eq_iff_eq_add, nI_1]
  have u3 : (wk_si (wk_si m2 0 16 (nI h)) 0 14 (nI d)).1 0 10 + 1 = nI (p + 1) := by rw [po_si_ne (by decide), po_si_ne (by decide), h10, nI_1]
  have u4 : M.1 0 16 = nI h := by rw [hM, po_si_ne (by decide), po_si_ne (by decide)]; exact po_si_at
  unfold S_X12_readsCondition_47
  rw [hs]
  dsimp only [Option.bind]
  rw [if_neg (fun k => k rfl), hl]
  dsimp only
  rw [u1, u2, u3, ← hM, u4]
theorem po_cDp {m M : wk_St} {F G h : Nat} (e : S_X12_readsCondition_47 m = if ¬ nI h = 0 then Option.bind (f_X12_endsPiece M) fun v => some (Sum.inr v) else some (Sum.inl (Sum.inl (true, M)))) (h0 : 0 < h) (hh : h < 2 ^ 31) : iv_cD (F + 1) G m = iv_cE wk_F F G M := by
  rw [if_pos (fun k => by have := (nI_eq (b := 0) hh (by decide)).mp k; omega)] at e
  unfold f_X12_endsPiece at e
  unfold iv_cE iv_cD
  cases hv : wk_loop S_X12_endsPiece_0 wk_F M with
  | none =>
    rw [hv] at e
    conv => lhs; unfold wk_loop
    rw [e]
    rfl
  | some v =>
    rw [hv] at e
    dsimp only [Option.bind] at e
    rw [wk_loopS e]
    rfl
theorem po_cDe {m M : wk_St} {F G : Nat} (e : S_X12_readsCondition_47 m = if ¬ nI 0 = 0 then Option.bind (f_X12_endsPiece M) fun v => some (Sum.inr v) else some (Sum.inl (Sum.inl (true, M)))) : iv_cD (F + 1) G m = some (true, M) := by
  rw [if_neg (fun k => k rfl)] at e
  unfold iv_cD
  rw [wk_loopI e]
  rfl
theorem po_cKx {m : wk_St} {G : Nat} {z : Int32} (hs : f_X12_here m = some z) (h1 : ¬ z = 38) (h2 : ¬ z = 124) : iv_cK G m = some ((f_X12_wrongAt 1 (m.1 0 10) m).1, (f_X12_wrongAt 1 (m.1 0 10) m).2) := by
  unfold iv_cK iv_cR
  rw [hs]
  dsimp only [Option.bind]
  rw [if_neg h1, if_neg h2]
  rfl
theorem po_cKj {m m2 m3 : wk_St} {G : Nat} {z y x : Int32} (hs : f_X12_here m = some z) (h : (z = 38 ∧ y = 0 ∧ x = 11) ∨ (z = 124 ∧ y = 1 ∧ x = 12)) (hl : f_X12_lands y m = some m2) (hs2 : f_X12_here m2 = some z) (hj : f_X12_jumps x m2 = some m3) : iv_cK G m = wk_loop S_X12_readsCondition_22 G m3 := by
  have e : iv_cR m = some (Sum.inr m3) := by
    unfold iv_cR j_X12_readsCondition_102_l22
    rw [hs]
    dsimp only [Option.bind]
    rcases h with ⟨rfl, rfl, rfl⟩ | ⟨rfl, rfl, rfl⟩
    · rw [if_pos rfl, if_pos (by decide), hl]
      dsimp only
      rw [hs2]
      dsimp only
      rw [if_neg (fun k => k rfl), hj]
    · rw [if_neg (by decide), if_pos rfl, if_neg (fun k => k rfl), hl]
      dsimp only
      rw [hs2]
      dsimp only
      rw [if_pos (by decide), hj]
  unfold iv_cK
  rw [e]
  rfl
