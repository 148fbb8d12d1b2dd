section SIM2
variable {p : Program} {l : Launch} {e : Env} {R : Room} {s : State} {m : MethodId} {args : Array Value} {below : List Frame} {meth : Method} {c : Code} {Q : State → Prop}
variable {D : va_G} {tys : List (ClassId × FieldType)} {sh : Nat → Option wk_De} {N : Nat} {ad : Nat → Nat} {cA : Nat → ClassId} {A : Nat → Prop} {f : Nat} {σ σ' : wk_St} {als als' ast ast' : List Value} {pc nx : Nat}
theorem wk_FK (F : wk_Fx p s m args meth c D tys sh N ad cA A f) : va_K D wk_cls tys s := F.2.2.2.2.2.2.2.1
theorem wk_FN (F : wk_Fx p s m args meth c D tys sh N ad cA A f) : wk_NW s := F.2.2.2.2.2.2.2.2.1
theorem wk_FS (F : wk_Fx p s m args meth c D tys sh N ad cA A f) : wk_ST A (ad 999) s s.heap := F.2.2.2.2.2.2.2.2.2.1
theorem wk_FO (F : wk_Fx p s m args meth c D tys sh N ad cA A f) : wk_OK sh N cA tys := F.2.2.2.2.2.2.2.2.2.2
theorem wk_w0 {k n : Nat} (h : sh k = some (.inl (0, n))) (hN : k < N) : (wk_w sh N ad cA σ)[k]? = some (ad k, .inl (cA k, n, .inl (σ.1 k))) := by
  rw [wk_w_get hN]; unfold wk_ce; rw [h]; rfl
theorem wk_w1 {k n : Nat} (h : sh k = some (.inl (1, n))) (hN : k < N) : (wk_w sh N ad cA σ)[k]? = some (ad k, .inl (cA k, n, .inr (.inl (σ.2 k)))) := by
  rw [wk_w_get hN]; unfold wk_ce; rw [h]; rfl
theorem wk_w2 {k n : Nat} (h : sh k = some (.inl (2, n))) (hN : k < N) : (wk_w sh N ad cA σ)[k]? = some (ad k, .inl (cA k, n, .inl (σ.1 k))) := by
  rw [wk_w_get hN]; unfold wk_ce; rw [h]; rfl
theorem wk_upd {k j : Nat} {x : Int32} : (wk_si σ k j x).1 k = upd (σ.1 k) j x := by
  funext b
  by_cases hb : b = j <;> simp [wk_si, upd, hb]
theorem wk_updL {k j : Nat} {x : Int64} : (wk_sl σ k j x).2 k = vp_updL (σ.2 k) j x := by
  funext b
  by_cases hb : b = j <;> simp [wk_sl, vp_updL, hb]
theorem wk_q_arraylength (F : wk_Fx p s m args meth c D tys sh N ad cA A f) (hc : wk_chk (wk_mo f) (wk_mb f) (wk_mt f) (wk_mp f) pc nx (.arraylength) = true) (hs : wk_s sh (.arraylength) als ast σ = some (als', ast', σ')) (k : wk_WW p l e R s m args below meth c Q D sh N ad cA A f nx als' ast' σ') : wk_WW p l e R s m args below meth c Q D sh N ad cA A f pc als ast σ := by
  unfold wk_chk at hc
  unfold wk_s at hs
  dsimp only at hc hs
  split at hs
  · rename_i o t
    split at hs
    · rename_i ty n hsh
      cases hs
      obtain ⟨hd, rfl⟩ := wk_c1 hc
      intro H locs ls E
      have hty := (wk_FO F).2.2.2.2.1 o ty n hsh
      rcases (show ty = 0 ∨ ty = 1 ∨ ty = 2 ∨ ty = 3 by omega) with rfl | rfl | rfl | rfl
      · obtain ⟨hN, t0, ht⟩ := (wk_FO F).2.1 o n hsh
        exact va_alen F.1 F.2.1 (wk_FK F) E.1 o t0 (wk_w0 hsh hN) ht rfl hd (k _ _ _ E)
      · obtain ⟨hN, t0, ht⟩ := (wk_FO F).2.2.1 o n hsh
        exact va_alen F.1 F.2.1 (wk_FK F) E.1 o t0 (wk_w1 hsh hN) ht rfl hd (k _ _ _ E)
      · obtain ⟨hN, t0, ht⟩ := (wk_FO F).2.2.2.1 o n hsh
        exact va_alen F.1 F.2.1 (wk_FK F) E.1 o t0 (wk_w2 hsh hN) ht rfl hd (k _ _ _ E)
      · obtain ⟨rfl, rfl⟩ := (wk_FO F).1 o n hsh
        obtain ⟨cell, g1, g2, g3, g4, g5, g6, g7⟩ := (wk_FS F).2
        have hlt : ad 999 < s.heap.size := (Array.getElem?_eq_some_iff.mp g1).1
        exact W.alen (n := Int32.ofNat 12) F.1 F.2.1 (by rw [E.2.2.1.2.1 _ hlt g7]; exact g1) g2 g5 rfl rfl hd (k _ _ _ E)
    · cases hs
  · cases hs
theorem wk_q_iaload (F : wk_Fx p s m args meth c D tys sh N ad cA A f) (hc : wk_chk (wk_mo f) (wk_mb f) (wk_mt f) (wk_mp f) pc nx (.iaload) = true) (hs : wk_s sh (.iaload) als ast σ = some (als', ast', σ')) (k : wk_WW p l e R s m args below meth c Q D sh N ad cA A f nx als' ast' σ') : wk_WW p l e R s m args below meth c Q D sh N ad cA A f pc als ast σ := by
  unfold wk_chk at hc
  unfold wk_s at hs
  dsimp only at hc hs
  split at hs
  · rename_i j o t
    split at hs
    · rename_i n hsh
      cases hb : wk_in j n with
      | false => rw [hb] at hs; cases hs
      | true =>
        rw [hb] at hs
        cases hs
        obtain ⟨hd, rfl⟩ := wk_c1 hc
        intro H locs ls E
        obtain ⟨hN, t0, ht⟩ := (wk_FO F).2.1 o n hsh
        exact va_iald F.1 F.2.1 (wk_FK F) E.1 o t0 (wk_w0 hsh hN) ht (wk_in_vp hb) hd (k _ _ _ E)
    · rename_i n hsh
      cases hb : wk_in j n with
      | false => rw [hb] at hs; cases hs
      | true =>
        rw [hb] at hs
        cases hs
        obtain ⟨hd, rfl⟩ := wk_c1 hc
        intro H locs ls E
        obtain ⟨rfl, rfl⟩ := (wk_FO F).1 o n hsh
        exact va_ti F.1 F.2.1 (wk_FS F).2 E.2.2.1 (wk_in_vp hb) rfl hd (k _ _ _ E)
    · cases hs
  · cases hs
theorem wk_q_baload (F : wk_Fx p s m args meth c D tys sh N ad cA A f) (hc : wk_chk (wk_mo f) (wk_mb f) (wk_mt f) (wk_mp f) pc nx (.baload) = true) (hs : wk_s sh (.baload) als ast σ = some (als', ast', σ')) (k : wk_WW p l e R s m args below meth c Q D sh N ad cA A f nx als' ast' σ') : wk_WW p l e R s m args below meth c Q D sh N ad cA A f pc als ast σ := by
  unfold wk_chk at hc
  unfold wk_s at hs
  dsimp only at hc hs
  split at hs
  · rename_i j o t
    split at hs
    · rename_i n hsh
      cases hb : wk_in j n with
      | false => rw [hb] at hs; cases hs
      | true =>
        rw [hb] at hs
        cases hs
        obtain ⟨hd, rfl⟩ := wk_c1 hc
        intro H locs ls E
        obtain ⟨hN, t0, ht⟩ := (wk_FO F).2.2.2.1 o n hsh
        exact va_bald F.1 F.2.1 (wk_FK F) E.1 o t0 (wk_w2 hsh hN) ht (wk_in_vp hb) hd (k _ _ _ E)
    · cases hs
  · cases hs
theorem wk_q_laload (F : wk_Fx p s m args meth c D tys sh N ad cA A f) (hc : wk_chk (wk_mo f) (wk_mb f) (wk_mt f) (wk_mp f) pc nx (.laload) = true) (hs : wk_s sh (.laload) als ast σ = some (als', ast', σ')) (k : wk_WW p l e R s m args below meth c Q D sh N ad cA A f nx als' ast' σ') : wk_WW p l e R s m args below meth c Q D sh N ad cA A f pc als ast σ := by
  unfold wk_chk at hc
  unfold wk_s at hs
  dsimp only at hc hs
  split at hs
  · rename_i j o t
    split at hs
    · rename_i n hsh
      cases hb : wk_in j n with
      | false => rw [hb] at hs; cases hs
      | true =>
        rw [hb] at hs
        cases hs
        obtain ⟨hd, rfl⟩ := wk_c1 hc
        intro H locs ls E
        obtain ⟨hN, t0, ht⟩ := (wk_FO F).2.2.1 o n hsh
        exact va_lald F.1 F.2.1 (wk_FK F) E.1 o t0 (wk_w1 hsh hN) ht (wk_in_vp hb) hd (k _ _ _ E)
    · cases hs
  · cases hs
theorem wk_q_iastore (F : wk_Fx p s m args meth c D tys sh N ad cA A f) (hc : wk_chk (wk_mo f) (wk_mb f) (wk_mt f) (wk_mp f) pc nx (.iastore) = true) (hs : wk_s sh (.iastore) als ast σ = some (als', ast', σ')) (k : wk_WW p l e R s m args below meth c Q D sh N ad cA A f nx als' ast' σ') : wk_WW p l e R s m args below meth c Q D sh N ad cA A f pc als ast σ := by
  unfold wk_chk at hc
  unfold wk_s at hs
  dsimp only at hc hs
  split at hs
  · rename_i x j o t
    split at hs
    · rename_i n hsh
      cases hb : wk_in j n with
      | false => rw [hb] at hs; cases hs
      | true =>
        rw [hb] at hs
        cases hs
        obtain ⟨hd, rfl⟩ := wk_c1 hc
        intro H locs ls E
        obtain ⟨hN, t0, ht⟩ := (wk_FO F).2.1 o n hsh
        have hset : (wk_w sh N ad cA σ).set o (ad o, .inl (cA o, n, .inl (upd (σ.1 o) j.toNatClampNeg x))) = wk_w sh N ad cA (wk_si σ o j.toNatClampNeg x) := by
          refine wk_w_set hN ?_ (fun z hz => wk_ce_off (wk_si_off hz).1 (wk_si_off hz).2)
          unfold wk_ce
          rw [hsh]
          show (Sum.inl (cA o, n, Sum.inl ((wk_si σ o j.toNatClampNeg x).1 o)) : va_E) = _
          rw [wk_upd]
        exact va_iast F.1 F.2.1 (wk_FK F) E.1 E.2.1 E.2.2.1 o t0 (wk_w0 hsh hN) ht (wk_in_vp hb) hd (fun H1 locs1 hP hD hS => k _ _ _ ⟨by rw [← hset]; exact hP, by rw [← hset]; exact hD, hS, E.2.2.2⟩)
    · cases hs
  · cases hs
theorem wk_q_bastore (F : wk_Fx p s m args meth c D tys sh N ad cA A f) (hc : wk_chk (wk_mo f) (wk_mb f) (wk_mt f) (wk_mp f) pc nx (.bastore) = true) (hs : wk_s sh (.bastore) als ast σ = some (als', ast', σ')) (k : wk_WW p l e R s m args below meth c Q D sh N ad cA A f nx als' ast' σ') : wk_WW p l e R s m args below meth c Q D sh N ad cA A f pc als ast σ := by
  unfold wk_chk at hc
  unfold wk_s at hs
  dsimp only at hc hs
  split at hs
  · rename_i x j o t
    split at hs
    · rename_i n hsh
      cases hb : wk_in j n with
      | false => rw [hb] at hs; cases hs
      | true =>
        rw [hb] at hs
        cases hs
        obtain ⟨hd, rfl⟩ := wk_c1 hc
        intro H locs ls E
        obtain ⟨hN, t0, ht⟩ := (wk_FO F).2.2.2.1 o n hsh
        have hset : (wk_w sh N ad cA σ).set o (ad o, .inl (cA o, n, .inl (upd (σ.1 o) j.toNatClampNeg (vp_nar .byte x)))) = wk_w sh N ad cA (wk_si σ o j.toNatClampNeg x.toInt8.toInt32) := by
          refine wk_w_set hN ?_ (fun z hz => wk_ce_off (wk_si_off hz).1 (wk_si_off hz).2)
          unfold wk_ce
          rw [hsh]
          show (Sum.inl (cA o, n, Sum.inl ((wk_si σ o j.toNatClampNeg x.toInt8.toInt32).1 o)) : va_E) = _
          rw [wk_upd]
          rw [vp_nar_byte]
        exact va_bast F.1 F.2.1 (wk_FK F) E.1 E.2.1 E.2.2.1 o t0 (wk_w2 hsh hN) ht (wk_in_vp hb) hd (fun H1 locs1 hP hD hS => k _ _ _ ⟨by rw [← hset]; exact hP, by rw [← hset]; exact hD, hS, E.2.2.2⟩)
    · cases hs
  · cases hs
theorem wk_q_lastore (F : wk_Fx p s m args meth c D tys sh N ad cA A f) (hc : wk_chk (wk_mo f) (wk_mb f) (wk_mt f) (wk_mp f) pc nx (.lastore) = true) (hs : wk_s sh (.lastore) als ast σ = some (als', ast', σ')) (k : wk_WW p l e R s m args below meth c Q D sh N ad cA A f nx als' ast' σ') : wk_WW p l e R s m args below meth c Q D sh N ad cA A f pc als ast σ := by
  unfold wk_chk at hc
  unfold wk_s at hs
  dsimp only at hc hs
  split at hs
  · rename_i x j o t
    split at hs
    · rename_i n hsh
      cases hb : wk_in j n with
      | false => rw [hb] at hs; cases hs
      | true =>
        rw [hb] at hs
        cases hs
        obtain ⟨hd, rfl⟩ := wk_c1 hc
        intro H locs ls E
        obtain ⟨hN, t0, ht⟩ := (wk_FO F).2.2.1 o n hsh
        have hset : (wk_w sh N ad cA σ).set o (ad o, .inl (cA o, n, .inr (.inl (vp_updL (σ.2 o) j.toNatClampNeg x)))) = wk_w sh N ad cA (wk_sl σ o j.toNatClampNeg x) := by
          refine wk_w_set hN ?_ (fun z hz => wk_ce_off (wk_sl_off hz).1 (wk_sl_off hz).2)
          unfold wk_ce
          rw [hsh]
          show (Sum.inl (cA o, n, Sum.inr (Sum.inl ((wk_sl σ o j.toNatClampNeg x).2 o))) : va_E) = _
          rw [wk_updL]
        exact va_last F.1 F.2.1 (wk_FK F) E.1 E.2.1 E.2.2.1 o t0 (wk_w1 hsh hN) ht (wk_in_vp hb) hd (fun H1 locs1 hP hD hS => k _ _ _ ⟨by rw [← hset]; exact hP, by rw [← hset]; exact hD, hS, E.2.2.2⟩)
    · cases hs
  · cases hs
theorem wk_q_getstatic (F : wk_Fx p s m args meth c D tys sh N ad cA A f) {q : Nat} (hc : wk_chk (wk_mo f) (wk_mb f) (wk_mt f) (wk_mp f) pc nx (.getstatic q) = true) (hs : wk_s sh (.getstatic q) als ast σ = some (als', ast', σ')) (k : wk_WW p l e R s m args below meth c Q D sh N ad cA A f nx als' ast' σ') : wk_WW p l e R s m args below meth c Q D sh N ad cA A f pc als ast σ := by
  unfold wk_chk at hc
  unfold wk_s at hs
  dsimp only at hc hs
  cases hs
  rw [Bool.and_eq_true] at hc
  obtain ⟨hd, rfl⟩ := wk_c1 hc.2
  intro H locs ls E
  have hw := F.2.2.2.2.1 _ (wk_tbl (List.mem_of_getElem? wk_gall) rfl)
  rw [← Nat.eq_of_beq_eq_true hc.1] at hw
  exact va_gets F.1 F.2.1 (wk_FS F).1 E.2.2.1 F.2.2.2.1 hw (fun x hx => hx) hd (k _ _ _ E)
theorem wk_sim_s (F : wk_Fx p s m args meth c D tys sh N ad cA A f) {i : Instr} (hc : wk_chk (wk_mo f) (wk_mb f) (wk_mt f) (wk_mp f) pc nx i = true) (hs : wk_s sh i als ast σ = some (als', ast', σ')) (k : wk_WW p l e R s m args below meth c Q D sh N ad cA A f nx als' ast' σ') : wk_WW p l e R s m args below meth c Q D sh N ad cA A f pc als ast σ := by
  have hs' := hs
  unfold wk_s at hs
  split at hs
  all_goals first
    | exact wk_q_iload F hc hs' k
    | exact wk_q_lload F hc hs' k
    | exact wk_q_aload F hc hs' k
    | exact wk_q_istore F hc hs' k
    | exact wk_q_astore F hc hs' k
    | exact wk_q_lstore F hc hs' k
    | exact wk_q_iconst F hc hs' k
    | exact wk_q_ldc2 F hc hs' k
    | exact wk_q_iinc F hc hs' k
    | exact wk_q_dup F hc hs' k
    | exact wk_q_dup2 F hc hs' k
    | exact wk_q_pop F hc hs' k
    | exact wk_q_iadd F hc hs' k
    | exact wk_q_isub F hc hs' k
    | exact wk_q_imul F hc hs' k
    | exact wk_q_iand F hc hs' k
    | exact wk_q_ior F hc hs' k
    | exact wk_q_ixor F hc hs' k
    | exact wk_q_ishl F hc hs' k
    | exact wk_q_ishr F hc hs' k
    | exact wk_q_iushr F hc hs' k
    | exact wk_q_idiv F hc hs' k
    | exact wk_q_irem F hc hs' k
    | exact wk_q_i2b F hc hs' k
    | exact wk_q_l2i F hc hs' k
    | exact wk_q_ladd F hc hs' k
    | exact wk_q_land F hc hs' k
    | exact wk_q_lor F hc hs' k
    | exact wk_q_lshl F hc hs' k
    | exact wk_q_lushr F hc hs' k
    | exact wk_q_lcmp F hc hs' k
    | exact wk_q_getfield F hc hs' k
    | exact wk_q_putfield F hc hs' k
    | exact wk_q_getstatic F hc hs' k
    | exact wk_q_arraylength F hc hs' k
    | exact wk_q_iaload F hc hs' k
    | exact wk_q_baload F hc hs' k
    | exact wk_q_laload F hc hs' k
    | exact wk_q_iastore F hc hs' k
    | exact wk_q_bastore F hc hs' k
    | exact wk_q_lastore F hc hs' k
    | cases hs
end SIM2
