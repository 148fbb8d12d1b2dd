/-! THE LAW: its loop, its start -/
theorem lw_len {x : Int32} {n : Nat} (hn : n ≤ 3584) : Int32.ofNat n = nI n := rfl
theorem lw_more {i L : Nat} (hL : L ≤ 3584) (hi : i ≤ L + 7) : nI i > nI L - nI 7 ↔ L < i + 7 := by
  rw [gt_iff_lt, Int32.lt_iff_toInt_lt, pk_sub_toInt (by omega) (by omega), nI_toInt (by omega)]
  omega
set_option maxHeartbeats 8000000 in
set_option maxRecDepth 100000 in
theorem lw_loop {Inv : wk_St → wk_St → Prop} (h0 : lw_op_0 Inv) (h1 : lw_op_1 Inv) (h2 : lw_op_2 Inv) (h3 : lw_op_3 Inv) (h4 : lw_op_4 Inv) (h5 : lw_op_5 Inv) (h6 : lw_op_6 Inv) (h7 : lw_op_7 Inv) (h8 : lw_op_8 Inv) (h9 : lw_op_9 Inv) (h10 : lw_op_10 Inv) (h11 : lw_op_11 Inv) (h12 : lw_op_12 Inv) (h13 : lw_op_13 Inv) (h14 : lw_op_14 Inv) (h15 : lw_op_15 Inv) (h16 : lw_op_16 Inv) (h17 : lw_op_17 Inv) (h18 : lw_op_18 Inv) (h19 : lw_op_19 Inv) (h20 : lw_op_20 Inv) (h21 : lw_op_21 Inv) (h22 : lw_op_22 Inv) (h23 : lw_op_23 Inv) (h24 : lw_op_24 Inv) (h25 : lw_op_25 Inv) (h26 : lw_op_26 Inv) (h27 : lw_op_27 Inv) (h28 : lw_op_28 Inv) (h29 : lw_op_29 Inv) (h30 : lw_op_30 Inv) (h31 : lw_op_31 Inv) (h32 : lw_op_32 Inv) (h33 : lw_op_33 Inv) (h34 : lw_op_34 Inv) {p : Program} {l : Launch} {e : Env} {s : State} {m : MethodId} {below : List Frame} {meth : Method} {c : Code} {b L : Nat} {xs : Nat → Int32} (C0 : lw_At p s m meth c b L xs) {G : lw_G} (hg : lw_Ok G s) (hL : L ≤ 3584) :
    ∀ (n i : Nat) (xi : Int32), xi = nI i → i ≤ L + 7 → L + 8 ≤ n + i → ∀ (σC σM : wk_St), Inv σC σM → ∀ (H : Heap) (locs : List Loc), va_P G.1 wk_cls (lw_wC G σC) H → va_P G.1 wk_cls (lw_wM G σM) H → va_S (fun q : Nat => s.heap.size ≤ q) s.heap H locs → ∀ ls : Array Slot, lv_has ls 4 [(0, .ref b), (1, .ref (G.2.1 0)), (2, .ref (G.2.2.1 0)), (3, .int xi)] →
      W p l e room_1 s m #[Value.ref b] below meth c H locs 600000 7302250 (lw_Z below #[Value.ref b] s) (F0 m 18 ls []) := by
  obtain ⟨hx, hb, hr, hml, hown, hts, hX, hbl, hlocks, hgv⟩ := id C0
  have hbA : ¬ s.heap.size ≤ b := Nat.not_le.mpr hbl
  intro n
  induction n with
  | zero => intro i xi ei hi hn; omega
  | succ n ih =>
  intro i xi ei hi hn σC σM hI H locs hPC hPM hS ls hl
  refine lv_iload_n hx hb d_law_18 rfl (lv_at hl 3 rfl) ?_
  refine lv_aload_n hx hb d_law_19 rfl (lv_at hl 0 rfl) ?_
  refine va_slen hx hb hX hbl hbA hS d_law_20 ?_
  refine lv_bipush (v := 7) hx hb d_law_21 (by decide) ?_
  refine lv_isub hx hb d_law_23 ?_
  refine lv_icmp_gt (tgt := 1347) hx hb d_law_24 (by decide) (fun hc => ?_) (fun hc => ?_)
  · refine va_forget (fun q hq => hS.2.2 q hq) ?_
    refine lv_iconst (v := 1) hx hb d_law_1347 (by decide) ?_
    exact lw_ret hx hb hr hlocks d_law_1348
  · have hiL : i + 7 ≤ L := by
      have h2 : ¬ L < i + 7 := fun h => hc (show xi > Int32.ofNat L - 7 by rw [ei]; exact (lw_more hL hi).mpr h)
      omega
    have hend : ∀ (σC2 σM2 : wk_St), Inv σC2 σM2 → ∀ (H2 : Heap) (locs2 : List Loc), va_P G.1 wk_cls (lw_wC G σC2) H2 → va_P G.1 wk_cls (lw_wM G σM2) H2 → va_S (fun q : Nat => s.heap.size ≤ q) s.heap H2 locs2 → ∀ ls2 : Array Slot, lv_has ls2 4 [(0, .ref b), (1, .ref (G.2.1 0)), (2, .ref (G.2.2.1 0)), (3, .int xi)] →
        W p l e room_1 s m #[Value.ref b] below meth c H2 locs2 600000 7302250 (lw_Z below #[Value.ref b] s) (F0 m 1341 ls2 []) := by
      intro σC2 σM2 hI2 H2 locs2 hPC2 hPM2 hS2 ls2 hl2
      refine lv_iinc (v := xi + 7) (lv' := [(3, .int (xi + 7)), (0, .ref b), (1, .ref (G.2.1 0)), (2, .ref (G.2.2.1 0))]) hx hb d_law_1341 hl2 (k := 3) rfl rfl (by decide) rfl (fun ls3 hl3 => ?_)
      refine lv_goto (tgt := 18) hx hb d_law_1344 (by decide) ?_
      exact ih (i + 7) (xi + 7) (by rw [ei]; exact nI_add i 7) (by omega) (by omega) σC2 σM2 hI2 H2 locs2 hPC2 hPM2 hS2 ls3 (lv_sub hl3 [1, 2, 3, 0] rfl)
    refine lv_aload_n hx hb d_law_27 rfl (lv_at hl 0 rfl) ?_
    refine lv_iload_n hx hb d_law_28 rfl (lv_at hl 3 rfl) ?_
    refine va_sld hx hb hX hbl hbA hS (by rw [ei]; exact vp_in_nI (by omega) (by omega)) d_law_29 ?_
    refine lv_bipush (v := 63) hx hb d_law_30 (by decide) ?_
    refine lv_iand hx hb d_law_32 ?_
    obtain ⟨j, hj, ej⟩ := pk_andE (xs xi.toNatClampNeg) (m := 63) 6 (by decide)
    rw [ej]
    by_cases hj2 : j < 35
    · rcases (show j = 0 ∨ j = 1 ∨ j = 2 ∨ j = 3 ∨ j = 4 ∨ j = 5 ∨ j = 6 ∨ j = 7 ∨ j = 8 ∨ j = 9 ∨ j = 10 ∨ j = 11 ∨ j = 12 ∨ j = 13 ∨ j = 14 ∨ j = 15 ∨ j = 16 ∨ j = 17 ∨ j = 18 ∨ j = 19 ∨ j = 20 ∨ j = 21 ∨ j = 22 ∨ j = 23 ∨ j = 24 ∨ j = 25 ∨ j = 26 ∨ j = 27 ∨ j = 28 ∨ j = 29 ∨ j = 30 ∨ j = 31 ∨ j = 32 ∨ j = 33 ∨ j = 34 by omega) with rfl | rfl | rfl | rfl | rfl | rfl | rfl | rfl | rfl | rfl | rfl | rfl | rfl | rfl | rfl | rfl | rfl | rfl | rfl | rfl | rfl | rfl | rfl | rfl | rfl | rfl | rfl | rfl | rfl | rfl | rfl | rfl | rfl | rfl | rfl
      · exact lv_tableIn (off := 155) (tgt := 188) hx hb d_law_33 (by decide) (by decide) (by decide) (by decide) (lw_case_0 h0 C0 hg ei (by omega) hL hI hPC hPM hS hl hend)
      · exact lv_tableIn (off := 178) (tgt := 211) hx hb d_law_33 (by decide) (by decide) (by decide) (by decide) (lw_case_1 h1 C0 hg ei (by omega) hL hI hPC hPM hS hl hend)
      · exact lv_tableIn (off := 237) (tgt := 270) hx hb d_law_33 (by decide) (by decide) (by decide) (by decide) (lw_case_2 h2 C0 hg ei (by omega) hL hI hPC hPM hS hl hend)
      · exact lv_tableIn (off := 280) (tgt := 313) hx hb d_law_33 (by decide) (by decide) (by decide) (by decide) (lw_case_3 h3 C0 hg ei (by omega) hL hI hPC hPM hS hl hend)
      · exact lv_tableIn (off := 303) (tgt := 336) hx hb d_law_33 (by decide) (by decide) (by decide) (by decide) (lw_case_4 h4 C0 hg ei (by omega) hL hI hPC hPM hS hl hend)
      · exact lv_tableIn (off := 366) (tgt := 399) hx hb d_law_33 (by decide) (by decide) (by decide) (by decide) (lw_case_5 h5 C0 hg ei (by omega) hL hI hPC hPM hS hl hend)
      · exact lv_tableIn (off := 389) (tgt := 422) hx hb d_law_33 (by decide) (by decide) (by decide) (by decide) (lw_case_6 h6 C0 hg ei (by omega) hL hI hPC hPM hS hl hend)
      · exact lv_tableIn (off := 422) (tgt := 455) hx hb d_law_33 (by decide) (by decide) (by decide) (by decide) (lw_case_7 h7 C0 hg ei (by omega) hL hI hPC hPM hS hl hend)
      · exact lv_tableIn (off := 445) (tgt := 478) hx hb d_law_33 (by decide) (by decide) (by decide) (by decide) (lw_case_8 h8 C0 hg ei (by omega) hL hI hPC hPM hS hl hend)
      · exact lv_tableIn (off := 468) (tgt := 501) hx hb d_law_33 (by decide) (by decide) (by decide) (by decide) (lw_case_9 h9 C0 hg ei (by omega) hL hI hPC hPM hS hl hend)
      · exact lv_tableIn (off := 501) (tgt := 534) hx hb d_law_33 (by decide) (by decide) (by decide) (by decide) (lw_case_10 h10 C0 hg ei (by omega) hL hI hPC hPM hS hl hend)
      · exact lv_tableIn (off := 534) (tgt := 567) hx hb d_law_33 (by decide) (by decide) (by decide) (by decide) (lw_case_11 h11 C0 hg ei (by omega) hL hI hPC hPM hS hl hend)
      · exact lv_tableIn (off := 567) (tgt := 600) hx hb d_law_33 (by decide) (by decide) (by decide) (by decide) (lw_case_12 h12 C0 hg ei (by omega) hL hI hPC hPM hS hl hend)
      · exact lv_tableIn (off := 600) (tgt := 633) hx hb d_law_33 (by decide) (by decide) (by decide) (by decide) (lw_case_13 h13 C0 hg ei (by omega) hL hI hPC hPM hS hl hend)
      · exact lv_tableIn (off := 633) (tgt := 666) hx hb d_law_33 (by decide) (by decide) (by decide) (by decide) (lw_case_14 h14 C0 hg ei (by omega) hL hI hPC hPM hS hl hend)
      · exact lv_tableIn (off := 666) (tgt := 699) hx hb d_law_33 (by decide) (by decide) (by decide) (by decide) (lw_case_15 h15 C0 hg ei (by omega) hL hI hPC hPM hS hl hend)
      · exact lv_tableIn (off := 699) (tgt := 732) hx hb d_law_33 (by decide) (by decide) (by decide) (by decide) (lw_case_16 h16 C0 hg ei (by omega) hL hI hPC hPM hS hl hend)
      · exact lv_tableIn (off := 732) (tgt := 765) hx hb d_law_33 (by decide) (by decide) (by decide) (by decide) (lw_case_17 h17 C0 hg ei (by omega) hL hI hPC hPM hS hl hend)
      · exact lv_tableIn (off := 765) (tgt := 798) hx hb d_law_33 (by decide) (by decide) (by decide) (by decide) (lw_case_18 h18 C0 hg ei (by omega) hL hI hPC hPM hS hl hend)
      · exact lv_tableIn (off := 798) (tgt := 831) hx hb d_law_33 (by decide) (by decide) (by decide) (by decide) (lw_case_19 h19 C0 hg ei (by omega) hL hI hPC hPM hS hl hend)
      · exact lv_tableIn (off := 811) (tgt := 844) hx hb d_law_33 (by decide) (by decide) (by decide) (by decide) (lw_case_20 h20 C0 hg ei (by omega) hL hI hPC hPM hS hl hend)
      · exact lv_tableIn (off := 844) (tgt := 877) hx hb d_law_33 (by decide) (by decide) (by decide) (by decide) (lw_case_21 h21 C0 hg ei (by omega) hL hI hPC hPM hS hl hend)
      · exact lv_tableIn (off := 887) (tgt := 920) hx hb d_law_33 (by decide) (by decide) (by decide) (by decide) (lw_case_22 h22 C0 hg ei (by omega) hL hI hPC hPM hS hl hend)
      · exact lv_tableIn (off := 920) (tgt := 953) hx hb d_law_33 (by decide) (by decide) (by decide) (by decide) (lw_case_23 h23 C0 hg ei (by omega) hL hI hPC hPM hS hl hend)
      · exact lv_tableIn (off := 953) (tgt := 986) hx hb d_law_33 (by decide) (by decide) (by decide) (by decide) (lw_case_24 h24 C0 hg ei (by omega) hL hI hPC hPM hS hl hend)
      · exact lv_tableIn (off := 986) (tgt := 1019) hx hb d_law_33 (by decide) (by decide) (by decide) (by decide) (lw_case_25 h25 C0 hg ei (by omega) hL hI hPC hPM hS hl hend)
      · exact lv_tableIn (off := 1029) (tgt := 1062) hx hb d_law_33 (by decide) (by decide) (by decide) (by decide) (lw_case_26 h26 C0 hg ei (by omega) hL hI hPC hPM hS hl hend)
      · exact lv_tableIn (off := 1104) (tgt := 1137) hx hb d_law_33 (by decide) (by decide) (by decide) (by decide) (lw_case_27 h27 C0 hg ei (by omega) hL hI hPC hPM hS hl hend)
      · exact lv_tableIn (off := 1157) (tgt := 1190) hx hb d_law_33 (by decide) (by decide) (by decide) (by decide) (lw_case_28 h28 C0 hg ei (by omega) hL hI hPC hPM hS hl hend)
      · exact lv_tableIn (off := 1180) (tgt := 1213) hx hb d_law_33 (by decide) (by decide) (by decide) (by decide) (lw_case_29 h29 C0 hg ei (by omega) hL hI hPC hPM hS hl hend)
      · exact lv_tableIn (off := 1213) (tgt := 1246) hx hb d_law_33 (by decide) (by decide) (by decide) (by decide) (lw_case_30 h30 C0 hg ei (by omega) hL hI hPC hPM hS hl hend)
      · exact lv_tableIn (off := 1236) (tgt := 1269) hx hb d_law_33 (by decide) (by decide) (by decide) (by decide) (lw_case_31 h31 C0 hg ei (by omega) hL hI hPC hPM hS hl hend)
      · exact lv_tableIn (off := 1249) (tgt := 1282) hx hb d_law_33 (by decide) (by decide) (by decide) (by decide) (lw_case_32 h32 C0 hg ei (by omega) hL hI hPC hPM hS hl hend)
      · exact lv_tableIn (off := 1262) (tgt := 1295) hx hb d_law_33 (by decide) (by decide) (by decide) (by decide) (lw_case_33 h33 C0 hg ei (by omega) hL hI hPC hPM hS hl hend)
      · exact lv_tableIn (off := 1285) (tgt := 1318) hx hb d_law_33 (by decide) (by decide) (by decide) (by decide) (lw_case_34 h34 C0 hg ei (by omega) hL hI hPC hPM hS hl hend)
    · exact lv_tableOut (tgt := 1341) hx hb d_law_33 (Or.inr (by rw [nI_toInt (by omega)]; omega)) (by decide) (hend _ _ hI _ _ hPC hPM hS ls hl)
/-- what the constructors leave -/
def wk_s0C : wk_St := (fun k => cond (Nat.beq k 8) (fun j => cond (Nat.beq j 6) 1 0) (cond (Nat.beq k 13) (fun j => cond (Nat.beq j 6) 1 0) (cond (Nat.beq k 18) (fun j => cond (Nat.beq j 6) 1 0) (cond (Nat.beq k 23) (fun j => cond (Nat.beq j 5) (-1) 0) (fun _ => 0)))), fun _ _ => 0)
def wk_s0M : wk_St := (fun k => cond (Nat.beq k 1) (upd (fun _ => 0) 46 1) (fun _ => 0), fun _ _ => 0)
