/-! THE LAW: its loop, its start -/
theorem lw_len {x : Int32} {n : Nat} (hn : n ≤ 3584) : Int32.ofNat n = nI n := rfl
theorem lw_more {i L : Nat} (hL : L ≤ 3584) (hi : i ≤ L + 7) : nI i > nI L - nI 7 ↔ L < i + 7 := by
  rw [gt_iff_lt, Int32.lt_iff_toInt_lt, pk_sub_toInt (by omega) (by omega), nI_toInt (by omega)]
  omega
set_option maxHeartbeats 8000000 in
set_option maxRecDepth 100000 in
theorem lw_loop {Inv : wk_St → wk_St → Prop} (h0 : lw_op_0 Inv) (h1 : lw_op_1 Inv) (h2 : lw_op_2 Inv) (h3 : lw_op_3 Inv) (h4 : lw_op_4 Inv) (h5 : lw_op_5 Inv) (h6 : lw_op_6 Inv) (h7 : lw_op_7 Inv) (h8 : lw_op_8 Inv) (h9 : lw_op_9 Inv) (h10 : lw_op_10 Inv) (h11 : lw_op_11 Inv) (h12 : lw_op_12 Inv) (h13 : lw_op_13 Inv) (h14 : lw_op_14 Inv) (h15 : lw_op_15 Inv) (h16 : lw_op_16 Inv) (h17 : lw_op_17 Inv) (h18 : lw_op_18 Inv) (h19 : lw_op_19 Inv) (h20 : lw_op_20 Inv) (h21 : lw_op_21 Inv) (h22 : lw_op_22 Inv) (h23 : lw_op_23 Inv) (h24 : lw_op_24 Inv) (h25 : lw_op_25 Inv) (h26 : lw_op_26 Inv) (h27 : lw_op_27 Inv) (h28 : lw_op_28 Inv) (h29 : lw_op_29 Inv) (h30 : lw_op_30 Inv) (h31 : lw_op_31 Inv) (h32 : lw_op_32 Inv) (h33 : lw_op_33 Inv) (h34 : lw_op_34 Inv) {p : Program} {l : Launch} {e : Env} {s : State} {m : MethodId} {below : List Frame} {meth : Method} {c : Code} {b L : Nat} {xs : Nat → Int32} (C0 : lw_At p s m meth c b L xs) {G : lw_G} (hg : lw_Ok G s) (hL : L ≤ 3584) :
    ∀ (n i : Nat) (xi : Int32), xi = nI i → i ≤ L + 7 → L + 8 ≤ n + i → ∀ (σC σM : wk_St), Inv σC σM → ∀ (H : Heap) (locs : List Loc), va_P G.1 wk_cls (lw_wC G σC) H → va_P G.1 wk_cls (lw_wM G σM) H → va_S (fun q : Nat => s.heap.size ≤ q) s.heap H locs → ∀ ls : Array Slot, lv_has ls 4 [(0, .ref b), (1, .ref (G.2.1 0)), (2, .ref (G.2.2.1 0)), (3, .int xi)] →
      W p l e room_1 s m #[Value.ref b] below meth c H locs 600000 7302250 (lw_Z below #[Value.ref b] s) (F0 m 18 ls []) := by
  obtain ⟨hx, hb, hr, hml, hown, hts, hX, hbl, hlocks, hgv⟩ := id C0
  have hbA : ¬ s.heap.size ≤ b := Nat.not_le.mpr hbl
  intro n
  induction n with
  | zero => intro i xi ei hi hn; omega
  | succ n ih =>
  intro i xi ei hi hn σC σM hI H locs hPC hPM hS ls hl
  refine lv_iload_n hx hb d_law_18 rfl (lv_at hl 3 rfl) ?_
  refine lv_aload_n hx hb d_law_19 rfl (lv_at hl 0 rfl) ?_
  refine va_slen hx hb hX hbl hbA hS d_law_20 ?_
  refine lv_bipush (v := 7) hx hb d_law_21 (by decide) ?_
  refine lv_isub hx hb d_law_23 ?_
  refine lv_icmp_gt (tgt := 1347) hx hb d_law_24 (by decide) (fun hc => ?_) (fun hc => ?_)
  · refine va_forget (fun q hq => hS.2.2 q hq) ?_
    refine lv_iconst (v := 1) hx hb d_law_1347 (by decide) ?_
    exact lw_ret hx hb hr hlocks d_law_1348
  · have hiL : i + 7 ≤ L := by
      have := fun h => hc (show xi > Int32.ofNat L - 7 by rw [ei]; exact (lw_more hL hi).mpr h)
      omega
    have hend : ∀ (σC2 σM2 : wk_St), Inv σC2 σM2 → ∀ (H2 : Heap) (locs2 : List Loc), va_P G.1 wk_cls (lw_wC G σC2) H2 → va_P G.1 wk_cls (lw_wM G σM2) H2 → va_S (fun q : Nat => s.heap.size ≤ q) s.heap H2 locs2 → ∀ ls2 : Array Slot, lv_has ls2 4 [(0, .ref b), (1, .ref (G.2.1 0)), (2, .ref (G.2.2.1 0)), (3, .int xi)] →
        W p l e room_1 s m #[Value.ref b] below meth c H2 locs2 600000 7302250 (lw_Z below #[Value.ref b] s) (F0 m 1341 ls2 []) := by
      intro σC2 σM2 hI2 H2 locs2 hPC2 hPM2 hS2 ls2 hl2
      refine lv_iinc (v := xi + 7) (lv' := [(3, .int (xi + 7)), (0, .ref b), (1, .ref (G.2.1 0)), (2, .ref (G.2.2.1 0))]) hx hb d_law_1341 hl2 (k := 3) rfl rfl (by decide) rfl (fun ls3 hl3 => ?_)
      refine lv_goto (tgt := 18) hx hb d_law_1344 (by decide) ?_
      exact ih (i + 7) (xi + 7) (by rw [ei]; exact nI_add i 7) (by omega) (by omega) σC2 σM2 hI2 H2 locs2 hPC2 hPM2 hS2 ls3 (lv_sub hl3 [1, 2, 3, 0] rfl)
    refine lv_aload_n hx hb d_law_27 rfl (lv_at hl 0 rfl) ?_
    refine lv_iload_n hx hb d_law_28 rfl (lv_at hl 3 rfl) ?_
    refine va_sld hx hb hX hbl hbA hS (by rw [ei]; exact vp_in_nI (by omega) (by omega)) d_law_29 ?_
    refine lv_bipush (v := 63) hx hb d_law_30 (by decide) ?_
    refine lv_iand hx hb d_law_32 ?_
    obtain ⟨j, hj, ej⟩ := pk_andE (xs xi.toNatClampNeg) (m := 63) 6 (by decide)
    rw [ej]
    by_cases hj2 : j < 35
    · rcases (show j = 0 ∨ j = 1 ∨ j = 2 ∨ j = 3 ∨ j = 4 ∨ j = 5 ∨ j = 6 ∨ j = 7 ∨ j = 8 ∨ j = 9 ∨ j = 10 ∨ j = 11 ∨ j = 12 ∨ j = 13 ∨ j = 14 ∨ j = 15 ∨ j = 16 ∨ j = 17 ∨ j = 18 ∨ j = 19 ∨ j = 20 ∨ j = 21 ∨ j = 22 ∨ j = 23 ∨ j = 24 ∨ j = 25 ∨ j = 26 ∨ j = 27 ∨ j = 28 ∨ j = 29 ∨ j = 30 ∨ j = 31 ∨ j = 32 ∨ j = 33 ∨ j = 34 by omega) with rfl | rfl | rfl | rfl | rfl | rfl | rfl | rfl | rfl | rfl | rfl | rfl | rfl | rfl | rfl | rfl | rfl | rfl | rfl | rfl | rfl | rfl | rfl | rfl | rfl | rfl | rfl | rfl | rfl | rfl | rfl | rfl | rfl | rfl | rfl
      · exact lv_tableIn (tgt := 188) hx hb d_law_33 (by decide) (by decide) (by decide) (by decide) (lw_case_0 h0 C0 hg ei (by omega) hL hI hPC hPM hS hl hend)
      · exact lv_tableIn (tgt := 211) hx hb d_law_33 (by decide) (by decide) (by decide) (by decide) (lw_case_1 h1 C0 hg ei (by omega) hL hI hPC hPM hS hl hend)
      · exact lv_tableIn (tgt := 270) hx hb d_law_33 (by decide) (by decide) (by decide) (by decide) (lw_case_2 h2 C0 hg ei (by omega) hL hI hPC hPM hS hl hend)
      · exact lv_tableIn (tgt := 313) hx hb d_law_33 (by decide) (by decide) (by decide) (by decide) (lw_case_3 h3 C0 hg ei (by omega) hL hI hPC hPM hS hl hend)
      · exact lv_tableIn (tgt := 336) hx hb d_law_33 (by decide) (by decide) (by decide) (by decide) (lw_case_4 h4 C0 hg ei (by omega) hL hI hPC hPM hS hl hend)
      · exact lv_tableIn (tgt := 399) hx hb d_law_33 (by decide) (by decide) (by decide) (by decide) (lw_case_5 h5 C0 hg ei (by omega) hL hI hPC hPM hS hl hend)
      · exact lv_tableIn (tgt := 422) hx hb d_law_33 (by decide) (by decide) (by decide) (by decide) (lw_case_6 h6 C0 hg ei (by omega) hL hI hPC hPM hS hl hend)
      · exact lv_tableIn (tgt := 455) hx hb d_law_33 (by decide) (by decide) (by decide) (by decide) (lw_case_7 h7 C0 hg ei (by omega) hL hI hPC hPM hS hl hend)
      · exact lv_tableIn (tgt := 478) hx hb d_law_33 (by decide) (by decide) (by decide) (by decide) (lw_case_8 h8 C0 hg ei (by omega) hL hI hPC hPM hS hl hend)
      · exact lv_tableIn (tgt := 501) hx hb d_law_33 (by decide) (by decide) (by decide) (by decide) (lw_case_9 h9 C0 hg ei (by omega) hL hI hPC hPM hS hl hend)
      · exact lv_tableIn (tgt := 534) hx hb d_law_33 (by decide) (by decide) (by decide) (by decide) (lw_case_10 h10 C0 hg ei (by omega) hL hI hPC hPM hS hl hend)
      · exact lv_tableIn (tgt := 567) hx hb d_law_33 (by decide) (by decide) (by decide) (by decide) (lw_case_11 h11 C0 hg ei (by omega) hL hI hPC hPM hS hl hend)
      · exact lv_tableIn (tgt := 600) hx hb d_law_33 (by decide) (by decide) (by decide) (by decide) (lw_case_12 h12 C0 hg ei (by omega) hL hI hPC hPM hS hl hend)
      · exact lv_tableIn (tgt := 633) hx hb d_law_33 (by decide) (by decide) (by decide) (by decide) (lw_case_13 h13 C0 hg ei (by omega) hL hI hPC hPM hS hl hend)
      · exact lv_tableIn (tgt := 666) hx hb d_law_33 (by decide) (by decide) (by decide) (by decide) (lw_case_14 h14 C0 hg ei (by omega) hL hI hPC hPM hS hl hend)
      · exact lv_tableIn (tgt := 699) hx hb d_law_33 (by decide) (by decide) (by decide) (by decide) (lw_case_15 h15 C0 hg ei (by omega) hL hI hPC hPM hS hl hend)
      · exact lv_tableIn (tgt := 732) hx hb d_law_33 (by decide) (by decide) (by decide) (by decide) (lw_case_16 h16 C0 hg ei (by omega) hL hI hPC hPM hS hl hend)
      · exact lv_tableIn (tgt := 765) hx hb d_law_33 (by decide) (by decide) (by decide) (by decide) (lw_case_17 h17 C0 hg ei (by omega) hL hI hPC hPM hS hl hend)
      · exact lv_tableIn (tgt := 798) hx hb d_law_33 (by decide) (by decide) (by decide) (by decide) (lw_case_18 h18 C0 hg ei (by omega) hL hI hPC hPM hS hl hend)
      · exact lv_tableIn (tgt := 831) hx hb d_law_33 (by decide) (by decide) (by decide) (by decide) (lw_case_19 h19 C0 hg ei (by omega) hL hI hPC hPM hS hl hend)
      · exact lv_tableIn (tgt := 844) hx hb d_law_33 (by decide) (by decide) (by decide) (by decide) (lw_case_20 h20 C0 hg ei (by omega) hL hI hPC hPM hS hl hend)
      · exact lv_tableIn (tgt := 877) hx hb d_law_33 (by decide) (by decide) (by decide) (by decide) (lw_case_21 h21 C0 hg ei (by omega) hL hI hPC hPM hS hl hend)
      · exact lv_tableIn (tgt := 920) hx hb d_law_33 (by decide) (by decide) (by decide) (by decide) (lw_case_22 h22 C0 hg ei (by omega) hL hI hPC hPM hS hl hend)
      · exact lv_tableIn (tgt := 953) hx hb d_law_33 (by decide) (by decide) (by decide) (by decide) (lw_case_23 h23 C0 hg ei (by omega) hL hI hPC hPM hS hl hend)
      · exact lv_tableIn (tgt := 986) hx hb d_law_33 (by decide) (by decide) (by decide) (by decide) (lw_case_24 h24 C0 hg ei (by omega) hL hI hPC hPM hS hl hend)
      · exact lv_tableIn (tgt := 1019) hx hb d_law_33 (by decide) (by decide) (by decide) (by decide) (lw_case_25 h25 C0 hg ei (by omega) hL hI hPC hPM hS hl hend)
      · exact lv_tableIn (tgt := 1062) hx hb d_law_33 (by decide) (by decide) (by decide) (by decide) (lw_case_26 h26 C0 hg ei (by omega) hL hI hPC hPM hS hl hend)
      · exact lv_tableIn (tgt := 1137) hx hb d_law_33 (by decide) (by decide) (by decide) (by decide) (lw_case_27 h27 C0 hg ei (by omega) hL hI hPC hPM hS hl hend)
      · exact lv_tableIn (tgt := 1190) hx hb d_law_33 (by decide) (by decide) (by decide) (by decide) (lw_case_28 h28 C0 hg ei (by omega) hL hI hPC hPM hS hl hend)
      · exact lv_tableIn (tgt := 1213) hx hb d_law_33 (by decide) (by decide) (by decide) (by decide) (lw_case_29 h29 C0 hg ei (by omega) hL hI hPC hPM hS hl hend)
      · exact lv_tableIn (tgt := 1246) hx hb d_law_33 (by decide) (by decide) (by decide) (by decide) (lw_case_30 h30 C0 hg ei (by omega) hL hI hPC hPM hS hl hend)
      · exact lv_tableIn (tgt := 1269) hx hb d_law_33 (by decide) (by decide) (by decide) (by decide) (lw_case_31 h31 C0 hg ei (by omega) hL hI hPC hPM hS hl hend)
      · exact lv_tableIn (tgt := 1282) hx hb d_law_33 (by decide) (by decide) (by decide) (by decide) (lw_case_32 h32 C0 hg ei (by omega) hL hI hPC hPM hS hl hend)
      · exact lv_tableIn (tgt := 1295) hx hb d_law_33 (by decide) (by decide) (by decide) (by decide) (lw_case_33 h33 C0 hg ei (by omega) hL hI hPC hPM hS hl hend)
      · exact lv_tableIn (tgt := 1318) hx hb d_law_33 (by decide) (by decide) (by decide) (by decide) (lw_case_34 h34 C0 hg ei (by omega) hL hI hPC hPM hS hl hend)
    · exact lv_tableOut (tgt := 1341) hx hb d_law_33 (Or.inr (by rw [nI_toInt (by omega)]; omega)) (by decide) (hend _ _ hI _ _ hPC hPM hS ls hl)
/-- what the constructors leave -/
def wk_s0C : wk_St := (fun k => cond (Nat.beq k 8) (fun j => cond (Nat.beq j 6) 1 0) (cond (Nat.beq k 13) (fun j => cond (Nat.beq j 6) 1 0) (cond (Nat.beq k 18) (fun j => cond (Nat.beq j 6) 1 0) (cond (Nat.beq k 23) (fun j => cond (Nat.beq j 5) (-1) 0) (fun _ => 0)))), fun _ _ => 0)
def wk_s0M : wk_St := (fun k => cond (Nat.beq k 1) (upd (fun _ => 0) 46 1) (fun _ => 0), fun _ _ => 0)
theorem lw_shC : ∀ k d, wk_shC k = some d → k < 53 ∨ (k = 999 ∧ d = .inl (3, 12)) := by
  intro k d h
  unfold wk_shC at h
  cases hb : Nat.ble k 52 with
  | true => have := Nat.le_of_ble_eq_true hb; exact Or.inl (by omega)
  | false =>
    rw [hb] at h
    cases h9 : Nat.beq k 999 with
    | false => rw [h9] at h; cases h
    | true => rw [h9] at h; cases h; exact Or.inr ⟨Nat.eq_of_beq_eq_true h9, rfl⟩
theorem lw_shM : ∀ k d, wk_shM k = some d → k < 32 ∨ (k = 999 ∧ d = .inl (3, 12)) := by
  intro k d h
  unfold wk_shM at h
  cases hb : Nat.ble k 31 with
  | true => have := Nat.le_of_ble_eq_true hb; exact Or.inl (by omega)
  | false =>
    rw [hb] at h
    cases h9 : Nat.beq k 999 with
    | false => rw [h9] at h; cases h
    | true => rw [h9] at h; cases h; exact Or.inr ⟨Nat.eq_of_beq_eq_true h9, rfl⟩
/-- a kind's part of wk_OK, from one row a cell -/
def lw_kd (N : Nat) (cA : Nat → ClassId) (tys : List (ClassId × FieldType)) (k : Nat) (d : wk_De) : Prop := match d with
  | .inl (0, _) => ∃ t0 : Nat, tys[t0]? = some (cA k, .int)
  | .inl (1, _) => ∃ t0 : Nat, tys[t0]? = some (cA k, .long)
  | .inl (2, _) => ∃ t0 : Nat, tys[t0]? = some (cA k, .byte)
  | .inl _ => False
  | .inr (ci, fl) => ∃ C T n, wk_cls[ci]? = some (C, T, n) ∧ fl.length = n ∧ ∀ j f, fl[j]? = some f → wk_kd f (T j)
theorem lw_OKof {sh : Nat → Option wk_De} {N : Nat} {cA : Nat → ClassId} {tys : List (ClassId × FieldType)} (h1 : ∀ k d, sh k = some d → k < N ∨ (k = 999 ∧ d = .inl (3, 12))) (hN : N ≤ 999) (h2 : ∀ k, k < N → ∃ d, sh k = some d ∧ lw_kd N cA tys k d) : wk_OK sh N cA tys := by
  have key : ∀ k d, sh k = some d → (k < N ∧ lw_kd N cA tys k d) ∨ (k = 999 ∧ d = .inl (3, 12)) := by
    intro k d h
    rcases h1 k d h with q | q
    · obtain ⟨d2, e1, e2⟩ := h2 k q
      cases h.symm.trans e1
      exact Or.inl ⟨q, e2⟩
    · exact Or.inr q
  refine ⟨fun k n h => ?_, fun k n h => ?_, fun k n h => ?_, fun k n h => ?_, fun k ty n h => ?_, fun k ci fl h => ?_⟩
  · rcases key k _ h with ⟨-, q⟩ | ⟨q, e⟩
    · exact q.elim
    · cases e; exact ⟨q, rfl⟩
  · rcases key k _ h with ⟨a, q⟩ | ⟨q, e⟩
    · exact ⟨a, q⟩
    · cases e
  · rcases key k _ h with ⟨a, q⟩ | ⟨q, e⟩
    · exact ⟨a, q⟩
    · cases e
  · rcases key k _ h with ⟨a, q⟩ | ⟨q, e⟩
    · exact ⟨a, q⟩
    · cases e
  · rcases key k _ h with ⟨a, q⟩ | ⟨q, e⟩
    · match ty, q with
      | 0, _ => omega
      | 1, _ => omega
      | 2, _ => omega
      | t + 3, q => exact q.elim
    · cases e; omega
  · rcases key k _ h with ⟨a, q⟩ | ⟨q, e⟩
    · exact ⟨a, q⟩
    · cases e
theorem lw_kdI {f : Nat} {q : String × String × String × Bool} (h : (match f with | 0 => decide (q.2.2.1 = "I") && !q.2.2.2 | 1 => decide (q.2.2.1 = "J") && !q.2.2.2 | 2 => decide (q.2.2.1 = "Z") && !q.2.2.2 | _ => true) = true) : wk_kd f q := by
  refine ⟨fun e => ?_, fun e => ?_, fun e => ?_⟩ <;> subst e <;> simpa using h
theorem lw_kds {fl : List Nat} {T : u_T} (h : (List.range fl.length).all (fun j => (match fl.getD j 3 with | 0 => decide ((T j).2.2.1 = "I") && !(T j).2.2.2 | 1 => decide ((T j).2.2.1 = "J") && !(T j).2.2.2 | 2 => decide ((T j).2.2.1 = "Z") && !(T j).2.2.2 | _ => true)) = true) : ∀ j f, fl[j]? = some f → wk_kd f (T j) := by
  intro j f hf
  have hl := (List.getElem?_eq_some_iff.mp hf).1
  have h2 := List.all_eq_true.mp h j (List.mem_range.mpr hl)
  rw [List.getD_eq_getElem?_getD, hf] at h2
  exact lw_kdI h2
set_option maxHeartbeats 8000000 in
set_option maxRecDepth 100000 in
theorem lw_okC (ca0 ca1 ca2 ca3 ca4 ca5 ca6 ca7 ca8 ca9 ca10 ca11 ca12 ca13 ca14 ca15 ca16 ca17 ca18 ca19 ca20 ca21 ca22 ca23 ca24 ca25 ca26 ca27 ca28 ca29 ca30 ca31 ca32 ca33 ca34 ca35 ca36 ca37 ca38 ca39 ma0 ma1 ma2 ma3 ma4 ma5 ma6 ma7 ma8 ma9 ma10 ma11 ma12 ma13 ma14 ma15 ma16 ma17 ma18 ma19 ma20 ma21 ma22 ma23 ma24 ma25 ma26 ma27 ma28 ma29 ma30 : ClassId) : wk_OK wk_shC 53 (fun k => ([0, 0, ca0, 0, ca1, ca2, ca3, ca4, 0, ca5, ca6, ca7, ca8, 0, ca9, ca10, ca11, ca12, 0, ca13, ca14, ca15, ca16, 0, ca17, 0, ca18, ca19, ca20, ca21, 0, ca22, 0, ca23, 0, ca24, ca25, 0, ca26, ca27, ca28, ca29, ca30, ca31, ca32, 0, ca33, ca34, ca35, ca36, ca37, ca38, ca39] : List ClassId).getD k 0) [(ca0, .int), (ca1, .int), (ca2, .int), (ca3, .int), (ca4, .long), (ca5, .int), (ca6, .int), (ca7, .int), (ca8, .int), (ca9, .int), (ca10, .int), (ca11, .int), (ca12, .int), (ca13, .int), (ca14, .int), (ca15, .int), (ca16, .int), (ca17, .int), (ca18, .int), (ca19, .int), (ca20, .long), (ca21, .long), (ca22, .int), (ca23, .int), (ca24, .int), (ca25, .int), (ca26, .int), (ca27, .int), (ca28, .int), (ca29, .int), (ca30, .int), (ca31, .int), (ca32, .int), (ca33, .int), (ca34, .int), (ca35, .int), (ca36, .int), (ca37, .int), (ca38, .int), (ca39, .int), (ma0, .int), (ma1, .int), (ma2, .int), (ma3, .int), (ma4, .int), (ma5, .int), (ma6, .byte), (ma7, .int), (ma8, .int), (ma9, .int), (ma10, .int), (ma11, .int), (ma12, .int), (ma13, .int), (ma14, .int), (ma15, .int), (ma16, .int), (ma17, .int), (ma18, .int), (ma19, .int), (ma20, .byte), (ma21, .int), (ma22, .int), (ma23, .int), (ma24, .int), (ma25, .int), (ma26, .int), (ma27, .int), (ma28, .int), (ma29, .int), (ma30, .int)] := by
  refine lw_OKof lw_shC (by decide) (fun k hk => ?_)
  match k, hk with
  | 0, _ => exact ⟨_, rfl, _, _, _, rfl, rfl, lw_kds (by decide +kernel)⟩
  | 1, _ => exact ⟨_, rfl, _, _, _, rfl, rfl, lw_kds (by decide +kernel)⟩
  | 2, _ => exact ⟨_, rfl, 0, rfl⟩
  | 3, _ => exact ⟨_, rfl, _, _, _, rfl, rfl, lw_kds (by decide +kernel)⟩
  | 4, _ => exact ⟨_, rfl, 1, rfl⟩
  | 5, _ => exact ⟨_, rfl, 2, rfl⟩
  | 6, _ => exact ⟨_, rfl, 3, rfl⟩
  | 7, _ => exact ⟨_, rfl, 4, rfl⟩
  | 8, _ => exact ⟨_, rfl, _, _, _, rfl, rfl, lw_kds (by decide +kernel)⟩
  | 9, _ => exact ⟨_, rfl, 5, rfl⟩
  | 10, _ => exact ⟨_, rfl, 6, rfl⟩
  | 11, _ => exact ⟨_, rfl, 7, rfl⟩
  | 12, _ => exact ⟨_, rfl, 8, rfl⟩
  | 13, _ => exact ⟨_, rfl, _, _, _, rfl, rfl, lw_kds (by decide +kernel)⟩
  | 14, _ => exact ⟨_, rfl, 9, rfl⟩
  | 15, _ => exact ⟨_, rfl, 10, rfl⟩
  | 16, _ => exact ⟨_, rfl, 11, rfl⟩
  | 17, _ => exact ⟨_, rfl, 12, rfl⟩
  | 18, _ => exact ⟨_, rfl, _, _, _, rfl, rfl, lw_kds (by decide +kernel)⟩
  | 19, _ => exact ⟨_, rfl, 13, rfl⟩
  | 20, _ => exact ⟨_, rfl, 14, rfl⟩
  | 21, _ => exact ⟨_, rfl, 15, rfl⟩
  | 22, _ => exact ⟨_, rfl, 16, rfl⟩
  | 23, _ => exact ⟨_, rfl, _, _, _, rfl, rfl, lw_kds (by decide +kernel)⟩
  | 24, _ => exact ⟨_, rfl, 17, rfl⟩
  | 25, _ => exact ⟨_, rfl, _, _, _, rfl, rfl, lw_kds (by decide +kernel)⟩
  | 26, _ => exact ⟨_, rfl, 18, rfl⟩
  | 27, _ => exact ⟨_, rfl, 19, rfl⟩
  | 28, _ => exact ⟨_, rfl, 20, rfl⟩
  | 29, _ => exact ⟨_, rfl, 21, rfl⟩
  | 30, _ => exact ⟨_, rfl, _, _, _, rfl, rfl, lw_kds (by decide +kernel)⟩
  | 31, _ => exact ⟨_, rfl, 22, rfl⟩
  | 32, _ => exact ⟨_, rfl, _, _, _, rfl, rfl, lw_kds (by decide +kernel)⟩
  | 33, _ => exact ⟨_, rfl, 23, rfl⟩
  | 34, _ => exact ⟨_, rfl, _, _, _, rfl, rfl, lw_kds (by decide +kernel)⟩
  | 35, _ => exact ⟨_, rfl, 24, rfl⟩
  | 36, _ => exact ⟨_, rfl, 25, rfl⟩
  | 37, _ => exact ⟨_, rfl, _, _, _, rfl, rfl, lw_kds (by decide +kernel)⟩
  | 38, _ => exact ⟨_, rfl, 26, rfl⟩
  | 39, _ => exact ⟨_, rfl, 27, rfl⟩
  | 40, _ => exact ⟨_, rfl, 28, rfl⟩
  | 41, _ => exact ⟨_, rfl, 29, rfl⟩
  | 42, _ => exact ⟨_, rfl, 30, rfl⟩
  | 43, _ => exact ⟨_, rfl, 31, rfl⟩
  | 44, _ => exact ⟨_, rfl, 32, rfl⟩
  | 45, _ => exact ⟨_, rfl, _, _, _, rfl, rfl, lw_kds (by decide +kernel)⟩
  | 46, _ => exact ⟨_, rfl, 33, rfl⟩
  | 47, _ => exact ⟨_, rfl, 34, rfl⟩
  | 48, _ => exact ⟨_, rfl, 35, rfl⟩
  | 49, _ => exact ⟨_, rfl, 36, rfl⟩
  | 50, _ => exact ⟨_, rfl, 37, rfl⟩
  | 51, _ => exact ⟨_, rfl, 38, rfl⟩
  | 52, _ => exact ⟨_, rfl, 39, rfl⟩
  | k + 53, hk => exact absurd hk (by omega)
set_option maxHeartbeats 8000000 in
set_option maxRecDepth 100000 in
theorem lw_okM (ca0 ca1 ca2 ca3 ca4 ca5 ca6 ca7 ca8 ca9 ca10 ca11 ca12 ca13 ca14 ca15 ca16 ca17 ca18 ca19 ca20 ca21 ca22 ca23 ca24 ca25 ca26 ca27 ca28 ca29 ca30 ca31 ca32 ca33 ca34 ca35 ca36 ca37 ca38 ca39 ma0 ma1 ma2 ma3 ma4 ma5 ma6 ma7 ma8 ma9 ma10 ma11 ma12 ma13 ma14 ma15 ma16 ma17 ma18 ma19 ma20 ma21 ma22 ma23 ma24 ma25 ma26 ma27 ma28 ma29 ma30 : ClassId) : wk_OK wk_shM 32 (fun k => ([0, ma0, ma1, ma2, ma3, ma4, ma5, ma6, ma7, ma8, ma9, ma10, ma11, ma12, ma13, ma14, ma15, ma16, ma17, ma18, ma19, ma20, ma21, ma22, ma23, ma24, ma25, ma26, ma27, ma28, ma29, ma30] : List ClassId).getD k 0) [(ca0, .int), (ca1, .int), (ca2, .int), (ca3, .int), (ca4, .long), (ca5, .int), (ca6, .int), (ca7, .int), (ca8, .int), (ca9, .int), (ca10, .int), (ca11, .int), (ca12, .int), (ca13, .int), (ca14, .int), (ca15, .int), (ca16, .int), (ca17, .int), (ca18, .int), (ca19, .int), (ca20, .long), (ca21, .long), (ca22, .int), (ca23, .int), (ca24, .int), (ca25, .int), (ca26, .int), (ca27, .int), (ca28, .int), (ca29, .int), (ca30, .int), (ca31, .int), (ca32, .int), (ca33, .int), (ca34, .int), (ca35, .int), (ca36, .int), (ca37, .int), (ca38, .int), (ca39, .int), (ma0, .int), (ma1, .int), (ma2, .int), (ma3, .int), (ma4, .int), (ma5, .int), (ma6, .byte), (ma7, .int), (ma8, .int), (ma9, .int), (ma10, .int), (ma11, .int), (ma12, .int), (ma13, .int), (ma14, .int), (ma15, .int), (ma16, .int), (ma17, .int), (ma18, .int), (ma19, .int), (ma20, .byte), (ma21, .int), (ma22, .int), (ma23, .int), (ma24, .int), (ma25, .int), (ma26, .int), (ma27, .int), (ma28, .int), (ma29, .int), (ma30, .int)] := by
  refine lw_OKof lw_shM (by decide) (fun k hk => ?_)
  match k, hk with
  | 0, _ => exact ⟨_, rfl, _, _, _, rfl, rfl, lw_kds (by decide +kernel)⟩
  | 1, _ => exact ⟨_, rfl, 40, rfl⟩
  | 2, _ => exact ⟨_, rfl, 41, rfl⟩
  | 3, _ => exact ⟨_, rfl, 42, rfl⟩
  | 4, _ => exact ⟨_, rfl, 43, rfl⟩
  | 5, _ => exact ⟨_, rfl, 44, rfl⟩
  | 6, _ => exact ⟨_, rfl, 45, rfl⟩
  | 7, _ => exact ⟨_, rfl, 46, rfl⟩
  | 8, _ => exact ⟨_, rfl, 47, rfl⟩
  | 9, _ => exact ⟨_, rfl, 48, rfl⟩
  | 10, _ => exact ⟨_, rfl, 49, rfl⟩
  | 11, _ => exact ⟨_, rfl, 50, rfl⟩
  | 12, _ => exact ⟨_, rfl, 51, rfl⟩
  | 13, _ => exact ⟨_, rfl, 52, rfl⟩
  | 14, _ => exact ⟨_, rfl, 53, rfl⟩
  | 15, _ => exact ⟨_, rfl, 54, rfl⟩
  | 16, _ => exact ⟨_, rfl, 55, rfl⟩
  | 17, _ => exact ⟨_, rfl, 56, rfl⟩
  | 18, _ => exact ⟨_, rfl, 57, rfl⟩
  | 19, _ => exact ⟨_, rfl, 58, rfl⟩
  | 20, _ => exact ⟨_, rfl, 59, rfl⟩
  | 21, _ => exact ⟨_, rfl, 60, rfl⟩
  | 22, _ => exact ⟨_, rfl, 61, rfl⟩
  | 23, _ => exact ⟨_, rfl, 62, rfl⟩
  | 24, _ => exact ⟨_, rfl, 63, rfl⟩
  | 25, _ => exact ⟨_, rfl, 64, rfl⟩
  | 26, _ => exact ⟨_, rfl, 65, rfl⟩
  | 27, _ => exact ⟨_, rfl, 66, rfl⟩
  | 28, _ => exact ⟨_, rfl, 67, rfl⟩
  | 29, _ => exact ⟨_, rfl, 68, rfl⟩
  | 30, _ => exact ⟨_, rfl, 69, rfl⟩
  | 31, _ => exact ⟨_, rfl, 70, rfl⟩
  | k + 32, hk => exact absurd hk (by omega)
set_option maxHeartbeats 8000000 in
set_option maxRecDepth 100000 in
theorem lw_worldC {D : va_G} {H : Heap} {t0 : Nat} (ch0 cq0 cq1 cq2 cq3 cq4 cq5 cq6 cq7 cq8 cq9 cq10 cq11 cq12 cq13 cq14 cq15 cq16 cq17 cq18 cq19 cq20 cq21 cq22 cq23 cq24 cq25 cq26 cq27 cq28 cq29 cq30 cq31 cq32 cq33 cq34 cq35 cq36 cq37 cq38 cq39 cq40 cq41 cq42 cq43 cq44 cq45 cq46 cq47 cq48 cq49 cq50 cq51 mh0 mq0 mq1 mq2 mq3 mq4 mq5 mq6 mq7 mq8 mq9 mq10 mq11 mq12 mq13 mq14 mq15 mq16 mq17 mq18 mq19 mq20 mq21 mq22 mq23 mq24 mq25 mq26 mq27 mq28 mq29 mq30 : Nat) (ca0 ca1 ca2 ca3 ca4 ca5 ca6 ca7 ca8 ca9 ca10 ca11 ca12 ca13 ca14 ca15 ca16 ca17 ca18 ca19 ca20 ca21 ca22 ca23 ca24 ca25 ca26 ca27 ca28 ca29 ca30 ca31 ca32 ca33 ca34 ca35 ca36 ca37 ca38 ca39 ma0 ma1 ma2 ma3 ma4 ma5 ma6 ma7 ma8 ma9 ma10 ma11 ma12 ma13 ma14 ma15 ma16 ma17 ma18 ma19 ma20 ma21 ma22 ma23 ma24 ma25 ma26 ma27 ma28 ma29 ma30 : ClassId) (hP : va_P D wk_cls [(ch0, .inr (9, [.ref cq0, .ref cq2, .ref cq7, .ref cq12, .ref cq17, .ref cq22, .ref cq24, .ref cq29, .ref cq31, .ref cq33, .ref cq35, .ref cq36, .ref cq44, .int 0])), (cq0, .inr (6, [.ref cq1, .int 0])), (cq1, .inl (ca0, 260, .inl (fun _ => 0))), (cq2, .inr (2, [.ref cq3, .ref cq4, .ref cq5, .ref cq6, .int 0, .int 0])), (cq3, .inl (ca1, 12, .inl (fun _ => 0))), (cq4, .inl (ca2, 144, .inl (fun _ => 0))), (cq5, .inl (ca3, 12, .inl (fun _ => 0))), (cq6, .inl (ca4, 12, .inr (.inl (fun _ => 0)))), (cq7, .inr (0, [.ref cq8, .ref cq9, .ref cq10, .ref cq11, .int 0, .int 0, .int 1])), (cq8, .inl (ca5, 9, .inl (fun _ => 0))), (cq9, .inl (ca6, 9, .inl (fun _ => 0))), (cq10, .inl (ca7, 9, .inl (fun _ => 0))), (cq11, .inl (ca8, 9, .inl (fun _ => 0))), (cq12, .inr (0, [.ref cq13, .ref cq14, .ref cq15, .ref cq16, .int 0, .int 0, .int 1])), (cq13, .inl (ca9, 9, .inl (fun _ => 0))), (cq14, .inl (ca10, 9, .inl (fun _ => 0))), (cq15, .inl (ca11, 9, .inl (fun _ => 0))), (cq16, .inl (ca12, 9, .inl (fun _ => 0))), (cq17, .inr (0, [.ref cq18, .ref cq19, .ref cq20, .ref cq21, .int 0, .int 0, .int 1])), (cq18, .inl (ca13, 9, .inl (fun _ => 0))), (cq19, .inl (ca14, 9, .inl (fun _ => 0))), (cq20, .inl (ca15, 9, .inl (fun _ => 0))), (cq21, .inl (ca16, 9, .inl (fun _ => 0))), (cq22, .inr (8, [.ref cq23, .int 0, .int 0, .int 0, .int 0, .int (-1)])), (cq23, .inl (ca17, 8, .inl (fun _ => 0))), (cq24, .inr (7, [.ref cq25, .ref cq26, .ref cq27, .ref cq28])), (cq25, .inl (ca18, 61, .inl (fun _ => 0))), (cq26, .inl (ca19, 60, .inl (fun _ => 0))), (cq27, .inl (ca20, 12, .inr (.inl (fun _ => 0)))), (cq28, .inl (ca21, 12, .inr (.inl (fun _ => 0)))), (cq29, .inr (3, [.ref cq30, .int 0, .int 0, .int 0, .long 0, .int 0])), (cq30, .inl (ca22, 240, .inl (fun _ => 0))), (cq31, .inr (1, [.ref cq32, .int 0, .int 0, .int 0])), (cq32, .inl (ca23, 240, .inl (fun _ => 0))), (cq33, .inr (5, [.ref cq34, .int 0, .int 0, .int 0])), (cq34, .inl (ca24, 240, .inl (fun _ => 0))), (cq35, .inl (ca25, 512, .inl (fun _ => 0))), (cq36, .inr (4, [.ref cq37, .ref cq38, .ref cq39, .ref cq40, .ref cq41, .ref cq42, .ref cq43, .int 0, .int 0, .int 0, .int 0])), (cq37, .inl (ca26, 16, .inl (fun _ => 0))), (cq38, .inl (ca27, 16, .inl (fun _ => 0))), (cq39, .inl (ca28, 16, .inl (fun _ => 0))), (cq40, .inl (ca29, 16, .inl (fun _ => 0))), (cq41, .inl (ca30, 240, .inl (fun _ => 0))), (cq42, .inl (ca31, 240, .inl (fun _ => 0))), (cq43, .inl (ca32, 32, .inl (fun _ => 0))), (cq44, .inr (4, [.ref cq45, .ref cq46, .ref cq47, .ref cq48, .ref cq49, .ref cq50, .ref cq51, .int 0, .int 0, .int 0, .int 0])), (cq45, .inl (ca33, 16, .inl (fun _ => 0))), (cq46, .inl (ca34, 16, .inl (fun _ => 0))), (cq47, .inl (ca35, 16, .inl (fun _ => 0))), (cq48, .inl (ca36, 16, .inl (fun _ => 0))), (cq49, .inl (ca37, 240, .inl (fun _ => 0))), (cq50, .inl (ca38, 240, .inl (fun _ => 0))), (cq51, .inl (ca39, 32, .inl (fun _ => 0))), (mh0, .inr (10, [.ref mq0, .ref mq1, .ref mq2, .ref mq3, .int 0, .int 0, .ref mq4, .ref mq5, .ref mq6, .int 0, .int 0, .int 0, .int 0, .int 0, .int 0, .int 0, .int 0, .int 0, .int 0, .ref mq7, .ref mq8, .ref mq9, .ref mq10, .ref mq11, .ref mq12, .ref mq13, .ref mq14, .ref mq15, .ref mq16, .ref mq17, .ref mq18, .ref mq19, .ref mq20, .ref mq21, .ref mq22, .ref mq23, .ref mq24, .ref mq25, .int 0, .int 0, .int 0, .int 0, .int 0, .int 0, .int 0, .int 0, .int 0, .int 0, .int 0, .int 0, .ref mq26, .ref mq27, .ref mq28, .ref mq29, .int 0, .int 0, .ref mq30, .int 0])), (mq0, .inl (ma0, 47, .inl (upd (fun _ => 0) 46 1))), (mq1, .inl (ma1, 47, .inl (fun _ => 0))), (mq2, .inl (ma2, 47, .inl (fun _ => 0))), (mq3, .inl (ma3, 12, .inl (fun _ => 0))), (mq4, .inl (ma4, 12, .inl (fun _ => 0))), (mq5, .inl (ma5, 12, .inl (fun _ => 0))), (mq6, .inl (ma6, 260, .inl (fun _ => 0))), (mq7, .inl (ma7, 260, .inl (fun _ => 0))), (mq8, .inl (ma8, 260, .inl (fun _ => 0))), (mq9, .inl (ma9, 16, .inl (fun _ => 0))), (mq10, .inl (ma10, 16, .inl (fun _ => 0))), (mq11, .inl (ma11, 16, .inl (fun _ => 0))), (mq12, .inl (ma12, 16, .inl (fun _ => 0))), (mq13, .inl (ma13, 260, .inl (fun _ => 0))), (mq14, .inl (ma14, 16, .inl (fun _ => 0))), (mq15, .inl (ma15, 16, .inl (fun _ => 0))), (mq16, .inl (ma16, 16, .inl (fun _ => 0))), (mq17, .inl (ma17, 16, .inl (fun _ => 0))), (mq18, .inl (ma18, 260, .inl (fun _ => 0))), (mq19, .inl (ma19, 8, .inl (fun _ => 0))), (mq20, .inl (ma20, 576, .inl (fun _ => 0))), (mq21, .inl (ma21, 12, .inl (fun _ => 0))), (mq22, .inl (ma22, 48, .inl (fun _ => 0))), (mq23, .inl (ma23, 2, .inl (fun _ => 0))), (mq24, .inl (ma24, 2, .inl (fun _ => 0))), (mq25, .inl (ma25, 2, .inl (fun _ => 0))), (mq26, .inl (ma26, 61, .inl (fun _ => 0))), (mq27, .inl (ma27, 12, .inl (fun _ => 0))), (mq28, .inl (ma28, 12, .inl (fun _ => 0))), (mq29, .inl (ma29, 12, .inl (fun _ => 0))), (mq30, .inl (ma30, 512, .inl (fun _ => 0)))] H) : va_P D wk_cls (wk_w wk_shC 53 (fun k : Nat => cond (Nat.beq k 999) t0 (([ch0, cq0, cq1, cq2, cq3, cq4, cq5, cq6, cq7, cq8, cq9, cq10, cq11, cq12, cq13, cq14, cq15, cq16, cq17, cq18, cq19, cq20, cq21, cq22, cq23, cq24, cq25, cq26, cq27, cq28, cq29, cq30, cq31, cq32, cq33, cq34, cq35, cq36, cq37, cq38, cq39, cq40, cq41, cq42, cq43, cq44, cq45, cq46, cq47, cq48, cq49, cq50, cq51] : List Nat).getD k 0)) (fun k => ([0, 0, ca0, 0, ca1, ca2, ca3, ca4, 0, ca5, ca6, ca7, ca8, 0, ca9, ca10, ca11, ca12, 0, ca13, ca14, ca15, ca16, 0, ca17, 0, ca18, ca19, ca20, ca21, 0, ca22, 0, ca23, 0, ca24, ca25, 0, ca26, ca27, ca28, ca29, ca30, ca31, ca32, 0, ca33, ca34, ca35, ca36, ca37, ca38, ca39] : List ClassId).getD k 0) wk_s0C) H := by
  intro k q hq
  have hk : k < 53 := by
    have := (List.getElem?_eq_some_iff.mp hq).1
    simpa [wk_w] using this
  rw [wk_w_get hk] at hq
  cases hq
  match k, hk with
  | 0, _ => exact hP 0 _ rfl
  | 1, _ => exact hP 1 _ rfl
  | 2, _ => exact hP 2 _ rfl
  | 3, _ => exact hP 3 _ rfl
  | 4, _ => exact hP 4 _ rfl
  | 5, _ => exact hP 5 _ rfl
  | 6, _ => exact hP 6 _ rfl
  | 7, _ => exact hP 7 _ rfl
  | 8, _ => exact hP 8 _ rfl
  | 9, _ => exact hP 9 _ rfl
  | 10, _ => exact hP 10 _ rfl
  | 11, _ => exact hP 11 _ rfl
  | 12, _ => exact hP 12 _ rfl
  | 13, _ => exact hP 13 _ rfl
  | 14, _ => exact hP 14 _ rfl
  | 15, _ => exact hP 15 _ rfl
  | 16, _ => exact hP 16 _ rfl
  | 17, _ => exact hP 17 _ rfl
  | 18, _ => exact hP 18 _ rfl
  | 19, _ => exact hP 19 _ rfl
  | 20, _ => exact hP 20 _ rfl
  | 21, _ => exact hP 21 _ rfl
  | 22, _ => exact hP 22 _ rfl
  | 23, _ => exact hP 23 _ rfl
  | 24, _ => exact hP 24 _ rfl
  | 25, _ => exact hP 25 _ rfl
  | 26, _ => exact hP 26 _ rfl
  | 27, _ => exact hP 27 _ rfl
  | 28, _ => exact hP 28 _ rfl
  | 29, _ => exact hP 29 _ rfl
  | 30, _ => exact hP 30 _ rfl
  | 31, _ => exact hP 31 _ rfl
  | 32, _ => exact hP 32 _ rfl
  | 33, _ => exact hP 33 _ rfl
  | 34, _ => exact hP 34 _ rfl
  | 35, _ => exact hP 35 _ rfl
  | 36, _ => exact hP 36 _ rfl
  | 37, _ => exact hP 37 _ rfl
  | 38, _ => exact hP 38 _ rfl
  | 39, _ => exact hP 39 _ rfl
  | 40, _ => exact hP 40 _ rfl
  | 41, _ => exact hP 41 _ rfl
  | 42, _ => exact hP 42 _ rfl
  | 43, _ => exact hP 43 _ rfl
  | 44, _ => exact hP 44 _ rfl
  | 45, _ => exact hP 45 _ rfl
  | 46, _ => exact hP 46 _ rfl
  | 47, _ => exact hP 47 _ rfl
  | 48, _ => exact hP 48 _ rfl
  | 49, _ => exact hP 49 _ rfl
  | 50, _ => exact hP 50 _ rfl
  | 51, _ => exact hP 51 _ rfl
  | 52, _ => exact hP 52 _ rfl
  | k + 53, hk => exact absurd hk (by omega)
set_option maxRecDepth 100000 in
theorem lw_placeC (t0 ch0 cq0 cq1 cq2 cq3 cq4 cq5 cq6 cq7 cq8 cq9 cq10 cq11 cq12 cq13 cq14 cq15 cq16 cq17 cq18 cq19 cq20 cq21 cq22 cq23 cq24 cq25 cq26 cq27 cq28 cq29 cq30 cq31 cq32 cq33 cq34 cq35 cq36 cq37 cq38 cq39 cq40 cq41 cq42 cq43 cq44 cq45 cq46 cq47 cq48 cq49 cq50 cq51 mh0 mq0 mq1 mq2 mq3 mq4 mq5 mq6 mq7 mq8 mq9 mq10 mq11 mq12 mq13 mq14 mq15 mq16 mq17 mq18 mq19 mq20 mq21 mq22 mq23 mq24 mq25 mq26 mq27 mq28 mq29 mq30 : Nat) (ca0 ca1 ca2 ca3 ca4 ca5 ca6 ca7 ca8 ca9 ca10 ca11 ca12 ca13 ca14 ca15 ca16 ca17 ca18 ca19 ca20 ca21 ca22 ca23 ca24 ca25 ca26 ca27 ca28 ca29 ca30 ca31 ca32 ca33 ca34 ca35 ca36 ca37 ca38 ca39 ma0 ma1 ma2 ma3 ma4 ma5 ma6 ma7 ma8 ma9 ma10 ma11 ma12 ma13 ma14 ma15 ma16 ma17 ma18 ma19 ma20 ma21 ma22 ma23 ma24 ma25 ma26 ma27 ma28 ma29 ma30 : ClassId) : ∀ k, k < 53 → ∃ e, ([(ch0, .inr (9, [.ref cq0, .ref cq2, .ref cq7, .ref cq12, .ref cq17, .ref cq22, .ref cq24, .ref cq29, .ref cq31, .ref cq33, .ref cq35, .ref cq36, .ref cq44, .int 0])), (cq0, .inr (6, [.ref cq1, .int 0])), (cq1, .inl (ca0, 260, .inl (fun _ => 0))), (cq2, .inr (2, [.ref cq3, .ref cq4, .ref cq5, .ref cq6, .int 0, .int 0])), (cq3, .inl (ca1, 12, .inl (fun _ => 0))), (cq4, .inl (ca2, 144, .inl (fun _ => 0))), (cq5, .inl (ca3, 12, .inl (fun _ => 0))), (cq6, .inl (ca4, 12, .inr (.inl (fun _ => 0)))), (cq7, .inr (0, [.ref cq8, .ref cq9, .ref cq10, .ref cq11, .int 0, .int 0, .int 1])), (cq8, .inl (ca5, 9, .inl (fun _ => 0))), (cq9, .inl (ca6, 9, .inl (fun _ => 0))), (cq10, .inl (ca7, 9, .inl (fun _ => 0))), (cq11, .inl (ca8, 9, .inl (fun _ => 0))), (cq12, .inr (0, [.ref cq13, .ref cq14, .ref cq15, .ref cq16, .int 0, .int 0, .int 1])), (cq13, .inl (ca9, 9, .inl (fun _ => 0))), (cq14, .inl (ca10, 9, .inl (fun _ => 0))), (cq15, .inl (ca11, 9, .inl (fun _ => 0))), (cq16, .inl (ca12, 9, .inl (fun _ => 0))), (cq17, .inr (0, [.ref cq18, .ref cq19, .ref cq20, .ref cq21, .int 0, .int 0, .int 1])), (cq18, .inl (ca13, 9, .inl (fun _ => 0))), (cq19, .inl (ca14, 9, .inl (fun _ => 0))), (cq20, .inl (ca15, 9, .inl (fun _ => 0))), (cq21, .inl (ca16, 9, .inl (fun _ => 0))), (cq22, .inr (8, [.ref cq23, .int 0, .int 0, .int 0, .int 0, .int (-1)])), (cq23, .inl (ca17, 8, .inl (fun _ => 0))), (cq24, .inr (7, [.ref cq25, .ref cq26, .ref cq27, .ref cq28])), (cq25, .inl (ca18, 61, .inl (fun _ => 0))), (cq26, .inl (ca19, 60, .inl (fun _ => 0))), (cq27, .inl (ca20, 12, .inr (.inl (fun _ => 0)))), (cq28, .inl (ca21, 12, .inr (.inl (fun _ => 0)))), (cq29, .inr (3, [.ref cq30, .int 0, .int 0, .int 0, .long 0, .int 0])), (cq30, .inl (ca22, 240, .inl (fun _ => 0))), (cq31, .inr (1, [.ref cq32, .int 0, .int 0, .int 0])), (cq32, .inl (ca23, 240, .inl (fun _ => 0))), (cq33, .inr (5, [.ref cq34, .int 0, .int 0, .int 0])), (cq34, .inl (ca24, 240, .inl (fun _ => 0))), (cq35, .inl (ca25, 512, .inl (fun _ => 0))), (cq36, .inr (4, [.ref cq37, .ref cq38, .ref cq39, .ref cq40, .ref cq41, .ref cq42, .ref cq43, .int 0, .int 0, .int 0, .int 0])), (cq37, .inl (ca26, 16, .inl (fun _ => 0))), (cq38, .inl (ca27, 16, .inl (fun _ => 0))), (cq39, .inl (ca28, 16, .inl (fun _ => 0))), (cq40, .inl (ca29, 16, .inl (fun _ => 0))), (cq41, .inl (ca30, 240, .inl (fun _ => 0))), (cq42, .inl (ca31, 240, .inl (fun _ => 0))), (cq43, .inl (ca32, 32, .inl (fun _ => 0))), (cq44, .inr (4, [.ref cq45, .ref cq46, .ref cq47, .ref cq48, .ref cq49, .ref cq50, .ref cq51, .int 0, .int 0, .int 0, .int 0])), (cq45, .inl (ca33, 16, .inl (fun _ => 0))), (cq46, .inl (ca34, 16, .inl (fun _ => 0))), (cq47, .inl (ca35, 16, .inl (fun _ => 0))), (cq48, .inl (ca36, 16, .inl (fun _ => 0))), (cq49, .inl (ca37, 240, .inl (fun _ => 0))), (cq50, .inl (ca38, 240, .inl (fun _ => 0))), (cq51, .inl (ca39, 32, .inl (fun _ => 0))), (mh0, .inr (10, [.ref mq0, .ref mq1, .ref mq2, .ref mq3, .int 0, .int 0, .ref mq4, .ref mq5, .ref mq6, .int 0, .int 0, .int 0, .int 0, .int 0, .int 0, .int 0, .int 0, .int 0, .int 0, .ref mq7, .ref mq8, .ref mq9, .ref mq10, .ref mq11, .ref mq12, .ref mq13, .ref mq14, .ref mq15, .ref mq16, .ref mq17, .ref mq18, .ref mq19, .ref mq20, .ref mq21, .ref mq22, .ref mq23, .ref mq24, .ref mq25, .int 0, .int 0, .int 0, .int 0, .int 0, .int 0, .int 0, .int 0, .int 0, .int 0, .int 0, .int 0, .ref mq26, .ref mq27, .ref mq28, .ref mq29, .int 0, .int 0, .ref mq30, .int 0])), (mq0, .inl (ma0, 47, .inl (upd (fun _ => 0) 46 1))), (mq1, .inl (ma1, 47, .inl (fun _ => 0))), (mq2, .inl (ma2, 47, .inl (fun _ => 0))), (mq3, .inl (ma3, 12, .inl (fun _ => 0))), (mq4, .inl (ma4, 12, .inl (fun _ => 0))), (mq5, .inl (ma5, 12, .inl (fun _ => 0))), (mq6, .inl (ma6, 260, .inl (fun _ => 0))), (mq7, .inl (ma7, 260, .inl (fun _ => 0))), (mq8, .inl (ma8, 260, .inl (fun _ => 0))), (mq9, .inl (ma9, 16, .inl (fun _ => 0))), (mq10, .inl (ma10, 16, .inl (fun _ => 0))), (mq11, .inl (ma11, 16, .inl (fun _ => 0))), (mq12, .inl (ma12, 16, .inl (fun _ => 0))), (mq13, .inl (ma13, 260, .inl (fun _ => 0))), (mq14, .inl (ma14, 16, .inl (fun _ => 0))), (mq15, .inl (ma15, 16, .inl (fun _ => 0))), (mq16, .inl (ma16, 16, .inl (fun _ => 0))), (mq17, .inl (ma17, 16, .inl (fun _ => 0))), (mq18, .inl (ma18, 260, .inl (fun _ => 0))), (mq19, .inl (ma19, 8, .inl (fun _ => 0))), (mq20, .inl (ma20, 576, .inl (fun _ => 0))), (mq21, .inl (ma21, 12, .inl (fun _ => 0))), (mq22, .inl (ma22, 48, .inl (fun _ => 0))), (mq23, .inl (ma23, 2, .inl (fun _ => 0))), (mq24, .inl (ma24, 2, .inl (fun _ => 0))), (mq25, .inl (ma25, 2, .inl (fun _ => 0))), (mq26, .inl (ma26, 61, .inl (fun _ => 0))), (mq27, .inl (ma27, 12, .inl (fun _ => 0))), (mq28, .inl (ma28, 12, .inl (fun _ => 0))), (mq29, .inl (ma29, 12, .inl (fun _ => 0))), (mq30, .inl (ma30, 512, .inl (fun _ => 0)))] : va_W)[([0, 1, 2, 3, 4, 5, 6, 7, 8, 9, 10, 11, 12, 13, 14, 15, 16, 17, 18, 19, 20, 21, 22, 23, 24, 25, 26, 27, 28, 29, 30, 31, 32, 33, 34, 35, 36, 37, 38, 39, 40, 41, 42, 43, 44, 45, 46, 47, 48, 49, 50, 51, 52] : List Nat).getD k 0]? = some ((fun k : Nat => cond (Nat.beq k 999) t0 (([ch0, cq0, cq1, cq2, cq3, cq4, cq5, cq6, cq7, cq8, cq9, cq10, cq11, cq12, cq13, cq14, cq15, cq16, cq17, cq18, cq19, cq20, cq21, cq22, cq23, cq24, cq25, cq26, cq27, cq28, cq29, cq30, cq31, cq32, cq33, cq34, cq35, cq36, cq37, cq38, cq39, cq40, cq41, cq42, cq43, cq44, cq45, cq46, cq47, cq48, cq49, cq50, cq51] : List Nat).getD k 0)) k, e) := by
  intro k hk
  match k, hk with
  | 0, _ => exact ⟨_, rfl⟩
  | 1, _ => exact ⟨_, rfl⟩
  | 2, _ => exact ⟨_, rfl⟩
  | 3, _ => exact ⟨_, rfl⟩
  | 4, _ => exact ⟨_, rfl⟩
  | 5, _ => exact ⟨_, rfl⟩
  | 6, _ => exact ⟨_, rfl⟩
  | 7, _ => exact ⟨_, rfl⟩
  | 8, _ => exact ⟨_, rfl⟩
  | 9, _ => exact ⟨_, rfl⟩
  | 10, _ => exact ⟨_, rfl⟩
  | 11, _ => exact ⟨_, rfl⟩
  | 12, _ => exact ⟨_, rfl⟩
  | 13, _ => exact ⟨_, rfl⟩
  | 14, _ => exact ⟨_, rfl⟩
  | 15, _ => exact ⟨_, rfl⟩
  | 16, _ => exact ⟨_, rfl⟩
  | 17, _ => exact ⟨_, rfl⟩
  | 18, _ => exact ⟨_, rfl⟩
  | 19, _ => exact ⟨_, rfl⟩
  | 20, _ => exact ⟨_, rfl⟩
  | 21, _ => exact ⟨_, rfl⟩
  | 22, _ => exact ⟨_, rfl⟩
  | 23, _ => exact ⟨_, rfl⟩
  | 24, _ => exact ⟨_, rfl⟩
  | 25, _ => exact ⟨_, rfl⟩
  | 26, _ => exact ⟨_, rfl⟩
  | 27, _ => exact ⟨_, rfl⟩
  | 28, _ => exact ⟨_, rfl⟩
  | 29, _ => exact ⟨_, rfl⟩
  | 30, _ => exact ⟨_, rfl⟩
  | 31, _ => exact ⟨_, rfl⟩
  | 32, _ => exact ⟨_, rfl⟩
  | 33, _ => exact ⟨_, rfl⟩
  | 34, _ => exact ⟨_, rfl⟩
  | 35, _ => exact ⟨_, rfl⟩
  | 36, _ => exact ⟨_, rfl⟩
  | 37, _ => exact ⟨_, rfl⟩
  | 38, _ => exact ⟨_, rfl⟩
  | 39, _ => exact ⟨_, rfl⟩
  | 40, _ => exact ⟨_, rfl⟩
  | 41, _ => exact ⟨_, rfl⟩
  | 42, _ => exact ⟨_, rfl⟩
  | 43, _ => exact ⟨_, rfl⟩
  | 44, _ => exact ⟨_, rfl⟩
  | 45, _ => exact ⟨_, rfl⟩
  | 46, _ => exact ⟨_, rfl⟩
  | 47, _ => exact ⟨_, rfl⟩
  | 48, _ => exact ⟨_, rfl⟩
  | 49, _ => exact ⟨_, rfl⟩
  | 50, _ => exact ⟨_, rfl⟩
  | 51, _ => exact ⟨_, rfl⟩
  | 52, _ => exact ⟨_, rfl⟩
  | k + 53, hk => exact absurd hk (by omega)
theorem lw_injC : ∀ i, i < 53 → ∀ j, j < 53 → ([0, 1, 2, 3, 4, 5, 6, 7, 8, 9, 10, 11, 12, 13, 14, 15, 16, 17, 18, 19, 20, 21, 22, 23, 24, 25, 26, 27, 28, 29, 30, 31, 32, 33, 34, 35, 36, 37, 38, 39, 40, 41, 42, 43, 44, 45, 46, 47, 48, 49, 50, 51, 52] : List Nat).getD i 0 = ([0, 1, 2, 3, 4, 5, 6, 7, 8, 9, 10, 11, 12, 13, 14, 15, 16, 17, 18, 19, 20, 21, 22, 23, 24, 25, 26, 27, 28, 29, 30, 31, 32, 33, 34, 35, 36, 37, 38, 39, 40, 41, 42, 43, 44, 45, 46, 47, 48, 49, 50, 51, 52] : List Nat).getD j 0 → i = j := by decide +kernel
set_option maxHeartbeats 8000000 in
set_option maxRecDepth 100000 in
theorem lw_worldM {D : va_G} {H : Heap} {t0 : Nat} (ch0 cq0 cq1 cq2 cq3 cq4 cq5 cq6 cq7 cq8 cq9 cq10 cq11 cq12 cq13 cq14 cq15 cq16 cq17 cq18 cq19 cq20 cq21 cq22 cq23 cq24 cq25 cq26 cq27 cq28 cq29 cq30 cq31 cq32 cq33 cq34 cq35 cq36 cq37 cq38 cq39 cq40 cq41 cq42 cq43 cq44 cq45 cq46 cq47 cq48 cq49 cq50 cq51 mh0 mq0 mq1 mq2 mq3 mq4 mq5 mq6 mq7 mq8 mq9 mq10 mq11 mq12 mq13 mq14 mq15 mq16 mq17 mq18 mq19 mq20 mq21 mq22 mq23 mq24 mq25 mq26 mq27 mq28 mq29 mq30 : Nat) (ca0 ca1 ca2 ca3 ca4 ca5 ca6 ca7 ca8 ca9 ca10 ca11 ca12 ca13 ca14 ca15 ca16 ca17 ca18 ca19 ca20 ca21 ca22 ca23 ca24 ca25 ca26 ca27 ca28 ca29 ca30 ca31 ca32 ca33 ca34 ca35 ca36 ca37 ca38 ca39 ma0 ma1 ma2 ma3 ma4 ma5 ma6 ma7 ma8 ma9 ma10 ma11 ma12 ma13 ma14 ma15 ma16 ma17 ma18 ma19 ma20 ma21 ma22 ma23 ma24 ma25 ma26 ma27 ma28 ma29 ma30 : ClassId) (hP : va_P D wk_cls [(ch0, .inr (9, [.ref cq0, .ref cq2, .ref cq7, .ref cq12, .ref cq17, .ref cq22, .ref cq24, .ref cq29, .ref cq31, .ref cq33, .ref cq35, .ref cq36, .ref cq44, .int 0])), (cq0, .inr (6, [.ref cq1, .int 0])), (cq1, .inl (ca0, 260, .inl (fun _ => 0))), (cq2, .inr (2, [.ref cq3, .ref cq4, .ref cq5, .ref cq6, .int 0, .int 0])), (cq3, .inl (ca1, 12, .inl (fun _ => 0))), (cq4, .inl (ca2, 144, .inl (fun _ => 0))), (cq5, .inl (ca3, 12, .inl (fun _ => 0))), (cq6, .inl (ca4, 12, .inr (.inl (fun _ => 0)))), (cq7, .inr (0, [.ref cq8, .ref cq9, .ref cq10, .ref cq11, .int 0, .int 0, .int 1])), (cq8, .inl (ca5, 9, .inl (fun _ => 0))), (cq9, .inl (ca6, 9, .inl (fun _ => 0))), (cq10, .inl (ca7, 9, .inl (fun _ => 0))), (cq11, .inl (ca8, 9, .inl (fun _ => 0))), (cq12, .inr (0, [.ref cq13, .ref cq14, .ref cq15, .ref cq16, .int 0, .int 0, .int 1])), (cq13, .inl (ca9, 9, .inl (fun _ => 0))), (cq14, .inl (ca10, 9, .inl (fun _ => 0))), (cq15, .inl (ca11, 9, .inl (fun _ => 0))), (cq16, .inl (ca12, 9, .inl (fun _ => 0))), (cq17, .inr (0, [.ref cq18, .ref cq19, .ref cq20, .ref cq21, .int 0, .int 0, .int 1])), (cq18, .inl (ca13, 9, .inl (fun _ => 0))), (cq19, .inl (ca14, 9, .inl (fun _ => 0))), (cq20, .inl (ca15, 9, .inl (fun _ => 0))), (cq21, .inl (ca16, 9, .inl (fun _ => 0))), (cq22, .inr (8, [.ref cq23, .int 0, .int 0, .int 0, .int 0, .int (-1)])), (cq23, .inl (ca17, 8, .inl (fun _ => 0))), (cq24, .inr (7, [.ref cq25, .ref cq26, .ref cq27, .ref cq28])), (cq25, .inl (ca18, 61, .inl (fun _ => 0))), (cq26, .inl (ca19, 60, .inl (fun _ => 0))), (cq27, .inl (ca20, 12, .inr (.inl (fun _ => 0)))), (cq28, .inl (ca21, 12, .inr (.inl (fun _ => 0)))), (cq29, .inr (3, [.ref cq30, .int 0, .int 0, .int 0, .long 0, .int 0])), (cq30, .inl (ca22, 240, .inl (fun _ => 0))), (cq31, .inr (1, [.ref cq32, .int 0, .int 0, .int 0])), (cq32, .inl (ca23, 240, .inl (fun _ => 0))), (cq33, .inr (5, [.ref cq34, .int 0, .int 0, .int 0])), (cq34, .inl (ca24, 240, .inl (fun _ => 0))), (cq35, .inl (ca25, 512, .inl (fun _ => 0))), (cq36, .inr (4, [.ref cq37, .ref cq38, .ref cq39, .ref cq40, .ref cq41, .ref cq42, .ref cq43, .int 0, .int 0, .int 0, .int 0])), (cq37, .inl (ca26, 16, .inl (fun _ => 0))), (cq38, .inl (ca27, 16, .inl (fun _ => 0))), (cq39, .inl (ca28, 16, .inl (fun _ => 0))), (cq40, .inl (ca29, 16, .inl (fun _ => 0))), (cq41, .inl (ca30, 240, .inl (fun _ => 0))), (cq42, .inl (ca31, 240, .inl (fun _ => 0))), (cq43, .inl (ca32, 32, .inl (fun _ => 0))), (cq44, .inr (4, [.ref cq45, .ref cq46, .ref cq47, .ref cq48, .ref cq49, .ref cq50, .ref cq51, .int 0, .int 0, .int 0, .int 0])), (cq45, .inl (ca33, 16, .inl (fun _ => 0))), (cq46, .inl (ca34, 16, .inl (fun _ => 0))), (cq47, .inl (ca35, 16, .inl (fun _ => 0))), (cq48, .inl (ca36, 16, .inl (fun _ => 0))), (cq49, .inl (ca37, 240, .inl (fun _ => 0))), (cq50, .inl (ca38, 240, .inl (fun _ => 0))), (cq51, .inl (ca39, 32, .inl (fun _ => 0))), (mh0, .inr (10, [.ref mq0, .ref mq1, .ref mq2, .ref mq3, .int 0, .int 0, .ref mq4, .ref mq5, .ref mq6, .int 0, .int 0, .int 0, .int 0, .int 0, .int 0, .int 0, .int 0, .int 0, .int 0, .ref mq7, .ref mq8, .ref mq9, .ref mq10, .ref mq11, .ref mq12, .ref mq13, .ref mq14, .ref mq15, .ref mq16, .ref mq17, .ref mq18, .ref mq19, .ref mq20, .ref mq21, .ref mq22, .ref mq23, .ref mq24, .ref mq25, .int 0, .int 0, .int 0, .int 0, .int 0, .int 0, .int 0, .int 0, .int 0, .int 0, .int 0, .int 0, .ref mq26, .ref mq27, .ref mq28, .ref mq29, .int 0, .int 0, .ref mq30, .int 0])), (mq0, .inl (ma0, 47, .inl (upd (fun _ => 0) 46 1))), (mq1, .inl (ma1, 47, .inl (fun _ => 0))), (mq2, .inl (ma2, 47, .inl (fun _ => 0))), (mq3, .inl (ma3, 12, .inl (fun _ => 0))), (mq4, .inl (ma4, 12, .inl (fun _ => 0))), (mq5, .inl (ma5, 12, .inl (fun _ => 0))), (mq6, .inl (ma6, 260, .inl (fun _ => 0))), (mq7, .inl (ma7, 260, .inl (fun _ => 0))), (mq8, .inl (ma8, 260, .inl (fun _ => 0))), (mq9, .inl (ma9, 16, .inl (fun _ => 0))), (mq10, .inl (ma10, 16, .inl (fun _ => 0))), (mq11, .inl (ma11, 16, .inl (fun _ => 0))), (mq12, .inl (ma12, 16, .inl (fun _ => 0))), (mq13, .inl (ma13, 260, .inl (fun _ => 0))), (mq14, .inl (ma14, 16, .inl (fun _ => 0))), (mq15, .inl (ma15, 16, .inl (fun _ => 0))), (mq16, .inl (ma16, 16, .inl (fun _ => 0))), (mq17, .inl (ma17, 16, .inl (fun _ => 0))), (mq18, .inl (ma18, 260, .inl (fun _ => 0))), (mq19, .inl (ma19, 8, .inl (fun _ => 0))), (mq20, .inl (ma20, 576, .inl (fun _ => 0))), (mq21, .inl (ma21, 12, .inl (fun _ => 0))), (mq22, .inl (ma22, 48, .inl (fun _ => 0))), (mq23, .inl (ma23, 2, .inl (fun _ => 0))), (mq24, .inl (ma24, 2, .inl (fun _ => 0))), (mq25, .inl (ma25, 2, .inl (fun _ => 0))), (mq26, .inl (ma26, 61, .inl (fun _ => 0))), (mq27, .inl (ma27, 12, .inl (fun _ => 0))), (mq28, .inl (ma28, 12, .inl (fun _ => 0))), (mq29, .inl (ma29, 12, .inl (fun _ => 0))), (mq30, .inl (ma30, 512, .inl (fun _ => 0)))] H) : va_P D wk_cls (wk_w wk_shM 32 (fun k : Nat => cond (Nat.beq k 999) t0 (([mh0, mq0, mq1, mq2, mq3, mq4, mq5, mq6, mq7, mq8, mq9, mq10, mq11, mq12, mq13, mq14, mq15, mq16, mq17, mq18, mq19, mq20, mq21, mq22, mq23, mq24, mq25, mq26, mq27, mq28, mq29, mq30] : List Nat).getD k 0)) (fun k => ([0, ma0, ma1, ma2, ma3, ma4, ma5, ma6, ma7, ma8, ma9, ma10, ma11, ma12, ma13, ma14, ma15, ma16, ma17, ma18, ma19, ma20, ma21, ma22, ma23, ma24, ma25, ma26, ma27, ma28, ma29, ma30] : List ClassId).getD k 0) wk_s0M) H := by
  intro k q hq
  have hk : k < 32 := by
    have := (List.getElem?_eq_some_iff.mp hq).1
    simpa [wk_w] using this
  rw [wk_w_get hk] at hq
  cases hq
  match k, hk with
  | 0, _ => exact hP 53 _ rfl
  | 1, _ => exact hP 54 _ rfl
  | 2, _ => exact hP 55 _ rfl
  | 3, _ => exact hP 56 _ rfl
  | 4, _ => exact hP 57 _ rfl
  | 5, _ => exact hP 58 _ rfl
  | 6, _ => exact hP 59 _ rfl
  | 7, _ => exact hP 60 _ rfl
  | 8, _ => exact hP 61 _ rfl
  | 9, _ => exact hP 62 _ rfl
  | 10, _ => exact hP 63 _ rfl
  | 11, _ => exact hP 64 _ rfl
  | 12, _ => exact hP 65 _ rfl
  | 13, _ => exact hP 66 _ rfl
  | 14, _ => exact hP 67 _ rfl
  | 15, _ => exact hP 68 _ rfl
  | 16, _ => exact hP 69 _ rfl
  | 17, _ => exact hP 70 _ rfl
  | 18, _ => exact hP 71 _ rfl
  | 19, _ => exact hP 72 _ rfl
  | 20, _ => exact hP 73 _ rfl
  | 21, _ => exact hP 74 _ rfl
  | 22, _ => exact hP 75 _ rfl
  | 23, _ => exact hP 76 _ rfl
  | 24, _ => exact hP 77 _ rfl
  | 25, _ => exact hP 78 _ rfl
  | 26, _ => exact hP 79 _ rfl
  | 27, _ => exact hP 80 _ rfl
  | 28, _ => exact hP 81 _ rfl
  | 29, _ => exact hP 82 _ rfl
  | 30, _ => exact hP 83 _ rfl
  | 31, _ => exact hP 84 _ rfl
  | k + 32, hk => exact absurd hk (by omega)
set_option maxRecDepth 100000 in
theorem lw_placeM (t0 ch0 cq0 cq1 cq2 cq3 cq4 cq5 cq6 cq7 cq8 cq9 cq10 cq11 cq12 cq13 cq14 cq15 cq16 cq17 cq18 cq19 cq20 cq21 cq22 cq23 cq24 cq25 cq26 cq27 cq28 cq29 cq30 cq31 cq32 cq33 cq34 cq35 cq36 cq37 cq38 cq39 cq40 cq41 cq42 cq43 cq44 cq45 cq46 cq47 cq48 cq49 cq50 cq51 mh0 mq0 mq1 mq2 mq3 mq4 mq5 mq6 mq7 mq8 mq9 mq10 mq11 mq12 mq13 mq14 mq15 mq16 mq17 mq18 mq19 mq20 mq21 mq22 mq23 mq24 mq25 mq26 mq27 mq28 mq29 mq30 : Nat) (ca0 ca1 ca2 ca3 ca4 ca5 ca6 ca7 ca8 ca9 ca10 ca11 ca12 ca13 ca14 ca15 ca16 ca17 ca18 ca19 ca20 ca21 ca22 ca23 ca24 ca25 ca26 ca27 ca28 ca29 ca30 ca31 ca32 ca33 ca34 ca35 ca36 ca37 ca38 ca39 ma0 ma1 ma2 ma3 ma4 ma5 ma6 ma7 ma8 ma9 ma10 ma11 ma12 ma13 ma14 ma15 ma16 ma17 ma18 ma19 ma20 ma21 ma22 ma23 ma24 ma25 ma26 ma27 ma28 ma29 ma30 : ClassId) : ∀ k, k < 32 → ∃ e, ([(ch0, .inr (9, [.ref cq0, .ref cq2, .ref cq7, .ref cq12, .ref cq17, .ref cq22, .ref cq24, .ref cq29, .ref cq31, .ref cq33, .ref cq35, .ref cq36, .ref cq44, .int 0])), (cq0, .inr (6, [.ref cq1, .int 0])), (cq1, .inl (ca0, 260, .inl (fun _ => 0))), (cq2, .inr (2, [.ref cq3, .ref cq4, .ref cq5, .ref cq6, .int 0, .int 0])), (cq3, .inl (ca1, 12, .inl (fun _ => 0))), (cq4, .inl (ca2, 144, .inl (fun _ => 0))), (cq5, .inl (ca3, 12, .inl (fun _ => 0))), (cq6, .inl (ca4, 12, .inr (.inl (fun _ => 0)))), (cq7, .inr (0, [.ref cq8, .ref cq9, .ref cq10, .ref cq11, .int 0, .int 0, .int 1])), (cq8, .inl (ca5, 9, .inl (fun _ => 0))), (cq9, .inl (ca6, 9, .inl (fun _ => 0))), (cq10, .inl (ca7, 9, .inl (fun _ => 0))), (cq11, .inl (ca8, 9, .inl (fun _ => 0))), (cq12, .inr (0, [.ref cq13, .ref cq14, .ref cq15, .ref cq16, .int 0, .int 0, .int 1])), (cq13, .inl (ca9, 9, .inl (fun _ => 0))), (cq14, .inl (ca10, 9, .inl (fun _ => 0))), (cq15, .inl (ca11, 9, .inl (fun _ => 0))), (cq16, .inl (ca12, 9, .inl (fun _ => 0))), (cq17, .inr (0, [.ref cq18, .ref cq19, .ref cq20, .ref cq21, .int 0, .int 0, .int 1])), (cq18, .inl (ca13, 9, .inl (fun _ => 0))), (cq19, .inl (ca14, 9, .inl (fun _ => 0))), (cq20, .inl (ca15, 9, .inl (fun _ => 0))), (cq21, .inl (ca16, 9, .inl (fun _ => 0))), (cq22, .inr (8, [.ref cq23, .int 0, .int 0, .int 0, .int 0, .int (-1)])), (cq23, .inl (ca17, 8, .inl (fun _ => 0))), (cq24, .inr (7, [.ref cq25, .ref cq26, .ref cq27, .ref cq28])), (cq25, .inl (ca18, 61, .inl (fun _ => 0))), (cq26, .inl (ca19, 60, .inl (fun _ => 0))), (cq27, .inl (ca20, 12, .inr (.inl (fun _ => 0)))), (cq28, .inl (ca21, 12, .inr (.inl (fun _ => 0)))), (cq29, .inr (3, [.ref cq30, .int 0, .int 0, .int 0, .long 0, .int 0])), (cq30, .inl (ca22, 240, .inl (fun _ => 0))), (cq31, .inr (1, [.ref cq32, .int 0, .int 0, .int 0])), (cq32, .inl (ca23, 240, .inl (fun _ => 0))), (cq33, .inr (5, [.ref cq34, .int 0, .int 0, .int 0])), (cq34, .inl (ca24, 240, .inl (fun _ => 0))), (cq35, .inl (ca25, 512, .inl (fun _ => 0))), (cq36, .inr (4, [.ref cq37, .ref cq38, .ref cq39, .ref cq40, .ref cq41, .ref cq42, .ref cq43, .int 0, .int 0, .int 0, .int 0])), (cq37, .inl (ca26, 16, .inl (fun _ => 0))), (cq38, .inl (ca27, 16, .inl (fun _ => 0))), (cq39, .inl (ca28, 16, .inl (fun _ => 0))), (cq40, .inl (ca29, 16, .inl (fun _ => 0))), (cq41, .inl (ca30, 240, .inl (fun _ => 0))), (cq42, .inl (ca31, 240, .inl (fun _ => 0))), (cq43, .inl (ca32, 32, .inl (fun _ => 0))), (cq44, .inr (4, [.ref cq45, .ref cq46, .ref cq47, .ref cq48, .ref cq49, .ref cq50, .ref cq51, .int 0, .int 0, .int 0, .int 0])), (cq45, .inl (ca33, 16, .inl (fun _ => 0))), (cq46, .inl (ca34, 16, .inl (fun _ => 0))), (cq47, .inl (ca35, 16, .inl (fun _ => 0))), (cq48, .inl (ca36, 16, .inl (fun _ => 0))), (cq49, .inl (ca37, 240, .inl (fun _ => 0))), (cq50, .inl (ca38, 240, .inl (fun _ => 0))), (cq51, .inl (ca39, 32, .inl (fun _ => 0))), (mh0, .inr (10, [.ref mq0, .ref mq1, .ref mq2, .ref mq3, .int 0, .int 0, .ref mq4, .ref mq5, .ref mq6, .int 0, .int 0, .int 0, .int 0, .int 0, .int 0, .int 0, .int 0, .int 0, .int 0, .ref mq7, .ref mq8, .ref mq9, .ref mq10, .ref mq11, .ref mq12, .ref mq13, .ref mq14, .ref mq15, .ref mq16, .ref mq17, .ref mq18, .ref mq19, .ref mq20, .ref mq21, .ref mq22, .ref mq23, .ref mq24, .ref mq25, .int 0, .int 0, .int 0, .int 0, .int 0, .int 0, .int 0, .int 0, .int 0, .int 0, .int 0, .int 0, .ref mq26, .ref mq27, .ref mq28, .ref mq29, .int 0, .int 0, .ref mq30, .int 0])), (mq0, .inl (ma0, 47, .inl (upd (fun _ => 0) 46 1))), (mq1, .inl (ma1, 47, .inl (fun _ => 0))), (mq2, .inl (ma2, 47, .inl (fun _ => 0))), (mq3, .inl (ma3, 12, .inl (fun _ => 0))), (mq4, .inl (ma4, 12, .inl (fun _ => 0))), (mq5, .inl (ma5, 12, .inl (fun _ => 0))), (mq6, .inl (ma6, 260, .inl (fun _ => 0))), (mq7, .inl (ma7, 260, .inl (fun _ => 0))), (mq8, .inl (ma8, 260, .inl (fun _ => 0))), (mq9, .inl (ma9, 16, .inl (fun _ => 0))), (mq10, .inl (ma10, 16, .inl (fun _ => 0))), (mq11, .inl (ma11, 16, .inl (fun _ => 0))), (mq12, .inl (ma12, 16, .inl (fun _ => 0))), (mq13, .inl (ma13, 260, .inl (fun _ => 0))), (mq14, .inl (ma14, 16, .inl (fun _ => 0))), (mq15, .inl (ma15, 16, .inl (fun _ => 0))), (mq16, .inl (ma16, 16, .inl (fun _ => 0))), (mq17, .inl (ma17, 16, .inl (fun _ => 0))), (mq18, .inl (ma18, 260, .inl (fun _ => 0))), (mq19, .inl (ma19, 8, .inl (fun _ => 0))), (mq20, .inl (ma20, 576, .inl (fun _ => 0))), (mq21, .inl (ma21, 12, .inl (fun _ => 0))), (mq22, .inl (ma22, 48, .inl (fun _ => 0))), (mq23, .inl (ma23, 2, .inl (fun _ => 0))), (mq24, .inl (ma24, 2, .inl (fun _ => 0))), (mq25, .inl (ma25, 2, .inl (fun _ => 0))), (mq26, .inl (ma26, 61, .inl (fun _ => 0))), (mq27, .inl (ma27, 12, .inl (fun _ => 0))), (mq28, .inl (ma28, 12, .inl (fun _ => 0))), (mq29, .inl (ma29, 12, .inl (fun _ => 0))), (mq30, .inl (ma30, 512, .inl (fun _ => 0)))] : va_W)[([53, 54, 55, 56, 57, 58, 59, 60, 61, 62, 63, 64, 65, 66, 67, 68, 69, 70, 71, 72, 73, 74, 75, 76, 77, 78, 79, 80, 81, 82, 83, 84] : List Nat).getD k 0]? = some ((fun k : Nat => cond (Nat.beq k 999) t0 (([mh0, mq0, mq1, mq2, mq3, mq4, mq5, mq6, mq7, mq8, mq9, mq10, mq11, mq12, mq13, mq14, mq15, mq16, mq17, mq18, mq19, mq20, mq21, mq22, mq23, mq24, mq25, mq26, mq27, mq28, mq29, mq30] : List Nat).getD k 0)) k, e) := by
  intro k hk
  match k, hk with
  | 0, _ => exact ⟨_, rfl⟩
  | 1, _ => exact ⟨_, rfl⟩
  | 2, _ => exact ⟨_, rfl⟩
  | 3, _ => exact ⟨_, rfl⟩
  | 4, _ => exact ⟨_, rfl⟩
  | 5, _ => exact ⟨_, rfl⟩
  | 6, _ => exact ⟨_, rfl⟩
  | 7, _ => exact ⟨_, rfl⟩
  | 8, _ => exact ⟨_, rfl⟩
  | 9, _ => exact ⟨_, rfl⟩
  | 10, _ => exact ⟨_, rfl⟩
  | 11, _ => exact ⟨_, rfl⟩
  | 12, _ => exact ⟨_, rfl⟩
  | 13, _ => exact ⟨_, rfl⟩
  | 14, _ => exact ⟨_, rfl⟩
  | 15, _ => exact ⟨_, rfl⟩
  | 16, _ => exact ⟨_, rfl⟩
  | 17, _ => exact ⟨_, rfl⟩
  | 18, _ => exact ⟨_, rfl⟩
  | 19, _ => exact ⟨_, rfl⟩
  | 20, _ => exact ⟨_, rfl⟩
  | 21, _ => exact ⟨_, rfl⟩
  | 22, _ => exact ⟨_, rfl⟩
  | 23, _ => exact ⟨_, rfl⟩
  | 24, _ => exact ⟨_, rfl⟩
  | 25, _ => exact ⟨_, rfl⟩
  | 26, _ => exact ⟨_, rfl⟩
  | 27, _ => exact ⟨_, rfl⟩
  | 28, _ => exact ⟨_, rfl⟩
  | 29, _ => exact ⟨_, rfl⟩
  | 30, _ => exact ⟨_, rfl⟩
  | 31, _ => exact ⟨_, rfl⟩
  | k + 32, hk => exact absurd hk (by omega)
theorem lw_injM : ∀ i, i < 32 → ∀ j, j < 32 → ([53, 54, 55, 56, 57, 58, 59, 60, 61, 62, 63, 64, 65, 66, 67, 68, 69, 70, 71, 72, 73, 74, 75, 76, 77, 78, 79, 80, 81, 82, 83, 84] : List Nat).getD i 0 = ([53, 54, 55, 56, 57, 58, 59, 60, 61, 62, 63, 64, 65, 66, 67, 68, 69, 70, 71, 72, 73, 74, 75, 76, 77, 78, 79, 80, 81, 82, 83, 84] : List Nat).getD j 0 → i = j := by decide +kernel
theorem lw_dis : ∀ i, i < 53 → ∀ j, j < 32 → ([0, 1, 2, 3, 4, 5, 6, 7, 8, 9, 10, 11, 12, 13, 14, 15, 16, 17, 18, 19, 20, 21, 22, 23, 24, 25, 26, 27, 28, 29, 30, 31, 32, 33, 34, 35, 36, 37, 38, 39, 40, 41, 42, 43, 44, 45, 46, 47, 48, 49, 50, 51, 52] : List Nat).getD i 0 ≠ ([53, 54, 55, 56, 57, 58, 59, 60, 61, 62, 63, 64, 65, 66, 67, 68, 69, 70, 71, 72, 73, 74, 75, 76, 77, 78, 79, 80, 81, 82, 83, 84] : List Nat).getD j 0 := by decide +kernel
theorem lw_DD {A0 : Nat → Prop} {ws : va_W} (hD : va_D A0 ws) {sh : Nat → Option wk_De} {N : Nat} {ad : Nat → Nat} {cA : Nat → ClassId} {pl : Nat → Nat} (h1 : ∀ k, k < N → ∃ e, ws[pl k]? = some (ad k, e)) (h2 : ∀ i, i < N → ∀ j, j < N → pl i = pl j → i = j) (σ : wk_St) : va_D (fun q => ∃ k, k < N ∧ q = ad k) (wk_w sh N ad cA σ) := by
  have key : ∀ (i : Nat) (q : Nat × va_E), (wk_w sh N ad cA σ)[i]? = some q → i < N ∧ q.1 = ad i := by
    intro i q hq
    have hi : i < N := by
      have := (List.getElem?_eq_some_iff.mp hq).1
      simpa [wk_w] using this
    rw [wk_w_get hi] at hq
    cases hq
    exact ⟨hi, rfl⟩
  refine ⟨fun i j p q hp hq e => ?_, fun k q hq => ?_⟩
  · obtain ⟨a1, a2⟩ := key i p hp
    obtain ⟨b1, b2⟩ := key j q hq
    obtain ⟨e1, g1⟩ := h1 i a1
    obtain ⟨e2, g2⟩ := h1 j b1
    exact h2 i a1 j b1 (hD.1 _ _ _ _ g1 g2 (by show ad i = ad j; rw [← a2, ← b2]; exact e))
  · obtain ⟨a1, a2⟩ := key k q hq
    exact ⟨k, a1, a2⟩
/-- the table of the months' lengths, at the start -/
theorem lw_stat {s : State} {b : Nat} (hts : ∀ w ∈ lw_tbl, w.before #[Value.ref b] s = true) (hgv : (Jvm.Cond.and given_1 narrow_1).before #[Value.ref b] s = true) : ∃ t0, wk_ST (fun q : Nat => s.heap.size ≤ q) t0 s s.heap := by
  have hs := flat_of_before _ hgv
  have hA : ∀ a : Nat, a < s.heap.size → ¬ s.heap.size ≤ a := fun a h => Nat.not_le.mpr h
  have hl := hts (.laysStatic "WolfKnight$Tables" "MONTH_LENGTHS" "[I") (List.mem_append_right _ (List.mem_of_getElem? (i := 938) (by decide +kernel)))
  have hini := hts (.initialized "WolfKnight$Tables") (List.mem_append_right _ (List.mem_of_getElem? (i := 15) (by decide +kernel)))
  obtain ⟨t, ht, hT⟩ := va_Tof (tm := .static "WolfKnight$Tables" "MONTH_LENGTHS" "[I") (ty := .int) (N := 12) (f := fun j => .int (wk_ml j)) (A := fun q : Nat => s.heap.size ≤ q) (by decide) (hs _ (by decide +kernel)) (va_eqt (z := 12) (hs _ (by decide +kernel))) (fun j hj => ?_) hA
  · exact ⟨t, va_Zref hl hini ht hA, hT⟩
  · match j, hj with
    | 0, _ => exact va_eqt (hs (Cond.eq (.elem (.static "WolfKnight$Tables" "MONTH_LENGTHS" "[I") (.int 0)) (.int 31)) (by decide +kernel))
    | 1, _ => exact va_eqt (hs (Cond.eq (.elem (.static "WolfKnight$Tables" "MONTH_LENGTHS" "[I") (.int 1)) (.int 28)) (by decide +kernel))
    | 2, _ => exact va_eqt (hs (Cond.eq (.elem (.static "WolfKnight$Tables" "MONTH_LENGTHS" "[I") (.int 2)) (.int 31)) (by decide +kernel))
    | 3, _ => exact va_eqt (hs (Cond.eq (.elem (.static "WolfKnight$Tables" "MONTH_LENGTHS" "[I") (.int 3)) (.int 30)) (by decide +kernel))
    | 4, _ => exact va_eqt (hs (Cond.eq (.elem (.static "WolfKnight$Tables" "MONTH_LENGTHS" "[I") (.int 4)) (.int 31)) (by decide +kernel))
    | 5, _ => exact va_eqt (hs (Cond.eq (.elem (.static "WolfKnight$Tables" "MONTH_LENGTHS" "[I") (.int 5)) (.int 30)) (by decide +kernel))
    | 6, _ => exact va_eqt (hs (Cond.eq (.elem (.static "WolfKnight$Tables" "MONTH_LENGTHS" "[I") (.int 6)) (.int 31)) (by decide +kernel))
    | 7, _ => exact va_eqt (hs (Cond.eq (.elem (.static "WolfKnight$Tables" "MONTH_LENGTHS" "[I") (.int 7)) (.int 31)) (by decide +kernel))
    | 8, _ => exact va_eqt (hs (Cond.eq (.elem (.static "WolfKnight$Tables" "MONTH_LENGTHS" "[I") (.int 8)) (.int 30)) (by decide +kernel))
    | 9, _ => exact va_eqt (hs (Cond.eq (.elem (.static "WolfKnight$Tables" "MONTH_LENGTHS" "[I") (.int 9)) (.int 31)) (by decide +kernel))
    | 10, _ => exact va_eqt (hs (Cond.eq (.elem (.static "WolfKnight$Tables" "MONTH_LENGTHS" "[I") (.int 10)) (.int 30)) (by decide +kernel))
    | 11, _ => exact va_eqt (hs (Cond.eq (.elem (.static "WolfKnight$Tables" "MONTH_LENGTHS" "[I") (.int 11)) (.int 31)) (by decide +kernel))
    | j + 12, hj => exact absurd hj (by omega)
set_option maxRecDepth 100000 in
theorem lw_s0 : (Jvm.Cond.instantiable "WolfKnight$Band" (7 : Nat)) ∈ wk_gt := wk_tbl (List.mem_append_left _ (List.mem_of_getElem? (i := 67) (by decide +kernel))) rfl
set_option maxRecDepth 100000 in
theorem lw_s1 : (Jvm.Cond.instantiable "WolfKnight$DiaryReader" (4 : Nat)) ∈ wk_gt := wk_tbl (List.mem_append_left _ (List.mem_of_getElem? (i := 184) (by decide +kernel))) rfl
set_option maxRecDepth 100000 in
theorem lw_s2 : (Jvm.Cond.instantiable "WolfKnight$Forest" (6 : Nat)) ∈ wk_gt := wk_tbl (List.mem_append_left _ (List.mem_of_getElem? (i := 40) (by decide +kernel))) rfl
set_option maxRecDepth 100000 in
theorem lw_s3 : (Jvm.Cond.instantiable "WolfKnight$HuntsReader" (6 : Nat)) ∈ wk_gt := wk_tbl (List.mem_append_left _ (List.mem_of_getElem? (i := 149) (by decide +kernel))) rfl
set_option maxRecDepth 100000 in
theorem lw_s4 : (Jvm.Cond.instantiable "WolfKnight$Law" (11 : Nat)) ∈ wk_gt := wk_tbl (List.mem_append_left _ (List.mem_of_getElem? (i := 206) (by decide +kernel))) rfl
set_option maxRecDepth 100000 in
theorem lw_s5 : (Jvm.Cond.instantiable "WolfKnight$LawReader" (4 : Nat)) ∈ wk_gt := wk_tbl (List.mem_append_left _ (List.mem_of_getElem? (i := 195) (by decide +kernel))) rfl
set_option maxRecDepth 100000 in
theorem lw_s6 : (Jvm.Cond.instantiable "WolfKnight$Tape" (2 : Nat)) ∈ wk_gt := wk_tbl (List.mem_append_left _ (List.mem_of_getElem? (i := 25) (by decide +kernel))) rfl
set_option maxRecDepth 100000 in
theorem lw_s7 : (Jvm.Cond.instantiable "WolfKnight$Trails" (4 : Nat)) ∈ wk_gt := wk_tbl (List.mem_append_left _ (List.mem_of_getElem? (i := 130) (by decide +kernel))) rfl
set_option maxRecDepth 100000 in
theorem lw_s8 : (Jvm.Cond.instantiable "WolfKnight$Walk" (6 : Nat)) ∈ wk_gt := wk_tbl (List.mem_append_left _ (List.mem_of_getElem? (i := 100) (by decide +kernel))) rfl
set_option maxRecDepth 100000 in
theorem lw_s9 : (Jvm.Cond.instantiable "WolfKnight" (14 : Nat)) ∈ wk_gt := wk_tbl (List.mem_append_left _ (List.mem_of_getElem? (i := 17) (by decide +kernel))) rfl
set_option maxRecDepth 100000 in
theorem lw_s10 : (Jvm.Cond.instantiable "WolfKnightModel" (58 : Nat)) ∈ wk_gt := wk_tbl (List.mem_append_right _ (List.mem_append_right _ (List.mem_append_right _ (List.mem_append_right _ (List.mem_append_left _ (List.mem_of_getElem? (i := 43) (by decide +kernel))))))) rfl
set_option maxRecDepth 100000 in
theorem lw_s11 : (Jvm.Cond.classLink "WolfKnightLaw" (7 : Nat) "WolfKnight") ∈ wk_gt := wk_tbl (List.mem_append_left _ (List.mem_of_getElem? (i := 16) (by decide +kernel))) rfl
set_option maxRecDepth 100000 in
theorem lw_s12 : (Jvm.Cond.initialized "WolfKnight") ∈ wk_gt := wk_tbl (List.mem_append_left _ (List.mem_of_getElem? (i := 1) (by decide +kernel))) rfl
set_option maxRecDepth 100000 in
theorem lw_s13 : (Jvm.Cond.methodLink "WolfKnightLaw" (9 : Nat) ({ cls := "WolfKnight", name := "<init>", desc := "()V" } : Jvm.MethodName)) ∈ wk_gt := wk_tbl (List.mem_append_left _ (List.mem_of_getElem? (i := 18) (by decide +kernel))) rfl
set_option maxRecDepth 100000 in
theorem lw_s14 : (Jvm.Cond.instanceMethod ({ cls := "WolfKnight", name := "<init>", desc := "()V" } : Jvm.MethodName)) ∈ wk_gt := wk_tbl (List.mem_append_left _ (List.mem_of_getElem? (i := 19) (by decide +kernel))) rfl
set_option maxRecDepth 100000 in
theorem lw_s15 : (Jvm.Cond.classLink "WolfKnightLaw" (10 : Nat) "WolfKnightModel") ∈ wk_gt := wk_tbl (List.mem_append_right _ (List.mem_append_right _ (List.mem_append_right _ (List.mem_append_right _ (List.mem_append_left _ (List.mem_of_getElem? (i := 42) (by decide +kernel))))))) rfl
set_option maxRecDepth 100000 in
theorem lw_s16 : (Jvm.Cond.initialized "WolfKnightModel") ∈ wk_gt := wk_tbl (List.mem_append_left _ (List.mem_of_getElem? (i := 12) (by decide +kernel))) rfl
set_option maxRecDepth 100000 in
theorem lw_s17 : (Jvm.Cond.methodLink "WolfKnightLaw" (12 : Nat) ({ cls := "WolfKnightModel", name := "<init>", desc := "()V" } : Jvm.MethodName)) ∈ wk_gt := wk_tbl (List.mem_append_right _ (List.mem_append_right _ (List.mem_append_right _ (List.mem_append_right _ (List.mem_append_left _ (List.mem_of_getElem? (i := 44) (by decide +kernel))))))) rfl
set_option maxRecDepth 100000 in
theorem lw_s18 : (Jvm.Cond.instanceMethod ({ cls := "WolfKnightModel", name := "<init>", desc := "()V" } : Jvm.MethodName)) ∈ wk_gt := wk_tbl (List.mem_append_right _ (List.mem_append_right _ (List.mem_append_right _ (List.mem_append_right _ (List.mem_append_left _ (List.mem_of_getElem? (i := 45) (by decide +kernel))))))) rfl
set_option maxHeartbeats 8000000 in
set_option maxRecDepth 100000 in
/-- THE LAW, from its entry, over a relation of the two worlds that holds at the start and that every operation keeps -/
theorem lw_start {Inv : wk_St → wk_St → Prop} (hI0 : Inv wk_s0C wk_s0M) (h0 : lw_op_0 Inv) (h1 : lw_op_1 Inv) (h2 : lw_op_2 Inv) (h3 : lw_op_3 Inv) (h4 : lw_op_4 Inv) (h5 : lw_op_5 Inv) (h6 : lw_op_6 Inv) (h7 : lw_op_7 Inv) (h8 : lw_op_8 Inv) (h9 : lw_op_9 Inv) (h10 : lw_op_10 Inv) (h11 : lw_op_11 Inv) (h12 : lw_op_12 Inv) (h13 : lw_op_13 Inv) (h14 : lw_op_14 Inv) (h15 : lw_op_15 Inv) (h16 : lw_op_16 Inv) (h17 : lw_op_17 Inv) (h18 : lw_op_18 Inv) (h19 : lw_op_19 Inv) (h20 : lw_op_20 Inv) (h21 : lw_op_21 Inv) (h22 : lw_op_22 Inv) (h23 : lw_op_23 Inv) (h24 : lw_op_24 Inv) (h25 : lw_op_25 Inv) (h26 : lw_op_26 Inv) (h27 : lw_op_27 Inv) (h28 : lw_op_28 Inv) (h29 : lw_op_29 Inv) (h30 : lw_op_30 Inv) (h31 : lw_op_31 Inv) (h32 : lw_op_32 Inv) (h33 : lw_op_33 Inv) (h34 : lw_op_34 Inv) {p : Program} {e : Env} {s : State} {m : MethodId} {below : List Frame} {meth : Method} {c : Code} (l : Launch) {b L : Nat} {xs : Nat → Int32} (hL : L ≤ 3584) (C0 : lw_At p s m meth c b L xs) : W p l e room_1 s m #[Value.ref b] below meth c s.heap [] 0 0 (lw_Z below #[Value.ref b] s) (entryFrame m ([Value.ref b] : List Value).toArray 4) := by
  obtain ⟨hx, hb, hr, hml, hown, hts, hX, hbl, hlocks, hgv⟩ := id C0
  have hts2 : ∀ w ∈ wk_gt, w.before #[Value.ref b] s = true := fun w hw => hts w (List.mem_filter.mp hw).1
  have hA : ∀ q : Nat, s.heap.size ≤ q → (fun q : Nat => s.heap.size ≤ q) q := fun _ h => h
  have hNW : wk_NW s := by
    intro w hw
    have h1 := hts w (List.mem_append_right _ (List.mem_filter.mp hw).1)
    have h2 := (List.mem_filter.mp hw).2
    unfold wk_isN at h2
    split at h2
    · exact va_Nw.of rfl h1
    · exact va_Nw.of rfl h1
    · cases h2
  obtain ⟨c0, iS0, hKn0⟩ := u_known (C := RX0) (T := TX0) (N := 7) (n := 7) hts2 wk_tX0 (hts2 _ lw_s0)
  obtain ⟨c1, iS1, hKn1⟩ := u_known (C := RX1) (T := TX1) (N := 4) (n := 4) hts2 wk_tX1 (hts2 _ lw_s1)
  obtain ⟨c2, iS2, hKn2⟩ := u_known (C := RX2) (T := TX2) (N := 6) (n := 6) hts2 wk_tX2 (hts2 _ lw_s2)
  obtain ⟨c3, iS3, hKn3⟩ := u_known (C := RX3) (T := TX3) (N := 6) (n := 6) hts2 wk_tX3 (hts2 _ lw_s3)
  obtain ⟨c4, iS4, hKn4⟩ := u_known (C := RX4) (T := TX4) (N := 11) (n := 11) hts2 wk_tX4 (hts2 _ lw_s4)
  obtain ⟨c5, iS5, hKn5⟩ := u_known (C := RX5) (T := TX5) (N := 4) (n := 4) hts2 wk_tX5 (hts2 _ lw_s5)
  obtain ⟨c6, iS6, hKn6⟩ := u_known (C := RX8) (T := TX8) (N := 2) (n := 2) hts2 wk_tX8 (hts2 _ lw_s6)
  obtain ⟨c7, iS7, hKn7⟩ := u_known (C := RX9) (T := TX9) (N := 4) (n := 4) hts2 wk_tX9 (hts2 _ lw_s7)
  obtain ⟨c8, iS8, hKn8⟩ := u_known (C := RX10) (T := TX10) (N := 6) (n := 6) hts2 wk_tX10 (hts2 _ lw_s8)
  obtain ⟨c9, iS9, hKn9⟩ := u_known (C := RX11) (T := TX11) (N := 14) (n := 14) hts2 wk_tX11 (hts2 _ lw_s9)
  obtain ⟨c10, iS10, hKn10⟩ := u_known (C := RX12) (T := TX12) (N := 58) (n := 58) hts2 wk_tX12 (hts2 _ lw_s10)
  obtain ⟨D, hKcl⟩ : ∃ D : va_G, ∀ (k : Nat) (q : vw_C), wk_cls[k]? = some q → u_Kn s q.1 q.2.1 q.2.2 (D.1 k) (D.2 k) := by
    refine ⟨(fun k => ([c0, c1, c2, c3, c4, c5, c6, c7, c8, c9, c10] : List ClassId).getD k 0, fun k => ([iS0, iS1, iS2, iS3, iS4, iS5, iS6, iS7, iS8, iS9, iS10] : List (Nat → Nat)).getD k (fun _ => 0)), ?_⟩
    intro k q hq
    match k, hq with
    | 0, hq => cases hq; exact hKn0
    | 1, hq => cases hq; exact hKn1
    | 2, hq => cases hq; exact hKn2
    | 3, hq => cases hq; exact hKn3
    | 4, hq => cases hq; exact hKn4
    | 5, hq => cases hq; exact hKn5
    | 6, hq => cases hq; exact hKn6
    | 7, hq => cases hq; exact hKn7
    | 8, hq => cases hq; exact hKn8
    | 9, hq => cases hq; exact hKn9
    | 10, hq => cases hq; exact hKn10
    | k + 11, hq => exact absurd (List.getElem?_eq_some_iff.mp hq).1 (by simp [wk_cls])
  have hS : va_S (fun q : Nat => s.heap.size ≤ q) s.heap s.heap [] := va_S.rf
  have hK : va_K D wk_cls [] s := ⟨hKcl, fun k q h => by simp at h⟩
  have hP : va_P D wk_cls [] s.heap := fun k q h => by simp at h
  have hD : va_D (fun q : Nat => s.heap.size ≤ q) [] := ⟨fun i j p q h => by simp at h, fun k q h => by simp at h⟩
  have hl := lv_entry ([.ref b]) (n := 4) (Nat.le_of_ble_eq_true rfl)
  rw [lg_entry_eq]
  generalize (lg_sl ([.ref b]) ++ List.replicate (4 - (lg_sl ([.ref b])).length) Slot.unset).toArray = ls at hl ⊢
  have hl : lv_has ls 4 [(0, .ref b)] := hl
  refine va_new (ci := 9) (fs := [.null, .null, .null, .null, .null, .null, .null, .null, .null, .null, .null, .null, .null, .int 0]) (C := RX11) (T := TX11) (N := 14) hx hb hts2 wk_tX11 tyX11 tyX11_ok hown (hts2 _ lw_s11) (hts2 _ lw_s9) (hts2 _ lw_s12) hK hP hD hS hA rfl (fun j hj => ?_) (Nat.le_of_ble_eq_true rfl) (Nat.le_of_ble_eq_true rfl) d_law_0 (fun ch0 H hP hD hS => ?_)
  · rcases (show j = 0 ∨ j = 1 ∨ j = 2 ∨ j = 3 ∨ j = 4 ∨ j = 5 ∨ j = 6 ∨ j = 7 ∨ j = 8 ∨ j = 9 ∨ j = 10 ∨ j = 11 ∨ j = 12 ∨ j = 13 by omega) with rfl | rfl | rfl | rfl | rfl | rfl | rfl | rfl | rfl | rfl | rfl | rfl | rfl | rfl <;> rfl
  have hP : va_P D wk_cls [(ch0, .inr (9, [.null, .null, .null, .null, .null, .null, .null, .null, .null, .null, .null, .null, .null, .int 0]))] H := hP
  have hD : va_D (fun q : Nat => s.heap.size ≤ q) [(ch0, .inr (9, [.null, .null, .null, .null, .null, .null, .null, .null, .null, .null, .null, .null, .null, .int 0]))] := hD
  refine W.widen (k := 1) (n := 14) (by omega) (by omega) ?_
  refine lv_dup hx hb d_law_3 rfl ?_
  have hPc := hP.sub (ws' := [(ch0, .inr (9, [.null, .null, .null, .null, .null, .null, .null, .null, .null, .null, .null, .null, .null, .int 0]))]) [0] rfl
  have hDc := hD.sub (ws' := [(ch0, .inr (9, [.null, .null, .null, .null, .null, .null, .null, .null, .null, .null, .null, .null, .null, .int 0]))]) [0] (by decide) rfl
  have hKc := hK.sub (tys' := []) [] rfl
  have hFc := va_free (wc := [(ch0, .inr (9, [.null, .null, .null, .null, .null, .null, .null, .null, .null, .null, .null, .null, .null, .int 0]))]) hD hS hA [0] rfl
  refine va_callv (va_runI (As := []) (rest := [.ref ch0]) ⟨hx, hb, hml, hown, hts2⟩ (k_X11_init l D ch0 H.size) (cwI 0 hts2 wk_gc_X11_init rfl rfl rfl (hts2 _ lw_s12) (hts2 _ lw_s13) (hts2 _ lw_s14) rfl (by decide +kernel) ⟨Nat.le_of_ble_eq_true rfl, Nat.le_of_ble_eq_true rfl⟩) ⟨fun a U g mk q => by obtain ⟨q0, q1, qP, qK, qD, qN⟩ := q; exact ⟨q0, q1, qP, va_K.moved (u := U) (U := U.calling g mk a) (Vm.Alike.refl U.vm) qK, qD, qN.same rfl⟩, fun U hU hW => ⟨rfl, by rw [hU], by rw [hU]; exact hPc, va_K.moved hW.alike hKc, hDc.weaken (fun _ _ _ _ => trivial), hNW.warm hW⟩⟩ rfl rfl hl.1 rfl (lv_room (Nat.le_of_ble_eq_true rfl)) d_law_4 ⟨Nat.le_of_ble_eq_true rfl, Nat.le_of_ble_eq_true rfl⟩) hS (fun q _ h => hFc q h) hFc (fun u t H1 locs ht hvm hw hB hz1 hk1 hS => ?_)
  obtain ⟨cq0, cq1, cq2, cq3, cq4, cq5, cq6, cq7, cq8, cq9, cq10, cq11, cq12, cq13, cq14, cq15, cq16, cq17, cq18, cq19, cq20, cq21, cq22, cq23, cq24, cq25, cq26, cq27, cq28, cq29, cq30, cq31, cq32, cq33, cq34, cq35, cq36, cq37, cq38, cq39, cq40, cq41, cq42, cq43, cq44, cq45, cq46, cq47, cq48, cq49, cq50, cq51, ca0, ca1, ca2, ca3, ca4, ca5, ca6, ca7, ca8, ca9, ca10, ca11, ca12, ca13, ca14, ca15, ca16, ca17, ca18, ca19, ca20, ca21, ca22, ca23, ca24, ca25, ca26, ca27, ca28, ca29, ca30, ca31, ca32, ca33, ca34, ca35, ca36, ca37, ca38, ca39, hP1, hK1, hD1⟩ := hB
  rw [ht] at hP1
  have hK1 := va_K.moved hvm.symm hK1
  obtain ⟨hP, hD⟩ := va_join (wr := []) (w1 := [(ch0, .inr (9, [.ref cq0, .ref cq2, .ref cq7, .ref cq12, .ref cq17, .ref cq22, .ref cq24, .ref cq29, .ref cq31, .ref cq33, .ref cq35, .ref cq36, .ref cq44, .int 0])), (cq0, .inr (6, [.ref cq1, .int 0])), (cq1, .inl (ca0, 260, .inl (fun _ => 0))), (cq2, .inr (2, [.ref cq3, .ref cq4, .ref cq5, .ref cq6, .int 0, .int 0])), (cq3, .inl (ca1, 12, .inl (fun _ => 0))), (cq4, .inl (ca2, 144, .inl (fun _ => 0))), (cq5, .inl (ca3, 12, .inl (fun _ => 0))), (cq6, .inl (ca4, 12, .inr (.inl (fun _ => 0)))), (cq7, .inr (0, [.ref cq8, .ref cq9, .ref cq10, .ref cq11, .int 0, .int 0, .int 1])), (cq8, .inl (ca5, 9, .inl (fun _ => 0))), (cq9, .inl (ca6, 9, .inl (fun _ => 0))), (cq10, .inl (ca7, 9, .inl (fun _ => 0))), (cq11, .inl (ca8, 9, .inl (fun _ => 0))), (cq12, .inr (0, [.ref cq13, .ref cq14, .ref cq15, .ref cq16, .int 0, .int 0, .int 1])), (cq13, .inl (ca9, 9, .inl (fun _ => 0))), (cq14, .inl (ca10, 9, .inl (fun _ => 0))), (cq15, .inl (ca11, 9, .inl (fun _ => 0))), (cq16, .inl (ca12, 9, .inl (fun _ => 0))), (cq17, .inr (0, [.ref cq18, .ref cq19, .ref cq20, .ref cq21, .int 0, .int 0, .int 1])), (cq18, .inl (ca13, 9, .inl (fun _ => 0))), (cq19, .inl (ca14, 9, .inl (fun _ => 0))), (cq20, .inl (ca15, 9, .inl (fun _ => 0))), (cq21, .inl (ca16, 9, .inl (fun _ => 0))), (cq22, .inr (8, [.ref cq23, .int 0, .int 0, .int 0, .int 0, .int (-1)])), (cq23, .inl (ca17, 8, .inl (fun _ => 0))), (cq24, .inr (7, [.ref cq25, .ref cq26, .ref cq27, .ref cq28])), (cq25, .inl (ca18, 61, .inl (fun _ => 0))), (cq26, .inl (ca19, 60, .inl (fun _ => 0))), (cq27, .inl (ca20, 12, .inr (.inl (fun _ => 0)))), (cq28, .inl (ca21, 12, .inr (.inl (fun _ => 0)))), (cq29, .inr (3, [.ref cq30, .int 0, .int 0, .int 0, .long 0, .int 0])), (cq30, .inl (ca22, 240, .inl (fun _ => 0))), (cq31, .inr (1, [.ref cq32, .int 0, .int 0, .int 0])), (cq32, .inl (ca23, 240, .inl (fun _ => 0))), (cq33, .inr (5, [.ref cq34, .int 0, .int 0, .int 0])), (cq34, .inl (ca24, 240, .inl (fun _ => 0))), (cq35, .inl (ca25, 512, .inl (fun _ => 0))), (cq36, .inr (4, [.ref cq37, .ref cq38, .ref cq39, .ref cq40, .ref cq41, .ref cq42, .ref cq43, .int 0, .int 0, .int 0, .int 0])), (cq37, .inl (ca26, 16, .inl (fun _ => 0))), (cq38, .inl (ca27, 16, .inl (fun _ => 0))), (cq39, .inl (ca28, 16, .inl (fun _ => 0))), (cq40, .inl (ca29, 16, .inl (fun _ => 0))), (cq41, .inl (ca30, 240, .inl (fun _ => 0))), (cq42, .inl (ca31, 240, .inl (fun _ => 0))), (cq43, .inl (ca32, 32, .inl (fun _ => 0))), (cq44, .inr (4, [.ref cq45, .ref cq46, .ref cq47, .ref cq48, .ref cq49, .ref cq50, .ref cq51, .int 0, .int 0, .int 0, .int 0])), (cq45, .inl (ca33, 16, .inl (fun _ => 0))), (cq46, .inl (ca34, 16, .inl (fun _ => 0))), (cq47, .inl (ca35, 16, .inl (fun _ => 0))), (cq48, .inl (ca36, 16, .inl (fun _ => 0))), (cq49, .inl (ca37, 240, .inl (fun _ => 0))), (cq50, .inl (ca38, 240, .inl (fun _ => 0))), (cq51, .inl (ca39, 32, .inl (fun _ => 0)))]) hP hD [0] [] rfl rfl (by decide) (by decide) hk1 hFc hP1 hD1
  have hK := hK.app hK1
  generalize H1 = H at hP hS ⊢
  have hP : va_P D wk_cls [(ch0, .inr (9, [.ref cq0, .ref cq2, .ref cq7, .ref cq12, .ref cq17, .ref cq22, .ref cq24, .ref cq29, .ref cq31, .ref cq33, .ref cq35, .ref cq36, .ref cq44, .int 0])), (cq0, .inr (6, [.ref cq1, .int 0])), (cq1, .inl (ca0, 260, .inl (fun _ => 0))), (cq2, .inr (2, [.ref cq3, .ref cq4, .ref cq5, .ref cq6, .int 0, .int 0])), (cq3, .inl (ca1, 12, .inl (fun _ => 0))), (cq4, .inl (ca2, 144, .inl (fun _ => 0))), (cq5, .inl (ca3, 12, .inl (fun _ => 0))), (cq6, .inl (ca4, 12, .inr (.inl (fun _ => 0)))), (cq7, .inr (0, [.ref cq8, .ref cq9, .ref cq10, .ref cq11, .int 0, .int 0, .int 1])), (cq8, .inl (ca5, 9, .inl (fun _ => 0))), (cq9, .inl (ca6, 9, .inl (fun _ => 0))), (cq10, .inl (ca7, 9, .inl (fun _ => 0))), (cq11, .inl (ca8, 9, .inl (fun _ => 0))), (cq12, .inr (0, [.ref cq13, .ref cq14, .ref cq15, .ref cq16, .int 0, .int 0, .int 1])), (cq13, .inl (ca9, 9, .inl (fun _ => 0))), (cq14, .inl (ca10, 9, .inl (fun _ => 0))), (cq15, .inl (ca11, 9, .inl (fun _ => 0))), (cq16, .inl (ca12, 9, .inl (fun _ => 0))), (cq17, .inr (0, [.ref cq18, .ref cq19, .ref cq20, .ref cq21, .int 0, .int 0, .int 1])), (cq18, .inl (ca13, 9, .inl (fun _ => 0))), (cq19, .inl (ca14, 9, .inl (fun _ => 0))), (cq20, .inl (ca15, 9, .inl (fun _ => 0))), (cq21, .inl (ca16, 9, .inl (fun _ => 0))), (cq22, .inr (8, [.ref cq23, .int 0, .int 0, .int 0, .int 0, .int (-1)])), (cq23, .inl (ca17, 8, .inl (fun _ => 0))), (cq24, .inr (7, [.ref cq25, .ref cq26, .ref cq27, .ref cq28])), (cq25, .inl (ca18, 61, .inl (fun _ => 0))), (cq26, .inl (ca19, 60, .inl (fun _ => 0))), (cq27, .inl (ca20, 12, .inr (.inl (fun _ => 0)))), (cq28, .inl (ca21, 12, .inr (.inl (fun _ => 0)))), (cq29, .inr (3, [.ref cq30, .int 0, .int 0, .int 0, .long 0, .int 0])), (cq30, .inl (ca22, 240, .inl (fun _ => 0))), (cq31, .inr (1, [.ref cq32, .int 0, .int 0, .int 0])), (cq32, .inl (ca23, 240, .inl (fun _ => 0))), (cq33, .inr (5, [.ref cq34, .int 0, .int 0, .int 0])), (cq34, .inl (ca24, 240, .inl (fun _ => 0))), (cq35, .inl (ca25, 512, .inl (fun _ => 0))), (cq36, .inr (4, [.ref cq37, .ref cq38, .ref cq39, .ref cq40, .ref cq41, .ref cq42, .ref cq43, .int 0, .int 0, .int 0, .int 0])), (cq37, .inl (ca26, 16, .inl (fun _ => 0))), (cq38, .inl (ca27, 16, .inl (fun _ => 0))), (cq39, .inl (ca28, 16, .inl (fun _ => 0))), (cq40, .inl (ca29, 16, .inl (fun _ => 0))), (cq41, .inl (ca30, 240, .inl (fun _ => 0))), (cq42, .inl (ca31, 240, .inl (fun _ => 0))), (cq43, .inl (ca32, 32, .inl (fun _ => 0))), (cq44, .inr (4, [.ref cq45, .ref cq46, .ref cq47, .ref cq48, .ref cq49, .ref cq50, .ref cq51, .int 0, .int 0, .int 0, .int 0])), (cq45, .inl (ca33, 16, .inl (fun _ => 0))), (cq46, .inl (ca34, 16, .inl (fun _ => 0))), (cq47, .inl (ca35, 16, .inl (fun _ => 0))), (cq48, .inl (ca36, 16, .inl (fun _ => 0))), (cq49, .inl (ca37, 240, .inl (fun _ => 0))), (cq50, .inl (ca38, 240, .inl (fun _ => 0))), (cq51, .inl (ca39, 32, .inl (fun _ => 0)))] H := hP
  have hD : va_D (fun q : Nat => s.heap.size ≤ q) [(ch0, .inr (9, [.ref cq0, .ref cq2, .ref cq7, .ref cq12, .ref cq17, .ref cq22, .ref cq24, .ref cq29, .ref cq31, .ref cq33, .ref cq35, .ref cq36, .ref cq44, .int 0])), (cq0, .inr (6, [.ref cq1, .int 0])), (cq1, .inl (ca0, 260, .inl (fun _ => 0))), (cq2, .inr (2, [.ref cq3, .ref cq4, .ref cq5, .ref cq6, .int 0, .int 0])), (cq3, .inl (ca1, 12, .inl (fun _ => 0))), (cq4, .inl (ca2, 144, .inl (fun _ => 0))), (cq5, .inl (ca3, 12, .inl (fun _ => 0))), (cq6, .inl (ca4, 12, .inr (.inl (fun _ => 0)))), (cq7, .inr (0, [.ref cq8, .ref cq9, .ref cq10, .ref cq11, .int 0, .int 0, .int 1])), (cq8, .inl (ca5, 9, .inl (fun _ => 0))), (cq9, .inl (ca6, 9, .inl (fun _ => 0))), (cq10, .inl (ca7, 9, .inl (fun _ => 0))), (cq11, .inl (ca8, 9, .inl (fun _ => 0))), (cq12, .inr (0, [.ref cq13, .ref cq14, .ref cq15, .ref cq16, .int 0, .int 0, .int 1])), (cq13, .inl (ca9, 9, .inl (fun _ => 0))), (cq14, .inl (ca10, 9, .inl (fun _ => 0))), (cq15, .inl (ca11, 9, .inl (fun _ => 0))), (cq16, .inl (ca12, 9, .inl (fun _ => 0))), (cq17, .inr (0, [.ref cq18, .ref cq19, .ref cq20, .ref cq21, .int 0, .int 0, .int 1])), (cq18, .inl (ca13, 9, .inl (fun _ => 0))), (cq19, .inl (ca14, 9, .inl (fun _ => 0))), (cq20, .inl (ca15, 9, .inl (fun _ => 0))), (cq21, .inl (ca16, 9, .inl (fun _ => 0))), (cq22, .inr (8, [.ref cq23, .int 0, .int 0, .int 0, .int 0, .int (-1)])), (cq23, .inl (ca17, 8, .inl (fun _ => 0))), (cq24, .inr (7, [.ref cq25, .ref cq26, .ref cq27, .ref cq28])), (cq25, .inl (ca18, 61, .inl (fun _ => 0))), (cq26, .inl (ca19, 60, .inl (fun _ => 0))), (cq27, .inl (ca20, 12, .inr (.inl (fun _ => 0)))), (cq28, .inl (ca21, 12, .inr (.inl (fun _ => 0)))), (cq29, .inr (3, [.ref cq30, .int 0, .int 0, .int 0, .long 0, .int 0])), (cq30, .inl (ca22, 240, .inl (fun _ => 0))), (cq31, .inr (1, [.ref cq32, .int 0, .int 0, .int 0])), (cq32, .inl (ca23, 240, .inl (fun _ => 0))), (cq33, .inr (5, [.ref cq34, .int 0, .int 0, .int 0])), (cq34, .inl (ca24, 240, .inl (fun _ => 0))), (cq35, .inl (ca25, 512, .inl (fun _ => 0))), (cq36, .inr (4, [.ref cq37, .ref cq38, .ref cq39, .ref cq40, .ref cq41, .ref cq42, .ref cq43, .int 0, .int 0, .int 0, .int 0])), (cq37, .inl (ca26, 16, .inl (fun _ => 0))), (cq38, .inl (ca27, 16, .inl (fun _ => 0))), (cq39, .inl (ca28, 16, .inl (fun _ => 0))), (cq40, .inl (ca29, 16, .inl (fun _ => 0))), (cq41, .inl (ca30, 240, .inl (fun _ => 0))), (cq42, .inl (ca31, 240, .inl (fun _ => 0))), (cq43, .inl (ca32, 32, .inl (fun _ => 0))), (cq44, .inr (4, [.ref cq45, .ref cq46, .ref cq47, .ref cq48, .ref cq49, .ref cq50, .ref cq51, .int 0, .int 0, .int 0, .int 0])), (cq45, .inl (ca33, 16, .inl (fun _ => 0))), (cq46, .inl (ca34, 16, .inl (fun _ => 0))), (cq47, .inl (ca35, 16, .inl (fun _ => 0))), (cq48, .inl (ca36, 16, .inl (fun _ => 0))), (cq49, .inl (ca37, 240, .inl (fun _ => 0))), (cq50, .inl (ca38, 240, .inl (fun _ => 0))), (cq51, .inl (ca39, 32, .inl (fun _ => 0)))] := hD
  have hK : va_K D wk_cls [(ca0, .int), (ca1, .int), (ca2, .int), (ca3, .int), (ca4, .long), (ca5, .int), (ca6, .int), (ca7, .int), (ca8, .int), (ca9, .int), (ca10, .int), (ca11, .int), (ca12, .int), (ca13, .int), (ca14, .int), (ca15, .int), (ca16, .int), (ca17, .int), (ca18, .int), (ca19, .int), (ca20, .long), (ca21, .long), (ca22, .int), (ca23, .int), (ca24, .int), (ca25, .int), (ca26, .int), (ca27, .int), (ca28, .int), (ca29, .int), (ca30, .int), (ca31, .int), (ca32, .int), (ca33, .int), (ca34, .int), (ca35, .int), (ca36, .int), (ca37, .int), (ca38, .int), (ca39, .int)] s := hK
  refine W.widen (k := 53) (n := 3174) (by omega) (by omega) ?_
  refine lv_astore_n (lv' := [(1, .ref ch0), (0, .ref b)]) hx hb d_law_7 rfl hl (by decide) rfl (fun ls hl => ?_)
  refine va_new (ci := 10) (fs := [.null, .null, .null, .null, .int 0, .int 0, .null, .null, .null, .int 0, .int 0, .int 0, .int 0, .int 0, .int 0, .int 0, .int 0, .int 0, .int 0, .null, .null, .null, .null, .null, .null, .null, .null, .null, .null, .null, .null, .null, .null, .null, .null, .null, .null, .null, .int 0, .int 0, .int 0, .int 0, .int 0, .int 0, .int 0, .int 0, .int 0, .int 0, .int 0, .int 0, .null, .null, .null, .null, .int 0, .int 0, .null, .int 0]) (C := RX12) (T := TX12) (N := 58) hx hb hts2 wk_tX12 tyX12 tyX12_ok hown (hts2 _ lw_s15) (hts2 _ lw_s10) (hts2 _ lw_s16) hK hP hD hS hA rfl (fun j hj => ?_) (Nat.le_of_ble_eq_true rfl) (Nat.le_of_ble_eq_true rfl) d_law_8 (fun mh0 H hP hD hS => ?_)
  · rcases (show j = 0 ∨ j = 1 ∨ j = 2 ∨ j = 3 ∨ j = 4 ∨ j = 5 ∨ j = 6 ∨ j = 7 ∨ j = 8 ∨ j = 9 ∨ j = 10 ∨ j = 11 ∨ j = 12 ∨ j = 13 ∨ j = 14 ∨ j = 15 ∨ j = 16 ∨ j = 17 ∨ j = 18 ∨ j = 19 ∨ j = 20 ∨ j = 21 ∨ j = 22 ∨ j = 23 ∨ j = 24 ∨ j = 25 ∨ j = 26 ∨ j = 27 ∨ j = 28 ∨ j = 29 ∨ j = 30 ∨ j = 31 ∨ j = 32 ∨ j = 33 ∨ j = 34 ∨ j = 35 ∨ j = 36 ∨ j = 37 ∨ j = 38 ∨ j = 39 ∨ j = 40 ∨ j = 41 ∨ j = 42 ∨ j = 43 ∨ j = 44 ∨ j = 45 ∨ j = 46 ∨ j = 47 ∨ j = 48 ∨ j = 49 ∨ j = 50 ∨ j = 51 ∨ j = 52 ∨ j = 53 ∨ j = 54 ∨ j = 55 ∨ j = 56 ∨ j = 57 by omega) with rfl | rfl | rfl | rfl | rfl | rfl | rfl | rfl | rfl | rfl | rfl | rfl | rfl | rfl | rfl | rfl | rfl | rfl | rfl | rfl | rfl | rfl | rfl | rfl | rfl | rfl | rfl | rfl | rfl | rfl | rfl | rfl | rfl | rfl | rfl | rfl | rfl | rfl | rfl | rfl | rfl | rfl | rfl | rfl | rfl | rfl | rfl | rfl | rfl | rfl | rfl | rfl | rfl | rfl | rfl | rfl | rfl | rfl <;> rfl
  have hP : va_P D wk_cls [(ch0, .inr (9, [.ref cq0, .ref cq2, .ref cq7, .ref cq12, .ref cq17, .ref cq22, .ref cq24, .ref cq29, .ref cq31, .ref cq33, .ref cq35, .ref cq36, .ref cq44, .int 0])), (cq0, .inr (6, [.ref cq1, .int 0])), (cq1, .inl (ca0, 260, .inl (fun _ => 0))), (cq2, .inr (2, [.ref cq3, .ref cq4, .ref cq5, .ref cq6, .int 0, .int 0])), (cq3, .inl (ca1, 12, .inl (fun _ => 0))), (cq4, .inl (ca2, 144, .inl (fun _ => 0))), (cq5, .inl (ca3, 12, .inl (fun _ => 0))), (cq6, .inl (ca4, 12, .inr (.inl (fun _ => 0)))), (cq7, .inr (0, [.ref cq8, .ref cq9, .ref cq10, .ref cq11, .int 0, .int 0, .int 1])), (cq8, .inl (ca5, 9, .inl (fun _ => 0))), (cq9, .inl (ca6, 9, .inl (fun _ => 0))), (cq10, .inl (ca7, 9, .inl (fun _ => 0))), (cq11, .inl (ca8, 9, .inl (fun _ => 0))), (cq12, .inr (0, [.ref cq13, .ref cq14, .ref cq15, .ref cq16, .int 0, .int 0, .int 1])), (cq13, .inl (ca9, 9, .inl (fun _ => 0))), (cq14, .inl (ca10, 9, .inl (fun _ => 0))), (cq15, .inl (ca11, 9, .inl (fun _ => 0))), (cq16, .inl (ca12, 9, .inl (fun _ => 0))), (cq17, .inr (0, [.ref cq18, .ref cq19, .ref cq20, .ref cq21, .int 0, .int 0, .int 1])), (cq18, .inl (ca13, 9, .inl (fun _ => 0))), (cq19, .inl (ca14, 9, .inl (fun _ => 0))), (cq20, .inl (ca15, 9, .inl (fun _ => 0))), (cq21, .inl (ca16, 9, .inl (fun _ => 0))), (cq22, .inr (8, [.ref cq23, .int 0, .int 0, .int 0, .int 0, .int (-1)])), (cq23, .inl (ca17, 8, .inl (fun _ => 0))), (cq24, .inr (7, [.ref cq25, .ref cq26, .ref cq27, .ref cq28])), (cq25, .inl (ca18, 61, .inl (fun _ => 0))), (cq26, .inl (ca19, 60, .inl (fun _ => 0))), (cq27, .inl (ca20, 12, .inr (.inl (fun _ => 0)))), (cq28, .inl (ca21, 12, .inr (.inl (fun _ => 0)))), (cq29, .inr (3, [.ref cq30, .int 0, .int 0, .int 0, .long 0, .int 0])), (cq30, .inl (ca22, 240, .inl (fun _ => 0))), (cq31, .inr (1, [.ref cq32, .int 0, .int 0, .int 0])), (cq32, .inl (ca23, 240, .inl (fun _ => 0))), (cq33, .inr (5, [.ref cq34, .int 0, .int 0, .int 0])), (cq34, .inl (ca24, 240, .inl (fun _ => 0))), (cq35, .inl (ca25, 512, .inl (fun _ => 0))), (cq36, .inr (4, [.ref cq37, .ref cq38, .ref cq39, .ref cq40, .ref cq41, .ref cq42, .ref cq43, .int 0, .int 0, .int 0, .int 0])), (cq37, .inl (ca26, 16, .inl (fun _ => 0))), (cq38, .inl (ca27, 16, .inl (fun _ => 0))), (cq39, .inl (ca28, 16, .inl (fun _ => 0))), (cq40, .inl (ca29, 16, .inl (fun _ => 0))), (cq41, .inl (ca30, 240, .inl (fun _ => 0))), (cq42, .inl (ca31, 240, .inl (fun _ => 0))), (cq43, .inl (ca32, 32, .inl (fun _ => 0))), (cq44, .inr (4, [.ref cq45, .ref cq46, .ref cq47, .ref cq48, .ref cq49, .ref cq50, .ref cq51, .int 0, .int 0, .int 0, .int 0])), (cq45, .inl (ca33, 16, .inl (fun _ => 0))), (cq46, .inl (ca34, 16, .inl (fun _ => 0))), (cq47, .inl (ca35, 16, .inl (fun _ => 0))), (cq48, .inl (ca36, 16, .inl (fun _ => 0))), (cq49, .inl (ca37, 240, .inl (fun _ => 0))), (cq50, .inl (ca38, 240, .inl (fun _ => 0))), (cq51, .inl (ca39, 32, .inl (fun _ => 0))), (mh0, .inr (10, [.null, .null, .null, .null, .int 0, .int 0, .null, .null, .null, .int 0, .int 0, .int 0, .int 0, .int 0, .int 0, .int 0, .int 0, .int 0, .int 0, .null, .null, .null, .null, .null, .null, .null, .null, .null, .null, .null, .null, .null, .null, .null, .null, .null, .null, .null, .int 0, .int 0, .int 0, .int 0, .int 0, .int 0, .int 0, .int 0, .int 0, .int 0, .int 0, .int 0, .null, .null, .null, .null, .int 0, .int 0, .null, .int 0]))] H := hP
  have hD : va_D (fun q : Nat => s.heap.size ≤ q) [(ch0, .inr (9, [.ref cq0, .ref cq2, .ref cq7, .ref cq12, .ref cq17, .ref cq22, .ref cq24, .ref cq29, .ref cq31, .ref cq33, .ref cq35, .ref cq36, .ref cq44, .int 0])), (cq0, .inr (6, [.ref cq1, .int 0])), (cq1, .inl (ca0, 260, .inl (fun _ => 0))), (cq2, .inr (2, [.ref cq3, .ref cq4, .ref cq5, .ref cq6, .int 0, .int 0])), (cq3, .inl (ca1, 12, .inl (fun _ => 0))), (cq4, .inl (ca2, 144, .inl (fun _ => 0))), (cq5, .inl (ca3, 12, .inl (fun _ => 0))), (cq6, .inl (ca4, 12, .inr (.inl (fun _ => 0)))), (cq7, .inr (0, [.ref cq8, .ref cq9, .ref cq10, .ref cq11, .int 0, .int 0, .int 1])), (cq8, .inl (ca5, 9, .inl (fun _ => 0))), (cq9, .inl (ca6, 9, .inl (fun _ => 0))), (cq10, .inl (ca7, 9, .inl (fun _ => 0))), (cq11, .inl (ca8, 9, .inl (fun _ => 0))), (cq12, .inr (0, [.ref cq13, .ref cq14, .ref cq15, .ref cq16, .int 0, .int 0, .int 1])), (cq13, .inl (ca9, 9, .inl (fun _ => 0))), (cq14, .inl (ca10, 9, .inl (fun _ => 0))), (cq15, .inl (ca11, 9, .inl (fun _ => 0))), (cq16, .inl (ca12, 9, .inl (fun _ => 0))), (cq17, .inr (0, [.ref cq18, .ref cq19, .ref cq20, .ref cq21, .int 0, .int 0, .int 1])), (cq18, .inl (ca13, 9, .inl (fun _ => 0))), (cq19, .inl (ca14, 9, .inl (fun _ => 0))), (cq20, .inl (ca15, 9, .inl (fun _ => 0))), (cq21, .inl (ca16, 9, .inl (fun _ => 0))), (cq22, .inr (8, [.ref cq23, .int 0, .int 0, .int 0, .int 0, .int (-1)])), (cq23, .inl (ca17, 8, .inl (fun _ => 0))), (cq24, .inr (7, [.ref cq25, .ref cq26, .ref cq27, .ref cq28])), (cq25, .inl (ca18, 61, .inl (fun _ => 0))), (cq26, .inl (ca19, 60, .inl (fun _ => 0))), (cq27, .inl (ca20, 12, .inr (.inl (fun _ => 0)))), (cq28, .inl (ca21, 12, .inr (.inl (fun _ => 0)))), (cq29, .inr (3, [.ref cq30, .int 0, .int 0, .int 0, .long 0, .int 0])), (cq30, .inl (ca22, 240, .inl (fun _ => 0))), (cq31, .inr (1, [.ref cq32, .int 0, .int 0, .int 0])), (cq32, .inl (ca23, 240, .inl (fun _ => 0))), (cq33, .inr (5, [.ref cq34, .int 0, .int 0, .int 0])), (cq34, .inl (ca24, 240, .inl (fun _ => 0))), (cq35, .inl (ca25, 512, .inl (fun _ => 0))), (cq36, .inr (4, [.ref cq37, .ref cq38, .ref cq39, .ref cq40, .ref cq41, .ref cq42, .ref cq43, .int 0, .int 0, .int 0, .int 0])), (cq37, .inl (ca26, 16, .inl (fun _ => 0))), (cq38, .inl (ca27, 16, .inl (fun _ => 0))), (cq39, .inl (ca28, 16, .inl (fun _ => 0))), (cq40, .inl (ca29, 16, .inl (fun _ => 0))), (cq41, .inl (ca30, 240, .inl (fun _ => 0))), (cq42, .inl (ca31, 240, .inl (fun _ => 0))), (cq43, .inl (ca32, 32, .inl (fun _ => 0))), (cq44, .inr (4, [.ref cq45, .ref cq46, .ref cq47, .ref cq48, .ref cq49, .ref cq50, .ref cq51, .int 0, .int 0, .int 0, .int 0])), (cq45, .inl (ca33, 16, .inl (fun _ => 0))), (cq46, .inl (ca34, 16, .inl (fun _ => 0))), (cq47, .inl (ca35, 16, .inl (fun _ => 0))), (cq48, .inl (ca36, 16, .inl (fun _ => 0))), (cq49, .inl (ca37, 240, .inl (fun _ => 0))), (cq50, .inl (ca38, 240, .inl (fun _ => 0))), (cq51, .inl (ca39, 32, .inl (fun _ => 0))), (mh0, .inr (10, [.null, .null, .null, .null, .int 0, .int 0, .null, .null, .null, .int 0, .int 0, .int 0, .int 0, .int 0, .int 0, .int 0, .int 0, .int 0, .int 0, .null, .null, .null, .null, .null, .null, .null, .null, .null, .null, .null, .null, .null, .null, .null, .null, .null, .null, .null, .int 0, .int 0, .int 0, .int 0, .int 0, .int 0, .int 0, .int 0, .int 0, .int 0, .int 0, .int 0, .null, .null, .null, .null, .int 0, .int 0, .null, .int 0]))] := hD
  refine W.widen (k := 54) (n := 3232) (by omega) (by omega) ?_
  refine lv_dup hx hb d_law_11 rfl ?_
  have hPc := hP.sub (ws' := [(mh0, .inr (10, [.null, .null, .null, .null, .int 0, .int 0, .null, .null, .null, .int 0, .int 0, .int 0, .int 0, .int 0, .int 0, .int 0, .int 0, .int 0, .int 0, .null, .null, .null, .null, .null, .null, .null, .null, .null, .null, .null, .null, .null, .null, .null, .null, .null, .null, .null, .int 0, .int 0, .int 0, .int 0, .int 0, .int 0, .int 0, .int 0, .int 0, .int 0, .int 0, .int 0, .null, .null, .null, .null, .int 0, .int 0, .null, .int 0]))]) [53] rfl
  have hDc := hD.sub (ws' := [(mh0, .inr (10, [.null, .null, .null, .null, .int 0, .int 0, .null, .null, .null, .int 0, .int 0, .int 0, .int 0, .int 0, .int 0, .int 0, .int 0, .int 0, .int 0, .null, .null, .null, .null, .null, .null, .null, .null, .null, .null, .null, .null, .null, .null, .null, .null, .null, .null, .null, .int 0, .int 0, .int 0, .int 0, .int 0, .int 0, .int 0, .int 0, .int 0, .int 0, .int 0, .int 0, .null, .null, .null, .null, .int 0, .int 0, .null, .int 0]))]) [53] (by decide) rfl
  have hKc := hK.sub (tys' := []) [] rfl
  have hFc := va_free (wc := [(mh0, .inr (10, [.null, .null, .null, .null, .int 0, .int 0, .null, .null, .null, .int 0, .int 0, .int 0, .int 0, .int 0, .int 0, .int 0, .int 0, .int 0, .int 0, .null, .null, .null, .null, .null, .null, .null, .null, .null, .null, .null, .null, .null, .null, .null, .null, .null, .null, .null, .int 0, .int 0, .int 0, .int 0, .int 0, .int 0, .int 0, .int 0, .int 0, .int 0, .int 0, .int 0, .null, .null, .null, .null, .int 0, .int 0, .null, .int 0]))]) hD hS hA [53] rfl
  refine va_callv (va_runI (As := []) (rest := [.ref mh0]) ⟨hx, hb, hml, hown, hts2⟩ (k_X12_init l D mh0 H.size) (cwI 0 hts2 wk_gc_X12_init rfl rfl rfl (hts2 _ lw_s16) (hts2 _ lw_s17) (hts2 _ lw_s18) rfl (by decide +kernel) ⟨Nat.le_of_ble_eq_true rfl, Nat.le_of_ble_eq_true rfl⟩) ⟨fun a U g mk q => by obtain ⟨q0, q1, qP, qK, qD, qN⟩ := q; exact ⟨q0, q1, qP, va_K.moved (u := U) (U := U.calling g mk a) (Vm.Alike.refl U.vm) qK, qD, qN.same rfl⟩, fun U hU hW => ⟨rfl, by rw [hU], by rw [hU]; exact hPc, va_K.moved hW.alike hKc, hDc.weaken (fun _ _ _ _ => trivial), hNW.warm hW⟩⟩ rfl rfl hl.1 rfl (lv_room (Nat.le_of_ble_eq_true rfl)) d_law_12 ⟨Nat.le_of_ble_eq_true rfl, Nat.le_of_ble_eq_true rfl⟩) hS (fun q _ h => hFc q h) hFc (fun u t H1 locs ht hvm hw hB hz1 hk1 hS => ?_)
  obtain ⟨mq0, mq1, mq2, mq3, mq4, mq5, mq6, mq7, mq8, mq9, mq10, mq11, mq12, mq13, mq14, mq15, mq16, mq17, mq18, mq19, mq20, mq21, mq22, mq23, mq24, mq25, mq26, mq27, mq28, mq29, mq30, ma0, ma1, ma2, ma3, ma4, ma5, ma6, ma7, ma8, ma9, ma10, ma11, ma12, ma13, ma14, ma15, ma16, ma17, ma18, ma19, ma20, ma21, ma22, ma23, ma24, ma25, ma26, ma27, ma28, ma29, ma30, hP1, hK1, hD1⟩ := hB
  rw [ht] at hP1
  have hK1 := va_K.moved hvm.symm hK1
  obtain ⟨hP, hD⟩ := va_join (wr := [(ch0, .inr (9, [.ref cq0, .ref cq2, .ref cq7, .ref cq12, .ref cq17, .ref cq22, .ref cq24, .ref cq29, .ref cq31, .ref cq33, .ref cq35, .ref cq36, .ref cq44, .int 0])), (cq0, .inr (6, [.ref cq1, .int 0])), (cq1, .inl (ca0, 260, .inl (fun _ => 0))), (cq2, .inr (2, [.ref cq3, .ref cq4, .ref cq5, .ref cq6, .int 0, .int 0])), (cq3, .inl (ca1, 12, .inl (fun _ => 0))), (cq4, .inl (ca2, 144, .inl (fun _ => 0))), (cq5, .inl (ca3, 12, .inl (fun _ => 0))), (cq6, .inl (ca4, 12, .inr (.inl (fun _ => 0)))), (cq7, .inr (0, [.ref cq8, .ref cq9, .ref cq10, .ref cq11, .int 0, .int 0, .int 1])), (cq8, .inl (ca5, 9, .inl (fun _ => 0))), (cq9, .inl (ca6, 9, .inl (fun _ => 0))), (cq10, .inl (ca7, 9, .inl (fun _ => 0))), (cq11, .inl (ca8, 9, .inl (fun _ => 0))), (cq12, .inr (0, [.ref cq13, .ref cq14, .ref cq15, .ref cq16, .int 0, .int 0, .int 1])), (cq13, .inl (ca9, 9, .inl (fun _ => 0))), (cq14, .inl (ca10, 9, .inl (fun _ => 0))), (cq15, .inl (ca11, 9, .inl (fun _ => 0))), (cq16, .inl (ca12, 9, .inl (fun _ => 0))), (cq17, .inr (0, [.ref cq18, .ref cq19, .ref cq20, .ref cq21, .int 0, .int 0, .int 1])), (cq18, .inl (ca13, 9, .inl (fun _ => 0))), (cq19, .inl (ca14, 9, .inl (fun _ => 0))), (cq20, .inl (ca15, 9, .inl (fun _ => 0))), (cq21, .inl (ca16, 9, .inl (fun _ => 0))), (cq22, .inr (8, [.ref cq23, .int 0, .int 0, .int 0, .int 0, .int (-1)])), (cq23, .inl (ca17, 8, .inl (fun _ => 0))), (cq24, .inr (7, [.ref cq25, .ref cq26, .ref cq27, .ref cq28])), (cq25, .inl (ca18, 61, .inl (fun _ => 0))), (cq26, .inl (ca19, 60, .inl (fun _ => 0))), (cq27, .inl (ca20, 12, .inr (.inl (fun _ => 0)))), (cq28, .inl (ca21, 12, .inr (.inl (fun _ => 0)))), (cq29, .inr (3, [.ref cq30, .int 0, .int 0, .int 0, .long 0, .int 0])), (cq30, .inl (ca22, 240, .inl (fun _ => 0))), (cq31, .inr (1, [.ref cq32, .int 0, .int 0, .int 0])), (cq32, .inl (ca23, 240, .inl (fun _ => 0))), (cq33, .inr (5, [.ref cq34, .int 0, .int 0, .int 0])), (cq34, .inl (ca24, 240, .inl (fun _ => 0))), (cq35, .inl (ca25, 512, .inl (fun _ => 0))), (cq36, .inr (4, [.ref cq37, .ref cq38, .ref cq39, .ref cq40, .ref cq41, .ref cq42, .ref cq43, .int 0, .int 0, .int 0, .int 0])), (cq37, .inl (ca26, 16, .inl (fun _ => 0))), (cq38, .inl (ca27, 16, .inl (fun _ => 0))), (cq39, .inl (ca28, 16, .inl (fun _ => 0))), (cq40, .inl (ca29, 16, .inl (fun _ => 0))), (cq41, .inl (ca30, 240, .inl (fun _ => 0))), (cq42, .inl (ca31, 240, .inl (fun _ => 0))), (cq43, .inl (ca32, 32, .inl (fun _ => 0))), (cq44, .inr (4, [.ref cq45, .ref cq46, .ref cq47, .ref cq48, .ref cq49, .ref cq50, .ref cq51, .int 0, .int 0, .int 0, .int 0])), (cq45, .inl (ca33, 16, .inl (fun _ => 0))), (cq46, .inl (ca34, 16, .inl (fun _ => 0))), (cq47, .inl (ca35, 16, .inl (fun _ => 0))), (cq48, .inl (ca36, 16, .inl (fun _ => 0))), (cq49, .inl (ca37, 240, .inl (fun _ => 0))), (cq50, .inl (ca38, 240, .inl (fun _ => 0))), (cq51, .inl (ca39, 32, .inl (fun _ => 0)))]) (w1 := [(mh0, .inr (10, [.ref mq0, .ref mq1, .ref mq2, .ref mq3, .int 0, .int 0, .ref mq4, .ref mq5, .ref mq6, .int 0, .int 0, .int 0, .int 0, .int 0, .int 0, .int 0, .int 0, .int 0, .int 0, .ref mq7, .ref mq8, .ref mq9, .ref mq10, .ref mq11, .ref mq12, .ref mq13, .ref mq14, .ref mq15, .ref mq16, .ref mq17, .ref mq18, .ref mq19, .ref mq20, .ref mq21, .ref mq22, .ref mq23, .ref mq24, .ref mq25, .int 0, .int 0, .int 0, .int 0, .int 0, .int 0, .int 0, .int 0, .int 0, .int 0, .int 0, .int 0, .ref mq26, .ref mq27, .ref mq28, .ref mq29, .int 0, .int 0, .ref mq30, .int 0])), (mq0, .inl (ma0, 47, .inl (upd (fun _ => 0) 46 1))), (mq1, .inl (ma1, 47, .inl (fun _ => 0))), (mq2, .inl (ma2, 47, .inl (fun _ => 0))), (mq3, .inl (ma3, 12, .inl (fun _ => 0))), (mq4, .inl (ma4, 12, .inl (fun _ => 0))), (mq5, .inl (ma5, 12, .inl (fun _ => 0))), (mq6, .inl (ma6, 260, .inl (fun _ => 0))), (mq7, .inl (ma7, 260, .inl (fun _ => 0))), (mq8, .inl (ma8, 260, .inl (fun _ => 0))), (mq9, .inl (ma9, 16, .inl (fun _ => 0))), (mq10, .inl (ma10, 16, .inl (fun _ => 0))), (mq11, .inl (ma11, 16, .inl (fun _ => 0))), (mq12, .inl (ma12, 16, .inl (fun _ => 0))), (mq13, .inl (ma13, 260, .inl (fun _ => 0))), (mq14, .inl (ma14, 16, .inl (fun _ => 0))), (mq15, .inl (ma15, 16, .inl (fun _ => 0))), (mq16, .inl (ma16, 16, .inl (fun _ => 0))), (mq17, .inl (ma17, 16, .inl (fun _ => 0))), (mq18, .inl (ma18, 260, .inl (fun _ => 0))), (mq19, .inl (ma19, 8, .inl (fun _ => 0))), (mq20, .inl (ma20, 576, .inl (fun _ => 0))), (mq21, .inl (ma21, 12, .inl (fun _ => 0))), (mq22, .inl (ma22, 48, .inl (fun _ => 0))), (mq23, .inl (ma23, 2, .inl (fun _ => 0))), (mq24, .inl (ma24, 2, .inl (fun _ => 0))), (mq25, .inl (ma25, 2, .inl (fun _ => 0))), (mq26, .inl (ma26, 61, .inl (fun _ => 0))), (mq27, .inl (ma27, 12, .inl (fun _ => 0))), (mq28, .inl (ma28, 12, .inl (fun _ => 0))), (mq29, .inl (ma29, 12, .inl (fun _ => 0))), (mq30, .inl (ma30, 512, .inl (fun _ => 0)))]) hP hD [53] [0, 1, 2, 3, 4, 5, 6, 7, 8, 9, 10, 11, 12, 13, 14, 15, 16, 17, 18, 19, 20, 21, 22, 23, 24, 25, 26, 27, 28, 29, 30, 31, 32, 33, 34, 35, 36, 37, 38, 39, 40, 41, 42, 43, 44, 45, 46, 47, 48, 49, 50, 51, 52] rfl rfl (by decide) (by decide) hk1 hFc hP1 hD1
  have hK := hK.app hK1
  generalize H1 = H at hP hS ⊢
  have hP : va_P D wk_cls [(ch0, .inr (9, [.ref cq0, .ref cq2, .ref cq7, .ref cq12, .ref cq17, .ref cq22, .ref cq24, .ref cq29, .ref cq31, .ref cq33, .ref cq35, .ref cq36, .ref cq44, .int 0])), (cq0, .inr (6, [.ref cq1, .int 0])), (cq1, .inl (ca0, 260, .inl (fun _ => 0))), (cq2, .inr (2, [.ref cq3, .ref cq4, .ref cq5, .ref cq6, .int 0, .int 0])), (cq3, .inl (ca1, 12, .inl (fun _ => 0))), (cq4, .inl (ca2, 144, .inl (fun _ => 0))), (cq5, .inl (ca3, 12, .inl (fun _ => 0))), (cq6, .inl (ca4, 12, .inr (.inl (fun _ => 0)))), (cq7, .inr (0, [.ref cq8, .ref cq9, .ref cq10, .ref cq11, .int 0, .int 0, .int 1])), (cq8, .inl (ca5, 9, .inl (fun _ => 0))), (cq9, .inl (ca6, 9, .inl (fun _ => 0))), (cq10, .inl (ca7, 9, .inl (fun _ => 0))), (cq11, .inl (ca8, 9, .inl (fun _ => 0))), (cq12, .inr (0, [.ref cq13, .ref cq14, .ref cq15, .ref cq16, .int 0, .int 0, .int 1])), (cq13, .inl (ca9, 9, .inl (fun _ => 0))), (cq14, .inl (ca10, 9, .inl (fun _ => 0))), (cq15, .inl (ca11, 9, .inl (fun _ => 0))), (cq16, .inl (ca12, 9, .inl (fun _ => 0))), (cq17, .inr (0, [.ref cq18, .ref cq19, .ref cq20, .ref cq21, .int 0, .int 0, .int 1])), (cq18, .inl (ca13, 9, .inl (fun _ => 0))), (cq19, .inl (ca14, 9, .inl (fun _ => 0))), (cq20, .inl (ca15, 9, .inl (fun _ => 0))), (cq21, .inl (ca16, 9, .inl (fun _ => 0))), (cq22, .inr (8, [.ref cq23, .int 0, .int 0, .int 0, .int 0, .int (-1)])), (cq23, .inl (ca17, 8, .inl (fun _ => 0))), (cq24, .inr (7, [.ref cq25, .ref cq26, .ref cq27, .ref cq28])), (cq25, .inl (ca18, 61, .inl (fun _ => 0))), (cq26, .inl (ca19, 60, .inl (fun _ => 0))), (cq27, .inl (ca20, 12, .inr (.inl (fun _ => 0)))), (cq28, .inl (ca21, 12, .inr (.inl (fun _ => 0)))), (cq29, .inr (3, [.ref cq30, .int 0, .int 0, .int 0, .long 0, .int 0])), (cq30, .inl (ca22, 240, .inl (fun _ => 0))), (cq31, .inr (1, [.ref cq32, .int 0, .int 0, .int 0])), (cq32, .inl (ca23, 240, .inl (fun _ => 0))), (cq33, .inr (5, [.ref cq34, .int 0, .int 0, .int 0])), (cq34, .inl (ca24, 240, .inl (fun _ => 0))), (cq35, .inl (ca25, 512, .inl (fun _ => 0))), (cq36, .inr (4, [.ref cq37, .ref cq38, .ref cq39, .ref cq40, .ref cq41, .ref cq42, .ref cq43, .int 0, .int 0, .int 0, .int 0])), (cq37, .inl (ca26, 16, .inl (fun _ => 0))), (cq38, .inl (ca27, 16, .inl (fun _ => 0))), (cq39, .inl (ca28, 16, .inl (fun _ => 0))), (cq40, .inl (ca29, 16, .inl (fun _ => 0))), (cq41, .inl (ca30, 240, .inl (fun _ => 0))), (cq42, .inl (ca31, 240, .inl (fun _ => 0))), (cq43, .inl (ca32, 32, .inl (fun _ => 0))), (cq44, .inr (4, [.ref cq45, .ref cq46, .ref cq47, .ref cq48, .ref cq49, .ref cq50, .ref cq51, .int 0, .int 0, .int 0, .int 0])), (cq45, .inl (ca33, 16, .inl (fun _ => 0))), (cq46, .inl (ca34, 16, .inl (fun _ => 0))), (cq47, .inl (ca35, 16, .inl (fun _ => 0))), (cq48, .inl (ca36, 16, .inl (fun _ => 0))), (cq49, .inl (ca37, 240, .inl (fun _ => 0))), (cq50, .inl (ca38, 240, .inl (fun _ => 0))), (cq51, .inl (ca39, 32, .inl (fun _ => 0))), (mh0, .inr (10, [.ref mq0, .ref mq1, .ref mq2, .ref mq3, .int 0, .int 0, .ref mq4, .ref mq5, .ref mq6, .int 0, .int 0, .int 0, .int 0, .int 0, .int 0, .int 0, .int 0, .int 0, .int 0, .ref mq7, .ref mq8, .ref mq9, .ref mq10, .ref mq11, .ref mq12, .ref mq13, .ref mq14, .ref mq15, .ref mq16, .ref mq17, .ref mq18, .ref mq19, .ref mq20, .ref mq21, .ref mq22, .ref mq23, .ref mq24, .ref mq25, .int 0, .int 0, .int 0, .int 0, .int 0, .int 0, .int 0, .int 0, .int 0, .int 0, .int 0, .int 0, .ref mq26, .ref mq27, .ref mq28, .ref mq29, .int 0, .int 0, .ref mq30, .int 0])), (mq0, .inl (ma0, 47, .inl (upd (fun _ => 0) 46 1))), (mq1, .inl (ma1, 47, .inl (fun _ => 0))), (mq2, .inl (ma2, 47, .inl (fun _ => 0))), (mq3, .inl (ma3, 12, .inl (fun _ => 0))), (mq4, .inl (ma4, 12, .inl (fun _ => 0))), (mq5, .inl (ma5, 12, .inl (fun _ => 0))), (mq6, .inl (ma6, 260, .inl (fun _ => 0))), (mq7, .inl (ma7, 260, .inl (fun _ => 0))), (mq8, .inl (ma8, 260, .inl (fun _ => 0))), (mq9, .inl (ma9, 16, .inl (fun _ => 0))), (mq10, .inl (ma10, 16, .inl (fun _ => 0))), (mq11, .inl (ma11, 16, .inl (fun _ => 0))), (mq12, .inl (ma12, 16, .inl (fun _ => 0))), (mq13, .inl (ma13, 260, .inl (fun _ => 0))), (mq14, .inl (ma14, 16, .inl (fun _ => 0))), (mq15, .inl (ma15, 16, .inl (fun _ => 0))), (mq16, .inl (ma16, 16, .inl (fun _ => 0))), (mq17, .inl (ma17, 16, .inl (fun _ => 0))), (mq18, .inl (ma18, 260, .inl (fun _ => 0))), (mq19, .inl (ma19, 8, .inl (fun _ => 0))), (mq20, .inl (ma20, 576, .inl (fun _ => 0))), (mq21, .inl (ma21, 12, .inl (fun _ => 0))), (mq22, .inl (ma22, 48, .inl (fun _ => 0))), (mq23, .inl (ma23, 2, .inl (fun _ => 0))), (mq24, .inl (ma24, 2, .inl (fun _ => 0))), (mq25, .inl (ma25, 2, .inl (fun _ => 0))), (mq26, .inl (ma26, 61, .inl (fun _ => 0))), (mq27, .inl (ma27, 12, .inl (fun _ => 0))), (mq28, .inl (ma28, 12, .inl (fun _ => 0))), (mq29, .inl (ma29, 12, .inl (fun _ => 0))), (mq30, .inl (ma30, 512, .inl (fun _ => 0)))] H := hP
  have hD : va_D (fun q : Nat => s.heap.size ≤ q) [(ch0, .inr (9, [.ref cq0, .ref cq2, .ref cq7, .ref cq12, .ref cq17, .ref cq22, .ref cq24, .ref cq29, .ref cq31, .ref cq33, .ref cq35, .ref cq36, .ref cq44, .int 0])), (cq0, .inr (6, [.ref cq1, .int 0])), (cq1, .inl (ca0, 260, .inl (fun _ => 0))), (cq2, .inr (2, [.ref cq3, .ref cq4, .ref cq5, .ref cq6, .int 0, .int 0])), (cq3, .inl (ca1, 12, .inl (fun _ => 0))), (cq4, .inl (ca2, 144, .inl (fun _ => 0))), (cq5, .inl (ca3, 12, .inl (fun _ => 0))), (cq6, .inl (ca4, 12, .inr (.inl (fun _ => 0)))), (cq7, .inr (0, [.ref cq8, .ref cq9, .ref cq10, .ref cq11, .int 0, .int 0, .int 1])), (cq8, .inl (ca5, 9, .inl (fun _ => 0))), (cq9, .inl (ca6, 9, .inl (fun _ => 0))), (cq10, .inl (ca7, 9, .inl (fun _ => 0))), (cq11, .inl (ca8, 9, .inl (fun _ => 0))), (cq12, .inr (0, [.ref cq13, .ref cq14, .ref cq15, .ref cq16, .int 0, .int 0, .int 1])), (cq13, .inl (ca9, 9, .inl (fun _ => 0))), (cq14, .inl (ca10, 9, .inl (fun _ => 0))), (cq15, .inl (ca11, 9, .inl (fun _ => 0))), (cq16, .inl (ca12, 9, .inl (fun _ => 0))), (cq17, .inr (0, [.ref cq18, .ref cq19, .ref cq20, .ref cq21, .int 0, .int 0, .int 1])), (cq18, .inl (ca13, 9, .inl (fun _ => 0))), (cq19, .inl (ca14, 9, .inl (fun _ => 0))), (cq20, .inl (ca15, 9, .inl (fun _ => 0))), (cq21, .inl (ca16, 9, .inl (fun _ => 0))), (cq22, .inr (8, [.ref cq23, .int 0, .int 0, .int 0, .int 0, .int (-1)])), (cq23, .inl (ca17, 8, .inl (fun _ => 0))), (cq24, .inr (7, [.ref cq25, .ref cq26, .ref cq27, .ref cq28])), (cq25, .inl (ca18, 61, .inl (fun _ => 0))), (cq26, .inl (ca19, 60, .inl (fun _ => 0))), (cq27, .inl (ca20, 12, .inr (.inl (fun _ => 0)))), (cq28, .inl (ca21, 12, .inr (.inl (fun _ => 0)))), (cq29, .inr (3, [.ref cq30, .int 0, .int 0, .int 0, .long 0, .int 0])), (cq30, .inl (ca22, 240, .inl (fun _ => 0))), (cq31, .inr (1, [.ref cq32, .int 0, .int 0, .int 0])), (cq32, .inl (ca23, 240, .inl (fun _ => 0))), (cq33, .inr (5, [.ref cq34, .int 0, .int 0, .int 0])), (cq34, .inl (ca24, 240, .inl (fun _ => 0))), (cq35, .inl (ca25, 512, .inl (fun _ => 0))), (cq36, .inr (4, [.ref cq37, .ref cq38, .ref cq39, .ref cq40, .ref cq41, .ref cq42, .ref cq43, .int 0, .int 0, .int 0, .int 0])), (cq37, .inl (ca26, 16, .inl (fun _ => 0))), (cq38, .inl (ca27, 16, .inl (fun _ => 0))), (cq39, .inl (ca28, 16, .inl (fun _ => 0))), (cq40, .inl (ca29, 16, .inl (fun _ => 0))), (cq41, .inl (ca30, 240, .inl (fun _ => 0))), (cq42, .inl (ca31, 240, .inl (fun _ => 0))), (cq43, .inl (ca32, 32, .inl (fun _ => 0))), (cq44, .inr (4, [.ref cq45, .ref cq46, .ref cq47, .ref cq48, .ref cq49, .ref cq50, .ref cq51, .int 0, .int 0, .int 0, .int 0])), (cq45, .inl (ca33, 16, .inl (fun _ => 0))), (cq46, .inl (ca34, 16, .inl (fun _ => 0))), (cq47, .inl (ca35, 16, .inl (fun _ => 0))), (cq48, .inl (ca36, 16, .inl (fun _ => 0))), (cq49, .inl (ca37, 240, .inl (fun _ => 0))), (cq50, .inl (ca38, 240, .inl (fun _ => 0))), (cq51, .inl (ca39, 32, .inl (fun _ => 0))), (mh0, .inr (10, [.ref mq0, .ref mq1, .ref mq2, .ref mq3, .int 0, .int 0, .ref mq4, .ref mq5, .ref mq6, .int 0, .int 0, .int 0, .int 0, .int 0, .int 0, .int 0, .int 0, .int 0, .int 0, .ref mq7, .ref mq8, .ref mq9, .ref mq10, .ref mq11, .ref mq12, .ref mq13, .ref mq14, .ref mq15, .ref mq16, .ref mq17, .ref mq18, .ref mq19, .ref mq20, .ref mq21, .ref mq22, .ref mq23, .ref mq24, .ref mq25, .int 0, .int 0, .int 0, .int 0, .int 0, .int 0, .int 0, .int 0, .int 0, .int 0, .int 0, .int 0, .ref mq26, .ref mq27, .ref mq28, .ref mq29, .int 0, .int 0, .ref mq30, .int 0])), (mq0, .inl (ma0, 47, .inl (upd (fun _ => 0) 46 1))), (mq1, .inl (ma1, 47, .inl (fun _ => 0))), (mq2, .inl (ma2, 47, .inl (fun _ => 0))), (mq3, .inl (ma3, 12, .inl (fun _ => 0))), (mq4, .inl (ma4, 12, .inl (fun _ => 0))), (mq5, .inl (ma5, 12, .inl (fun _ => 0))), (mq6, .inl (ma6, 260, .inl (fun _ => 0))), (mq7, .inl (ma7, 260, .inl (fun _ => 0))), (mq8, .inl (ma8, 260, .inl (fun _ => 0))), (mq9, .inl (ma9, 16, .inl (fun _ => 0))), (mq10, .inl (ma10, 16, .inl (fun _ => 0))), (mq11, .inl (ma11, 16, .inl (fun _ => 0))), (mq12, .inl (ma12, 16, .inl (fun _ => 0))), (mq13, .inl (ma13, 260, .inl (fun _ => 0))), (mq14, .inl (ma14, 16, .inl (fun _ => 0))), (mq15, .inl (ma15, 16, .inl (fun _ => 0))), (mq16, .inl (ma16, 16, .inl (fun _ => 0))), (mq17, .inl (ma17, 16, .inl (fun _ => 0))), (mq18, .inl (ma18, 260, .inl (fun _ => 0))), (mq19, .inl (ma19, 8, .inl (fun _ => 0))), (mq20, .inl (ma20, 576, .inl (fun _ => 0))), (mq21, .inl (ma21, 12, .inl (fun _ => 0))), (mq22, .inl (ma22, 48, .inl (fun _ => 0))), (mq23, .inl (ma23, 2, .inl (fun _ => 0))), (mq24, .inl (ma24, 2, .inl (fun _ => 0))), (mq25, .inl (ma25, 2, .inl (fun _ => 0))), (mq26, .inl (ma26, 61, .inl (fun _ => 0))), (mq27, .inl (ma27, 12, .inl (fun _ => 0))), (mq28, .inl (ma28, 12, .inl (fun _ => 0))), (mq29, .inl (ma29, 12, .inl (fun _ => 0))), (mq30, .inl (ma30, 512, .inl (fun _ => 0)))] := hD
  have hK : va_K D wk_cls [(ca0, .int), (ca1, .int), (ca2, .int), (ca3, .int), (ca4, .long), (ca5, .int), (ca6, .int), (ca7, .int), (ca8, .int), (ca9, .int), (ca10, .int), (ca11, .int), (ca12, .int), (ca13, .int), (ca14, .int), (ca15, .int), (ca16, .int), (ca17, .int), (ca18, .int), (ca19, .int), (ca20, .long), (ca21, .long), (ca22, .int), (ca23, .int), (ca24, .int), (ca25, .int), (ca26, .int), (ca27, .int), (ca28, .int), (ca29, .int), (ca30, .int), (ca31, .int), (ca32, .int), (ca33, .int), (ca34, .int), (ca35, .int), (ca36, .int), (ca37, .int), (ca38, .int), (ca39, .int), (ma0, .int), (ma1, .int), (ma2, .int), (ma3, .int), (ma4, .int), (ma5, .int), (ma6, .byte), (ma7, .int), (ma8, .int), (ma9, .int), (ma10, .int), (ma11, .int), (ma12, .int), (ma13, .int), (ma14, .int), (ma15, .int), (ma16, .int), (ma17, .int), (ma18, .int), (ma19, .int), (ma20, .byte), (ma21, .int), (ma22, .int), (ma23, .int), (ma24, .int), (ma25, .int), (ma26, .int), (ma27, .int), (ma28, .int), (ma29, .int), (ma30, .int)] s := hK
  refine W.widen (k := 85) (n := 6096) (by omega) (by omega) ?_
  refine lv_astore_n (lv' := [(2, .ref mh0), (1, .ref ch0), (0, .ref b)]) hx hb d_law_15 rfl hl (by decide) rfl (fun ls hl => ?_)
  refine lv_iconst (v := 0) hx hb d_law_16 (by decide) ?_
  refine lv_istore_n (lv' := [(3, .int 0), (2, .ref mh0), (1, .ref ch0), (0, .ref b)]) hx hb d_law_17 rfl hl (by decide) rfl (fun ls hl => ?_)
  obtain ⟨t0, hST⟩ := lw_stat hts hgv
  have hplC := lw_placeC t0 ch0 cq0 cq1 cq2 cq3 cq4 cq5 cq6 cq7 cq8 cq9 cq10 cq11 cq12 cq13 cq14 cq15 cq16 cq17 cq18 cq19 cq20 cq21 cq22 cq23 cq24 cq25 cq26 cq27 cq28 cq29 cq30 cq31 cq32 cq33 cq34 cq35 cq36 cq37 cq38 cq39 cq40 cq41 cq42 cq43 cq44 cq45 cq46 cq47 cq48 cq49 cq50 cq51 mh0 mq0 mq1 mq2 mq3 mq4 mq5 mq6 mq7 mq8 mq9 mq10 mq11 mq12 mq13 mq14 mq15 mq16 mq17 mq18 mq19 mq20 mq21 mq22 mq23 mq24 mq25 mq26 mq27 mq28 mq29 mq30 ca0 ca1 ca2 ca3 ca4 ca5 ca6 ca7 ca8 ca9 ca10 ca11 ca12 ca13 ca14 ca15 ca16 ca17 ca18 ca19 ca20 ca21 ca22 ca23 ca24 ca25 ca26 ca27 ca28 ca29 ca30 ca31 ca32 ca33 ca34 ca35 ca36 ca37 ca38 ca39 ma0 ma1 ma2 ma3 ma4 ma5 ma6 ma7 ma8 ma9 ma10 ma11 ma12 ma13 ma14 ma15 ma16 ma17 ma18 ma19 ma20 ma21 ma22 ma23 ma24 ma25 ma26 ma27 ma28 ma29 ma30
  have hplM := lw_placeM t0 ch0 cq0 cq1 cq2 cq3 cq4 cq5 cq6 cq7 cq8 cq9 cq10 cq11 cq12 cq13 cq14 cq15 cq16 cq17 cq18 cq19 cq20 cq21 cq22 cq23 cq24 cq25 cq26 cq27 cq28 cq29 cq30 cq31 cq32 cq33 cq34 cq35 cq36 cq37 cq38 cq39 cq40 cq41 cq42 cq43 cq44 cq45 cq46 cq47 cq48 cq49 cq50 cq51 mh0 mq0 mq1 mq2 mq3 mq4 mq5 mq6 mq7 mq8 mq9 mq10 mq11 mq12 mq13 mq14 mq15 mq16 mq17 mq18 mq19 mq20 mq21 mq22 mq23 mq24 mq25 mq26 mq27 mq28 mq29 mq30 ca0 ca1 ca2 ca3 ca4 ca5 ca6 ca7 ca8 ca9 ca10 ca11 ca12 ca13 ca14 ca15 ca16 ca17 ca18 ca19 ca20 ca21 ca22 ca23 ca24 ca25 ca26 ca27 ca28 ca29 ca30 ca31 ca32 ca33 ca34 ca35 ca36 ca37 ca38 ca39 ma0 ma1 ma2 ma3 ma4 ma5 ma6 ma7 ma8 ma9 ma10 ma11 ma12 ma13 ma14 ma15 ma16 ma17 ma18 ma19 ma20 ma21 ma22 ma23 ma24 ma25 ma26 ma27 ma28 ma29 ma30
  have hg : lw_Ok (D, (fun k : Nat => cond (Nat.beq k 999) t0 (([ch0, cq0, cq1, cq2, cq3, cq4, cq5, cq6, cq7, cq8, cq9, cq10, cq11, cq12, cq13, cq14, cq15, cq16, cq17, cq18, cq19, cq20, cq21, cq22, cq23, cq24, cq25, cq26, cq27, cq28, cq29, cq30, cq31, cq32, cq33, cq34, cq35, cq36, cq37, cq38, cq39, cq40, cq41, cq42, cq43, cq44, cq45, cq46, cq47, cq48, cq49, cq50, cq51] : List Nat).getD k 0)), (fun k : Nat => cond (Nat.beq k 999) t0 (([mh0, mq0, mq1, mq2, mq3, mq4, mq5, mq6, mq7, mq8, mq9, mq10, mq11, mq12, mq13, mq14, mq15, mq16, mq17, mq18, mq19, mq20, mq21, mq22, mq23, mq24, mq25, mq26, mq27, mq28, mq29, mq30] : List Nat).getD k 0)), (fun k => ([0, 0, ca0, 0, ca1, ca2, ca3, ca4, 0, ca5, ca6, ca7, ca8, 0, ca9, ca10, ca11, ca12, 0, ca13, ca14, ca15, ca16, 0, ca17, 0, ca18, ca19, ca20, ca21, 0, ca22, 0, ca23, 0, ca24, ca25, 0, ca26, ca27, ca28, ca29, ca30, ca31, ca32, 0, ca33, ca34, ca35, ca36, ca37, ca38, ca39] : List ClassId).getD k 0), (fun k => ([0, ma0, ma1, ma2, ma3, ma4, ma5, ma6, ma7, ma8, ma9, ma10, ma11, ma12, ma13, ma14, ma15, ma16, ma17, ma18, ma19, ma20, ma21, ma22, ma23, ma24, ma25, ma26, ma27, ma28, ma29, ma30] : List ClassId).getD k 0), [(ca0, .int), (ca1, .int), (ca2, .int), (ca3, .int), (ca4, .long), (ca5, .int), (ca6, .int), (ca7, .int), (ca8, .int), (ca9, .int), (ca10, .int), (ca11, .int), (ca12, .int), (ca13, .int), (ca14, .int), (ca15, .int), (ca16, .int), (ca17, .int), (ca18, .int), (ca19, .int), (ca20, .long), (ca21, .long), (ca22, .int), (ca23, .int), (ca24, .int), (ca25, .int), (ca26, .int), (ca27, .int), (ca28, .int), (ca29, .int), (ca30, .int), (ca31, .int), (ca32, .int), (ca33, .int), (ca34, .int), (ca35, .int), (ca36, .int), (ca37, .int), (ca38, .int), (ca39, .int), (ma0, .int), (ma1, .int), (ma2, .int), (ma3, .int), (ma4, .int), (ma5, .int), (ma6, .byte), (ma7, .int), (ma8, .int), (ma9, .int), (ma10, .int), (ma11, .int), (ma12, .int), (ma13, .int), (ma14, .int), (ma15, .int), (ma16, .int), (ma17, .int), (ma18, .int), (ma19, .int), (ma20, .byte), (ma21, .int), (ma22, .int), (ma23, .int), (ma24, .int), (ma25, .int), (ma26, .int), (ma27, .int), (ma28, .int), (ma29, .int), (ma30, .int)]) s := by
    refine ⟨lw_okC ca0 ca1 ca2 ca3 ca4 ca5 ca6 ca7 ca8 ca9 ca10 ca11 ca12 ca13 ca14 ca15 ca16 ca17 ca18 ca19 ca20 ca21 ca22 ca23 ca24 ca25 ca26 ca27 ca28 ca29 ca30 ca31 ca32 ca33 ca34 ca35 ca36 ca37 ca38 ca39 ma0 ma1 ma2 ma3 ma4 ma5 ma6 ma7 ma8 ma9 ma10 ma11 ma12 ma13 ma14 ma15 ma16 ma17 ma18 ma19 ma20 ma21 ma22 ma23 ma24 ma25 ma26 ma27 ma28 ma29 ma30, lw_okM ca0 ca1 ca2 ca3 ca4 ca5 ca6 ca7 ca8 ca9 ca10 ca11 ca12 ca13 ca14 ca15 ca16 ca17 ca18 ca19 ca20 ca21 ca22 ca23 ca24 ca25 ca26 ca27 ca28 ca29 ca30 ca31 ca32 ca33 ca34 ca35 ca36 ca37 ca38 ca39 ma0 ma1 ma2 ma3 ma4 ma5 ma6 ma7 ma8 ma9 ma10 ma11 ma12 ma13 ma14 ma15 ma16 ma17 ma18 ma19 ma20 ma21 ma22 ma23 ma24 ma25 ma26 ma27 ma28 ma29 ma30, fun σ => lw_DD hD hplC lw_injC σ, fun σ => lw_DD hD hplM lw_injM σ, hK, ?_, ?_, ?_, ⟨hST, hST⟩, hNW⟩
    · rintro q ⟨k, hk, rfl⟩
      obtain ⟨e0, he⟩ := hplC k hk
      exact hD.2 _ _ he
    · rintro q ⟨k, hk, rfl⟩
      obtain ⟨e0, he⟩ := hplM k hk
      exact hD.2 _ _ he
    · rintro q ⟨k, hk, rfl⟩ ⟨j, hj, hq⟩
      obtain ⟨e0, he⟩ := hplC k hk
      obtain ⟨e1, he1⟩ := hplM j hj
      exact lw_dis k hk j hj (hD.1 _ _ _ _ he he1 hq)
  refine W.widen (k := 600000) (n := 7302250) (by omega) (by omega) ?_
  exact lw_loop h0 h1 h2 h3 h4 h5 h6 h7 h8 h9 h10 h11 h12 h13 h14 h15 h16 h17 h18 h19 h20 h21 h22 h23 h24 h25 h26 h27 h28 h29 h30 h31 h32 h33 h34 C0 hg hL (L + 8) 0 0 nI_0.symm (by omega) (by omega) wk_s0C wk_s0M hI0 _ _ (lw_worldC ch0 cq0 cq1 cq2 cq3 cq4 cq5 cq6 cq7 cq8 cq9 cq10 cq11 cq12 cq13 cq14 cq15 cq16 cq17 cq18 cq19 cq20 cq21 cq22 cq23 cq24 cq25 cq26 cq27 cq28 cq29 cq30 cq31 cq32 cq33 cq34 cq35 cq36 cq37 cq38 cq39 cq40 cq41 cq42 cq43 cq44 cq45 cq46 cq47 cq48 cq49 cq50 cq51 mh0 mq0 mq1 mq2 mq3 mq4 mq5 mq6 mq7 mq8 mq9 mq10 mq11 mq12 mq13 mq14 mq15 mq16 mq17 mq18 mq19 mq20 mq21 mq22 mq23 mq24 mq25 mq26 mq27 mq28 mq29 mq30 ca0 ca1 ca2 ca3 ca4 ca5 ca6 ca7 ca8 ca9 ca10 ca11 ca12 ca13 ca14 ca15 ca16 ca17 ca18 ca19 ca20 ca21 ca22 ca23 ca24 ca25 ca26 ca27 ca28 ca29 ca30 ca31 ca32 ca33 ca34 ca35 ca36 ca37 ca38 ca39 ma0 ma1 ma2 ma3 ma4 ma5 ma6 ma7 ma8 ma9 ma10 ma11 ma12 ma13 ma14 ma15 ma16 ma17 ma18 ma19 ma20 ma21 ma22 ma23 ma24 ma25 ma26 ma27 ma28 ma29 ma30 hP) (lw_worldM ch0 cq0 cq1 cq2 cq3 cq4 cq5 cq6 cq7 cq8 cq9 cq10 cq11 cq12 cq13 cq14 cq15 cq16 cq17 cq18 cq19 cq20 cq21 cq22 cq23 cq24 cq25 cq26 cq27 cq28 cq29 cq30 cq31 cq32 cq33 cq34 cq35 cq36 cq37 cq38 cq39 cq40 cq41 cq42 cq43 cq44 cq45 cq46 cq47 cq48 cq49 cq50 cq51 mh0 mq0 mq1 mq2 mq3 mq4 mq5 mq6 mq7 mq8 mq9 mq10 mq11 mq12 mq13 mq14 mq15 mq16 mq17 mq18 mq19 mq20 mq21 mq22 mq23 mq24 mq25 mq26 mq27 mq28 mq29 mq30 ca0 ca1 ca2 ca3 ca4 ca5 ca6 ca7 ca8 ca9 ca10 ca11 ca12 ca13 ca14 ca15 ca16 ca17 ca18 ca19 ca20 ca21 ca22 ca23 ca24 ca25 ca26 ca27 ca28 ca29 ca30 ca31 ca32 ca33 ca34 ca35 ca36 ca37 ca38 ca39 ma0 ma1 ma2 ma3 ma4 ma5 ma6 ma7 ma8 ma9 ma10 ma11 ma12 ma13 ma14 ma15 ma16 ma17 ma18 ma19 ma20 ma21 ma22 ma23 ma24 ma25 ma26 ma27 ma28 ma29 ma30 hP) hS ls (lv_sub hl [3, 2, 1, 0] rfl)
