/-! the machine's run, by its steps; and its calls, by the number of its steps -/
section SIM4
variable {p : Program} {l : Launch} {e : Env} {s : State} {m : MethodId} {args : Array Value} {below : List Frame} {meth : Method} {c : Code}
variable {D : va_G} {tys : List (ClassId × FieldType)} {sh : Nat → Option wk_De} {N : Nat} {ad : Nat → Nat} {cA : Nat → ClassId} {A : Nat → Prop}
/-- a method's contract, by a run of so many steps -/
def wk_P (l : Launch) (D : va_G) (tys : List (ClassId × FieldType)) (sh : Nat → Option wk_De) (N : Nat) (ad : Nat → Nat) (cA : Nat → ClassId) (A : Nat → Prop) (n : Nat) : Prop :=
  ∀ (d f : Nat) (as : List Value) (σ : wk_St) (z : wk_R), f < 261 → as.all wk_iv = true → (as.flatMap wk_two).length ≤ wk_mx f → wk_run sh n d (wk_mc f) (wk_mc f) (wk_ini as (wk_mx f)) [] σ = some z →
    Met l (wk_my f) (wk_ws f) (wk_rm d) (wk_Pc D tys sh N ad cA A as σ) (wk_Qc D sh N ad cA A z) 0 0 A
theorem wk_b2 (a b : Bool) : (a && b) = true ↔ a = true ∧ b = true := by simp
theorem wk_inner {n0 : Nat} (hP : ∀ k, k < n0 → wk_P l D tys sh N ad cA A k) {d f : Nat} {z : wk_R} (hf : f < 261) (F : wk_Fx p s m args meth c D tys sh N ad cA A f) :
    ∀ (n pos pc : Nat) (als ast : List Value) (σ : wk_St), n ≤ n0 → (wk_mp f)[pos]? = some pc → wk_run sh n d (wk_mc f) ((wk_mc f).drop pos) als ast σ = some z →
      wk_WW p l e (wk_rm d) s m args below meth c (MQ below (wk_Qc D sh N ad cA A z) args s 0 0 A) D sh N ad cA A f pc als ast σ := by
  intro n
  induction n with
  | zero => intro pos pc als ast σ _ _ h; cases h
  | succ n ih =>
    intro pos pc als ast σ hn hpc h
    rw [wk_run] at h
    cases hi : (wk_mc f)[pos]? with
    | none =>
      rw [List.drop_eq_nil_of_le (by simpa using hi)] at h
      cases h
    | some i =>
      have hc := wk_at hf hi hpc
      rw [wk_drop hi] at h
      have next : ∀ (als' ast' : List Value) (σ' : wk_St), wk_run sh n d (wk_mc f) ((wk_mc f).drop (pos + 1)) als' ast' σ' = some z → wk_WW p l e (wk_rm d) s m args below meth c (MQ below (wk_Qc D sh N ad cA A z) args s 0 0 A) D sh N ad cA A f ((wk_mp f).getD (pos + 1) 0) als' ast' σ' :=
        fun als' ast' σ' h' => ih (pos + 1) _ als' ast' σ' (by omega) (wk_next hf h') h'
      have jump : ∀ (t : Int) (als' ast' : List Value) (σ' : wk_St), wk_to (wk_mp f) t = true → wk_run sh n d (wk_mc f) ((wk_mc f).drop t.toNat) als' ast' σ' = some z → ∃ k : Nat, wk_po (wk_mp f) t = (k : Int) ∧ wk_WW p l e (wk_rm d) s m args below meth c (MQ below (wk_Qc D sh N ad cA A z) args s 0 0 A) D sh N ad cA A f k als' ast' σ' := by
        intro t als' ast' σ' ht h'
        obtain ⟨k, h1, h2⟩ := wk_tgt ht
        exact ⟨k, h2, ih t.toNat k als' ast' σ' (by omega) h1 h'⟩
      unfold wk_b at h
      dsimp only at h
      split at h
      case h_11 =>
        cases hs : wk_s sh i als ast σ with
        | none => rw [hs] at h; cases h
        | some q =>
          rw [hs] at h
          exact wk_sim_s F hc hs (next _ _ _ h)
      case h_10 g a =>
        cases hb : (Nat.ble a ast.length && (Nat.ble (ast.drop a).length 4 && wk_rc sh g (ast.take a).reverse)) with
        | false => rw [hb] at h; cases h
        | true =>
          rw [hb] at h
          simp only [cond_true] at h
          rw [wk_b2, wk_b2] at hb
          obtain ⟨b1, b2, b3⟩ := hb
          cases d with
          | zero => cases h
          | succ d =>
            dsimp only at h
            cases hr : wk_run sh n d (wk_mc (g % 1000)) (wk_mc (g % 1000)) (wk_ini (ast.take a).reverse (wk_mx (g % 1000))) [] σ with
            | none => rw [hr] at h; cases h
            | some q =>
              rw [hr] at h
              obtain ⟨r, σ1⟩ := q
              dsimp only at h
              have b4 := b3
              unfold wk_rc at b4
              rw [wk_b2, wk_b2] at b4
              intro H locs ls E
              have hap : (ast.take a).reverse.reverse ++ ast.drop a = ast := by rw [List.reverse_reverse, List.take_append_drop]
              obtain ⟨hnx, arr, hrun⟩ := wk_vrun (e := e) (below := below) F E (as := (ast.take a).reverse) (rest := ast.drop a) (z1 := (r, σ1)) rfl b3 (Nat.le_of_ble_eq_true b2) (by simp [Nat.le_of_ble_eq_true b1]) hc
                (fun hlt => hP n (by omega) d (g % 1000) _ σ (r, σ1) hlt b4.1 (Nat.le_of_ble_eq_true b4.2.1) hr)
              rw [hap] at hrun
              refine wk_callR hrun E.2.2.1 (fun H1 locs1 h1 h2 => ?_)
              have k := next _ _ _ h H1 locs1 ls ⟨h1, wk_D E.2.1, h2, E.2.2.2⟩
              rw [hnx] at k
              have e2 : (r.map (wk_tr ad)).toList ++ (ast.drop a).map (wk_tr ad) = (r.toList ++ ast.drop a).map (wk_tr ad) := by cases r <;> simp
              show W p l e _ s m args below meth c H1 locs1 0 0 _ (F0 m (pc + 3) ls ((r.map (wk_tr ad)).toList ++ (ast.drop a).map (wk_tr ad)))
              rw [e2]
              exact k
      case h_1 t =>
        unfold wk_chk at hc
        dsimp only at hc
        rw [wk_b2] at hc
        obtain ⟨k, h1, h2⟩ := jump t _ _ _ hc.2 h
        intro H locs ls E
        exact lv_goto F.1 F.2.1 (of_decide_eq_true hc.1) (by rw [h1]; omega) (h2 H locs ls E)
      case h_2 cc t =>
        split at h
        case h_2 => cases h
        rename_i x u
        unfold wk_chk at hc
        dsimp only at hc
        rw [wk_b2, wk_b2] at hc
        obtain ⟨c1, c2, c3⟩ := hc
        have hd : decode (wk_mb f) pc = .ok (.ifCond cc (wk_po (wk_mp f) t - pc), 3) := of_decide_eq_true c1
        have hnx := Nat.eq_of_beq_eq_true c3
        intro H locs ls E
        have yes : wk_c cc x 0 = true → ∃ k : Nat, wk_po (wk_mp f) t = (k : Int) ∧ W p l e (wk_rm d) s m args below meth c H locs 0 0 (MQ below (wk_Qc D sh N ad cA A z) args s 0 0 A) (F0 m k ls (u.map (wk_tr ad))) := by
          intro hcc
          rw [hcc] at h
          obtain ⟨k, h1, h2⟩ := jump t _ _ _ c2 h
          exact ⟨k, h1, h2 H locs ls E⟩
        have no : wk_c cc x 0 = false → W p l e (wk_rm d) s m args below meth c H locs 0 0 (MQ below (wk_Qc D sh N ad cA A z) args s 0 0 A) (F0 m (pc + 3) ls (u.map (wk_tr ad))) := by
          intro hcc
          rw [hcc] at h
          have k := next _ _ _ h H locs ls E
          rw [hnx] at k
          exact k
        obtain ⟨k0, hk0, hk1⟩ := wk_tgt c2
        have yes' : wk_c cc x 0 = true → W p l e (wk_rm d) s m args below meth c H locs 0 0 (MQ below (wk_Qc D sh N ad cA A z) args s 0 0 A) (F0 m k0 ls (u.map (wk_tr ad))) := by
          intro hcc
          obtain ⟨k, h1, h2⟩ := yes hcc
          rw [hk1] at h1
          rw [show k0 = k by omega]
          exact h2
        have ht : (pc : Int) + (wk_po (wk_mp f) t - pc) = (k0 : Int) := by omega
        cases cc with
        | eq => exact lv_if_eq F.1 F.2.1 hd ht (fun hx => yes' (decide_eq_true hx)) (fun hx => no (decide_eq_false hx))
        | ne => exact lv_if_ne F.1 F.2.1 hd ht (fun hx => yes' (decide_eq_true hx)) (fun hx => no (decide_eq_false (fun q => by first | exact q hx | exact hx q)))
        | lt => exact lv_if_lt F.1 F.2.1 hd ht (fun hx => yes' (decide_eq_true hx)) (fun hx => no (decide_eq_false hx))
        | ge => exact lv_if_ge F.1 F.2.1 hd ht (fun hx => yes' (decide_eq_true hx)) (fun hx => no (decide_eq_false hx))
        | gt => exact lv_if_gt F.1 F.2.1 hd ht (fun hx => yes' (decide_eq_true hx)) (fun hx => no (decide_eq_false hx))
        | le => exact lv_if_le F.1 F.2.1 hd ht (fun hx => yes' (decide_eq_true hx)) (fun hx => no (decide_eq_false hx))
      case h_3 cc t =>
        split at h
        case h_2 => cases h
        rename_i y x u
        unfold wk_chk at hc
        dsimp only at hc
        rw [wk_b2, wk_b2] at hc
        obtain ⟨c1, c2, c3⟩ := hc
        have hd : decode (wk_mb f) pc = .ok (.if_icmp cc (wk_po (wk_mp f) t - pc), 3) := of_decide_eq_true c1
        have hnx := Nat.eq_of_beq_eq_true c3
        intro H locs ls E
        obtain ⟨k0, hk0, hk1⟩ := wk_tgt c2
        have yes' : wk_c cc x y = true → W p l e (wk_rm d) s m args below meth c H locs 0 0 (MQ below (wk_Qc D sh N ad cA A z) args s 0 0 A) (F0 m k0 ls (u.map (wk_tr ad))) := by
          intro hcc
          rw [hcc] at h
          obtain ⟨k, h1, h2⟩ := jump t _ _ _ c2 h
          rw [hk1] at h1
          rw [show k0 = k by omega]
          exact h2 H locs ls E
        have no : wk_c cc x y = false → W p l e (wk_rm d) s m args below meth c H locs 0 0 (MQ below (wk_Qc D sh N ad cA A z) args s 0 0 A) (F0 m (pc + 3) ls (u.map (wk_tr ad))) := by
          intro hcc
          rw [hcc] at h
          have k := next _ _ _ h H locs ls E
          rw [hnx] at k
          exact k
        have ht : (pc : Int) + (wk_po (wk_mp f) t - pc) = (k0 : Int) := by omega
        cases cc with
        | eq => exact lv_icmp_eq F.1 F.2.1 hd ht (fun hx => yes' (decide_eq_true hx)) (fun hx => no (decide_eq_false hx))
        | ne => exact lv_icmp_ne F.1 F.2.1 hd ht (fun hx => yes' (decide_eq_true hx)) (fun hx => no (decide_eq_false (fun q => by first | exact q hx | exact hx q)))
        | lt => exact lv_icmp_lt F.1 F.2.1 hd ht (fun hx => yes' (decide_eq_true hx)) (fun hx => no (decide_eq_false hx))
        | ge => exact lv_icmp_ge F.1 F.2.1 hd ht (fun hx => yes' (decide_eq_true hx)) (fun hx => no (decide_eq_false hx))
        | gt => exact lv_icmp_gt F.1 F.2.1 hd ht (fun hx => yes' (decide_eq_true hx)) (fun hx => no (decide_eq_false hx))
        | le => exact lv_icmp_le F.1 F.2.1 hd ht (fun hx => yes' (decide_eq_true hx)) (fun hx => no (decide_eq_false hx))
      case h_4 dd lo hi offs =>
        split at h
        case h_2 => cases h
        rename_i x u
        unfold wk_chk at hc
        dsimp only at hc
        split at hc
        case h_2 => cases hc
        rename_i d' lo' hi' offs' len hdec
        simp only [wk_b2, decide_eq_true_eq] at hc
        obtain ⟨c1, c2, c3, c4, c5, c6, c7⟩ := hc
        subst c1; subst c2; subst c3
        intro H locs ls E
        unfold wk_tsw at h
        split at h
        · rename_i hout
          obtain ⟨k, h1, h2⟩ := jump dd _ _ _ c5 h
          exact lv_tableOut F.1 F.2.1 hdec hout (by rw [h1]; omega) (h2 H locs ls E)
        · rename_i hin
          have hlt : (x.toInt - lo').toNat < offs.toList.length := by omega
          have hg : offs.toList.getD (x.toInt - lo').toNat dd = offs.toList[(x.toInt - lo').toNat] := by rw [List.getD_eq_getElem?_getD, List.getElem?_eq_getElem hlt]; rfl
          have hmem : offs.toList[(x.toInt - lo').toNat] ∈ offs.toList := List.getElem_mem hlt
          rw [hg] at h
          obtain ⟨k, h1, h2⟩ := jump _ _ _ _ (List.all_eq_true.mp c6 _ hmem) h
          refine lv_tableIn (off := wk_po (wk_mp f) offs.toList[(x.toInt - lo').toNat] - pc) F.1 F.2.1 hdec (by omega) (by omega) ?_ (by rw [h1]; omega) (h2 H locs ls E)
          rw [← Array.getElem?_toList, c4, List.getElem?_map, List.getElem?_eq_getElem hlt]
          rfl
      case h_5 dd ps =>
        split at h
        case h_2 => cases h
        rename_i x u
        unfold wk_chk at hc
        dsimp only at hc
        split at hc
        case h_2 => cases hc
        rename_i d' ps' len hdec
        simp only [wk_b2, decide_eq_true_eq] at hc
        obtain ⟨c1, c2, c3, c4, c5⟩ := hc
        subst c1
        have look : ∀ (ps1 : List (Int × Int)), (∀ q ∈ ps1, wk_to (wk_mp f) q.2 = true) → ∃ t, wk_lsw dd ps1 x = t ∧ wk_to (wk_mp f) t = true ∧ Op.lookupswitch.offset (ps1.map (fun q => (q.1, wk_po (wk_mp f) q.2 - pc))) (wk_po (wk_mp f) dd - pc) x.toInt = wk_po (wk_mp f) t - pc := by
          intro ps1
          induction ps1 with
          | nil => intro _; exact ⟨dd, rfl, c3, rfl⟩
          | cons a r ihr =>
            intro ha
            obtain ⟨a1, a2⟩ := a
            by_cases hx : x.toInt = a1
            · refine ⟨a2, ?_, ha _ List.mem_cons_self, ?_⟩
              · unfold wk_lsw; rw [if_pos hx]
              · simp [Op.lookupswitch.offset, hx]
            · obtain ⟨t, g1, g2, g3⟩ := ihr (fun q hq => ha q (List.mem_cons_of_mem _ hq))
              refine ⟨t, ?_, g2, ?_⟩
              · unfold wk_lsw; rw [if_neg hx]; exact g1
              · have hx2 : ¬ a1 = x.toInt := fun q => hx q.symm
                simp only [List.map_cons]
                unfold Op.lookupswitch.offset
                simp only [hx2, hx, if_false, ite_false]
                exact g3
        obtain ⟨t, g1, g2, g3⟩ := look ps.toList (fun q hq => List.all_eq_true.mp c4 q hq)
        rw [g1] at h
        obtain ⟨k, h1, h2⟩ := jump t _ _ _ g2 h
        intro H locs ls E
        refine lv_lookup (off := wk_po (wk_mp f) t - pc) F.1 F.2.1 hdec c5 ?_ (by rw [h1]; omega) (h2 H locs ls E)
        rw [c2]
        exact g3
      case h_6 =>
        split at h
        case h_2 => cases h
        rename_i x
        cases h
        unfold wk_chk at hc
        dsimp only at hc
        rw [wk_b2] at hc
        intro H locs ls E
        exact W.iret F.1 F.2.1 (by rw [F.2.2.2.2.2.1]; exact of_decide_eq_true hc.2) (fun t ht _ => ⟨rfl, by rw [ht]; exact E.1, E.2.2.1.F ht⟩) E.2.2.1.2.2 (of_decide_eq_true hc.1) F.2.2.2.2.2.2.1
      case h_7 =>
        split at h
        case h_2 => cases h
        rename_i x
        split at h
        case isFalse => cases h
        rename_i h01
        cases h
        unfold wk_chk at hc
        dsimp only at hc
        rw [wk_b2] at hc
        intro H locs ls E
        exact W.zret (ty := .boolean) F.1 F.2.1 (by rw [F.2.2.2.2.2.1]; exact of_decide_eq_true hc.2) (by rcases h01 with rfl | rfl <;> rfl) (fun t ht _ => ⟨rfl, by rw [ht]; exact E.1, E.2.2.1.F ht⟩) E.2.2.1.2.2 (of_decide_eq_true hc.1) F.2.2.2.2.2.2.1
      case h_8 =>
        split at h
        case h_2 => cases h
        rename_i x
        cases h
        unfold wk_chk at hc
        dsimp only at hc
        rw [wk_b2] at hc
        intro H locs ls E
        exact W.lret F.1 F.2.1 (by rw [F.2.2.2.2.2.1]; exact of_decide_eq_true hc.2) (fun t ht _ => ⟨rfl, by rw [ht]; exact E.1, E.2.2.1.F ht⟩) E.2.2.1.2.2 (of_decide_eq_true hc.1) F.2.2.2.2.2.2.1
      case h_9 =>
        split at h
        case h_2 => cases h
        cases h
        unfold wk_chk at hc
        dsimp only at hc
        rw [wk_b2] at hc
        intro H locs ls E
        exact W.vret F.1 F.2.1 (by rw [F.2.2.2.2.2.1]; exact of_decide_eq_true hc.2) (fun t ht _ => ⟨rfl, by rw [ht]; exact E.1, E.2.2.1.F ht⟩) E.2.2.1.2.2 (of_decide_eq_true hc.1) F.2.2.2.2.2.2.1
/-- ALL RUNS OF THE SMALL MACHINE ARE RUNS OF THE JVM -/
theorem wk_all (hO : wk_OK sh N cA tys) : ∀ n, wk_P l D tys sh N ad cA A n := by
  intro n
  induction n using Nat.strongRecOn with
  | _ n ih =>
    intro d f as σ z hf has hlen hrun
    refine wk_ofW hf ?_
    intro p e s m args below meth c s₁ B hml hv
    obtain ⟨rfl, hP, hK, hD0, hNW, hST⟩ := hv
    have hts := atoms_spec (ws := wk_ws f) B.pre
    have hown : s.vm.findClass (wk_on (wk_mo f)) = some m.cls := by rw [← (wk_meth hf).2.2.2.2.2.2.2]; exact findClass_of_methodNamed B.named
    have F : wk_Fx p s m (as.map (wk_tr ad)).toArray meth c D tys sh N ad cA A f :=
      ⟨B.exec, B.bytes, hml, hown, fun w hw => hts w (List.mem_cons_of_mem _ hw), B.returns, B.notSynchronized, hK, hNW, hST, hO⟩
    have hl := lv_entry (as.map (wk_tr ad)) (n := wk_mx f) (by rw [wk_sl_len as has]; exact hlen)
    rw [lg_entry_eq]
    generalize (lg_sl (as.map (wk_tr ad)) ++ List.replicate (wk_mx f - (lg_sl (as.map (wk_tr ad))).length) Slot.unset).toArray = ls at hl ⊢
    have hLR : wk_LR ad (wk_mx f) (wk_ini as (wk_mx f)) ls := by
      refine ⟨by unfold wk_ini; rw [List.length_append, List.length_replicate]; omega, hl.1, hl.2.1, fun q hq => hl.2.2 q ?_⟩
      obtain ⟨i, w⟩ := q
      obtain ⟨v, h1, h2, rfl⟩ := wk_prs_mem.mp hq
      have := wk_ini_args (ad := ad) as 0 _ has i v h1 h2
      rwa [Nat.zero_add] at this
    exact wk_inner (n0 := n) ih hf F n 0 0 _ [] σ (Nat.le_refl _) (wk_len hf).2 hrun s.heap [] ls ⟨hP, hD0, va_S.rf, hLR⟩
/-- what the small machine comes to, the JVM's method comes to -/
theorem wk_met (hO : wk_OK sh N cA tys) {d f : Nat} {as : List Value} {σ : wk_St} {z : wk_R} (hf : f < 261) (has : as.all wk_iv = true) (hlen : (as.flatMap wk_two).length ≤ wk_mx f) (h : wk_T sh d f as σ z) :
    Met l (wk_my f) (wk_ws f) (wk_rm d) (wk_Pc D tys sh N ad cA A as σ) (wk_Qc D sh N ad cA A z) 0 0 A := by
  obtain ⟨n, hn⟩ := h
  rw [List.drop_zero] at hn
  exact wk_all hO n d f as σ z hf has hlen hn
end SIM4
