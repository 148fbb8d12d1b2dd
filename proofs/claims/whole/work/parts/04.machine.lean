/-! THE SMALL MACHINE: what the methods do to a world of fixed cells; references are cells' numbers -/
/-- what the cells hold: whole numbers of 32 bits, and of 64 -/
abbrev wk_St : Type := (Nat → Nat → Int32) × (Nat → Nat → Int64)
def wk_si (σ : wk_St) (k j : Nat) (v : Int32) : wk_St := (fun a b => if a = k ∧ b = j then v else σ.1 a b, σ.2)
def wk_sl (σ : wk_St) (k j : Nat) (v : Int64) : wk_St := (σ.1, fun a b => if a = k ∧ b = j then v else σ.2 a b)
/-- a cell's kind: an array (0 int, 1 long, 2 byte, 3 the table; its length), or an object (its class, its fields: 0 int, 1 long, 2 boolean, else 3 + the cell that it names) -/
abbrev wk_De : Type := (Nat × Nat) ⊕ (Nat × List Nat)
abbrev wk_U : Value := .retAddr 0
def wk_in (i : Int32) (n : Nat) : Bool := decide (0 ≤ i.toInt) && decide (i.toInt < n)
/-- what a store does to a long just ahead of it -/
def wk_cl (v : Value) : Value := match v with
  | .long _ => wk_U
  | .double _ => wk_U
  | v => v
def wk_st (ls : List Value) (a : Nat) (v : Value) : List Value := match a with
  | 0 => ls.set 0 v
  | b + 1 => (ls.set b (wk_cl (ls.getD b wk_U))).set (b + 1) v
def wk_rem (x y : Int32) : Int32 := x - x / y * y
def wk_ushr (x y : Int32) : Int32 := (x.toUInt32 >>> (y.toUInt32 &&& Int32.toUInt32 31)).toInt32
def wk_lushr (x : Int64) (y : Int32) : Int64 := (x.toUInt64 >>> (y.toInt64.toUInt64 &&& Int64.toUInt64 63)).toInt64
def wk_lcmp (x y : Int64) : Int32 := if x > y then 1 else if x = y then 0 else -1
def wk_sub (ci c : Nat) : Bool := (Nat.beq ci c && Nat.blt c 11) || (Nat.beq c 11 && (Nat.beq ci 1 || (Nat.beq ci 3 || Nat.beq ci 5)))
/-- the table of the lengths of months -/
def wk_ml (k : Nat) : Int32 := ([31, 28, 31, 30, 31, 30, 31, 31, 30, 31, 30, 31] : List Int32).getD k 0
def wk_rd (σ : wk_St) (o j f : Nat) : Value := match f with
  | 0 => .int (σ.1 o j)
  | 1 => .long (σ.2 o j)
  | 2 => .int (σ.1 o j)
  | r + 3 => .ref r
def wk_cat (v : Value) : Bool := match v with
  | .int _ => true
  | .ref _ => true
  | _ => false
def wk_two (v : Value) : List Value := match v with
  | .long x => [.long x, wk_U]
  | v => [v]
def wk_iv (v : Value) : Bool := match v with
  | .int _ => true
  | .long _ => true
  | .ref _ => true
  | _ => false
/-- a call's arguments fit, and its receiver is of the method's class -/
def wk_rc (sh : Nat → Option wk_De) (q : Nat) (args : List Value) : Bool := args.all wk_iv && (Nat.ble (args.flatMap wk_two).length (wk_mx (q % 1000)) && (match q / 1000, args with
  | 12, _ => true
  | c, .ref o :: _ => (match sh o with
    | some (.inr (ci, _)) => wk_sub ci c
    | _ => false)
  | _, _ => false))
section WKM
variable (sh : Nat → Option wk_De)
/-- one instruction that neither jumps nor calls nor returns -/
def wk_s (i : Instr) (ls st : List Value) (σ : wk_St) : Option (List Value × List Value × wk_St) := match i with
  | .iload a => (match ls[a]? with
    | some (.int x) => some (ls, .int x :: st, σ)
    | _ => none)
  | .lload a => (match ls[a]? with
    | some (.long x) => some (ls, .long x :: st, σ)
    | _ => none)
  | .aload a => (match ls[a]? with
    | some (.ref x) => some (ls, .ref x :: st, σ)
    | _ => none)
  | .istore a => (match st with
    | .int x :: t => cond (Nat.blt a ls.length) (some (wk_st ls a (.int x), t, σ)) none
    | _ => none)
  | .astore a => (match st with
    | .ref x :: t => cond (Nat.blt a ls.length) (some (wk_st ls a (.ref x), t, σ)) none
    | _ => none)
  | .lstore a => (match st with
    | .long x :: t => cond (Nat.blt (a + 1) ls.length) (some ((wk_st ls a (.long x)).set (a + 1) wk_U, t, σ)) none
    | _ => none)
  | .iconst n => some (ls, .int (Int32.ofInt n) :: st, σ)
  | .ldc2_w n => some (ls, .long (Int64.ofNat n) :: st, σ)
  | .iinc a n => (match ls[a]? with
    | some (.int x) => some (wk_st ls a (.int (x + Int32.ofInt n)), st, σ)
    | _ => none)
  | .dup => (match st with
    | v :: t => cond (wk_cat v) (some (ls, v :: v :: t, σ)) none
    | _ => none)
  | .dup2 => (match st with
    | v :: w :: t => cond (wk_cat v && wk_cat w) (some (ls, v :: w :: v :: w :: t, σ)) none
    | _ => none)
  | .pop => (match st with
    | v :: t => cond (wk_cat v) (some (ls, t, σ)) none
    | _ => none)
  | .iadd => (match st with
    | .int y :: .int x :: t => some (ls, .int (x + y) :: t, σ)
    | _ => none)
  | .isub => (match st with
    | .int y :: .int x :: t => some (ls, .int (x - y) :: t, σ)
    | _ => none)
  | .imul => (match st with
    | .int y :: .int x :: t => some (ls, .int (x * y) :: t, σ)
    | _ => none)
  | .iand => (match st with
    | .int y :: .int x :: t => some (ls, .int (x &&& y) :: t, σ)
    | _ => none)
  | .ior => (match st with
    | .int y :: .int x :: t => some (ls, .int (x ||| y) :: t, σ)
    | _ => none)
  | .ixor => (match st with
    | .int y :: .int x :: t => some (ls, .int (x ^^^ y) :: t, σ)
    | _ => none)
  | .ishl => (match st with
    | .int y :: .int x :: t => some (ls, .int (x <<< (y &&& 31)) :: t, σ)
    | _ => none)
  | .ishr => (match st with
    | .int y :: .int x :: t => some (ls, .int (x >>> (y &&& 31)) :: t, σ)
    | _ => none)
  | .iushr => (match st with
    | .int y :: .int x :: t => some (ls, .int (wk_ushr x y) :: t, σ)
    | _ => none)
  | .idiv => (match st with
    | .int y :: .int x :: t => (if y = 0 then none else some (ls, .int (x / y) :: t, σ))
    | _ => none)
  | .irem => (match st with
    | .int y :: .int x :: t => (if y = 0 then none else some (ls, .int (wk_rem x y) :: t, σ))
    | _ => none)
  | .i2b => (match st with
    | .int x :: t => some (ls, .int (x.toInt8.toInt32) :: t, σ)
    | _ => none)
  | .l2i => (match st with
    | .long x :: t => some (ls, .int x.toInt32 :: t, σ)
    | _ => none)
  | .ladd => (match st with
    | .long y :: .long x :: t => some (ls, .long (x + y) :: t, σ)
    | _ => none)
  | .land => (match st with
    | .long y :: .long x :: t => some (ls, .long (x &&& y) :: t, σ)
    | _ => none)
  | .lor => (match st with
    | .long y :: .long x :: t => some (ls, .long (x ||| y) :: t, σ)
    | _ => none)
  | .lshl => (match st with
    | .int y :: .long x :: t => some (ls, .long (x <<< (y.toInt64 &&& 63)) :: t, σ)
    | _ => none)
  | .lushr => (match st with
    | .int y :: .long x :: t => some (ls, .long (wk_lushr x y) :: t, σ)
    | _ => none)
  | .lcmp => (match st with
    | .long y :: .long x :: t => some (ls, .int (wk_lcmp x y) :: t, σ)
    | _ => none)
  | .getfield c => (match st with
    | .ref o :: t => (match sh o with
      | some (.inr (ci, fl)) => cond (wk_sub ci (c / 64)) (match fl[c % 64]? with
        | some f => some (ls, wk_rd σ o (c % 64) f :: t, σ)
        | none => none) none
      | _ => none)
    | _ => none)
  | .putfield c => (match st with
    | v :: .ref o :: t => (match sh o with
      | some (.inr (ci, fl)) => cond (wk_sub ci (c / 64)) (match fl[c % 64]?, v with
        | some 0, .int x => some (ls, t, wk_si σ o (c % 64) x)
        | some 1, .long x => some (ls, t, wk_sl σ o (c % 64) x)
        | some 2, .int x => (if x = 0 ∨ x = 1 then some (ls, t, wk_si σ o (c % 64) x) else none)
        | _, _ => none) none
      | _ => none)
    | _ => none)
  | .getstatic _ => some (ls, .ref 999 :: st, σ)
  | .arraylength => (match st with
    | .ref o :: t => (match sh o with
      | some (.inl (_, n)) => some (ls, .int (Int32.ofNat n) :: t, σ)
      | _ => none)
    | _ => none)
  | .iaload => (match st with
    | .int j :: .ref o :: t => (match sh o with
      | some (.inl (0, n)) => cond (wk_in j n) (some (ls, .int (σ.1 o j.toNatClampNeg) :: t, σ)) none
      | some (.inl (3, n)) => cond (wk_in j n) (some (ls, .int (wk_ml j.toNatClampNeg) :: t, σ)) none
      | _ => none)
    | _ => none)
  | .baload => (match st with
    | .int j :: .ref o :: t => (match sh o with
      | some (.inl (2, n)) => cond (wk_in j n) (some (ls, .int (σ.1 o j.toNatClampNeg) :: t, σ)) none
      | _ => none)
    | _ => none)
  | .laload => (match st with
    | .int j :: .ref o :: t => (match sh o with
      | some (.inl (1, n)) => cond (wk_in j n) (some (ls, .long (σ.2 o j.toNatClampNeg) :: t, σ)) none
      | _ => none)
    | _ => none)
  | .iastore => (match st with
    | .int x :: .int j :: .ref o :: t => (match sh o with
      | some (.inl (0, n)) => cond (wk_in j n) (some (ls, t, wk_si σ o j.toNatClampNeg x)) none
      | _ => none)
    | _ => none)
  | .bastore => (match st with
    | .int x :: .int j :: .ref o :: t => (match sh o with
      | some (.inl (2, n)) => cond (wk_in j n) (some (ls, t, wk_si σ o j.toNatClampNeg x.toInt8.toInt32)) none
      | _ => none)
    | _ => none)
  | .lastore => (match st with
    | .long x :: .int j :: .ref o :: t => (match sh o with
      | some (.inl (1, n)) => cond (wk_in j n) (some (ls, t, wk_sl σ o j.toNatClampNeg x)) none
      | _ => none)
    | _ => none)
  | _ => none
def wk_c (c : ClassFile.Cond) (x y : Int32) : Bool := match c with
  | .eq => decide (x = y)
  | .ne => decide (¬ x = y)
  | .lt => decide (x < y)
  | .ge => decide (x ≥ y)
  | .gt => decide (x > y)
  | .le => decide (x ≤ y)
def wk_tsw (d lo hi : Int) (offs : Array Int) (x : Int32) : Int := if x.toInt < lo ∨ hi < x.toInt then d else offs.toList.getD (x.toInt - lo).toNat d
def wk_lsw (d : Int) (ps : List (Int × Int)) (x : Int32) : Int := match ps with
  | [] => d
  | (a, t) :: r => if x.toInt = a then t else wk_lsw d r x
abbrev wk_R : Type := Option Value × wk_St
/-- one instruction, with what goes on behind it, and what calls answer -/
def wk_b (K : List Instr → List Value → List Value → wk_St → Option wk_R) (C : Nat → List Value → wk_St → Option wk_R) (cd rest : List Instr) (ls st : List Value) (σ : wk_St) : Option wk_R := match rest with
  | [] => none
  | i :: k => (match i with
    | .goto t => K (cd.drop t.toNat) ls st σ
    | .ifCond c t => (match st with
      | .int x :: u => cond (wk_c c x 0) (K (cd.drop t.toNat) ls u σ) (K k ls u σ)
      | _ => none)
    | .if_icmp c t => (match st with
      | .int y :: .int x :: u => cond (wk_c c x y) (K (cd.drop t.toNat) ls u σ) (K k ls u σ)
      | _ => none)
    | .tableswitch d lo hi offs => (match st with
      | .int x :: u => K (cd.drop (wk_tsw d lo hi offs x).toNat) ls u σ
      | _ => none)
    | .lookupswitch d ps => (match st with
      | .int x :: u => K (cd.drop (wk_lsw d ps.toList x).toNat) ls u σ
      | _ => none)
    | .ireturn => (match st with
      | .int x :: [] => some (some (.int x), σ)
      | _ => none)
    | .freturn => (match st with
      | .int x :: [] => (if x = 0 ∨ x = 1 then some (some (.int x), σ) else none)
      | _ => none)
    | .lreturn => (match st with
      | .long x :: [] => some (some (.long x), σ)
      | _ => none)
    | .return_ => (match st with
      | [] => some (none, σ)
      | _ => none)
    | .invokeinterface f a => cond (Nat.ble a st.length && (Nat.ble (st.drop a).length 4 && wk_rc sh f (st.take a).reverse)) (match C (f % 1000) (st.take a).reverse σ with
      | none => none
      | some (r, σ1) => K k ls (r.toList ++ st.drop a) σ1) none
    | i => (match wk_s sh i ls st σ with
      | none => none
      | some (ls1, st1, σ1) => K k ls1 st1 σ1))
/-- the locals at a method's start -/
def wk_ini (args : List Value) (n : Nat) : List Value := (args.flatMap wk_two) ++ List.replicate (n - (args.flatMap wk_two).length) wk_U
def wk_run : Nat → Nat → List Instr → List Instr → List Value → List Value → wk_St → Option wk_R
  | 0, _, _, _, _, _, _ => none
  | n + 1, d, cd, rest, ls, st, σ => wk_b sh (fun rest ls st σ => wk_run n d cd rest ls st σ) (fun f args σ => match d with
    | 0 => none
    | d + 1 => wk_run n d (wk_mc f) (wk_mc f) (wk_ini args (wk_mx f)) [] σ) cd rest ls st σ
theorem wk_b_mono {K K' : List Instr → List Value → List Value → wk_St → Option wk_R} {C C' : Nat → List Value → wk_St → Option wk_R} (hK : ∀ a b c d z, K a b c d = some z → K' a b c d = some z) (hC : ∀ a b c z, C a b c = some z → C' a b c = some z)
    {cd rest : List Instr} {ls st : List Value} {σ : wk_St} {z : wk_R} (h : wk_b sh K C cd rest ls st σ = some z) : wk_b sh K' C' cd rest ls st σ = some z := by
  cases rest with
  | nil => exact h
  | cons i k =>
    unfold wk_b at h ⊢
    dsimp only at h ⊢
    split at h
    case h_10 f a =>
      cases hb : (Nat.ble a st.length && (Nat.ble (st.drop a).length 4 && wk_rc sh f (st.take a).reverse)) with
      | false => rw [hb] at h; cases h
      | true =>
        rw [hb] at h
        simp only [cond_true] at h ⊢
        cases hc : C (f % 1000) (st.take a).reverse σ with
        | none => rw [hc] at h; cases h
        | some q =>
          rw [hc] at h
          rw [hC _ _ _ _ hc]
          exact hK _ _ _ _ _ h
    case h_11 =>
      cases hs : wk_s sh i ls st σ with
      | none => rw [hs] at h; cases h
      | some q =>
        rw [hs] at h
        exact hK _ _ _ _ _ h
    all_goals first
      | exact hK _ _ _ _ _ h
      | exact h
      | (split at h
         · first
           | exact hK _ _ _ _ _ h
           | (cases hb : wk_c ‹_› ‹_› _ <;> (rw [hb] at h; exact hK _ _ _ _ _ h))
           | skip
         · cases h)
    all_goals trace_state
theorem wk_b_s {K : List Instr → List Value → List Value → wk_St → Option wk_R} {C : Nat → List Value → wk_St → Option wk_R} {cd k : List Instr} {i : Instr} {ls st : List Value} {σ : wk_St} {q : List Value × List Value × wk_St}
    (h : wk_s sh i ls st σ = some q) : wk_b sh K C cd (i :: k) ls st σ = K k q.1 q.2.1 q.2.2 := by
  unfold wk_b
  dsimp only
  split
  case h_11 => rw [h]
  all_goals (simp [wk_s] at h)
theorem wk_run_mono : ∀ (n d : Nat) (cd rest : List Instr) (ls st : List Value) (σ : wk_St) (z : wk_R), wk_run sh n d cd rest ls st σ = some z → ∀ n' d', n ≤ n' → d ≤ d' → wk_run sh n' d' cd rest ls st σ = some z := by
  intro n
  induction n with
  | zero => intro d cd rest ls st σ z h; simp [wk_run] at h
  | succ n ih =>
    intro d cd rest ls st σ z h n' d' hn hd
    obtain ⟨n2, rfl⟩ : ∃ n2, n' = n2 + 1 := ⟨n' - 1, by omega⟩
    rw [wk_run] at h ⊢
    refine wk_b_mono sh (fun a b c e z hz => ih d cd a b c e z hz n2 d' (by omega) hd) (fun f a e z hz => ?_) h
    cases d with
    | zero => cases hz
    | succ d =>
      obtain ⟨d2, rfl⟩ : ∃ d2, d' = d2 + 1 := ⟨d' - 1, by omega⟩
      exact ih d _ _ _ _ _ z hz n2 d2 (by omega) (by omega)
/-- from this place the method comes to this end -/
def wk_H (d : Nat) (cd : List Instr) (i : Nat) (ls st : List Value) (σ : wk_St) (z : wk_R) : Prop := ∃ n, wk_run sh n d cd (cd.drop i) ls st σ = some z
/-- the method, called so, comes to this end -/
def wk_T (d f : Nat) (args : List Value) (σ : wk_St) (z : wk_R) : Prop := wk_H sh d (wk_mc f) 0 (wk_ini args (wk_mx f)) [] σ z
def wk_ss : List Instr → List Value → List Value → wk_St → Option (List Value × List Value × wk_St)
  | [], ls, st, σ => some (ls, st, σ)
  | i :: k, ls, st, σ => (match wk_s sh i ls st σ with
    | none => none
    | some q => wk_ss k q.1 q.2.1 q.2.2)
variable {sh}
theorem wk_T.up {d d' f : Nat} {args : List Value} {σ : wk_St} {z : wk_R} (h : wk_T sh d f args σ z) (hd : d ≤ d') : wk_T sh d' f args σ z := by
  obtain ⟨n, h⟩ := h
  exact ⟨n, wk_run_mono sh n d _ _ _ _ _ _ h n d' (Nat.le_refl _) hd⟩
theorem wk_drop {cd : List Instr} {i : Nat} {x : Instr} (h : cd[i]? = some x) : cd.drop i = x :: cd.drop (i + 1) := by
  obtain ⟨hl, he⟩ := List.getElem?_eq_some_iff.mp h
  rw [List.drop_eq_getElem_cons hl, he]
theorem wk_H1 {d : Nat} {cd : List Instr} {i : Nat} {ls st : List Value} {σ : wk_St} {z : wk_R} {x : Instr} {q : List Value × List Value × wk_St} (hx : cd[i]? = some x) (h : wk_s sh x ls st σ = some q) (k : wk_H sh d cd (i + 1) q.1 q.2.1 q.2.2 z) : wk_H sh d cd i ls st σ z := by
  obtain ⟨n, hn⟩ := k
  refine ⟨n + 1, ?_⟩
  rw [wk_run, wk_drop hx, wk_b_s sh h]
  exact hn
theorem wk_Hs0 {d : Nat} {cd : List Instr} {z : wk_R} : ∀ (is : List Instr) (i : Nat) (ls st : List Value) (σ : wk_St) (q : List Value × List Value × wk_St), (∀ j x, is[j]? = some x → cd[i + j]? = some x) → wk_ss sh is ls st σ = some q → wk_H sh d cd (i + is.length) q.1 q.2.1 q.2.2 z → wk_H sh d cd i ls st σ z
  | [], i, ls, st, σ, q, _, h, k => by
    cases h
    exact k
  | x :: is, i, ls, st, σ, q, hc, h, k => by
    unfold wk_ss at h
    cases hs : wk_s sh x ls st σ with
    | none => rw [hs] at h; cases h
    | some r =>
      rw [hs] at h
      refine wk_H1 (hc 0 x rfl) hs (wk_Hs0 is (i + 1) _ _ _ q (fun j y hj => ?_) h ?_)
      · rw [show i + 1 + j = i + (j + 1) by omega]
        exact hc (j + 1) y hj
      · rw [show i + 1 + is.length = i + (x :: is).length by simp; omega]
        exact k
/-- c instructions at once -/
theorem wk_Hs {d : Nat} {cd : List Instr} {i : Nat} {ls st : List Value} {σ : wk_St} {z : wk_R} (c : Nat) (i' : Nat) {ls' st' : List Value} {σ' : wk_St} (hi : i + c = i' ∧ Nat.ble i' cd.length = true) (h : wk_ss sh ((cd.drop i).take c) ls st σ = some (ls', st', σ')) (k : wk_H sh d cd i' ls' st' σ' z) : wk_H sh d cd i ls st σ z := by
  have hl : ((cd.drop i).take c).length = c := by
    have := Nat.le_of_ble_eq_true hi.2
    simp [List.length_take, List.length_drop]
    omega
  refine wk_Hs0 ((cd.drop i).take c) i ls st σ _ (fun j x hj => ?_) h ?_
  · rw [List.getElem?_take] at hj
    split at hj
    · rw [List.getElem?_drop] at hj
      exact hj
    · cases hj
  · rw [hl, hi.1]
    exact k
theorem wk_Hgoto {d : Nat} {cd : List Instr} {i t : Nat} {ls st : List Value} {σ : wk_St} {z : wk_R} (hx : cd[i]? = some (.goto (Int.ofNat t))) (k : wk_H sh d cd t ls st σ z) : wk_H sh d cd i ls st σ z := by
  obtain ⟨n, hn⟩ := k
  refine ⟨n + 1, ?_⟩
  rw [wk_run, wk_drop hx]
  exact hn
theorem wk_Hic {d : Nat} {cd : List Instr} {i t : Nat} {c : ClassFile.Cond} {x y : Int32} {ls st : List Value} {σ : wk_St} {z : wk_R} (hx : cd[i]? = some (.if_icmp c (Int.ofNat t))) (k1 : wk_c c x y = true → wk_H sh d cd t ls st σ z) (k2 : wk_c c x y = false → wk_H sh d cd (i + 1) ls st σ z) : wk_H sh d cd i ls (.int y :: .int x :: st) σ z := by
  cases hc : wk_c c x y with
  | true =>
    obtain ⟨n, hn⟩ := k1 hc
    refine ⟨n + 1, ?_⟩
    rw [wk_run, wk_drop hx]
    show cond (wk_c c x y) _ _ = _
    rw [hc]
    exact hn
  | false =>
    obtain ⟨n, hn⟩ := k2 hc
    refine ⟨n + 1, ?_⟩
    rw [wk_run, wk_drop hx]
    show cond (wk_c c x y) _ _ = _
    rw [hc]
    exact hn
theorem wk_Hi0 {d : Nat} {cd : List Instr} {i t : Nat} {c : ClassFile.Cond} {x : Int32} {ls st : List Value} {σ : wk_St} {z : wk_R} (hx : cd[i]? = some (.ifCond c (Int.ofNat t))) (k1 : wk_c c x 0 = true → wk_H sh d cd t ls st σ z) (k2 : wk_c c x 0 = false → wk_H sh d cd (i + 1) ls st σ z) : wk_H sh d cd i ls (.int x :: st) σ z := by
  cases hc : wk_c c x 0 with
  | true =>
    obtain ⟨n, hn⟩ := k1 hc
    refine ⟨n + 1, ?_⟩
    rw [wk_run, wk_drop hx]
    show cond (wk_c c x 0) _ _ = _
    rw [hc]
    exact hn
  | false =>
    obtain ⟨n, hn⟩ := k2 hc
    refine ⟨n + 1, ?_⟩
    rw [wk_run, wk_drop hx]
    show cond (wk_c c x 0) _ _ = _
    rw [hc]
    exact hn
/-- a branch: taken if p, i2 its other way -/
theorem wk_Hb {p : Prop} {d : Nat} {cd : List Instr} {i t i2 : Nat} {c : ClassFile.Cond} {x y : Int32} {ls st : List Value} {σ : wk_St} {z : wk_R} (hx : cd[i]? = some (.if_icmp c (Int.ofNat t))) (hi : i + 1 = i2) (hp : wk_c c x y = true ↔ p) (k1 : p → wk_H sh d cd t ls st σ z) (k2 : ¬ p → wk_H sh d cd i2 ls st σ z) : wk_H sh d cd i ls (.int y :: .int x :: st) σ z := by
  subst hi
  exact wk_Hic hx (fun h => k1 (hp.mp h)) (fun h => k2 (fun q => by rw [hp.mpr q] at h; cases h))
theorem wk_H0 {p : Prop} {d : Nat} {cd : List Instr} {i t i2 : Nat} {c : ClassFile.Cond} {x : Int32} {ls st : List Value} {σ : wk_St} {z : wk_R} (hx : cd[i]? = some (.ifCond c (Int.ofNat t))) (hi : i + 1 = i2) (hp : wk_c c x 0 = true ↔ p) (k1 : p → wk_H sh d cd t ls st σ z) (k2 : ¬ p → wk_H sh d cd i2 ls st σ z) : wk_H sh d cd i ls (.int x :: st) σ z := by
  subst hi
  exact wk_Hi0 hx (fun h => k1 (hp.mp h)) (fun h => k2 (fun q => by rw [hp.mpr q] at h; cases h))
theorem wk_Hts {d : Nat} {cd : List Instr} {i t : Nat} {e lo hi : Int} {offs : Array Int} {x : Int32} {ls st : List Value} {σ : wk_St} {z : wk_R} (hx : cd[i]? = some (.tableswitch e lo hi offs)) (ht : wk_tsw e lo hi offs x = Int.ofNat t) (k : wk_H sh d cd t ls st σ z) : wk_H sh d cd i ls (.int x :: st) σ z := by
  obtain ⟨n, hn⟩ := k
  refine ⟨n + 1, ?_⟩
  rw [wk_run, wk_drop hx]
  show wk_run sh n d cd (cd.drop (wk_tsw e lo hi offs x).toNat) ls st σ = some z
  rw [ht]
  exact hn
theorem wk_Hls {d : Nat} {cd : List Instr} {i t : Nat} {e : Int} {ps : Array (Int × Int)} {x : Int32} {ls st : List Value} {σ : wk_St} {z : wk_R} (hx : cd[i]? = some (.lookupswitch e ps)) (ht : wk_lsw e ps.toList x = Int.ofNat t) (k : wk_H sh d cd t ls st σ z) : wk_H sh d cd i ls (.int x :: st) σ z := by
  obtain ⟨n, hn⟩ := k
  refine ⟨n + 1, ?_⟩
  rw [wk_run, wk_drop hx]
  show wk_run sh n d cd (cd.drop (wk_lsw e ps.toList x).toNat) ls st σ = some z
  rw [ht]
  exact hn
theorem wk_Hcall {d : Nat} {cd : List Instr} {i i2 g f a : Nat} {ls st rest args : List Value} {σ σ1 : wk_St} {r : Option Value} {z : wk_R} (hx : cd[i]? = some (.invokeinterface g a)) (hi : i + 1 = i2) (hst : st = args.reverse ++ rest ∧ args.length = a ∧ Nat.ble rest.length 4 = true ∧ wk_rc sh g args = true ∧ g % 1000 = f) {st2 : List Value} (hr : r.toList ++ rest = st2) (hT : wk_T sh d f args σ (r, σ1)) (k : wk_H sh (d + 1) cd i2 ls st2 σ1 z) : wk_H sh (d + 1) cd i ls st σ z := by
  obtain ⟨n1, h1⟩ := hT
  obtain ⟨n2, h2⟩ := k
  rw [List.drop_zero] at h1
  obtain ⟨rfl, rfl, hb, hrc, rfl⟩ := hst
  subst hi
  subst hr
  refine ⟨n1 + n2 + 1, ?_⟩
  have e1 : (args.reverse ++ rest).take args.length = args.reverse := by rw [List.take_append_of_le_length (by simp)]; simp [List.take_of_length_le]
  have e2 : (args.reverse ++ rest).drop args.length = rest := by rw [show args.length = args.reverse.length by simp]; exact List.drop_left
  have e3 : Nat.ble args.length (args.reverse ++ rest).length = true := Nat.ble_eq_true_of_le (by simp)
  rw [wk_run, wk_drop hx]
  show cond (Nat.ble args.length (args.reverse ++ rest).length && (Nat.ble ((args.reverse ++ rest).drop args.length).length 4 && wk_rc sh g ((args.reverse ++ rest).take args.length).reverse)) (match wk_run sh (n1 + n2) d (wk_mc (g % 1000)) (wk_mc (g % 1000)) (wk_ini ((args.reverse ++ rest).take args.length).reverse (wk_mx (g % 1000))) [] σ with
    | none => none
    | some (r, σ1) => wk_run sh (n1 + n2) (d + 1) cd (cd.drop (i + 1)) ls (r.toList ++ (args.reverse ++ rest).drop args.length) σ1) none = some z
  rw [e1, e2, e3, hb, List.reverse_reverse, hrc, wk_run_mono sh n1 d _ _ _ _ _ _ h1 (n1 + n2) d (by omega) (Nat.le_refl _)]
  exact wk_run_mono sh n2 (d + 1) _ _ _ _ _ _ h2 (n1 + n2) (d + 1) (by omega) (Nat.le_refl _)
theorem wk_Hret {d : Nat} {cd : List Instr} {i : Nat} {ls : List Value} {x : Int32} {σ : wk_St} (hx : cd[i]? = some .ireturn) : wk_H sh d cd i ls [.int x] σ (some (.int x), σ) := ⟨1, by rw [wk_run, wk_drop hx]; rfl⟩
theorem wk_Hretl {d : Nat} {cd : List Instr} {i : Nat} {ls : List Value} {x : Int64} {σ : wk_St} (hx : cd[i]? = some .lreturn) : wk_H sh d cd i ls [.long x] σ (some (.long x), σ) := ⟨1, by rw [wk_run, wk_drop hx]; rfl⟩
theorem wk_Hretv {d : Nat} {cd : List Instr} {i : Nat} {ls : List Value} {σ : wk_St} (hx : cd[i]? = some .return_) : wk_H sh d cd i ls [] σ (none, σ) := ⟨1, by rw [wk_run, wk_drop hx]; rfl⟩
theorem wk_Hretz {d : Nat} {cd : List Instr} {i : Nat} {ls : List Value} {x : Int32} {σ : wk_St} (hx : cd[i]? = some .freturn) (h : x = 0 ∨ x = 1) : wk_H sh d cd i ls [.int x] σ (some (.int x), σ) := ⟨1, by
  rw [wk_run, wk_drop hx]
  show (if x = 0 ∨ x = 1 then _ else _) = _
  rw [if_pos h]⟩
end WKM
