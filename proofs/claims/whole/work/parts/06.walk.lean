/-! rows for the decompiled functions -/
def wk_F : Nat := 4096
def wk_loop {A P : Type} (step : P → Option (A ⊕ P)) : Nat → P → Option A
  | 0, _ => none
  | n + 1, p => (step p).bind fun o => match o with
    | Sum.inl a => some a
    | Sum.inr q => wk_loop step n q
def wk_let {α β : Type} (e : α) (f : α → β) : β := f e
theorem wk_letE {α β : Type} {e : α} {f : α → β} {r : β} (h : wk_let e f = r) : f e = r := h
theorem wk_bindE {α β : Type} {x : Option α} {f : α → Option β} {r : β} (h : x.bind f = some r) : ∃ p, x = some p ∧ f p = some r := by
  cases x with
  | none => cases h
  | some p => exact ⟨p, rfl, h⟩
theorem wk_ife {α : Type} {c : Prop} [Decidable c] {a b r : α} (h : (if c then a else b) = r) : (c ∧ a = r) ∨ (¬ c ∧ b = r) := by
  by_cases hc : c
  · rw [if_pos hc] at h; exact Or.inl ⟨hc, h⟩
  · rw [if_neg hc] at h; exact Or.inr ⟨hc, h⟩
theorem wk_gdE {α : Type} {c : Prop} [Decidable c] {a : Option α} {r : α} (h : (if c then a else none) = some r) : c ∧ a = some r := by
  by_cases hc : c
  · rw [if_pos hc] at h; exact ⟨hc, h⟩
  · rw [if_neg hc] at h; cases h
theorem wk_gdN {α : Type} {c : Prop} [Decidable c] {a : Option α} {r : α} (h : (if c then none else a) = some r) : ¬ c ∧ a = some r := by
  by_cases hc : c
  · rw [if_pos hc] at h; cases h
  · rw [if_neg hc] at h; exact ⟨hc, h⟩
abbrev b2i (b : Bool) : Int32 := if b = true then 1 else 0
theorem b2i_01 (b : Bool) : b2i b = 0 ∨ b2i b = 1 := by cases b <;> simp [b2i]
theorem wk_clt {x y : Int32} : wk_c .lt x y = true ↔ x < y := by simp [wk_c]
theorem wk_cgt {x y : Int32} : wk_c .gt x y = true ↔ x > y := by simp [wk_c]
theorem wk_cge {x y : Int32} : wk_c .ge x y = true ↔ x ≥ y := by simp [wk_c]
theorem wk_cle {x y : Int32} : wk_c .le x y = true ↔ x ≤ y := by simp [wk_c]
theorem wk_ceq {x y : Int32} : wk_c .eq x y = true ↔ x = y := by simp [wk_c]
theorem wk_cne {x y : Int32} : wk_c .ne x y = true ↔ ¬ x = y := by simp [wk_c]
theorem wk_zeq {b : Bool} : wk_c .eq (b2i b) 0 = true ↔ b = false := by cases b <;> simp [wk_c, b2i]
theorem wk_zne {b : Bool} : wk_c .ne (b2i b) 0 = true ↔ b = true := by cases b <;> simp [wk_c, b2i]
theorem wk_nf {c : ClassFile.Cond} {x y : Int32} {p : Prop} (h : wk_c c x y = true ↔ p) (n : ¬ p) : wk_c c x y = false := by
  cases hc : wk_c c x y with
  | true => exact absurd (h.mp hc) n
  | false => rfl
theorem wk_nt {v k : Int32} {a : Int} (h : ¬ v = k) (hk : k.toInt = a) : v.toInt ≠ a := fun q => h (Int32.toInt_inj.mp (by rw [hk]; exact q))
theorem wk_tswE {d lo hi t : Int} {offs : Array Int} {v k : Int32} (hc : v = k) (h : wk_tsw d lo hi offs k = t) : wk_tsw d lo hi offs v = t := by rw [hc]; exact h
theorem wk_lswE {d t : Int} {ps : List (Int × Int)} {v k : Int32} (hc : v = k) (h : wk_lsw d ps k = t) : wk_lsw d ps v = t := by rw [hc]; exact h
def wk_tswl (d : Int) : Int → List Int → List Int
  | _, [] => []
  | lo, o :: r => if o = d then wk_tswl d (lo + 1) r else lo :: wk_tswl d (lo + 1) r
theorem wk_tsw0 (d : Int) : ∀ (l : List Int) (lo v : Int), lo ≤ v → (∀ q ∈ wk_tswl d lo l, v ≠ q) → l.getD (v - lo).toNat d = d
  | [], lo, v, _, _ => by simp
  | o :: r, lo, v, hv, h => by
    unfold wk_tswl at h
    by_cases hv2 : v = lo
    · subst hv2
      rw [Int.sub_self]
      by_cases ho : o = d
      · simp [ho]
      · rw [if_neg ho] at h
        exact absurd rfl (h v List.mem_cons_self)
    · have e : (v - lo).toNat = (v - (lo + 1)).toNat + 1 := by omega
      rw [e, List.getD_cons_succ]
      refine wk_tsw0 d r (lo + 1) v (by omega) (fun q hq => h q ?_)
      by_cases ho : o = d
      · rw [if_pos ho]; exact hq
      · rw [if_neg ho]; exact List.mem_cons_of_mem _ hq
theorem wk_tswD {d lo hi : Int} {offs : Array Int} {v : Int32} {L : List Int} (hL : wk_tswl d lo offs.toList = L) (h : ∀ q ∈ L, v.toInt ≠ q) : wk_tsw d lo hi offs v = d := by
  unfold wk_tsw
  split
  · rfl
  · rename_i hn
    refine wk_tsw0 d _ lo v.toInt (by omega) ?_
    rw [hL]
    exact h
theorem wk_lswD {d : Int} {ps : List (Int × Int)} {v : Int32} {L : List Int} (hL : ps.map (fun q => q.1) = L) (h : ∀ q ∈ L, v.toInt ≠ q) : wk_lsw d ps v = d := by
  induction ps generalizing L with
  | nil => rfl
  | cons a r ih =>
    obtain ⟨a, t⟩ := a
    subst hL
    unfold wk_lsw
    rw [if_neg (h a List.mem_cons_self)]
    exact ih rfl (fun q hq => h q (List.mem_cons_of_mem _ hq))
section WKT
variable {sh : Nat → Option wk_De} {d : Nat} {cd : List Instr} {i : Nat} {ls st : List Value} {σ : wk_St} {z : wk_R}
theorem wk_eqz {e : wk_R} (h : z = e) (k : wk_H sh d cd i ls st σ e) : wk_H sh d cd i ls st σ z := h ▸ k
theorem wk_Hbt (t : Nat) {c : ClassFile.Cond} {x y : Int32} (hx : cd[i]? = some (.if_icmp c (Int.ofNat t))) (hp : wk_c c x y = true) (k1 : wk_H sh d cd t ls st σ z) : wk_H sh d cd i ls (.int y :: .int x :: st) σ z := wk_Hic hx (fun _ => k1) (fun h => by rw [hp] at h; cases h)
theorem wk_Hbf (t i2 : Nat) {c : ClassFile.Cond} {x y : Int32} (hx : cd[i]? = some (.if_icmp c (Int.ofNat t))) (hi : i + 1 = i2) (hp : wk_c c x y = false) (k1 : wk_H sh d cd i2 ls st σ z) : wk_H sh d cd i ls (.int y :: .int x :: st) σ z := by
  subst hi
  exact wk_Hic hx (fun h => by rw [hp] at h; cases h) (fun _ => k1)
theorem wk_H0t (t : Nat) {c : ClassFile.Cond} {x : Int32} (hx : cd[i]? = some (.ifCond c (Int.ofNat t))) (hp : wk_c c x 0 = true) (k1 : wk_H sh d cd t ls st σ z) : wk_H sh d cd i ls (.int x :: st) σ z := wk_Hi0 hx (fun _ => k1) (fun h => by rw [hp] at h; cases h)
theorem wk_H0f (t i2 : Nat) {c : ClassFile.Cond} {x : Int32} (hx : cd[i]? = some (.ifCond c (Int.ofNat t))) (hi : i + 1 = i2) (hp : wk_c c x 0 = false) (k1 : wk_H sh d cd i2 ls st σ z) : wk_H sh d cd i ls (.int x :: st) σ z := by
  subst hi
  exact wk_Hi0 hx (fun h => by rw [hp] at h; cases h) (fun _ => k1)
theorem wk_Hdiv (i2 : Nat) {x y : Int32} (hx : cd[i]? = some .idiv) (hi : i + 1 = i2) (hy : ¬ y = 0) (k : wk_H sh d cd i2 ls (.int (x / y) :: st) σ z) : wk_H sh d cd i ls (.int y :: .int x :: st) σ z := by
  subst hi
  refine wk_H1 hx (q := (ls, .int (x / y) :: st, σ)) ?_ k
  show (if y = 0 then none else _) = _
  rw [if_neg hy]
theorem wk_Hrem (i2 : Nat) {x y : Int32} (hx : cd[i]? = some .irem) (hi : i + 1 = i2) (hy : ¬ y = 0) (k : wk_H sh d cd i2 ls (.int (wk_rem x y) :: st) σ z) : wk_H sh d cd i ls (.int y :: .int x :: st) σ z := by
  subst hi
  refine wk_H1 hx (q := (ls, .int (wk_rem x y) :: st, σ)) ?_ k
  show (if y = 0 then none else _) = _
  rw [if_neg hy]
theorem wk_Hia (i2 : Nat) {o n a : Nat} {j : Int32} (hx : cd[i]? = some .iaload) (hi : i + 1 = i2) (hs : sh o = some (.inl (0, n))) (hg : wk_in j n = true) (hj : j.toNatClampNeg = a) (k : wk_H sh d cd i2 ls (.int (σ.1 o a) :: st) σ z) : wk_H sh d cd i ls (.int j :: .ref o :: st) σ z := by
  subst hi; subst hj
  refine wk_H1 hx (q := (ls, .int (σ.1 o j.toNatClampNeg) :: st, σ)) ?_ k
  unfold wk_s
  simp only [hs, hg, cond_true]
theorem wk_Hit (i2 : Nat) {o n a : Nat} {j : Int32} (hx : cd[i]? = some .iaload) (hi : i + 1 = i2) (hs : sh o = some (.inl (3, n))) (hg : wk_in j n = true) (hj : j.toNatClampNeg = a) (k : wk_H sh d cd i2 ls (.int (wk_ml a) :: st) σ z) : wk_H sh d cd i ls (.int j :: .ref o :: st) σ z := by
  subst hi; subst hj
  refine wk_H1 hx (q := (ls, .int (wk_ml j.toNatClampNeg) :: st, σ)) ?_ k
  unfold wk_s
  simp only [hs, hg, cond_true]
theorem wk_Hba (i2 : Nat) {o n a : Nat} {j : Int32} (hx : cd[i]? = some .baload) (hi : i + 1 = i2) (hs : sh o = some (.inl (2, n))) (hg : wk_in j n = true) (hj : j.toNatClampNeg = a) (k : wk_H sh d cd i2 ls (.int (σ.1 o a) :: st) σ z) : wk_H sh d cd i ls (.int j :: .ref o :: st) σ z := by
  subst hi; subst hj
  refine wk_H1 hx (q := (ls, .int (σ.1 o j.toNatClampNeg) :: st, σ)) ?_ k
  unfold wk_s
  simp only [hs, hg, cond_true]
theorem wk_Hla (i2 : Nat) {o n a : Nat} {j : Int32} (hx : cd[i]? = some .laload) (hi : i + 1 = i2) (hs : sh o = some (.inl (1, n))) (hg : wk_in j n = true) (hj : j.toNatClampNeg = a) (k : wk_H sh d cd i2 ls (.long (σ.2 o a) :: st) σ z) : wk_H sh d cd i ls (.int j :: .ref o :: st) σ z := by
  subst hi; subst hj
  refine wk_H1 hx (q := (ls, .long (σ.2 o j.toNatClampNeg) :: st, σ)) ?_ k
  unfold wk_s
  simp only [hs, hg, cond_true]
theorem wk_Hias (i2 : Nat) {o n a : Nat} {j x : Int32} (hx : cd[i]? = some .iastore) (hi : i + 1 = i2) (hs : sh o = some (.inl (0, n))) (hg : wk_in j n = true) (hj : j.toNatClampNeg = a) (k : wk_H sh d cd i2 ls st (wk_si σ o a x) z) : wk_H sh d cd i ls (.int x :: .int j :: .ref o :: st) σ z := by
  subst hi; subst hj
  refine wk_H1 hx (q := (ls, st, wk_si σ o j.toNatClampNeg x)) ?_ k
  unfold wk_s
  simp only [hs, hg, cond_true]
theorem wk_Hbas (i2 : Nat) {o n a : Nat} {j x : Int32} (hx : cd[i]? = some .bastore) (hi : i + 1 = i2) (hs : sh o = some (.inl (2, n))) (hg : wk_in j n = true) (hj : j.toNatClampNeg = a) (k : wk_H sh d cd i2 ls st (wk_si σ o a x.toInt8.toInt32) z) : wk_H sh d cd i ls (.int x :: .int j :: .ref o :: st) σ z := by
  subst hi; subst hj
  refine wk_H1 hx (q := (ls, st, wk_si σ o j.toNatClampNeg x.toInt8.toInt32)) ?_ k
  unfold wk_s
  simp only [hs, hg, cond_true]
theorem wk_Hlas (i2 : Nat) {o n a : Nat} {j : Int32} {x : Int64} (hx : cd[i]? = some .lastore) (hi : i + 1 = i2) (hs : sh o = some (.inl (1, n))) (hg : wk_in j n = true) (hj : j.toNatClampNeg = a) (k : wk_H sh d cd i2 ls st (wk_sl σ o a x) z) : wk_H sh d cd i ls (.long x :: .int j :: .ref o :: st) σ z := by
  subst hi; subst hj
  refine wk_H1 hx (q := (ls, st, wk_sl σ o j.toNatClampNeg x)) ?_ k
  unfold wk_s
  simp only [hs, hg, cond_true]
theorem wk_Hpz (i2 j : Nat) {o c ci : Nat} {x : Int32} {fl : List Nat} (hx : cd[i]? = some (.putfield c)) (hi : i + 1 = i2) (hs : sh o = some (.inr (ci, fl))) (hb : wk_sub ci (c / 64) = true) (hf : fl[c % 64]? = some 2) (hj : c % 64 = j) (hv : x = 0 ∨ x = 1) (k : wk_H sh d cd i2 ls st (wk_si σ o j x) z) : wk_H sh d cd i ls (.int x :: .ref o :: st) σ z := by
  subst hi; subst hj
  refine wk_H1 hx (q := (ls, st, wk_si σ o (c % 64) x)) ?_ k
  unfold wk_s
  simp only [hs, hb, cond_true, hf]
  rw [if_pos hv]
theorem wk_Hretzd {x : Int32} (hx : cd[i]? = some .freturn) (h : x = 0 ∨ x = 1) : wk_H sh d cd i ls [.int x] σ (some (.int (b2i (decide (x = 1)))), σ) := by
  have e : b2i (decide (x = 1)) = x := by
    rcases h with rfl | rfl
    · rfl
    · rfl
  rw [e]
  exact wk_Hretz hx h
end WKT
