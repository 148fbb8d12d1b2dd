/-! PURE: next, knight -/
/-- the places next to r, with p and q joined or parted -/
def iv_N2 (is : Bool) (N : Nat → Nat) (p q r : Nat) : Nat := if r = p then (if is = true then N p ||| 2 ^ q else N p &&& (4095 - 2 ^ q)) else if r = q then (if is = true then N q ||| 2 ^ p else N q &&& (4095 - 2 ^ p)) else N r
theorem iv_N2_lt {is : Bool} {N : Nat → Nat} {p q r : Nat} (hp : p < 12) (hq : q < 12) (hN : ∀ r, r < 12 → N r < 4096) (hr : r < 12) : iv_N2 is N p q r < 4096 := by
  have h2 : ∀ z, z < 12 → 2 ^ z < 2 ^ 12 := fun z hz => Nat.pow_lt_pow_right (by decide) hz
  have h3 : ∀ y z, y < 12 → z < 12 → (if is = true then N y ||| 2 ^ z else N y &&& (4095 - 2 ^ z)) < 4096 := by
    intro y z hy hz
    cases is with
    | true => exact Nat.or_lt_two_pow (n := 12) (hN y hy) (h2 z hz)
    | false => exact Nat.lt_of_le_of_lt Nat.and_le_left (hN y hy)
  unfold iv_N2
  split
  · exact h3 p q hp hq
  · split
    · exact h3 q p hq hp
    · exact hN r hr
theorem iv_N2_bit {is : Bool} {N : Nat → Nat} {p q a b : Nat} (hp : p < 12) (hq : q < 12) (hb : b < 12) (hpq : p ≠ q) : (iv_N2 is N p q a).testBit b = if (a = p ∧ b = q) ∨ (a = q ∧ b = p) then is else (N a).testBit b := by
  have h3 : ∀ y z, z < 12 → (if is = true then N y ||| 2 ^ z else N y &&& (4095 - 2 ^ z)).testBit b = if b = z then is else (N y).testBit b := by
    intro y z hz
    cases is with
    | true =>
      rw [if_pos rfl, po_setB]
      by_cases hbz : b = z
      · rw [if_pos hbz, decide_eq_true hbz.symm]; simp
      · rw [if_neg hbz, decide_eq_false (fun h => hbz h.symm)]; simp
    | false =>
      rw [if_neg (by decide), po_clrB hz hb]
      by_cases hbz : b = z
      · rw [if_pos hbz, decide_eq_true hbz]; simp
      · rw [if_neg hbz, decide_eq_false hbz]; simp
  unfold iv_N2
  by_cases hap : a = p
  · rw [if_pos hap, h3 p q hq]
    subst hap
    by_cases hbq : b = q
    · rw [if_pos hbq, if_pos (Or.inl ⟨rfl, hbq⟩)]
    · rw [if_neg hbq, if_neg (by rintro (h | h); exact hbq h.2; exact hpq h.1)]
  · rw [if_neg hap]
    by_cases haq : a = q
    · rw [if_pos haq, h3 q p hp]
      subst haq
      by_cases hbp : b = p
      · rw [if_pos hbp, if_pos (Or.inr ⟨rfl, hbp⟩)]
      · rw [if_neg hbp, if_neg (by rintro (h | h); exact hap h.1; exact hbp h.2)]
    · rw [if_neg haq, if_neg (by rintro (h | h); exact hap h.1; exact haq h.1)]
theorem po_setNext {c : wk_St} {N : Nat → Nat} {p q : Nat} {x : Int32} {is : Bool} (hx : (x = 0 ∧ is = false) ∨ (x = 1 ∧ is = true)) (hp : p < 12) (hq : q < 12) (hN : N p < 4096 ∧ c.1 4 p = nI (N p)) : f_X2_setNext (nI p) (nI q) x c = some (wk_si c 4 p (nI (if is = true then N p ||| 2 ^ q else N p &&& (4095 - 2 ^ q)))) := by
  have h2 : 2 ^ q < 2 ^ 12 := Nat.pow_lt_pow_right (by decide) hq
  unfold f_X2_setNext wk_let
  dsimp only
  rw [po_W, po_inT (n := 11) rfl (by omega), po_inT (n := 11) rfl (by omega), if_neg (by decide), if_neg (by decide), if_pos (po_wkin hp (by decide)), if_pos (po_wkin hp (by decide)), nI_clamp (by omega), hN.2, po_bit (by omega)]
  rcases hx with ⟨rfl, rfl⟩ | ⟨rfl, rfl⟩
  · rw [if_pos rfl, po_clr hN.1 hq]; rfl
  · rw [if_neg (by decide), if_pos (po_wkin hp (by decide)), if_pos (po_wkin hp (by decide)), po_or (by omega) (by omega)]; rfl
theorem po_si_at {s : wk_St} {c j : Nat} {x : Int32} : (wk_si s c j x).1 c j = x := if_pos ⟨rfl, rfl⟩
theorem po_si_ne {s : wk_St} {c j b : Nat} {x : Int32} (h : b ≠ j) : (wk_si s c j x).1 c b = s.1 c b := if_neg (fun k => h k.2)
theorem po_N2_si {s : wk_St} {N : Nat → Nat} {is : Bool} {p q : Nat} {X Y : Nat} (hpq : p ≠ q) (hN : ∀ r, r < 12 → N r < 4096 ∧ s.1 4 r = nI (N r)) (hX : X = if is = true then N p ||| 2 ^ q else N p &&& (4095 - 2 ^ q)) (hY : Y = if is = true then N q ||| 2 ^ p else N q &&& (4095 - 2 ^ p)) : ∀ r, r < 12 → (wk_si (wk_si s 4 p (nI X)) 4 q (nI Y)).1 4 r = nI (iv_N2 is N p q r) := by
  intro r hr
  unfold iv_N2
  by_cases hrq : r = q
  · subst hrq
    rw [po_si_at, if_neg (fun h => hpq h.symm), if_pos rfl, hY]
  · rw [po_si_ne hrq]
    by_cases hrp : r = p
    · subst hrp
      rw [po_si_at, if_pos rfl, hX]
    · rw [po_si_ne hrp, if_neg hrp, if_neg hrq, (hN r hr).2]
theorem po_nIne {a b : Nat} (ha : a < 2 ^ 31) (hb : b < 2 ^ 31) (h : a ≠ b) : ¬ nI a = nI b := fun e => h ((nI_eq ha hb).mp e)
theorem po_op_1 : lw_op_1 iv_I := by
  intro a0 a1 a2 σC σM ha2 hI
  have hF := hI
  obtain ⟨T, w, N, hT, hF, hH, hR, hK, hL⟩ := hI
  have no : f_X11_next a0 a1 a2 σC = some (false, σC) → f_X12_next a0 a1 a2 σM = some (false, σM) → ∃ (r : Int32) (σC2 σM2 : wk_St), wk_T wk_shC 200 1 [.ref 0, .int a0, .int a1, .int a2] σC (some (.int r), σC2) ∧ wk_T wk_shM 200 53 [.ref 0, .int a0, .int a1, .int a2] σM (some (.int r), σM2) ∧ iv_I σC2 σM2 := fun h1 h2 => ⟨b2i false, σC, σM, (t_X11_next h1).up (by decide), (t_X12_next h2).up (by decide), ⟨T, w, N, hT, hF, hH, hR, hK, hL⟩⟩
  rcases po_toldF (x := a0) hF with ⟨c1, m1⟩ | ⟨c1, m1, p, hp, rfl, hTp⟩
  · exact no (by unfold f_X11_next f_X2_join; rw [c1]; rfl) (by unfold f_X12_next; rw [m1]; rfl)
  rcases po_toldF (x := a1) hF with ⟨c2, m2⟩ | ⟨c2, m2, q, hq, rfl, hTq⟩
  · exact no (by unfold f_X11_next f_X2_join; rw [c1, c2]; rfl) (by unfold f_X12_next; rw [m1, m2]; rfl)
  by_cases hpq : p = q
  · subst hpq
    exact no (by unfold f_X11_next f_X2_join; rw [c1]; simp) (by unfold f_X12_next; rw [m1]; simp)
  obtain ⟨f1, f2, f3, f4, f5, f6, f7, f8, f9, f10⟩ := hF
  obtain ⟨is, hx⟩ : ∃ is : Bool, (a2 = 0 ∧ is = false) ∨ (a2 = 1 ∧ is = true) := by
    rcases ha2 with h | h
    · exact ⟨false, Or.inl ⟨h, rfl⟩⟩
    · exact ⟨true, Or.inr ⟨h, rfl⟩⟩
  have hne : ¬ nI p = nI q := po_nIne (by omega) (by omega) hpq
  have hNlt : ∀ r, r < 12 → N r < 4096 := fun r hr => (f7 r hr).1
  have eC : f_X11_next (nI p) (nI q) a2 σC = some (true, iv_set (wk_si (wk_si σC 4 p (nI (if is = true then N p ||| 2 ^ q else N p &&& (4095 - 2 ^ q)))) 4 q (nI (if is = true then N q ||| 2 ^ p else N q &&& (4095 - 2 ^ p)))) 5 (fun b => if b < 144 then nI (iv_dk (iv_N2 is N p q) (T &&& 2 ^ (b / 12)) 11 (b % 12)) else σC.1 5 b)) := by
    unfold f_X11_next f_X2_join
    rw [c1, c2, if_neg (by decide), if_neg (by decide), if_pos hne, po_setNext hx hp hq (f7 p hp)]
    dsimp only [Option.bind]
    rw [po_setNext (N := N) hx hq hp ⟨(f7 q hq).1, (po_si_ne (fun h => hpq h.symm)).trans (f7 q hq).2⟩]
    dsimp only [Option.bind]
    rw [po_reckon (s := wk_si (wk_si σC 4 p (nI (if is = true then N p ||| 2 ^ q else N p &&& (4095 - 2 ^ q)))) 4 q (nI (if is = true then N q ||| 2 ^ p else N q &&& (4095 - 2 ^ p)))) (N := iv_N2 is N p q) (T := T) f1 f3 (fun r hr => ⟨iv_N2_lt hp hq hNlt hr, po_N2_si hpq f7 rfl rfl r hr⟩)]
    rfl
  have eM : f_X12_next (nI p) (nI q) a2 σM = some (true, wk_si (wk_si σM 4 p (nI (if is = true then N p ||| 2 ^ q else N p &&& (4095 - 2 ^ q)))) 4 q (nI (if is = true then N q ||| 2 ^ p else N q &&& (4095 - 2 ^ p)))) := by
    have h2p : 2 ^ p < 2 ^ 12 := Nat.pow_lt_pow_right (by decide) hp
    have h2q : 2 ^ q < 2 ^ 12 := Nat.pow_lt_pow_right (by decide) hq
    have hNp := (f7 p hp).1
    have hNq := (f7 q hq).1
    unfold f_X12_next j_X12_next_37
    rw [m1, m2, if_neg (by decide), if_neg (by decide), if_pos hne, if_pos (po_wkin hp (by decide)), nI_clamp (by omega), nI_clamp (by omega), (f8 p hp).2, po_bit (by omega), po_bit (by omega), po_si_ne (fun h => hpq h.symm), po_si_ne (fun h => hpq h.symm), (f8 q hq).2]
    rcases hx with ⟨rfl, rfl⟩ | ⟨rfl, rfl⟩
    · rw [if_pos rfl, if_pos (po_wkin hp (by decide)), if_pos rfl, if_pos (po_wkin hq (by decide)), if_pos (po_wkin hq (by decide)), po_clr hNp hq, po_clr hNq hp]; rfl
    · rw [if_neg (by decide), if_pos (po_wkin hp (by decide)), if_pos (po_wkin hp (by decide)), if_neg (by decide), if_pos (po_wkin hq (by decide)), if_pos (po_wkin hq (by decide)), po_or (by omega) (by omega), po_or (by omega) (by omega)]; rfl
  refine ⟨b2i true, _, _, (t_X11_next eC).up (by decide), (t_X12_next eM).up (by decide), T, w, iv_N2 is N p q, hT, ⟨f1, f2, f3, f4, f5, f6, ?_, ?_, ?_, ?_⟩, hH, hR, hK, hL⟩
  · exact fun r hr => ⟨iv_N2_lt hp hq hNlt hr, po_N2_si hpq f7 rfl rfl r hr⟩
  · exact fun r hr => ⟨iv_N2_lt hp hq hNlt hr, po_N2_si hpq f8 rfl rfl r hr⟩
  · intro a b ha hb h
    rw [iv_N2_bit hp hq hb hpq] at h
    rw [iv_N2_bit hp hq ha hpq]
    by_cases hab : (a = p ∧ b = q) ∨ (a = q ∧ b = p)
    · rw [if_pos hab] at h
      rw [if_pos (by rcases hab with h | h; exact Or.inr ⟨h.2, h.1⟩; exact Or.inl ⟨h.2, h.1⟩)]
      refine ⟨h, ?_, ?_⟩
      · rcases hab with ⟨rfl, rfl⟩ | ⟨rfl, rfl⟩
        · exact hpq
        · exact fun h => hpq h.symm
      · rcases hab with ⟨rfl, rfl⟩ | ⟨rfl, rfl⟩
        · exact hTp
        · exact hTq
    · rw [if_neg hab] at h
      rw [if_neg (by rintro (h | h); exact hab (Or.inr ⟨h.2, h.1⟩); exact hab (Or.inl ⟨h.2, h.1⟩))]
      exact f9 a b ha hb h
  · intro a b ha hb _
    rw [← iv_st_dk]
    show (if 12 * a + b < 144 then nI (iv_dk (iv_N2 is N p q) (T &&& 2 ^ ((12 * a + b) / 12)) 11 ((12 * a + b) % 12)) else _) = _
    rw [if_pos (by omega), show (12 * a + b) / 12 = a by omega, show (12 * a + b) % 12 = b by omega]
