/-! PURE: a cell's new contents -/
def iv_set (s : wk_St) (c : Nat) (g : Nat → Int32) : wk_St := (fun a b => if a = c then g b else s.1 a b, s.2)
theorem iv_set_si {s : wk_St} {c j : Nat} {g : Nat → Int32} {x : Int32} : wk_si (iv_set s c g) c j x = iv_set s c (fun b => if b = j then x else g b) := by
  unfold wk_si iv_set
  refine Prod.ext ?_ rfl
  funext a b
  by_cases ha : a = c
  · by_cases hb : b = j <;> simp [ha, hb]
  · simp [ha]
theorem iv_set_id {s : wk_St} {c : Nat} : iv_set s c (s.1 c) = s := by
  unfold iv_set
  refine Prod.ext ?_ rfl
  funext a b
  by_cases ha : a = c <;> simp [ha]
theorem iv_set_set {s : wk_St} {c : Nat} {g h : Nat → Int32} : iv_set (iv_set s c g) c h = iv_set s c h := by
  unfold iv_set
  refine Prod.ext ?_ rfl
  funext a b
  by_cases ha : a = c <;> simp [ha]
theorem iv_set_at {s : wk_St} {c b : Nat} {g : Nat → Int32} : (iv_set s c g).1 c b = g b := if_pos rfl
theorem iv_set_off {s : wk_St} {c a b : Nat} {g : Nat → Int32} (h : a ≠ c) : (iv_set s c g).1 a b = s.1 a b := if_neg h
theorem po_wkin {j n : Nat} (h : j < n) (hn : n < 2 ^ 31) : wk_in (nI j) n = true := by
  unfold wk_in
  rw [nI_toInt (by omega)]
  simp
  omega
