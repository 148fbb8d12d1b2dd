def f_isWithin (x a b : Int32) : Bool := if x < a then false else if x > b then false else true
theorem wk_b2i (b : Bool) : (if b = true then (1 : Int32) else 0) = 0 ∨ (if b = true then (1 : Int32) else 0) = 1 := by cases b <;> simp
abbrev b2i (b : Bool) : Int32 := if b = true then 1 else 0
theorem wk_lt {x y : Int32} : wk_c .lt x y = true ↔ x < y := by simp [wk_c]
theorem wk_gt {x y : Int32} : wk_c .gt x y = true ↔ x > y := by simp [wk_c]
