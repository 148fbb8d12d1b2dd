/-! PURE: what holds between the two worlds -/
def iv_T (n : Int32) (b : Nat → Int32) (m : Int32) (c : Nat → Int32) : Prop := ∃ j : Nat, j ≤ 260 ∧ n = nI j ∧ m = nI j ∧ ∀ i, i < j → b i = c i &&& 255
def iv_F (T w : Nat) (N : Nat → Nat) (c34 c35 : Int32) (c4 c5 : Nat → Int32) (m04 m05 : Int32) (m4 : Nat → Int32) : Prop :=
  T < 4096 ∧ w < 7 ∧ c34 = nI T ∧ c35 = nI w ∧ m04 = nI T ∧ m05 = nI w ∧ (∀ p, p < 12 → N p < 4096 ∧ c4 p = nI (N p)) ∧ (∀ p, p < 12 → N p < 4096 ∧ m4 p = nI (N p)) ∧
  (∀ p q, p < 12 → q < 12 → (N p).testBit q = true → (N q).testBit p = true ∧ p ≠ q ∧ T.testBit p = true) ∧ (∀ p q, p < 12 → q < 12 → T ≠ 0 → c5 (12 * p + q) = nI (iv_st N T p q))
/-- a long's bit, as the class asks for it -/
def iv_lb (x : Int64) (j : Nat) : Bool := decide (¬ wk_lcmp (wk_lushr x (nI j) &&& (1 : Int64)) (0 : Int64) = 0)
def iv_H (c6 : Nat → Int32) (c7 : Nat → Int64) (m22 m21 : Nat → Int32) : Prop := ∀ p, p < 12 → ∃ n : Nat, n ≤ 48 ∧ c6 p = nI n ∧ m22 p = nI n ∧ ∀ j, j < n → iv_lb (c7 p) j = decide (m21 (48 * p + j) = 1)
/-- one knight: b he is told, p place, d wolf days, w what he is, l clothes; in the model t a e u g -/
def iv_k (T : Nat) (b : Bool) (p d w l t e a u g : Int32) : Prop :=
  if b = true then t = 1 ∧ e = d ∧ a = p ∧ u = w ∧ g = l ∧ (∃ P, P < 12 ∧ p = nI P ∧ T.testBit P = true) ∧ (∃ W, W < 128 ∧ d = nI W) ∧ ((w = 0 ∧ l = -2) ∨ ((w = 1 ∨ w = 2) ∧ ∃ Q, Q < 12 ∧ l = nI Q ∧ T.testBit Q = true)) else ¬ t = 1
def iv_R (T : Nat) (c p d w l a : Nat → Int32) : Prop :=
  ∃ K D X : Nat, K < 512 ∧ D ≤ 9999 ∧ X < 65536 ∧ c 4 = nI K ∧ c 5 = nI D ∧ a 45 = nI D ∧ c 6 = nI X ∧ a 46 = nI X ∧
    ∀ k, k < 9 → iv_k T (K.testBit k) (p k) (d k) (w k) (l k) (a k) (a (9 + k)) (a (18 + k)) (a (27 + k)) (a (36 + k))
def iv_K (T : Nat) (z : Int32) (c p d w l : Nat → Int32) (y : Int32) (a : Nat → Int32) : Prop := (z = 0 ∧ y = 0) ∨ (z = 1 ∧ y = 1 ∧ iv_R T c p d w l a)
def iv_sg : Nat → Int32
  | 0 => 48
  | 1 => 97
  | 2 => 43
  | 3 => 45
  | 4 => 42
  | 5 => 47
  | 6 => 37
  | 7 => 60
  | 8 => 62
  | 9 => 61
  | 10 => 33
  | 11 => 38
  | _ => 124
/-- one code of the law: the class's sign and number, the model's code; what lies on the stack before and behind it -/
def iv_ci (sg ar co : Int32) (ty : Nat → List Bool) (i e : Nat) : Prop := ∃ o v : Nat, v < 1048576 ∧ o < 13 ∧ sg = iv_sg o ∧ ar = nI v ∧ co = nI (1048576 * o + v) ∧ (ty i).length ≤ 30 ∧
  ((o = 0 ∧ ty (i + 1) = false :: ty i) ∨ (o = 1 ∧ v < 8 ∧ ty (i + 1) = false :: ty i) ∨ (2 ≤ o ∧ o ≤ 6 ∧ ∃ a b t, ty i = a :: b :: t ∧ ty (i + 1) = false :: t) ∨
   (7 ≤ o ∧ o ≤ 9 ∧ ∃ a b t, ty i = a :: b :: t ∧ ty (i + 1) = true :: t) ∨ (o = 10 ∧ ∃ t, ty i = true :: t ∧ ty (i + 1) = true :: t) ∨
   (11 ≤ o ∧ ∃ t, ty i = true :: t ∧ ty (i + 1) = t ∧ i < v ∧ v ≤ e ∧ ty v = true :: t))
def iv_seg (sg ar co : Nat → Int32) (b : Bool) (f e : Nat) : Prop := ∃ ty : Nat → List Bool, ty f = [] ∧ ty e = [b] ∧ ∀ i, f ≤ i → i < e → iv_ci (sg i) (ar i) (co i) ty i e
def iv_L (n : Int32) (c38 c39 c40 c41 c42 c43 : Nat → Int32) (m : Int32) (m14 m15 m16 m17 m18 : Nat → Int32) : Prop :=
  ∃ R : Nat, R ≤ 16 ∧ n = nI R ∧ m = nI R ∧ ∀ r, r < R → c38 r = m15 r ∧ ∃ f h e : Nat, f ≤ h ∧ h ≤ e ∧ e ≤ 240 ∧ c39 r = nI f ∧ m16 r = nI f ∧ c40 r = nI h ∧ m17 r = nI h ∧ c41 r = nI e ∧ m18 r = nI e ∧
    (¬ c38 r = 115 → iv_seg c42 c43 m14 false f h) ∧ iv_seg c42 c43 m14 true h e
def iv_I (c m : wk_St) : Prop := ∃ (T w : Nat) (N : Nat → Nat), iv_T (c.1 1 1) (c.1 2) (m.1 0 9) (m.1 7) ∧ iv_F T w N (c.1 3 4) (c.1 3 5) (c.1 4) (c.1 5) (m.1 0 4) (m.1 0 5) (m.1 4) ∧
  iv_H (c.1 6) (c.2 7) (m.1 22) (m.1 21) ∧ iv_R T (c.1 8) (c.1 9) (c.1 10) (c.1 11) (c.1 12) (m.1 1) ∧
  iv_K T (c.1 0 13) (c.1 13) (c.1 14) (c.1 15) (c.1 16) (c.1 17) (m.1 0 57) (m.1 3) ∧
  iv_L (c.1 37 7) (c.1 38) (c.1 39) (c.1 40) (c.1 41) (c.1 42) (c.1 43) (m.1 0 18) (m.1 14) (m.1 15) (m.1 16) (m.1 17) (m.1 18)
theorem iv_k_mono {T T2 : Nat} {b : Bool} {p d w l t e a u g : Int32} (hT : ∀ q, T.testBit q = true → T2.testBit q = true) (h : iv_k T b p d w l t e a u g) : iv_k T2 b p d w l t e a u g := by
  unfold iv_k at h ⊢
  cases b with
  | false => exact h
  | true =>
    obtain ⟨h1, h2, h3, h4, h5, ⟨P, hP, hp, hPT⟩, h7, h8⟩ := h
    refine ⟨h1, h2, h3, h4, h5, ⟨P, hP, hp, hT _ hPT⟩, h7, ?_⟩
    rcases h8 with h8 | ⟨h8, Q, hQ, hl, hQT⟩
    · exact Or.inl h8
    · exact Or.inr ⟨h8, Q, hQ, hl, hT _ hQT⟩
theorem iv_R_mono {T T2 : Nat} {c p d w l a : Nat → Int32} (hT : ∀ q, T.testBit q = true → T2.testBit q = true) (h : iv_R T c p d w l a) : iv_R T2 c p d w l a := by
  obtain ⟨K, D, X, h1, h2, h3, h4, h5, h6, h7, h8, h9⟩ := h
  exact ⟨K, D, X, h1, h2, h3, h4, h5, h6, h7, h8, fun k hk => iv_k_mono hT (h9 k hk)⟩
theorem iv_K_mono {T T2 : Nat} {z y : Int32} {c p d w l a : Nat → Int32} (hT : ∀ q, T.testBit q = true → T2.testBit q = true) (h : iv_K T z c p d w l y a) : iv_K T2 z c p d w l y a := by
  rcases h with h | ⟨h1, h2, h3⟩
  · exact Or.inl h
  · exact Or.inr ⟨h1, h2, iv_R_mono hT h3⟩
/-- the same in all that counts -/
def iv_sC (c c2 : wk_St) : Prop := c2.2 7 = c.2 7 ∧ c2.1 0 = c.1 0 ∧ c2.1 1 = c.1 1 ∧ c2.1 2 = c.1 2 ∧ c2.1 3 = c.1 3 ∧ c2.1 4 = c.1 4 ∧ c2.1 5 = c.1 5 ∧ c2.1 6 = c.1 6 ∧ c2.1 8 = c.1 8 ∧ c2.1 9 = c.1 9 ∧ c2.1 10 = c.1 10 ∧ c2.1 11 = c.1 11 ∧ c2.1 12 = c.1 12 ∧ c2.1 13 = c.1 13 ∧ c2.1 14 = c.1 14 ∧ c2.1 15 = c.1 15 ∧ c2.1 16 = c.1 16 ∧ c2.1 17 = c.1 17 ∧ c2.1 37 7 = c.1 37 7 ∧ c2.1 38 = c.1 38 ∧ c2.1 39 = c.1 39 ∧ c2.1 40 = c.1 40 ∧ c2.1 41 = c.1 41 ∧ c2.1 42 = c.1 42 ∧ c2.1 43 = c.1 43
def iv_sM (m m2 : wk_St) : Prop := m2.1 0 4 = m.1 0 4 ∧ m2.1 0 5 = m.1 0 5 ∧ m2.1 0 9 = m.1 0 9 ∧ m2.1 0 18 = m.1 0 18 ∧ m2.1 0 57 = m.1 0 57 ∧ m2.1 1 = m.1 1 ∧ m2.1 3 = m.1 3 ∧ m2.1 4 = m.1 4 ∧ m2.1 7 = m.1 7 ∧ m2.1 14 = m.1 14 ∧ m2.1 15 = m.1 15 ∧ m2.1 16 = m.1 16 ∧ m2.1 17 = m.1 17 ∧ m2.1 18 = m.1 18 ∧ m2.1 21 = m.1 21 ∧ m2.1 22 = m.1 22
theorem iv_sC_r {c : wk_St} : iv_sC c c := ⟨rfl, rfl, rfl, rfl, rfl, rfl, rfl, rfl, rfl, rfl, rfl, rfl, rfl, rfl, rfl, rfl, rfl, rfl, rfl, rfl, rfl, rfl, rfl, rfl, rfl⟩
theorem iv_sM_r {m : wk_St} : iv_sM m m := ⟨rfl, rfl, rfl, rfl, rfl, rfl, rfl, rfl, rfl, rfl, rfl, rfl, rfl, rfl, rfl, rfl⟩
theorem iv_I_s {c m c2 m2 : wk_St} (h : iv_I c m) (hc : iv_sC c c2) (hm : iv_sM m m2) : iv_I c2 m2 := by
  unfold iv_I at h ⊢
  obtain ⟨a1, a2, a3, a4, a5, a6, a7, a8, a9, a10, a11, a12, a13, a14, a15, a16, a17, a18, a19, a20, a21, a22, a23, a24, a25⟩ := hc
  obtain ⟨b1, b2, b3, b4, b5, b6, b7, b8, b9, b10, b11, b12, b13, b14, b15, b16⟩ := hm
  rw [a1, a2, a3, a4, a5, a6, a7, a8, a9, a10, a11, a12, a13, a14, a15, a16, a17, a18, a19, a20, a21, a22, a23, a24, a25, b1, b2, b3, b4, b5, b6, b7, b8, b9, b10, b11, b12, b13, b14, b15, b16]
  exact h
theorem iv_I_0 : iv_I wk_s0C wk_s0M := by
  refine ⟨0, 0, fun _ => 0, ⟨0, by decide, rfl, rfl, fun i hi => by omega⟩, ?_, ?_, ?_, Or.inl ⟨rfl, rfl⟩, ⟨0, by decide, rfl, rfl, fun r hr => by omega⟩⟩
  · refine ⟨by decide, by decide, rfl, rfl, rfl, rfl, fun p hp => ⟨(by decide : 0 < 4096), rfl⟩, fun p hp => ⟨(by decide : 0 < 4096), rfl⟩, ?_, ?_⟩
    · intro p q _ _ h
      rw [Nat.zero_testBit] at h; cases h
    · intro p q _ _ h; exact absurd rfl h
  · intro p hp
    exact ⟨0, by decide, rfl, rfl, fun j hj => by omega⟩
  · refine ⟨0, 0, 1, by decide, by decide, by decide, rfl, rfl, rfl, rfl, rfl, ?_⟩
    intro k hk
    unfold iv_k
    rw [Nat.zero_testBit, if_neg (by decide)]
    show ¬ (wk_s0M.1 1 k) = 1
    have : ∀ k, k < 9 → ¬ (wk_s0M.1 1 k) = 1 := by
      intro k hk
      rcases (show k = 0 ∨ k = 1 ∨ k = 2 ∨ k = 3 ∨ k = 4 ∨ k = 5 ∨ k = 6 ∨ k = 7 ∨ k = 8 by omega) with rfl | rfl | rfl | rfl | rfl | rfl | rfl | rfl | rfl
      all_goals decide
    exact this k hk
