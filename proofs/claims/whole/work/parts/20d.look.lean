/-! PURE: a look at a place -/
/-- the same but for what is written down in between -/
def iv_c (c c2 : wk_St) : Prop := c2.2 = c.2 ∧ (∀ a, a ≠ 24 → a ≠ 44 → a ≠ 37 → c2.1 a = c.1 a) ∧ ∀ b, b ≠ 9 → b ≠ 10 → c2.1 37 b = c.1 37 b
def iv_m (m m2 : wk_St) : Prop := m2.2 = m.2 ∧ ∀ a, a ≠ 5 → a ≠ 6 → a ≠ 19 → a ≠ 20 → m2.1 a = m.1 a
theorem iv_c_r {c : wk_St} : iv_c c c := ⟨rfl, fun _ _ _ _ => rfl, fun _ _ _ => rfl⟩
theorem iv_m_r {m : wk_St} : iv_m m m := ⟨rfl, fun _ _ _ _ _ => rfl⟩
theorem iv_c_t {a b c : wk_St} (h : iv_c a b) (k : iv_c b c) : iv_c a c := ⟨k.1.trans h.1, fun x h1 h2 h3 => (k.2.1 x h1 h2 h3).trans (h.2.1 x h1 h2 h3), fun x h1 h2 => (k.2.2 x h1 h2).trans (h.2.2 x h1 h2)⟩
theorem iv_m_t {a b c : wk_St} (h : iv_m a b) (k : iv_m b c) : iv_m a c := ⟨k.1.trans h.1, fun x h1 h2 h3 h4 => (k.2 x h1 h2 h3 h4).trans (h.2 x h1 h2 h3 h4)⟩
theorem iv_c_24 {c : wk_St} {g : Nat → Int32} : iv_c c (iv_set c 24 g) := ⟨rfl, fun _ h _ _ => funext (fun _ => if_neg h), fun _ _ _ => rfl⟩
theorem iv_c_rs {c : wk_St} {h rf : Int32} {K : Nat → Int32} : iv_c c (iv_rs c h rf K) := ⟨rfl, fun _ _ h2 h3 => iv_rs_off h2 h3, fun b h9 h10 => by
  show (if 37 = 44 then K b else if 37 = 37 then (if b = 9 then h else if b = 10 then rf else c.1 37 b) else c.1 37 b) = c.1 37 b
  rw [if_neg (by decide), if_pos rfl, if_neg h9, if_neg h10]⟩
theorem iv_m_20 {m : wk_St} {g : Nat → Int32} : iv_m m (iv_set m 20 g) := ⟨rfl, fun _ _ _ _ h => funext (fun _ => if_neg h)⟩
theorem iv_m_19 {m : wk_St} {g : Nat → Int32} : iv_m m (iv_set m 19 g) := ⟨rfl, fun _ _ _ h _ => funext (fun _ => if_neg h)⟩
theorem iv_m_56 {m : wk_St} {g h : Nat → Int32} : iv_m m (iv_2 m g h) := ⟨rfl, fun _ h5 h6 _ _ => funext (fun _ => iv_2_off h5 h6)⟩
def iv_E (T w : Nat) (N : Nat → Nat) (k0 : Nat) (c m : wk_St) : Prop := iv_F T w N (c.1 3 4) (c.1 3 5) (c.1 4) (c.1 5) (m.1 0 4) (m.1 0 5) (m.1 4) ∧ iv_H (c.1 6) (c.2 7) (m.1 22) (m.1 21) ∧
  iv_L (c.1 37 7) (c.1 38) (c.1 39) (c.1 40) (c.1 41) (c.1 42) (c.1 43) (m.1 0 18) (m.1 14) (m.1 15) (m.1 16) (m.1 17) (m.1 18) ∧ iv_R T (c.1 k0) (c.1 (k0 + 1)) (c.1 (k0 + 2)) (c.1 (k0 + 3)) (c.1 (k0 + 4)) (m.1 1)
theorem iv_E_c {T w : Nat} {N : Nat → Nat} {k0 : Nat} {c m c2 m2 : wk_St} (hk0 : k0 + 4 < 23) (h : iv_E T w N k0 c m) (hc : iv_c c c2) (hm : iv_m m m2) : iv_E T w N k0 c2 m2 := by
  obtain ⟨a1, a2, a3⟩ := hc
  obtain ⟨b1, b2⟩ := hm
  unfold iv_E at h ⊢
  rw [a1, a2 3 (by decide) (by decide) (by decide), a2 4 (by decide) (by decide) (by decide), a2 5 (by decide) (by decide) (by decide), a2 6 (by decide) (by decide) (by decide), a3 7 (by decide) (by decide), a2 38 (by decide) (by decide) (by decide), a2 39 (by decide) (by decide) (by decide), a2 40 (by decide) (by decide) (by decide), a2 41 (by decide) (by decide) (by decide), a2 42 (by decide) (by decide) (by decide), a2 43 (by decide) (by decide) (by decide), a2 k0 (by omega) (by omega) (by omega), a2 (k0 + 1) (by omega) (by omega) (by omega), a2 (k0 + 2) (by omega) (by omega) (by omega), a2 (k0 + 3) (by omega) (by omega) (by omega), a2 (k0 + 4) (by omega) (by omega) (by omega),
    b2 0 (by decide) (by decide) (by decide) (by decide), b2 1 (by decide) (by decide) (by decide) (by decide), b2 4 (by decide) (by decide) (by decide) (by decide), b2 22 (by decide) (by decide) (by decide) (by decide), b2 21 (by decide) (by decide) (by decide) (by decide), b2 14 (by decide) (by decide) (by decide) (by decide), b2 15 (by decide) (by decide) (by decide) (by decide), b2 16 (by decide) (by decide) (by decide) (by decide), b2 17 (by decide) (by decide) (by decide) (by decide), b2 18 (by decide) (by decide) (by decide) (by decide)]
  exact h
theorem po_others {T k0 K k P : Nat} {c m : wk_St} (hK : K < 512) (hc : c.1 k0 4 = nI K) (hk : ∀ k, k < 9 → iv_k T (K.testBit k) (c.1 (k0 + 1) k) (c.1 (k0 + 2) k) (c.1 (k0 + 3) k) (c.1 (k0 + 4) k) (m.1 1 k) (m.1 1 (9 + k)) (m.1 1 (18 + k)) (m.1 1 (27 + k)) (m.1 1 (36 + k))) (hk9 : k < 9) :
    ∃ r, f_X0_othersAt k0 (nI k) (nI P) c = some r ∧ f_X12_othersAt (nI k) (nI P) m = some r := by
  obtain ⟨a, b, e1, e2, rfl⟩ := po_rel (f := S_X0_othersAt_4 k0 (nI k) (nI P) c) (g := S_X12_othersAt_4 (nI k) (nI P) m)
    (fun i p q => ∃ r : Nat, p = (nI r, nI i) ∧ q = (nI r, nI i)) (fun a b => a = b) 9 (by
      rintro i p q hi ⟨r, rfl, rfl⟩
      have hm := po_livM (k0 := k0) hK hc hi hk
      have hT : f_X11_hasBit (c.1 k0 4) (nI i) = K.testBit i := by rw [hc, po_hasC (by omega) (by omega)]
      unfold S_X0_othersAt_4 S_X12_othersAt_4 wk_let
      dsimp only
      rw [if_neg (po_n9 hi), if_neg (po_n9 hi), hT, hm, nI_1]
      unfold j_X0_othersAt_21_l4 iv_li wk_let
      dsimp only [Option.bind]
      rw [if_pos (show (0 : Int32) = 0 from rfl), if_neg (show ¬ (1 : Int32) = 0 by decide), if_pos (po_wkin hi (by decide)), if_pos (po_wkin hi (by decide)), nI_clamp (by omega), po_add0, nI_1, nI_1]
      cases hb : K.testBit i with
      | false =>
        refine ⟨(nI r, nI (i + 1)), (nI r, nI (i + 1)), if_pos rfl, ?_, r, rfl, rfl⟩
        by_cases hik : nI i = nI k
        · rw [if_pos hik]
        · rw [if_neg hik]; rfl
      | true =>
        rw [if_neg (by decide), Bool.true_and]
        have hki := hk i hi
        rw [hb] at hki
        obtain ⟨t1, t2, t3, t4, t5, t6, t7, t8⟩ := iv_k_t hki
        by_cases h2 : c.1 (k0 + 3) i = 2
        · rw [if_pos h2, decide_eq_true h2]
          refine ⟨(nI r, nI (i + 1)), (nI r, nI (i + 1)), rfl, ?_, r, rfl, rfl⟩
          by_cases hik : nI i = nI k
          · rw [if_pos hik]
          · rw [if_neg hik]; rfl
        · rw [if_neg h2, decide_eq_false h2]
          by_cases hik : nI i = nI k
          · rw [if_pos hik, if_pos hik]
            exact ⟨_, _, rfl, rfl, r, rfl, rfl⟩
          · rw [if_neg hik, if_neg hik, if_neg (show ¬ (!false) = false by decide), po_e18, if_pos (po_wkin (by omega) (by decide)), nI_clamp (by omega), t3]
            by_cases hp : c.1 (k0 + 1) i = nI P
            · rw [if_neg (not_not_intro hp)]
              exact ⟨_, _, rfl, rfl, r + 1, rfl, rfl⟩
            · rw [if_pos hp]
              exact ⟨_, _, rfl, rfl, r, rfl, rfl⟩) (by
      rintro p q ⟨r, rfl, rfl⟩
      unfold S_X0_othersAt_4 S_X12_othersAt_4
      dsimp only
      rw [if_pos (by decide), if_pos (by decide)]
      exact ⟨_, _, rfl, rfl, rfl⟩) (by decide) (p := ((0 : Int32), (0 : Int32))) (q := ((0 : Int32), (0 : Int32))) ⟨0, rfl, rfl⟩
  refine ⟨a, ?_, ?_⟩
  · unfold f_X0_othersAt; rw [e1]; rfl
  · unfold f_X12_othersAt; rw [e2]; rfl
theorem iv_set_0 {s : wk_St} {c j : Nat} {x : Int32} : wk_si s c j x = iv_set s c (fun b => if b = j then x else s.1 c b) := by
  have := iv_set_si (s := s) (c := c) (j := j) (g := s.1 c) (x := x)
  rw [iv_set_id] at this
  exact this
theorem po_look {T w k0 k P : Nat} {N : Nat → Nat} {c m : wk_St} (hk0 : k0 + 4 < 23) (hE : iv_E T w N k0 c m) (hk9 : k < 9) (hb : ∀ K, c.1 k0 4 = nI K → K < 512 → K.testBit k = true) (hP : P < 12) (hTP : T.testBit P = true) :
    ∃ c2 m2, f_X10_look k0 (nI k) (nI P) c = some c2 ∧ f_X12_feels (nI k) (nI P) m = some m2 ∧ iv_c c c2 ∧ iv_m m m2 ∧ ∀ v, v < 8 → c2.1 24 v = m2.1 20 v := by
  have hE0 := hE
  obtain ⟨⟨f1, f2, f3, f4, f5, f6, f7, f8, f9, f10⟩, hH, hL, ⟨K, D, X, h1, h2, h3, h4, h5, h6, h7, h8, h9⟩⟩ := hE
  have hbK := hb K h4 h1
  have hkk := h9 k hk9
  rw [hbK] at hkk
  obtain ⟨t1, t2, t3, t4, t5, t6, t7, t8⟩ := iv_k_t hkk
  -- steps to the clothes
  obtain ⟨S, mS, e1, e2, e3⟩ := po_toCl (k0 := k0) (c := c) (m := iv_set m 20 (fun b => if b = 2 then m.1 1 (18 + k) else if b = 1 then nI P else if b = 0 then nI k else m.1 20 b)) f10 f8 hk9 hP hTP hkk
  have hmS : ∃ g5 g6, mS = iv_set (iv_2 m g5 g6) 20 (fun b => if b = 2 then m.1 1 (18 + k) else if b = 1 then nI P else if b = 0 then nI k else m.1 20 b) := by
    rcases e3 with rfl | ⟨g5, g6, rfl⟩
    · refine ⟨m.1 5, m.1 6, ?_⟩
      unfold iv_2
      rw [iv_set_id]
      have : iv_set m 6 (m.1 6) = m := iv_set_id
      rw [this]
    · refine ⟨g5, g6, ?_⟩
      unfold iv_2 iv_set
      refine Prod.ext ?_ rfl
      funext a b
      by_cases h20 : a = 20
      · subst h20; rfl
      · simp [h20]
  obtain ⟨g5, g6, hmS⟩ := hmS
  obtain ⟨O, o1, o2⟩ := po_others (k0 := k0) (c := c) (m := m) (P := P) h1 h4 h9 hk9
  have hu := po_huC (c := c) (p := P) (d := D) hH hP (by omega)
  obtain ⟨G, hG⟩ : ∃ G : Nat → Int32, G = fun b => if b = 7 then wk_rem (nI D) 100 else if b = 6 then nI ((D + w) % 7) else if b = 5 then O else if b = 4 then (if iv_hu (m.1 22) (m.1 21) P D = true then 1 else 0) else if b = 3 then S else if b = 2 then c.1 (k0 + 1) k else if b = 1 then nI P else if b = 0 then nI k else c.1 24 b := ⟨_, rfl⟩
  obtain ⟨G2, hG2⟩ : ∃ G : Nat → Int32, G = fun b => if b = 7 then wk_rem (nI D) 100 else if b = 6 then nI ((D + w) % 7) else if b = 5 then O else if b = 4 then (if iv_hu (m.1 22) (m.1 21) P D = true then 1 else 0) else if b = 3 then S else if b = 2 then m.1 1 (18 + k) else if b = 1 then nI P else if b = 0 then nI k else m.1 20 b := ⟨_, rfl⟩
  have eC : f_X10_look k0 (nI k) (nI P) c = some (iv_set c 24 G) := by
    unfold f_X10_look
    rw [@iv_set_0 c 24 0 (nI k), iv_set_si]
    have a1 : ∀ g, f_X0_placeOf k0 (nI k) (iv_set c 24 g) = some (c.1 (k0 + 1) k) := fun g => by
      rw [po_placeOf hk9, iv_set_off (by omega)]
    have a2 : ∀ g, f_X0_clothesOf k0 (nI k) (iv_set c 24 g) = some (c.1 (k0 + 4) k) := fun g => by
      rw [po_clothesOf hk9, iv_set_off (by omega)]
    have a3 : ∀ g, f_X2_stepsBetween (nI P) (c.1 (k0 + 4) k) (iv_set c 24 g) = some S := fun g => e1
    have a4 : ∀ g, f_X2_isHunted (nI P) (nI D) (iv_set c 24 g) = some (iv_hu (m.1 22) (m.1 21) P D) := fun g => hu
    have a5 : ∀ g, f_X0_othersAt k0 (nI k) (nI P) (iv_set c 24 g) = some O := fun g => by
      rw [← o1]
      have hE : ∀ a, a < 23 → (iv_set c 24 g).1 a = c.1 a := fun a ha => funext (fun b => iv_set_off (by omega))
      have hS : S_X0_othersAt_4 k0 (nI k) (nI P) (iv_set c 24 g) = S_X0_othersAt_4 k0 (nI k) (nI P) c := by
        funext p
        unfold S_X0_othersAt_4 j_X0_othersAt_21_l4
        rw [hE k0 (by omega), hE (k0 + 1) (by omega), hE (k0 + 3) (by omega)]
      unfold f_X0_othersAt
      rw [hS]
    have a6 : ∀ g, f_X2_weekdayOf (nI D) (iv_set c 24 g) = some (nI ((D + w) % 7)) := fun g => po_wdC (c := iv_set c 24 g) f4 (by omega)
    have a7 : ∀ g, (iv_set c 24 g).1 k0 5 = nI D := fun g => (iv_set_off (by omega)).trans h5
    rw [a1]
    dsimp only [Option.bind]
    rw [iv_set_si, a2]
    dsimp only
    rw [a3]
    dsimp only
    rw [iv_set_si, a7, a4]
    dsimp only
    have j39 : ∀ (g : Nat → Int32) (z : Int32), j_X10_look_39 k0 (nI k) (nI P) z 4 (iv_set c 24 g) = some (iv_set c 24 (fun b => if b = 7 then wk_rem (nI D) 100 else if b = 6 then nI ((D + w) % 7) else if b = 5 then O else if b = 4 then z else g b)) := by
      intro g z
      have e4 : (4 : Int32).toNatClampNeg = 4 := by decide
      unfold j_X10_look_39
      rw [if_pos (by decide), e4, iv_set_si, a5]
      dsimp only [Option.bind]
      rw [iv_set_si, a7, a6]
      dsimp only
      rw [iv_set_si, a7, iv_set_si]
    rw [j39, j39, hG]
    cases iv_hu (m.1 22) (m.1 21) P D with
    | false => rw [if_pos rfl, if_neg Bool.false_ne_true]
    | true => rw [if_neg (by decide), if_pos rfl]
  have eM : f_X12_feels (nI k) (nI P) m = some (iv_set (iv_2 m g5 g6) 20 G2) := by
    unfold f_X12_feels
    have b0 : (iv_set m 20 (fun b => if b = 1 then nI P else if b = 0 then nI k else m.1 20 b)).1 1 (18 + k) = m.1 1 (18 + k) := iv_set_off (by decide)
    rw [po_e18, if_pos (po_wkin (by omega) (by decide)), nI_clamp (by omega), @iv_set_0 m 20 0 (nI k), iv_set_si, b0, iv_set_si, e2]
    dsimp only [Option.bind]
    have b1 : ∀ g, f_X12_isHunted (nI P) 0 (iv_set (iv_2 m g5 g6) 20 g) = some (iv_hu (m.1 22) (m.1 21) P D) := fun g => po_huM (m := iv_set (iv_2 m g5 g6) 20 g) (i := 0) (D := D) hH h6 hP (by omega)
    have b2 : ∀ g, f_X12_othersAt (nI k) (nI P) (iv_set (iv_2 m g5 g6) 20 g) = some O := fun g => o2
    have b3 : ∀ g, f_X12_weekdayIn 0 (iv_set (iv_2 m g5 g6) 20 g) = nI ((D + w) % 7) := fun g => po_wdM (m := iv_set (iv_2 m g5 g6) 20 g) (i := 0) f6 h6 (by omega)
    have b4 : ∀ g, (iv_set (iv_2 m g5 g6) 20 g).1 1 45 = nI D := fun g => h6
    rw [hmS, iv_set_si, b1]
    dsimp only
    have j39 : ∀ (g : Nat → Int32) (z : Int32), j_X12_feels_39 (nI k) (nI P) z 4 (iv_set (iv_2 m g5 g6) 20 g) = some (iv_set (iv_2 m g5 g6) 20 (fun b => if b = 7 then wk_rem (nI D) 100 else if b = 6 then nI ((D + w) % 7) else if b = 5 then O else if b = 4 then z else g b)) := by
      intro g z
      have e4 : (4 : Int32).toNatClampNeg = 4 := by decide
      unfold j_X12_feels_39
      rw [if_pos (by decide), e4, iv_set_si, b2]
      dsimp only [Option.bind]
      rw [iv_set_si, b3, iv_set_si, b4, iv_set_si]
    rw [j39, j39, hG2]
    cases iv_hu (m.1 22) (m.1 21) P D with
    | false => rw [if_pos rfl, if_neg Bool.false_ne_true]
    | true => rw [if_neg (by decide), if_pos rfl]
  refine ⟨_, _, eC, eM, iv_c_24, iv_m_t iv_m_56 iv_m_20, fun v hv => ?_⟩
  rw [iv_set_at, iv_set_at, hG, hG2, t3]
  rcases (show v = 0 ∨ v = 1 ∨ v = 2 ∨ v = 3 ∨ v = 4 ∨ v = 5 ∨ v = 6 ∨ v = 7 by omega) with rfl | rfl | rfl | rfl | rfl | rfl | rfl | rfl
  all_goals rfl
