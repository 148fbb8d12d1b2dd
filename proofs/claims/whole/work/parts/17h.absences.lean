/-! PURE: absences -/
theorem po_relE {A B P Q : Type} {f : P → Option (A ⊕ P)} {g : Q → Option (B ⊕ Q)} {F G : Nat} (I : Nat → P → Q → Prop) (Z : A → B → Prop) (n : Nat) (hs : ∀ j p q, j < n → I j p q → (∃ p2 q2, f p = some (Sum.inr p2) ∧ g q = some (Sum.inr q2) ∧ I (j + 1) p2 q2) ∨ (∃ a b, f p = some (Sum.inl a) ∧ g q = some (Sum.inl b) ∧ Z a b)) (he : ∀ p q, I n p q → ∃ a b, f p = some (Sum.inl a) ∧ g q = some (Sum.inl b) ∧ Z a b) (hn : n < F) (hn2 : n < G) {p : P} {q : Q} (h0 : I 0 p q) : ∃ a b, wk_loop f F p = some a ∧ wk_loop g G q = some b ∧ Z a b := by
  have key : ∀ d i F G p q, I i p q → i + d = n → d < F → d < G → ∃ a b, wk_loop f F p = some a ∧ wk_loop g G q = some b ∧ Z a b := by
    intro d
    induction d with
    | zero =>
      intro i F G p q hp hi hF hG
      obtain ⟨F, rfl⟩ : ∃ f, F = f + 1 := ⟨F - 1, by omega⟩
      obtain ⟨G, rfl⟩ : ∃ f, G = f + 1 := ⟨G - 1, by omega⟩
      have e : i = n := by omega
      subst e
      obtain ⟨a, b, h1, h2, h3⟩ := he p q hp
      exact ⟨a, b, wk_loopI h1, wk_loopI h2, h3⟩
    | succ d ih =>
      intro i F G p q hp hi hF hG
      obtain ⟨F, rfl⟩ : ∃ f, F = f + 1 := ⟨F - 1, by omega⟩
      obtain ⟨G, rfl⟩ : ∃ f, G = f + 1 := ⟨G - 1, by omega⟩
      rcases hs i p q (by omega) hp with ⟨p2, q2, h1, h2, h3⟩ | ⟨a, b, h1, h2, h3⟩
      · obtain ⟨a, b, k1, k2, k3⟩ := ih (i + 1) F G p2 q2 h3 (by omega) (by omega) (by omega)
        exact ⟨a, b, (wk_loopS h1).trans k1, (wk_loopS h2).trans k2, k3⟩
      · exact ⟨a, b, wk_loopI h1, wk_loopI h2, h3⟩
  exact key n 0 F G p q h0 (by omega) hn hn2
theorem po_fmST : (List.range 60).all (fun a => (List.range 60).all (fun b => decide (f_J9_floorMod_7cf53 (nI a - nI b) 7 = some (nI ((a + 336 - b) % 7))))) = true := by decide +kernel
theorem po_fmS {a b : Nat} (ha : a < 2 ^ 30) (hb : b < 60) : f_J9_floorMod_7cf53 (nI a - nI b) 7 = some (nI ((a + 336 - b) % 7)) := by
  by_cases hab : b ≤ a
  · rw [pk_sub hab]
    have h7 : (nI (a - b) ^^^ 7) ≥ 0 := by
      have e1 : nI (a - b) ^^^ 7 = nI ((a - b) ^^^ 7) := po_xor (b := 7) (by omega) (by decide)
      rw [e1]
      exact nI_pos' (Nat.xor_lt_two_pow (n := 31) (by omega) (by decide))
    have e2 : wk_rem (nI (a - b)) 7 = nI ((a - b) % 7) := po_rem (d := 7) (by omega) (by decide) (by decide)
    unfold f_J9_floorMod_7cf53
    rw [if_neg (by decide), if_pos h7, e2, show (a + 336 - b) % 7 = (a - b) % 7 by omega]
  · exact of_decide_eq_true (List.all_eq_true.mp (List.all_eq_true.mp po_fmST a (List.mem_range.mpr (by omega))) b (List.mem_range.mpr hb))
theorem po_sac {x y z : Int32} : x - y + z = x + z - y := by
  rw [Int32.sub_eq_add_neg, Int32.sub_eq_add_neg, Int32.add_assoc, Int32.add_comm (-y), ← Int32.add_assoc]
theorem po_wdS {c : wk_St} {w D i : Nat} (hw : c.1 3 5 = nI w) (hw7 : w < 7) (hD : D ≤ 9999) (hi : i < 60) : f_X2_weekdayOf (nI D - nI i) c = some (nI ((D + w + 336 - i) % 7)) := by
  unfold f_X2_weekdayOf
  rw [hw, po_sac, nI_add, po_fmS (by omega) hi]
  rfl
/-- the model's fields while it reads absences -/
def iv_ab (m : wk_St) (n : Nat) (g : Nat → Int32) : Prop := g 11 = nI n ∧ ∀ b, b ≠ 10 → b ≠ 11 → b ≠ 12 → b ≠ 54 → b ≠ 55 → g b = m.1 0 b
theorem po_abL {c m : wk_St} {j n D w : Nat} {x2 : Int32} (hj : c.1 1 1 = nI j) (hj2 : j ≤ 260) (hn : n ≤ j) (hn60 : n ≤ 60) (hb : ∀ i, i < j → c.1 2 i = m.1 7 i &&& 255) (hw7 : w < 7) (hw : c.1 3 5 = nI w) (hw2 : m.1 0 5 = nI w) (hD9 : D ≤ 9999) (hD : c.1 8 5 = nI D) (hD2 : m.1 1 45 = nI D) :
    ∃ a b, wk_loop (S_X11_absences_20 (nI n) x2) wk_F ((0 : Int32), (0 : Int32), (0 : Int32), c) = some a ∧ f_X12_readsAbsences (nI n) m = some b ∧
      ((∃ r g, a = Sum.inl (r, wk_si c 1 1 0) ∧ b = (false, iv_set m 0 g) ∧ g 12 = r ∧ iv_ab m n g) ∨ (∃ P A g, a = Sum.inr (P, A, c) ∧ b = (true, iv_set m 0 g) ∧ g 54 = P ∧ g 55 = A ∧ iv_ab m n g)) := by
  obtain ⟨a, b, e1, e2, h⟩ := po_relE (F := wk_F) (G := wk_F) (f := S_X11_absences_20 (nI n) x2) (g := S_X12_readsAbsences_12 (nI n))
    (fun i p q => ∃ P A g, p = (P, A, nI i, c) ∧ q = iv_set m 0 g ∧ g 10 = nI i ∧ g 54 = P ∧ g 55 = A ∧ iv_ab m n g)
    (fun a b => (∃ r g, a = Sum.inl (r, wk_si c 1 1 0) ∧ b = Sum.inl (false, iv_set m 0 g) ∧ g 12 = r ∧ iv_ab m n g) ∨ (∃ P A g, a = Sum.inr (P, A, c) ∧ b = Sum.inr (iv_set m 0 g) ∧ g 54 = P ∧ g 55 = A ∧ iv_ab m n g)) n (by
      rintro i p q hi ⟨P, A, g, rfl, rfl, h10, rfl, rfl, h11, hg⟩
      have hlt := iv_o_lt (h := m.1 7) (i := i)
      have hby : f_X8_byteAt (nI i) c = some (nI (iv_o (m.1 7) i)) := by rw [po_byteAt hj hj2 (by omega) rfl, hb i (by omega), iv_o_e]
      have hhe : f_X12_here (iv_set m 0 g) = some (nI (iv_o (m.1 7) i)) := by
        unfold f_X12_here
        rw [iv_set_at, iv_set_at, h10, h11, if_neg (nI_ge hi (by omega)), if_pos (po_wkin (by omega) (by decide)), nI_clamp (by omega), iv_set_off (by decide), iv_o_e]
      have hwd : f_X2_weekdayOf (nI D - nI i) c = some (nI ((D + w + 336 - i) % 7)) := po_wdS hw hw7 hD9 (by omega)
      have hwm : wk_rem ((f_X12_weekdayIn 0 (iv_set m 0 g) + 336) - (iv_set m 0 g).1 0 10) 7 = nI ((D + w + 336 - i) % 7) := by
        have e0 : f_X12_weekdayIn 0 (iv_set m 0 g) = nI ((D + 0 + w) % 7) := po_wdM (m := iv_set m 0 g) (i := 0) (by rw [iv_set_at, hg 5 (by decide) (by decide) (by decide) (by decide) (by decide), hw2]) ((iv_set_off (by decide)).trans hD2) (by omega)
        have e1 : nI ((D + 0 + w) % 7) + 336 = nI ((D + 0 + w) % 7 + 336) := nI_add _ 336
        have e2 : wk_rem (nI ((D + 0 + w) % 7 + 336 - i)) 7 = nI (((D + 0 + w) % 7 + 336 - i) % 7) := po_rem (d := 7) (by omega) (by decide) (by decide)
        rw [e0, e1, iv_set_at, h10, pk_sub (by omega), e2]
        refine congrArg nI ?_
        omega
      unfold S_X11_absences_20 S_X12_readsAbsences_12 wk_let
      dsimp only
      rw [if_neg (nI_ge hi (by omega)), iv_set_at, h10, if_neg (nI_ge hi (by omega)), hby, hhe, hD, hwd]
      dsimp only [Option.bind]
      generalize nI (iv_o (m.1 7) i) = v
      have key34 : ∀ v : Int32, j_X12_readsAbsences_34_l12 (nI n) v (iv_set m 0 g) = some (Sum.inr (iv_set m 0 (fun b => if b = 10 then nI (i + 1) else if b = 54 then (if v = 112 then g 54 ||| 1 <<< (nI ((D + w + 336 - i) % 7) &&& 31) else g 54) else if b = 55 then (if v = 97 then g 55 ||| 1 <<< (nI ((D + w + 336 - i) % 7) &&& 31) else g 55) else g b))) := by
        intro v
        unfold j_X12_readsAbsences_34_l12 wk_let
        rw [hwm]
        unfold j_X12_readsAbsences_56_l12
        dsimp only
        by_cases h112 : v = 112
        · have h97 : ¬ v = 97 := by rw [h112]; decide
          rw [if_neg (not_not_intro h112), if_pos h97, iv_set_si, iv_set_at, iv_set_at, if_neg (by decide), h10, nI_1, iv_set_si]
          refine congrArg (fun x => some (Sum.inr (iv_set m 0 x))) ?_
          funext b
          rw [if_pos h112, if_neg h97]
          by_cases b10 : b = 10
          · rw [if_pos b10, if_pos b10]
          · rw [if_neg b10, if_neg b10]
            by_cases b55 : b = 55
            · subst b55; rfl
            · by_cases b54 : b = 54
              · rw [if_pos b54, if_pos b54]
              · rw [if_neg b54, if_neg b54, if_neg b55]
        · rw [if_pos h112]
          by_cases h97 : v = 97
          · rw [if_neg (not_not_intro h97), iv_set_si, iv_set_at, iv_set_at, if_neg (by decide), h10, nI_1, iv_set_si]
            refine congrArg (fun x => some (Sum.inr (iv_set m 0 x))) ?_
            funext b
            rw [if_neg h112, if_pos h97]
            by_cases b10 : b = 10
            · rw [if_pos b10, if_pos b10]
            · rw [if_neg b10, if_neg b10]
              by_cases b54 : b = 54
              · subst b54; rfl
              · rw [if_neg b54]
          · rw [if_pos h97, iv_set_at, h10, nI_1, iv_set_si]
            refine congrArg (fun x => some (Sum.inr (iv_set m 0 x))) ?_
            funext b
            rw [if_neg h112, if_neg h97]
            by_cases b10 : b = 10
            · rw [if_pos b10, if_pos b10]
            · rw [if_neg b10, if_neg b10]
              by_cases b54 : b = 54
              · subst b54; rfl
              · by_cases b55 : b = 55
                · subst b55; rfl
                · rw [if_neg b54, if_neg b55]
      have keep : ∀ v : Int32, iv_ab m n (fun b => if b = 10 then nI (i + 1) else if b = 54 then (if v = 112 then g 54 ||| 1 <<< (nI ((D + w + 336 - i) % 7) &&& 31) else g 54) else if b = 55 then (if v = 97 then g 55 ||| 1 <<< (nI ((D + w + 336 - i) % 7) &&& 31) else g 55) else g b) := by
        intro v
        refine ⟨h11, fun b b1 b2 b3 b4 b5 => ?_⟩
        dsimp only
        rw [if_neg b1, if_neg b4, if_neg b5]
        exact hg b b1 b2 b3 b4 b5
      by_cases h112 : v = 112
      · left
        rw [if_neg (not_not_intro h112), if_pos h112, key34, nI_1]
        refine ⟨_, _, rfl, rfl, _, _, _, rfl, rfl, rfl, ?_, ?_, keep v⟩
        · exact if_pos h112
        · exact if_neg (show ¬ v = 97 by rw [h112]; decide)
      · rw [if_pos h112, if_neg h112]
        by_cases h97 : v = 97
        · left
          rw [if_neg (not_not_intro h97), if_pos h97, key34, nI_1]
          refine ⟨_, _, rfl, rfl, _, _, _, rfl, rfl, rfl, ?_, ?_, keep v⟩
          · exact if_neg h112
          · exact if_pos h97
        · rw [if_pos h97, if_neg h97]
          by_cases h63 : v = 63
          · left
            rw [if_pos h63, if_pos h63, key34, nI_1]
            refine ⟨_, _, rfl, rfl, _, _, _, rfl, rfl, rfl, ?_, ?_, keep v⟩
            · exact if_neg h112
            · exact if_neg h97
          · right
            rw [if_neg h63, if_neg h63]
            refine ⟨_, _, rfl, rfl, Or.inl ⟨_, fun b => if b = 12 then f_X11_faultOf 1 (nI i) else g b, rfl, ?_, rfl, h11, fun b b1 b2 b3 b4 b5 => ?_⟩⟩
            · unfold f_X12_wrongAt
              rw [iv_set_si]
              rfl
            · dsimp only
              rw [if_neg b3]
              exact hg b b1 b2 b3 b4 b5) (by
      rintro p q ⟨P, A, g, rfl, rfl, h10, h54, h55, h11, hg⟩
      unfold S_X11_absences_20 S_X12_readsAbsences_12
      dsimp only
      rw [if_pos (nI_le (Nat.le_refl n) (by omega)), iv_set_at, h10, if_pos (nI_le (Nat.le_refl n) (by omega))]
      exact ⟨_, _, rfl, rfl, Or.inr ⟨P, A, g, rfl, rfl, h54, h55, h11, hg⟩⟩) (show n < 4096 by omega) (show n < 4096 by omega)
    (p := ((0 : Int32), (0 : Int32), (0 : Int32), c)) (q := wk_si (wk_si (wk_si (wk_si m 0 10 0) 0 11 (nI n)) 0 54 0) 0 55 0)
    ⟨0, 0, fun b => if b = 55 then 0 else if b = 54 then 0 else if b = 11 then nI n else if b = 10 then 0 else m.1 0 b, rfl, by
      have h0 : wk_si m 0 10 0 = iv_set m 0 (fun b => if b = 10 then 0 else m.1 0 b) := by
        have := iv_set_si (s := m) (c := 0) (j := 10) (g := m.1 0) (x := 0)
        rw [iv_set_id] at this
        exact this
      rw [h0, iv_set_si, iv_set_si, iv_set_si], rfl, rfl, rfl, rfl, fun b b1 b2 b3 b4 b5 => by
      dsimp only
      rw [if_neg b5, if_neg b4, if_neg b2, if_neg b1]⟩
  rcases h with ⟨r, g, h1, h2, h3⟩ | ⟨P, A, g, h1, h2, h3⟩
  · refine ⟨a, (false, iv_set m 0 g), e1, ?_, Or.inl ⟨r, g, h1, rfl, h3⟩⟩
    unfold f_X12_readsAbsences
    rw [e2, h2]; rfl
  · refine ⟨a, (true, iv_set m 0 g), e1, ?_, Or.inr ⟨P, A, g, h1, rfl, h3⟩⟩
    unfold f_X12_readsAbsences
    rw [e2, h2]; rfl
theorem po_meant {T K : Nat} {c m : wk_St} {P A : Int32} {z : Int32} (hK : K < 512) (hc : c.1 8 4 = nI K) (hk : ∀ k, k < 9 → iv_k T (K.testBit k) (c.1 9 k) (c.1 10 k) (c.1 11 k) (c.1 12 k) (m.1 1 k) (m.1 1 (9 + k)) (m.1 1 (18 + k)) (m.1 1 (27 + k)) (m.1 1 (36 + k))) (hP : m.1 0 54 = P) (hA : m.1 0 55 = A) (hz : z = 0 ∨ z = 1) :
    ∃ r, f_X11_knightsMeant P (if z = 0 then 0 else A) c = some r ∧ wk_loop (S_X12_absences_75 z) wk_F ((0 : Int32), (0 : Int32), m) = some (r, m) := by
  obtain ⟨a, b, e1, e2, r, rfl, rfl⟩ := po_rel (f := S_X11_knightsMeant_4 P (if z = 0 then 0 else A) c) (g := S_X12_absences_75 z)
    (fun i p q => ∃ r, p = (r, nI i) ∧ q = (r, nI i, m)) (fun a b => ∃ r, a = r ∧ b = (r, m)) 9 (by
      rintro i p q hi ⟨r, rfl, rfl⟩
      unfold S_X11_knightsMeant_4 S_X12_absences_75 wk_let
      dsimp only
      rw [if_neg (po_n9 hi), if_neg (po_n9 hi), po_wolfDaysOf hi]
      dsimp only [Option.bind]
      unfold j_X11_knightsMeant_25_l4 wk_let
      rcases po_kn (x := nI i) hK hc hk with ⟨c1, m1⟩ | ⟨c1, m1, k2, hk2, e2, hb2⟩
      · rw [c1, m1]
        refine ⟨(r, nI (i + 1)), (r, nI (i + 1), m), ?_, ?_, r, rfl, rfl⟩
        · simp only [eq_self, if_true, ite_self, nI_1]
        · dsimp only
          rw [if_pos rfl, nI_1]
      · have e3 : k2 = i := ((nI_eq (by omega) (by omega)).mp e2).symm
        subst e3
        have hkk := hk k2 hk2
        rw [hb2] at hkk
        have td := (iv_k_t hkk).2.1
        rw [c1, m1]
        dsimp only
        rw [if_neg (show ¬ true = false by decide), if_neg (show ¬ true = false by decide), po_e9, if_pos (po_wkin (by omega) (by decide)), nI_clamp (by omega), td, hP, hA, nI_1, if_neg (show ¬ (1 : Int32) = 0 by decide), if_pos (show (0 : Int32) = 0 from rfl)]
        by_cases hp : c.1 (8 + 2) k2 &&& P = 0
        · have hp2 : c.1 10 k2 &&& P = 0 := hp
          rw [if_neg (not_not_intro hp), if_pos hp2]
          rcases hz with rfl | rfl
          · rw [if_pos rfl, if_pos rfl]
            have h0 : ∀ y : Int32, (0 : Int32) &&& y = 0 := fun y => Int32.toBitVec_inj.mp (by rw [Int32.toBitVec_and]; exact BitVec.zero_and)
            rw [if_neg (not_not_intro (h0 _))]
            exact ⟨_, _, rfl, rfl, _, rfl, rfl⟩
          · rw [if_neg (show ¬ (1 : Int32) = 0 by decide), if_neg (show ¬ (1 : Int32) = 0 by decide)]
            by_cases ha : A &&& (c.1 (8 + 2) k2 ^^^ -1) = 0
            · have ha2 : A &&& (c.1 10 k2 ^^^ -1) = 0 := ha
              rw [if_neg (not_not_intro ha), if_neg (not_not_intro ha2), if_neg (show ¬ true = false by decide), if_pos (po_wkin (by omega) (by decide))]
              exact ⟨_, _, rfl, rfl, _, rfl, rfl⟩
            · have ha2 : ¬ A &&& (c.1 10 k2 ^^^ -1) = 0 := ha
              rw [if_pos ha, if_pos ha2, if_neg (show ¬ true = false by decide), if_pos (po_wkin (by omega) (by decide))]
              exact ⟨_, _, rfl, rfl, _, rfl, rfl⟩
        · have hp2 : ¬ c.1 10 k2 &&& P = 0 := hp
          rw [if_pos hp, if_neg hp2]
          exact ⟨_, _, rfl, rfl, _, rfl, rfl⟩) (by
      rintro p q ⟨r, rfl, rfl⟩
      unfold S_X11_knightsMeant_4 S_X12_absences_75
      dsimp only
      rw [if_pos (by decide), if_pos (by decide)]
      exact ⟨_, _, rfl, rfl, r, rfl, rfl⟩) (by decide) (p := ((0 : Int32), (0 : Int32))) (q := ((0 : Int32), (0 : Int32), m)) ⟨0, rfl, rfl⟩
  refine ⟨a, ?_, e2⟩
  unfold f_X11_knightsMeant
  rw [e1]
  rfl
theorem po_wdMeant {m : wk_St} {P : Int32} (hP : m.1 0 54 = P) : ∃ r, f_X11_weekdaysMeant P = some r ∧ wk_loop S_X12_absences_35 wk_F ((0 : Int32), (0 : Int32), m) = some (r, m) := by
  obtain ⟨a, b, e1, e2, r, rfl, rfl⟩ := po_rel (f := S_X11_weekdaysMeant_4 P) (g := S_X12_absences_35)
    (fun i p q => ∃ r, p = (r, nI i) ∧ q = (r, nI i, m)) (fun a b => ∃ r, a = r ∧ b = (r, m)) 7 (by
      rintro i p q hi ⟨r, rfl, rfl⟩
      unfold S_X11_weekdaysMeant_4 S_X12_absences_35 wk_let
      dsimp only
      rw [if_neg (po_n7 hi), if_neg (po_n7 hi), hP]
      generalize 1 <<< (nI i &&& 31) ||| 1 <<< (wk_rem (nI i + 1) 7 &&& 31) ||| 1 <<< (wk_rem (nI i + 2) 7 &&& 31) = V
      rw [nI_1]
      by_cases hv : V &&& P = 0
      · rw [if_neg (not_not_intro hv), if_neg (not_not_intro hv)]
        exact ⟨_, _, rfl, rfl, _, rfl, rfl⟩
      · rw [if_pos hv, if_pos hv]
        exact ⟨_, _, rfl, rfl, _, rfl, rfl⟩) (by
      rintro p q ⟨r, rfl, rfl⟩
      unfold S_X11_weekdaysMeant_4 S_X12_absences_35
      dsimp only
      rw [if_pos (by decide), if_pos (by decide)]
      exact ⟨_, _, rfl, rfl, r, rfl, rfl⟩) (by decide) (p := ((0 : Int32), (0 : Int32))) (q := ((0 : Int32), (0 : Int32), m)) ⟨0, rfl, rfl⟩
  refine ⟨a, ?_, e2⟩
  unfold f_X11_weekdaysMeant
  rw [e1]
  rfl
theorem po_op_22 : lw_op_22 iv_I := by
  intro a0 a1 σC σM hI
  have hI2 := hI
  obtain ⟨T, w, N, ⟨j, j1, j2, j3, j4⟩, hF, hH, ⟨K, D, X, h1, h2, h3, h4, h5, h6, h7, h8, h9⟩, hK, hL⟩ := hI
  obtain ⟨f1, f2, f3, f4, f5, f6, f7, f8, f9, f10⟩ := hF
  have go : ∀ r c2 m2, f_X11_absences a0 a1 σC = some (r, c2) → f_X12_absences a0 a1 σM = some (r, m2) → iv_I c2 m2 → ∃ (r : Int32) (σC2 σM2 : wk_St), wk_T wk_shC 200 23 [.ref 0, .int a0, .int a1] σC (some (.int r), σC2) ∧ wk_T wk_shM 200 126 [.ref 0, .int a0, .int a1] σM (some (.int r), σM2) ∧ iv_I σC2 σM2 := fun r c2 m2 e1 e2 e3 => ⟨r, c2, m2, (t_X11_absences e1).up (by decide), (t_X12_absences e2).up (by decide), e3⟩
  unfold f_X11_absences f_X12_absences wk_let at go
  rw [po_W, po_has j2, j3] at go
  cases hin : f_X12_in a0 1 60 with
  | false =>
    rw [hin] at go
    exact go (-1) _ _ rfl rfl hI2
  | true =>
    obtain ⟨n, n1, n2, rfl⟩ := po_inA (a := 1) (b := 60) rfl rfl hin
    rw [hin, Bool.true_and] at go
    cases hin2 : f_X12_in a1 0 2 with
    | false =>
      rw [hin2] at go
      refine go (-1) _ _ ?_ rfl hI2
      cases decide (nI n ≤ nI j) <;> rfl
    | true =>
      rw [hin2] at go
      by_cases hle : nI n ≤ nI j
      · have hnj := (nI_leI (by omega) (by omega)).mp hle
        obtain ⟨a, b, k1, k2, k3⟩ := po_abL (c := σC) (m := σM) (x2 := a1) j2 j1 hnj n2 j4 f2 f4 f6 h2 h5 h6
        have same : ∀ g, iv_ab σM n g → iv_I (wk_si σC 1 1 0) (wk_si (iv_set σM 0 g) 0 9 0) := by
          intro g hg
          have hs : iv_sM (wk_si σM 0 9 0) (wk_si (iv_set σM 0 g) 0 9 0) := by
            refine ⟨hg.2 4 ?_ ?_ ?_ ?_ ?_, hg.2 5 ?_ ?_ ?_ ?_ ?_, rfl, hg.2 18 ?_ ?_ ?_ ?_ ?_, hg.2 57 ?_ ?_ ?_ ?_ ?_, rfl, rfl, rfl, rfl, rfl, rfl, rfl, rfl, rfl, rfl, rfl⟩ <;> decide
          exact iv_I_s (iv_I_tape hI2) iv_sC_r hs
        rw [decide_eq_true hle, k1, k2, if_pos hle] at go
        simp only [Bool.true_eq_false, if_false, if_true, eq_self, Option.bind] at go
        rcases k3 with ⟨r, g, rfl, rfl, g12, hg⟩ | ⟨P, A, g, rfl, rfl, g54, g55, hg⟩
        · exact go r _ _ rfl (by
            dsimp only
            rw [if_neg (by decide)]
            refine congrArg (fun x => some (x, wk_si (iv_set σM 0 g) 0 9 0)) ?_
            exact g12) (same g hg)
        · dsimp only at go
          by_cases hz2 : a1 = 2
          · subst hz2
            obtain ⟨r, q1, q2⟩ := po_wdMeant (m := wk_si (iv_set σM 0 g) 0 9 0) (P := P) g54
            rw [q1, q2] at go
            exact go r _ _ rfl rfl (same g hg)
          · have hz01 : a1 = 0 ∨ a1 = 1 := by
              obtain ⟨q, q1, rfl⟩ := po_inN (n := 2) rfl hin2
              rcases (show q = 0 ∨ q = 1 ∨ q = 2 by omega) with rfl | rfl | rfl
              · exact Or.inl rfl
              · exact Or.inr rfl
              · exact absurd rfl hz2
            obtain ⟨r, q1, q2⟩ := po_meant (T := T) (c := wk_si σC 1 1 0) (m := wk_si (iv_set σM 0 g) 0 9 0) (P := P) (A := A) (z := a1) h1 h4 h9 g54 g55 hz01
            rw [q2] at go
            refine go r _ _ ?_ (by rw [if_pos rfl, if_pos hz2]) (same g hg)
            rcases hz01 with rfl | rfl
            · have q1' : f_X11_knightsMeant P 0 (f_X8_clear σC) = some r := q1
              rw [if_pos (by decide), if_pos (by decide), q1']
              rfl
            · have q1' : f_X11_knightsMeant P A (f_X8_clear σC) = some r := q1
              rw [if_pos (by decide), if_neg (by decide), q1']
              rfl
      · rw [decide_eq_false hle, if_neg hle] at go
        exact go (-1) _ _ rfl rfl hI2
