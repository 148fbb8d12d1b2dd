/-! THE LAW, start, piece 5 -/
set_option maxHeartbeats 8000000 in
set_option maxRecDepth 100000 in
theorem lw_worldC {D : va_G} {H : Heap} {t0 : Nat} (ch0 cq0 cq1 cq2 cq3 cq4 cq5 cq6 cq7 cq8 cq9 cq10 cq11 cq12 cq13 cq14 cq15 cq16 cq17 cq18 cq19 cq20 cq21 cq22 cq23 cq24 cq25 cq26 cq27 cq28 cq29 cq30 cq31 cq32 cq33 cq34 cq35 cq36 cq37 cq38 cq39 cq40 cq41 cq42 cq43 cq44 cq45 cq46 cq47 cq48 cq49 cq50 cq51 mh0 mq0 mq1 mq2 mq3 mq4 mq5 mq6 mq7 mq8 mq9 mq10 mq11 mq12 mq13 mq14 mq15 mq16 mq17 mq18 mq19 mq20 mq21 mq22 mq23 mq24 mq25 mq26 mq27 mq28 mq29 mq30 : Nat) (ca0 ca1 ca2 ca3 ca4 ca5 ca6 ca7 ca8 ca9 ca10 ca11 ca12 ca13 ca14 ca15 ca16 ca17 ca18 ca19 ca20 ca21 ca22 ca23 ca24 ca25 ca26 ca27 ca28 ca29 ca30 ca31 ca32 ca33 ca34 ca35 ca36 ca37 ca38 ca39 ma0 ma1 ma2 ma3 ma4 ma5 ma6 ma7 ma8 ma9 ma10 ma11 ma12 ma13 ma14 ma15 ma16 ma17 ma18 ma19 ma20 ma21 ma22 ma23 ma24 ma25 ma26 ma27 ma28 ma29 ma30 : ClassId) (hP : va_P D wk_cls [(ch0, .inr (9, [.ref cq0, .ref cq2, .ref cq7, .ref cq12, .ref cq17, .ref cq22, .ref cq24, .ref cq29, .ref cq31, .ref cq33, .ref cq35, .ref cq36, .ref cq44, .int 0])), (cq0, .inr (6, [.ref cq1, .int 0])), (cq1, .inl (ca0, 260, .inl (fun _ => 0))), (cq2, .inr (2, [.ref cq3, .ref cq4, .ref cq5, .ref cq6, .int 0, .int 0])), (cq3, .inl (ca1, 12, .inl (fun _ => 0))), (cq4, .inl (ca2, 144, .inl (fun _ => 0))), (cq5, .inl (ca3, 12, .inl (fun _ => 0))), (cq6, .inl (ca4, 12, .inr (.inl (fun _ => 0)))), (cq7, .inr (0, [.ref cq8, .ref cq9, .ref cq10, .ref cq11, .int 0, .int 0, .int 1])), (cq8, .inl (ca5, 9, .inl (fun _ => 0))), (cq9, .inl (ca6, 9, .inl (fun _ => 0))), (cq10, .inl (ca7, 9, .inl (fun _ => 0))), (cq11, .inl (ca8, 9, .inl (fun _ => 0))), (cq12, .inr (0, [.ref cq13, .ref cq14, .ref cq15, .ref cq16, .int 0, .int 0, .int 1])), (cq13, .inl (ca9, 9, .inl (fun _ => 0))), (cq14, .inl (ca10, 9, .inl (fun _ => 0))), (cq15, .inl (ca11, 9, .inl (fun _ => 0))), (cq16, .inl (ca12, 9, .inl (fun _ => 0))), (cq17, .inr (0, [.ref cq18, .ref cq19, .ref cq20, .ref cq21, .int 0, .int 0, .int 1])), (cq18, .inl (ca13, 9, .inl (fun _ => 0))), (cq19, .inl (ca14, 9, .inl (fun _ => 0))), (cq20, .inl (ca15, 9, .inl (fun _ => 0))), (cq21, .inl (ca16, 9, .inl (fun _ => 0))), (cq22, .inr (8, [.ref cq23, .int 0, .int 0, .int 0, .int 0, .int (-1)])), (cq23, .inl (ca17, 8, .inl (fun _ => 0))), (cq24, .inr (7, [.ref cq25, .ref cq26, .ref cq27, .ref cq28])), (cq25, .inl (ca18, 61, .inl (fun _ => 0))), (cq26, .inl (ca19, 60, .inl (fun _ => 0))), (cq27, .inl (ca20, 12, .inr (.inl (fun _ => 0)))), (cq28, .inl (ca21, 12, .inr (.inl (fun _ => 0)))), (cq29, .inr (3, [.ref cq30, .int 0, .int 0, .int 0, .long 0, .int 0])), (cq30, .inl (ca22, 240, .inl (fun _ => 0))), (cq31, .inr (1, [.ref cq32, .int 0, .int 0, .int 0])), (cq32, .inl (ca23, 240, .inl (fun _ => 0))), (cq33, .inr (5, [.ref cq34, .int 0, .int 0, .int 0])), (cq34, .inl (ca24, 240, .inl (fun _ => 0))), (cq35, .inl (ca25, 512, .inl (fun _ => 0))), (cq36, .inr (4, [.ref cq37, .ref cq38, .ref cq39, .ref cq40, .ref cq41, .ref cq42, .ref cq43, .int 0, .int 0, .int 0, .int 0])), (cq37, .inl (ca26, 16, .inl (fun _ => 0))), (cq38, .inl (ca27, 16, .inl (fun _ => 0))), (cq39, .inl (ca28, 16, .inl (fun _ => 0))), (cq40, .inl (ca29, 16, .inl (fun _ => 0))), (cq41, .inl (ca30, 240, .inl (fun _ => 0))), (cq42, .inl (ca31, 240, .inl (fun _ => 0))), (cq43, .inl (ca32, 32, .inl (fun _ => 0))), (cq44, .inr (4, [.ref cq45, .ref cq46, .ref cq47, .ref cq48, .ref cq49, .ref cq50, .ref cq51, .int 0, .int 0, .int 0, .int 0])), (cq45, .inl (ca33, 16, .inl (fun _ => 0))), (cq46, .inl (ca34, 16, .inl (fun _ => 0))), (cq47, .inl (ca35, 16, .inl (fun _ => 0))), (cq48, .inl (ca36, 16, .inl (fun _ => 0))), (cq49, .inl (ca37, 240, .inl (fun _ => 0))), (cq50, .inl (ca38, 240, .inl (fun _ => 0))), (cq51, .inl (ca39, 32, .inl (fun _ => 0))), (mh0, .inr (10, [.ref mq0, .ref mq1, .ref mq2, .ref mq3, .int 0, .int 0, .ref mq4, .ref mq5, .ref mq6, .int 0, .int 0, .int 0, .int 0, .int 0, .int 0, .int 0, .int 0, .int 0, .int 0, .ref mq7, .ref mq8, .ref mq9, .ref mq10, .ref mq11, .ref mq12, .ref mq13, .ref mq14, .ref mq15, .ref mq16, .ref mq17, .ref mq18, .ref mq19, .ref mq20, .ref mq21, .ref mq22, .ref mq23, .ref mq24, .ref mq25, .int 0, .int 0, .int 0, .int 0, .int 0, .int 0, .int 0, .int 0, .int 0, .int 0, .int 0, .int 0, .ref mq26, .ref mq27, .ref mq28, .ref mq29, .int 0, .int 0, .ref mq30, .int 0])), (mq0, .inl (ma0, 47, .inl (upd (fun _ => 0) 46 1))), (mq1, .inl (ma1, 47, .inl (fun _ => 0))), (mq2, .inl (ma2, 47, .inl (fun _ => 0))), (mq3, .inl (ma3, 12, .inl (fun _ => 0))), (mq4, .inl (ma4, 12, .inl (fun _ => 0))), (mq5, .inl (ma5, 12, .inl (fun _ => 0))), (mq6, .inl (ma6, 260, .inl (fun _ => 0))), (mq7, .inl (ma7, 260, .inl (fun _ => 0))), (mq8, .inl (ma8, 260, .inl (fun _ => 0))), (mq9, .inl (ma9, 16, .inl (fun _ => 0))), (mq10, .inl (ma10, 16, .inl (fun _ => 0))), (mq11, .inl (ma11, 16, .inl (fun _ => 0))), (mq12, .inl (ma12, 16, .inl (fun _ => 0))), (mq13, .inl (ma13, 260, .inl (fun _ => 0))), (mq14, .inl (ma14, 16, .inl (fun _ => 0))), (mq15, .inl (ma15, 16, .inl (fun _ => 0))), (mq16, .inl (ma16, 16, .inl (fun _ => 0))), (mq17, .inl (ma17, 16, .inl (fun _ => 0))), (mq18, .inl (ma18, 260, .inl (fun _ => 0))), (mq19, .inl (ma19, 8, .inl (fun _ => 0))), (mq20, .inl (ma20, 576, .inl (fun _ => 0))), (mq21, .inl (ma21, 12, .inl (fun _ => 0))), (mq22, .inl (ma22, 48, .inl (fun _ => 0))), (mq23, .inl (ma23, 2, .inl (fun _ => 0))), (mq24, .inl (ma24, 2, .inl (fun _ => 0))), (mq25, .inl (ma25, 2, .inl (fun _ => 0))), (mq26, .inl (ma26, 61, .inl (fun _ => 0))), (mq27, .inl (ma27, 12, .inl (fun _ => 0))), (mq28, .inl (ma28, 12, .inl (fun _ => 0))), (mq29, .inl (ma29, 12, .inl (fun _ => 0))), (mq30, .inl (ma30, 512, .inl (fun _ => 0)))] H) : va_P D wk_cls (wk_w wk_shC 53 (fun k : Nat => cond (Nat.beq k 999) t0 (([ch0, cq0, cq1, cq2, cq3, cq4, cq5, cq6, cq7, cq8, cq9, cq10, cq11, cq12, cq13, cq14, cq15, cq16, cq17, cq18, cq19, cq20, cq21, cq22, cq23, cq24, cq25, cq26, cq27, cq28, cq29, cq30, cq31, cq32, cq33, cq34, cq35, cq36, cq37, cq38, cq39, cq40, cq41, cq42, cq43, cq44, cq45, cq46, cq47, cq48, cq49, cq50, cq51] : List Nat).getD k 0)) (fun k => ([0, 0, ca0, 0, ca1, ca2, ca3, ca4, 0, ca5, ca6, ca7, ca8, 0, ca9, ca10, ca11, ca12, 0, ca13, ca14, ca15, ca16, 0, ca17, 0, ca18, ca19, ca20, ca21, 0, ca22, 0, ca23, 0, ca24, ca25, 0, ca26, ca27, ca28, ca29, ca30, ca31, ca32, 0, ca33, ca34, ca35, ca36, ca37, ca38, ca39] : List ClassId).getD k 0) wk_s0C) H := by
  intro k q hq
  have hk : k < 53 := by
    have := (List.getElem?_eq_some_iff.mp hq).1
    simpa [wk_w] using this
  rw [wk_w_get hk] at hq
  cases hq
  match k, hk with
  | 0, _ => exact hP 0 _ rfl
  | 1, _ => exact hP 1 _ rfl
  | 2, _ => exact hP 2 _ rfl
  | 3, _ => exact hP 3 _ rfl
  | 4, _ => exact hP 4 _ rfl
  | 5, _ => exact hP 5 _ rfl
  | 6, _ => exact hP 6 _ rfl
  | 7, _ => exact hP 7 _ rfl
  | 8, _ => exact hP 8 _ rfl
  | 9, _ => exact hP 9 _ rfl
  | 10, _ => exact hP 10 _ rfl
  | 11, _ => exact hP 11 _ rfl
  | 12, _ => exact hP 12 _ rfl
  | 13, _ => exact hP 13 _ rfl
  | 14, _ => exact hP 14 _ rfl
  | 15, _ => exact hP 15 _ rfl
  | 16, _ => exact hP 16 _ rfl
  | 17, _ => exact hP 17 _ rfl
  | 18, _ => exact hP 18 _ rfl
  | 19, _ => exact hP 19 _ rfl
  | 20, _ => exact hP 20 _ rfl
  | 21, _ => exact hP 21 _ rfl
  | 22, _ => exact hP 22 _ rfl
  | 23, _ => exact hP 23 _ rfl
  | 24, _ => exact hP 24 _ rfl
  | 25, _ => exact hP 25 _ rfl
  | 26, _ => exact hP 26 _ rfl
  | 27, _ => exact hP 27 _ rfl
  | 28, _ => exact hP 28 _ rfl
  | 29, _ => exact hP 29 _ rfl
  | 30, _ => exact hP 30 _ rfl
  | 31, _ => exact hP 31 _ rfl
  | 32, _ => exact hP 32 _ rfl
  | 33, _ => exact hP 33 _ rfl
  | 34, _ => exact hP 34 _ rfl
  | 35, _ => exact hP 35 _ rfl
  | 36, _ => exact hP 36 _ rfl
  | 37, _ => exact hP 37 _ rfl
  | 38, _ => exact hP 38 _ rfl
  | 39, _ => exact hP 39 _ rfl
  | 40, _ => exact hP 40 _ rfl
  | 41, _ => exact hP 41 _ rfl
  | 42, _ => exact hP 42 _ rfl
  | 43, _ => exact hP 43 _ rfl
  | 44, _ => exact hP 44 _ rfl
  | 45, _ => exact hP 45 _ rfl
  | 46, _ => exact hP 46 _ rfl
  | 47, _ => exact hP 47 _ rfl
  | 48, _ => exact hP 48 _ rfl
  | 49, _ => exact hP 49 _ rfl
  | 50, _ => exact hP 50 _ rfl
  | 51, _ => exact hP 51 _ rfl
  | 52, _ => exact hP 52 _ rfl
  | k + 53, hk => exact absurd hk (by omega)
