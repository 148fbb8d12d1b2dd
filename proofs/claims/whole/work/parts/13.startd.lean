/-! THE LAW, start, piece 3 -/
set_option maxHeartbeats 8000000 in
set_option maxRecDepth 100000 in
theorem lw_okM (ca0 ca1 ca2 ca3 ca4 ca5 ca6 ca7 ca8 ca9 ca10 ca11 ca12 ca13 ca14 ca15 ca16 ca17 ca18 ca19 ca20 ca21 ca22 ca23 ca24 ca25 ca26 ca27 ca28 ca29 ca30 ca31 ca32 ca33 ca34 ca35 ca36 ca37 ca38 ca39 ma0 ma1 ma2 ma3 ma4 ma5 ma6 ma7 ma8 ma9 ma10 ma11 ma12 ma13 ma14 ma15 ma16 ma17 ma18 ma19 ma20 ma21 ma22 ma23 ma24 ma25 ma26 ma27 ma28 ma29 ma30 : ClassId) : wk_OK wk_shM 32 (fun k => ([0, ma0, ma1, ma2, ma3, ma4, ma5, ma6, ma7, ma8, ma9, ma10, ma11, ma12, ma13, ma14, ma15, ma16, ma17, ma18, ma19, ma20, ma21, ma22, ma23, ma24, ma25, ma26, ma27, ma28, ma29, ma30] : List ClassId).getD k 0) [(ca0, .int), (ca1, .int), (ca2, .int), (ca3, .int), (ca4, .long), (ca5, .int), (ca6, .int), (ca7, .int), (ca8, .int), (ca9, .int), (ca10, .int), (ca11, .int), (ca12, .int), (ca13, .int), (ca14, .int), (ca15, .int), (ca16, .int), (ca17, .int), (ca18, .int), (ca19, .int), (ca20, .long), (ca21, .long), (ca22, .int), (ca23, .int), (ca24, .int), (ca25, .int), (ca26, .int), (ca27, .int), (ca28, .int), (ca29, .int), (ca30, .int), (ca31, .int), (ca32, .int), (ca33, .int), (ca34, .int), (ca35, .int), (ca36, .int), (ca37, .int), (ca38, .int), (ca39, .int), (ma0, .int), (ma1, .int), (ma2, .int), (ma3, .int), (ma4, .int), (ma5, .int), (ma6, .byte), (ma7, .int), (ma8, .int), (ma9, .int), (ma10, .int), (ma11, .int), (ma12, .int), (ma13, .int), (ma14, .int), (ma15, .int), (ma16, .int), (ma17, .int), (ma18, .int), (ma19, .int), (ma20, .byte), (ma21, .int), (ma22, .int), (ma23, .int), (ma24, .int), (ma25, .int), (ma26, .int), (ma27, .int), (ma28, .int), (ma29, .int), (ma30, .int)] := by
  refine lw_OKof lw_shM (by decide) (fun k hk => ?_)
  match k, hk with
  | 0, _ => exact ⟨_, rfl, _, _, _, rfl, rfl, lw_kds (by decide +kernel)⟩
  | 1, _ => exact ⟨_, rfl, 40, rfl⟩
  | 2, _ => exact ⟨_, rfl, 41, rfl⟩
  | 3, _ => exact ⟨_, rfl, 42, rfl⟩
  | 4, _ => exact ⟨_, rfl, 43, rfl⟩
  | 5, _ => exact ⟨_, rfl, 44, rfl⟩
  | 6, _ => exact ⟨_, rfl, 45, rfl⟩
  | 7, _ => exact ⟨_, rfl, 46, rfl⟩
  | 8, _ => exact ⟨_, rfl, 47, rfl⟩
  | 9, _ => exact ⟨_, rfl, 48, rfl⟩
  | 10, _ => exact ⟨_, rfl, 49, rfl⟩
  | 11, _ => exact ⟨_, rfl, 50, rfl⟩
  | 12, _ => exact ⟨_, rfl, 51, rfl⟩
  | 13, _ => exact ⟨_, rfl, 52, rfl⟩
  | 14, _ => exact ⟨_, rfl, 53, rfl⟩
  | 15, _ => exact ⟨_, rfl, 54, rfl⟩
  | 16, _ => exact ⟨_, rfl, 55, rfl⟩
  | 17, _ => exact ⟨_, rfl, 56, rfl⟩
  | 18, _ => exact ⟨_, rfl, 57, rfl⟩
  | 19, _ => exact ⟨_, rfl, 58, rfl⟩
  | 20, _ => exact ⟨_, rfl, 59, rfl⟩
  | 21, _ => exact ⟨_, rfl, 60, rfl⟩
  | 22, _ => exact ⟨_, rfl, 61, rfl⟩
  | 23, _ => exact ⟨_, rfl, 62, rfl⟩
  | 24, _ => exact ⟨_, rfl, 63, rfl⟩
  | 25, _ => exact ⟨_, rfl, 64, rfl⟩
  | 26, _ => exact ⟨_, rfl, 65, rfl⟩
  | 27, _ => exact ⟨_, rfl, 66, rfl⟩
  | 28, _ => exact ⟨_, rfl, 67, rfl⟩
  | 29, _ => exact ⟨_, rfl, 68, rfl⟩
  | 30, _ => exact ⟨_, rfl, 69, rfl⟩
  | 31, _ => exact ⟨_, rfl, 70, rfl⟩
  | k + 32, hk => exact absurd hk (by omega)
