/-! THE LAW'S CASES -/
/-- behind a call on both sides -/
def lz_G (p : Program) (l : Launch) (e : Env) (s : State) (m : MethodId) (below : List Frame) (meth : Method) (c : Code) (Q : State → Prop) (kc ks b : Nat) (D : va_G) (tX tY : Nat → ClassId) (aX aY : Nat → Nat) (ls : Array Slot) : Prop := ∀ (Mx My : sr_M) (H : Heap) (locs : List Loc), Rel Mx My → lz_Z D tX tY aX aY s Mx My H locs → W p l e room_1 s m #[Value.ref b] below meth c H locs kc ks Q (F0 m 1272 ls [])
set_option maxRecDepth 100000 in
set_option maxHeartbeats 4000000 in
theorem lc_0 {p : Program} {l : Launch} {e : Env} {s : State} {m : MethodId} {below : List Frame} {meth : Method} {c : Code} {H : Heap} {locs : List Loc} {Q : State → Prop} {kc ks b L : Nat} {xs : Nat → Int32} {ls : Array Slot} {D : va_G} {tX tY : Nat → ClassId} {aX aY : Nat → Nat} {Mx My : sr_M} {i : Nat} (hF : lz_F p s m c b L xs) (hZ : lz_Z D tX tY aX aY s Mx My H locs) (hR : Rel Mx My) (hroom : kc ≤ room_1.cells ∧ ks ≤ room_1.slots) (hi : i + 6 ≤ L) (hL : L ≤ 3072) (hl : lv_has ls 4 (lz_l aX aY b i)) (kk : lz_G p l e s m below meth c Q kc ks b D tX tY aX aY ls) : W p l e room_1 s m #[Value.ref b] below meth c H locs kc ks Q (F0 m 188 ls []) := by
  obtain ⟨r, Mx', My', f1, f2, hR'⟩ := al_pore hR (xs (i + 1))
  refine lv_aload_n hF.1 hF.2.1 dL_law_188 rfl (lv_at hl 2 rfl) ?_
  refine lz_arg (j := 1) hF hZ.1.2.2.2 hl (by omega) hL rfl dL_law_189 dL_law_190 dL_law_191 dL_law_192 dL_law_193 ?_
  refine sr_lVi (As := [.int (xs (i + 1))]) (rest := []) (lz_fix hF) (k4_pore l D tX aX (xs (i + 1)) Mx r Mx' f1) (cwV 1 hF.2.2.2.2.1 (sr_goodV qmL_13 qiX4_pore qsX4_pore qnX4 qcX4_pore) rfl rfl rfl qdX4_pore ⟨Nat.le_of_ble_eq_true rfl, Nat.le_of_ble_eq_true rfl⟩) hZ.1 hZ.2.1.2.1 hZ.2.2 (fun _ h => h) (xo_0 tX aX) rfl hl.1 rfl (Nat.le_of_ble_eq_true rfl) hroom dL_law_194 (fun H1 locs1 hw1 hP1 => ?_)
  have hY : sr_H D vwCl (yty tY) aY (ycf tY aY) 26 (lz_A s) s My H1 locs1 := ⟨hZ.2.1.1, hP1, hZ.2.1.2.2.1, hw1.2.2.2⟩
  refine lv_aload_n hF.1 hF.2.1 dL_law_197 rfl (lv_at hl 1 rfl) ?_
  refine lz_arg (j := 1) hF hw1.2.2.2 hl (by omega) hL rfl dL_law_198 dL_law_199 dL_law_200 dL_law_201 dL_law_202 ?_
  refine sr_lVi (As := [.int (xs (i + 1))]) (rest := [.int r]) (lz_fix hF) (k5_pore l D tY aY (xs (i + 1)) My r My' f2) (cwV 1 hF.2.2.2.2.1 (sr_goodV qmL_17 qiX5_pore qsX5_pore qnX5 qcX5_pore) rfl rfl rfl qdX5_pore ⟨Nat.le_of_ble_eq_true rfl, Nat.le_of_ble_eq_true rfl⟩) hY hw1.2.1 (fun a b ha hb h => hZ.2.2 b a hb ha h.symm) (fun _ h => h) (yo_0 tY aY) rfl hl.1 rfl (Nat.le_of_ble_eq_true rfl) hroom dL_law_203 (fun H2 locs2 hw2 hP2 => ?_)
  have hZ2 : lz_Z D tX tY aX aY s Mx' My' H2 locs2 := ⟨⟨hw1.1, hP2, hw1.2.2.1, hw2.2.2.2⟩, hw2, hZ.2.2⟩
  refine lv_icmp_eq (tgt := 1272) hF.1 hF.2.1 dL_law_206 (by decide) (fun _ => ?_) (fun h => absurd rfl h)
  exact kk _ _ _ _ hR' hZ2
set_option maxRecDepth 100000 in
set_option maxHeartbeats 4000000 in
theorem lc_1 {p : Program} {l : Launch} {e : Env} {s : State} {m : MethodId} {below : List Frame} {meth : Method} {c : Code} {H : Heap} {locs : List Loc} {Q : State → Prop} {kc ks b L : Nat} {xs : Nat → Int32} {ls : Array Slot} {D : va_G} {tX tY : Nat → ClassId} {aX aY : Nat → Nat} {Mx My : sr_M} {i : Nat} (hF : lz_F p s m c b L xs) (hZ : lz_Z D tX tY aX aY s Mx My H locs) (hR : Rel Mx My) (hroom : kc ≤ room_1.cells ∧ ks ≤ room_1.slots) (hi : i + 6 ≤ L) (hL : L ≤ 3072) (hl : lv_has ls 4 (lz_l aX aY b i)) (kk : lz_G p l e s m below meth c Q kc ks b D tX tY aX aY ls) : W p l e room_1 s m #[Value.ref b] below meth c H locs kc ks Q (F0 m 211 ls []) := by
  obtain ⟨r, Mx', My', f1, f2, hR'⟩ := al_throat hR (xs (i + 1)) (xs (i + 2))
  refine lv_aload_n hF.1 hF.2.1 dL_law_211 rfl (lv_at hl 2 rfl) ?_
  refine lz_arg (j := 1) hF hZ.1.2.2.2 hl (by omega) hL rfl dL_law_212 dL_law_213 dL_law_214 dL_law_215 dL_law_216 ?_
  refine lz_arg (j := 2) hF hZ.1.2.2.2 hl (by omega) hL rfl dL_law_217 dL_law_218 dL_law_219 dL_law_220 dL_law_221 ?_
  refine sr_lVi (As := [.int (xs (i + 1)), .int (xs (i + 2))]) (rest := []) (lz_fix hF) (k4_throat l D tX aX (xs (i + 1)) (xs (i + 2)) Mx r Mx' f1) (cwV 2 hF.2.2.2.2.1 (sr_goodV qmL_18 qiX4_throat qsX4_throat qnX4 qcX4_throat) rfl rfl rfl qdX4_throat ⟨Nat.le_of_ble_eq_true rfl, Nat.le_of_ble_eq_true rfl⟩) hZ.1 hZ.2.1.2.1 hZ.2.2 (fun _ h => h) (xo_0 tX aX) rfl hl.1 rfl (Nat.le_of_ble_eq_true rfl) hroom dL_law_222 (fun H1 locs1 hw1 hP1 => ?_)
  have hY : sr_H D vwCl (yty tY) aY (ycf tY aY) 26 (lz_A s) s My H1 locs1 := ⟨hZ.2.1.1, hP1, hZ.2.1.2.2.1, hw1.2.2.2⟩
  refine lv_aload_n hF.1 hF.2.1 dL_law_225 rfl (lv_at hl 1 rfl) ?_
  refine lz_arg (j := 1) hF hw1.2.2.2 hl (by omega) hL rfl dL_law_226 dL_law_227 dL_law_228 dL_law_229 dL_law_230 ?_
  refine lz_arg (j := 2) hF hw1.2.2.2 hl (by omega) hL rfl dL_law_231 dL_law_232 dL_law_233 dL_law_234 dL_law_235 ?_
  refine sr_lVi (As := [.int (xs (i + 1)), .int (xs (i + 2))]) (rest := [.int r]) (lz_fix hF) (k5_throat l D tY aY (xs (i + 1)) (xs (i + 2)) My r My' f2) (cwV 2 hF.2.2.2.2.1 (sr_goodV qmL_22 qiX5_throat qsX5_throat qnX5 qcX5_throat) rfl rfl rfl qdX5_throat ⟨Nat.le_of_ble_eq_true rfl, Nat.le_of_ble_eq_true rfl⟩) hY hw1.2.1 (fun a b ha hb h => hZ.2.2 b a hb ha h.symm) (fun _ h => h) (yo_0 tY aY) rfl hl.1 rfl (Nat.le_of_ble_eq_true rfl) hroom dL_law_236 (fun H2 locs2 hw2 hP2 => ?_)
  have hZ2 : lz_Z D tX tY aX aY s Mx' My' H2 locs2 := ⟨⟨hw1.1, hP2, hw1.2.2.1, hw2.2.2.2⟩, hw2, hZ.2.2⟩
  refine lv_icmp_eq (tgt := 1272) hF.1 hF.2.1 dL_law_239 (by decide) (fun _ => ?_) (fun h => absurd rfl h)
  exact kk _ _ _ _ hR' hZ2
set_option maxRecDepth 100000 in
set_option maxHeartbeats 4000000 in
theorem lc_2 {p : Program} {l : Launch} {e : Env} {s : State} {m : MethodId} {below : List Frame} {meth : Method} {c : Code} {H : Heap} {locs : List Loc} {Q : State → Prop} {kc ks b L : Nat} {xs : Nat → Int32} {ls : Array Slot} {D : va_G} {tX tY : Nat → ClassId} {aX aY : Nat → Nat} {Mx My : sr_M} {i : Nat} (hF : lz_F p s m c b L xs) (hZ : lz_Z D tX tY aX aY s Mx My H locs) (hR : Rel Mx My) (hroom : kc ≤ room_1.cells ∧ ks ≤ room_1.slots) (hi : i + 6 ≤ L) (hL : L ≤ 3072) (hl : lv_has ls 4 (lz_l aX aY b i)) (kk : lz_G p l e s m below meth c Q kc ks b D tX tY aX aY ls) : W p l e room_1 s m #[Value.ref b] below meth c H locs kc ks Q (F0 m 244 ls []) := by
  obtain ⟨r, Mx', My', f1, f2, hR'⟩ := al_hinder hR (xs (i + 1)) (xs (i + 2))
  refine lv_aload_n hF.1 hF.2.1 dL_law_244 rfl (lv_at hl 2 rfl) ?_
  refine lz_arg (j := 1) hF hZ.1.2.2.2 hl (by omega) hL rfl dL_law_245 dL_law_246 dL_law_247 dL_law_248 dL_law_249 ?_
  refine lz_arg (j := 2) hF hZ.1.2.2.2 hl (by omega) hL rfl dL_law_250 dL_law_251 dL_law_252 dL_law_253 dL_law_254 ?_
  refine sr_lVi (As := [.int (xs (i + 1)), .int (xs (i + 2))]) (rest := []) (lz_fix hF) (k4_hinder l D tX aX (xs (i + 1)) (xs (i + 2)) Mx r Mx' f1) (cwV 2 hF.2.2.2.2.1 (sr_goodV qmL_23 qiX4_hinder qsX4_hinder qnX4 qcX4_hinder) rfl rfl rfl qdX4_hinder ⟨Nat.le_of_ble_eq_true rfl, Nat.le_of_ble_eq_true rfl⟩) hZ.1 hZ.2.1.2.1 hZ.2.2 (fun _ h => h) (xo_0 tX aX) rfl hl.1 rfl (Nat.le_of_ble_eq_true rfl) hroom dL_law_255 (fun H1 locs1 hw1 hP1 => ?_)
  have hY : sr_H D vwCl (yty tY) aY (ycf tY aY) 26 (lz_A s) s My H1 locs1 := ⟨hZ.2.1.1, hP1, hZ.2.1.2.2.1, hw1.2.2.2⟩
  refine lv_aload_n hF.1 hF.2.1 dL_law_258 rfl (lv_at hl 1 rfl) ?_
  refine lz_arg (j := 1) hF hw1.2.2.2 hl (by omega) hL rfl dL_law_259 dL_law_260 dL_law_261 dL_law_262 dL_law_263 ?_
  refine lz_arg (j := 2) hF hw1.2.2.2 hl (by omega) hL rfl dL_law_264 dL_law_265 dL_law_266 dL_law_267 dL_law_268 ?_
  refine sr_lVi (As := [.int (xs (i + 1)), .int (xs (i + 2))]) (rest := [.int r]) (lz_fix hF) (k5_hinder l D tY aY (xs (i + 1)) (xs (i + 2)) My r My' f2) (cwV 2 hF.2.2.2.2.1 (sr_goodV qmL_26 qiX5_hinder qsX5_hinder qnX5 qcX5_hinder) rfl rfl rfl qdX5_hinder ⟨Nat.le_of_ble_eq_true rfl, Nat.le_of_ble_eq_true rfl⟩) hY hw1.2.1 (fun a b ha hb h => hZ.2.2 b a hb ha h.symm) (fun _ h => h) (yo_0 tY aY) rfl hl.1 rfl (Nat.le_of_ble_eq_true rfl) hroom dL_law_269 (fun H2 locs2 hw2 hP2 => ?_)
  have hZ2 : lz_Z D tX tY aX aY s Mx' My' H2 locs2 := ⟨⟨hw1.1, hP2, hw1.2.2.1, hw2.2.2.2⟩, hw2, hZ.2.2⟩
  refine lv_icmp_eq (tgt := 1272) hF.1 hF.2.1 dL_law_272 (by decide) (fun _ => ?_) (fun h => absurd rfl h)
  exact kk _ _ _ _ hR' hZ2
set_option maxRecDepth 100000 in
set_option maxHeartbeats 4000000 in
theorem lc_3 {p : Program} {l : Launch} {e : Env} {s : State} {m : MethodId} {below : List Frame} {meth : Method} {c : Code} {H : Heap} {locs : List Loc} {Q : State → Prop} {kc ks b L : Nat} {xs : Nat → Int32} {ls : Array Slot} {D : va_G} {tX tY : Nat → ClassId} {aX aY : Nat → Nat} {Mx My : sr_M} {i : Nat} (hF : lz_F p s m c b L xs) (hZ : lz_Z D tX tY aX aY s Mx My H locs) (hR : Rel Mx My) (hroom : kc ≤ room_1.cells ∧ ks ≤ room_1.slots) (hi : i + 6 ≤ L) (hL : L ≤ 3072) (hl : lv_has ls 4 (lz_l aX aY b i)) (kk : lz_G p l e s m below meth c Q kc ks b D tX tY aX aY ls) : W p l e room_1 s m #[Value.ref b] below meth c H locs kc ks Q (F0 m 277 ls []) := by
  obtain ⟨r, Mx', My', f1, f2, hR'⟩ := al_shut hR (xs (i + 1)) (decide (xs (i + 2) ≠ 0))
  refine lv_aload_n hF.1 hF.2.1 dL_law_277 rfl (lv_at hl 2 rfl) ?_
  refine lz_arg (j := 1) hF hZ.1.2.2.2 hl (by omega) hL rfl dL_law_278 dL_law_279 dL_law_280 dL_law_281 dL_law_282 ?_
  refine lz_argB (j := 2) hF hZ.1.2.2.2 hl (by omega) hL rfl dL_law_283 dL_law_284 dL_law_285 dL_law_286 dL_law_287 dL_law_288 dL_law_291 dL_law_292 dL_law_295 ?_
  refine sr_lVi (As := [.int (xs (i + 1)), .int (pp_bI (decide (xs (i + 2) ≠ 0)))]) (rest := []) (lz_fix hF) (k4_shut l D tX aX (xs (i + 1)) (pp_bI (decide (xs (i + 2) ≠ 0))) Mx r Mx' f1) (cwV 2 hF.2.2.2.2.1 (sr_goodV qmL_27 qiX4_shut qsX4_shut qnX4 qcX4_shut) rfl rfl rfl qdX4_shut ⟨Nat.le_of_ble_eq_true rfl, Nat.le_of_ble_eq_true rfl⟩) hZ.1 hZ.2.1.2.1 hZ.2.2 (fun _ h => h) (xo_0 tX aX) rfl hl.1 rfl (Nat.le_of_ble_eq_true rfl) hroom dL_law_296 (fun H1 locs1 hw1 hP1 => ?_)
  have hY : sr_H D vwCl (yty tY) aY (ycf tY aY) 26 (lz_A s) s My H1 locs1 := ⟨hZ.2.1.1, hP1, hZ.2.1.2.2.1, hw1.2.2.2⟩
  refine lv_aload_n hF.1 hF.2.1 dL_law_299 rfl (lv_at hl 1 rfl) ?_
  refine lz_arg (j := 1) hF hw1.2.2.2 hl (by omega) hL rfl dL_law_300 dL_law_301 dL_law_302 dL_law_303 dL_law_304 ?_
  refine lz_argB (j := 2) hF hw1.2.2.2 hl (by omega) hL rfl dL_law_305 dL_law_306 dL_law_307 dL_law_308 dL_law_309 dL_law_310 dL_law_313 dL_law_314 dL_law_317 ?_
  refine sr_lVi (As := [.int (xs (i + 1)), .int (pp_bI (decide (xs (i + 2) ≠ 0)))]) (rest := [.int r]) (lz_fix hF) (k5_shut l D tY aY (xs (i + 1)) (pp_bI (decide (xs (i + 2) ≠ 0))) My r My' f2) (cwV 2 hF.2.2.2.2.1 (sr_goodV qmL_31 qiX5_shut qsX5_shut qnX5 qcX5_shut) rfl rfl rfl qdX5_shut ⟨Nat.le_of_ble_eq_true rfl, Nat.le_of_ble_eq_true rfl⟩) hY hw1.2.1 (fun a b ha hb h => hZ.2.2 b a hb ha h.symm) (fun _ h => h) (yo_0 tY aY) rfl hl.1 rfl (Nat.le_of_ble_eq_true rfl) hroom dL_law_318 (fun H2 locs2 hw2 hP2 => ?_)
  have hZ2 : lz_Z D tX tY aX aY s Mx' My' H2 locs2 := ⟨⟨hw1.1, hP2, hw1.2.2.1, hw2.2.2.2⟩, hw2, hZ.2.2⟩
  refine lv_icmp_eq (tgt := 1272) hF.1 hF.2.1 dL_law_321 (by decide) (fun _ => ?_) (fun h => absurd rfl h)
  exact kk _ _ _ _ hR' hZ2
set_option maxRecDepth 100000 in
set_option maxHeartbeats 4000000 in
theorem lc_4 {p : Program} {l : Launch} {e : Env} {s : State} {m : MethodId} {below : List Frame} {meth : Method} {c : Code} {H : Heap} {locs : List Loc} {Q : State → Prop} {kc ks b L : Nat} {xs : Nat → Int32} {ls : Array Slot} {D : va_G} {tX tY : Nat → ClassId} {aX aY : Nat → Nat} {Mx My : sr_M} {i : Nat} (hF : lz_F p s m c b L xs) (hZ : lz_Z D tX tY aX aY s Mx My H locs) (hR : Rel Mx My) (hroom : kc ≤ room_1.cells ∧ ks ≤ room_1.slots) (hi : i + 6 ≤ L) (hL : L ≤ 3072) (hl : lv_has ls 4 (lz_l aX aY b i)) (kk : lz_G p l e s m below meth c Q kc ks b D tX tY aX aY ls) : W p l e room_1 s m #[Value.ref b] below meth c H locs kc ks Q (F0 m 326 ls []) := by
  obtain ⟨r, Mx', My', f1, f2, hR'⟩ := al_inlet hR (xs (i + 1)) (decide (xs (i + 2) ≠ 0))
  refine lv_aload_n hF.1 hF.2.1 dL_law_326 rfl (lv_at hl 2 rfl) ?_
  refine lz_arg (j := 1) hF hZ.1.2.2.2 hl (by omega) hL rfl dL_law_327 dL_law_328 dL_law_329 dL_law_330 dL_law_331 ?_
  refine lz_argB (j := 2) hF hZ.1.2.2.2 hl (by omega) hL rfl dL_law_332 dL_law_333 dL_law_334 dL_law_335 dL_law_336 dL_law_337 dL_law_340 dL_law_341 dL_law_344 ?_
  refine sr_lVi (As := [.int (xs (i + 1)), .int (pp_bI (decide (xs (i + 2) ≠ 0)))]) (rest := []) (lz_fix hF) (k4_inlet l D tX aX (xs (i + 1)) (pp_bI (decide (xs (i + 2) ≠ 0))) Mx r Mx' f1) (cwV 2 hF.2.2.2.2.1 (sr_goodV qmL_32 qiX4_inlet qsX4_inlet qnX4 qcX4_inlet) rfl rfl rfl qdX4_inlet ⟨Nat.le_of_ble_eq_true rfl, Nat.le_of_ble_eq_true rfl⟩) hZ.1 hZ.2.1.2.1 hZ.2.2 (fun _ h => h) (xo_0 tX aX) rfl hl.1 rfl (Nat.le_of_ble_eq_true rfl) hroom dL_law_345 (fun H1 locs1 hw1 hP1 => ?_)
  have hY : sr_H D vwCl (yty tY) aY (ycf tY aY) 26 (lz_A s) s My H1 locs1 := ⟨hZ.2.1.1, hP1, hZ.2.1.2.2.1, hw1.2.2.2⟩
  refine lv_aload_n hF.1 hF.2.1 dL_law_348 rfl (lv_at hl 1 rfl) ?_
  refine lz_arg (j := 1) hF hw1.2.2.2 hl (by omega) hL rfl dL_law_349 dL_law_350 dL_law_351 dL_law_352 dL_law_353 ?_
  refine lz_argB (j := 2) hF hw1.2.2.2 hl (by omega) hL rfl dL_law_354 dL_law_355 dL_law_356 dL_law_357 dL_law_358 dL_law_359 dL_law_362 dL_law_363 dL_law_366 ?_
  refine sr_lVi (As := [.int (xs (i + 1)), .int (pp_bI (decide (xs (i + 2) ≠ 0)))]) (rest := [.int r]) (lz_fix hF) (k5_inlet l D tY aY (xs (i + 1)) (pp_bI (decide (xs (i + 2) ≠ 0))) My r My' f2) (cwV 2 hF.2.2.2.2.1 (sr_goodV qmL_35 qiX5_inlet qsX5_inlet qnX5 qcX5_inlet) rfl rfl rfl qdX5_inlet ⟨Nat.le_of_ble_eq_true rfl, Nat.le_of_ble_eq_true rfl⟩) hY hw1.2.1 (fun a b ha hb h => hZ.2.2 b a hb ha h.symm) (fun _ h => h) (yo_0 tY aY) rfl hl.1 rfl (Nat.le_of_ble_eq_true rfl) hroom dL_law_367 (fun H2 locs2 hw2 hP2 => ?_)
  have hZ2 : lz_Z D tX tY aX aY s Mx' My' H2 locs2 := ⟨⟨hw1.1, hP2, hw1.2.2.1, hw2.2.2.2⟩, hw2, hZ.2.2⟩
  refine lv_icmp_eq (tgt := 1272) hF.1 hF.2.1 dL_law_370 (by decide) (fun _ => ?_) (fun h => absurd rfl h)
  exact kk _ _ _ _ hR' hZ2
set_option maxRecDepth 100000 in
set_option maxHeartbeats 4000000 in
theorem lc_5 {p : Program} {l : Launch} {e : Env} {s : State} {m : MethodId} {below : List Frame} {meth : Method} {c : Code} {H : Heap} {locs : List Loc} {Q : State → Prop} {kc ks b L : Nat} {xs : Nat → Int32} {ls : Array Slot} {D : va_G} {tX tY : Nat → ClassId} {aX aY : Nat → Nat} {Mx My : sr_M} {i : Nat} (hF : lz_F p s m c b L xs) (hZ : lz_Z D tX tY aX aY s Mx My H locs) (hR : Rel Mx My) (hroom : kc ≤ room_1.cells ∧ ks ≤ room_1.slots) (hi : i + 6 ≤ L) (hL : L ≤ 3072) (hl : lv_has ls 4 (lz_l aX aY b i)) (kk : lz_G p l e s m below meth c Q kc ks b D tX tY aX aY ls) : W p l e room_1 s m #[Value.ref b] below meth c H locs kc ks Q (F0 m 375 ls []) := by
  obtain ⟨r, Mx', My', f1, f2, hR'⟩ := al_trapping hR (decide (xs (i + 1) ≠ 0))
  refine lv_aload_n hF.1 hF.2.1 dL_law_375 rfl (lv_at hl 2 rfl) ?_
  refine lz_argB (j := 1) hF hZ.1.2.2.2 hl (by omega) hL rfl dL_law_376 dL_law_377 dL_law_378 dL_law_379 dL_law_380 dL_law_381 dL_law_384 dL_law_385 dL_law_388 ?_
  refine sr_lVi (As := [.int (pp_bI (decide (xs (i + 1) ≠ 0)))]) (rest := []) (lz_fix hF) (k4_trapping l D tX aX (pp_bI (decide (xs (i + 1) ≠ 0))) Mx r Mx' f1) (cwV 1 hF.2.2.2.2.1 (sr_goodV qmL_36 qiX4_trapping qsX4_trapping qnX4 qcX4_trapping) rfl rfl rfl qdX4_trapping ⟨Nat.le_of_ble_eq_true rfl, Nat.le_of_ble_eq_true rfl⟩) hZ.1 hZ.2.1.2.1 hZ.2.2 (fun _ h => h) (xo_0 tX aX) rfl hl.1 rfl (Nat.le_of_ble_eq_true rfl) hroom dL_law_389 (fun H1 locs1 hw1 hP1 => ?_)
  have hY : sr_H D vwCl (yty tY) aY (ycf tY aY) 26 (lz_A s) s My H1 locs1 := ⟨hZ.2.1.1, hP1, hZ.2.1.2.2.1, hw1.2.2.2⟩
  refine lv_aload_n hF.1 hF.2.1 dL_law_392 rfl (lv_at hl 1 rfl) ?_
  refine lz_argB (j := 1) hF hw1.2.2.2 hl (by omega) hL rfl dL_law_393 dL_law_394 dL_law_395 dL_law_396 dL_law_397 dL_law_398 dL_law_401 dL_law_402 dL_law_405 ?_
  refine sr_lVi (As := [.int (pp_bI (decide (xs (i + 1) ≠ 0)))]) (rest := [.int r]) (lz_fix hF) (k5_trapping l D tY aY (pp_bI (decide (xs (i + 1) ≠ 0))) My r My' f2) (cwV 1 hF.2.2.2.2.1 (sr_goodV qmL_40 qiX5_trapping qsX5_trapping qnX5 qcX5_trapping) rfl rfl rfl qdX5_trapping ⟨Nat.le_of_ble_eq_true rfl, Nat.le_of_ble_eq_true rfl⟩) hY hw1.2.1 (fun a b ha hb h => hZ.2.2 b a hb ha h.symm) (fun _ h => h) (yo_0 tY aY) rfl hl.1 rfl (Nat.le_of_ble_eq_true rfl) hroom dL_law_406 (fun H2 locs2 hw2 hP2 => ?_)
  have hZ2 : lz_Z D tX tY aX aY s Mx' My' H2 locs2 := ⟨⟨hw1.1, hP2, hw1.2.2.1, hw2.2.2.2⟩, hw2, hZ.2.2⟩
  refine lv_icmp_eq (tgt := 1272) hF.1 hF.2.1 dL_law_409 (by decide) (fun _ => ?_) (fun h => absurd rfl h)
  exact kk _ _ _ _ hR' hZ2
set_option maxRecDepth 100000 in
set_option maxHeartbeats 4000000 in
theorem lc_6 {p : Program} {l : Launch} {e : Env} {s : State} {m : MethodId} {below : List Frame} {meth : Method} {c : Code} {H : Heap} {locs : List Loc} {Q : State → Prop} {kc ks b L : Nat} {xs : Nat → Int32} {ls : Array Slot} {D : va_G} {tX tY : Nat → ClassId} {aX aY : Nat → Nat} {Mx My : sr_M} {i : Nat} (hF : lz_F p s m c b L xs) (hZ : lz_Z D tX tY aX aY s Mx My H locs) (hR : Rel Mx My) (hroom : kc ≤ room_1.cells ∧ ks ≤ room_1.slots) (hi : i + 6 ≤ L) (hL : L ≤ 3072) (hl : lv_has ls 4 (lz_l aX aY b i)) (kk : lz_G p l e s m below meth c Q kc ks b D tX tY aX aY ls) : W p l e room_1 s m #[Value.ref b] below meth c H locs kc ks Q (F0 m 414 ls []) := by
  obtain ⟨r, f1, f2⟩ := al_about hR (xs (i + 1)) (xs (i + 2))
  refine lv_aload_n hF.1 hF.2.1 dL_law_414 rfl (lv_at hl 2 rfl) ?_
  refine lz_arg (j := 1) hF hZ.1.2.2.2 hl (by omega) hL rfl dL_law_415 dL_law_416 dL_law_417 dL_law_418 dL_law_419 ?_
  refine lz_arg (j := 2) hF hZ.1.2.2.2 hl (by omega) hL rfl dL_law_420 dL_law_421 dL_law_422 dL_law_423 dL_law_424 ?_
  refine sr_lVi (As := [.int (xs (i + 1)), .int (xs (i + 2))]) (rest := []) (lz_fix hF) (k4_about l D tX aX (xs (i + 1)) (xs (i + 2)) Mx r f1) (cwV 2 hF.2.2.2.2.1 (sr_goodV qmL_41 qiX4_about qsX4_about qnX4 qcX4_about) rfl rfl rfl qdX4_about ⟨Nat.le_of_ble_eq_true rfl, Nat.le_of_ble_eq_true rfl⟩) hZ.1 hZ.2.1.2.1 hZ.2.2 (fun _ h => h) (xo_0 tX aX) rfl hl.1 rfl (Nat.le_of_ble_eq_true rfl) hroom dL_law_425 (fun H1 locs1 hw1 hP1 => ?_)
  have hY : sr_H D vwCl (yty tY) aY (ycf tY aY) 26 (lz_A s) s My H1 locs1 := ⟨hZ.2.1.1, hP1, hZ.2.1.2.2.1, hw1.2.2.2⟩
  refine lv_aload_n hF.1 hF.2.1 dL_law_428 rfl (lv_at hl 1 rfl) ?_
  refine lz_arg (j := 1) hF hw1.2.2.2 hl (by omega) hL rfl dL_law_429 dL_law_430 dL_law_431 dL_law_432 dL_law_433 ?_
  refine lz_arg (j := 2) hF hw1.2.2.2 hl (by omega) hL rfl dL_law_434 dL_law_435 dL_law_436 dL_law_437 dL_law_438 ?_
  refine sr_lVi (As := [.int (xs (i + 1)), .int (xs (i + 2))]) (rest := [.int r]) (lz_fix hF) (k5_about l D tY aY (xs (i + 1)) (xs (i + 2)) My r f2) (cwV 2 hF.2.2.2.2.1 (sr_goodV qmL_44 qiX5_about qsX5_about qnX5 qcX5_about) rfl rfl rfl qdX5_about ⟨Nat.le_of_ble_eq_true rfl, Nat.le_of_ble_eq_true rfl⟩) hY hw1.2.1 (fun a b ha hb h => hZ.2.2 b a hb ha h.symm) (fun _ h => h) (yo_0 tY aY) rfl hl.1 rfl (Nat.le_of_ble_eq_true rfl) hroom dL_law_439 (fun H2 locs2 hw2 hP2 => ?_)
  have hZ2 : lz_Z D tX tY aX aY s Mx My H2 locs2 := ⟨⟨hw1.1, hP2, hw1.2.2.1, hw2.2.2.2⟩, hw2, hZ.2.2⟩
  refine lv_icmp_eq (tgt := 1272) hF.1 hF.2.1 dL_law_442 (by decide) (fun _ => ?_) (fun h => absurd rfl h)
  exact kk _ _ _ _ hR hZ2
set_option maxRecDepth 100000 in
set_option maxHeartbeats 4000000 in
theorem lc_7 {p : Program} {l : Launch} {e : Env} {s : State} {m : MethodId} {below : List Frame} {meth : Method} {c : Code} {H : Heap} {locs : List Loc} {Q : State → Prop} {kc ks b L : Nat} {xs : Nat → Int32} {ls : Array Slot} {D : va_G} {tX tY : Nat → ClassId} {aX aY : Nat → Nat} {Mx My : sr_M} {i : Nat} (hF : lz_F p s m c b L xs) (hZ : lz_Z D tX tY aX aY s Mx My H locs) (hR : Rel Mx My) (hroom : kc ≤ room_1.cells ∧ ks ≤ room_1.slots) (hi : i + 6 ≤ L) (hL : L ≤ 3072) (hl : lv_has ls 4 (lz_l aX aY b i)) (kk : lz_G p l e s m below meth c Q kc ks b D tX tY aX aY ls) : W p l e room_1 s m #[Value.ref b] below meth c H locs kc ks Q (F0 m 447 ls []) := by
  obtain ⟨r, f1, f2⟩ := al_of hR (xs (i + 1)) (xs (i + 2))
  refine lv_aload_n hF.1 hF.2.1 dL_law_447 rfl (lv_at hl 2 rfl) ?_
  refine lz_arg (j := 1) hF hZ.1.2.2.2 hl (by omega) hL rfl dL_law_448 dL_law_449 dL_law_450 dL_law_451 dL_law_452 ?_
  refine lz_arg (j := 2) hF hZ.1.2.2.2 hl (by omega) hL rfl dL_law_453 dL_law_454 dL_law_455 dL_law_456 dL_law_457 ?_
  refine sr_lVi (As := [.int (xs (i + 1)), .int (xs (i + 2))]) (rest := []) (lz_fix hF) (k4_of l D tX aX (xs (i + 1)) (xs (i + 2)) Mx r f1) (cwV 2 hF.2.2.2.2.1 (sr_goodV qmL_45 qiX4_of qsX4_of qnX4 qcX4_of) rfl rfl rfl qdX4_of ⟨Nat.le_of_ble_eq_true rfl, Nat.le_of_ble_eq_true rfl⟩) hZ.1 hZ.2.1.2.1 hZ.2.2 (fun _ h => h) (xo_0 tX aX) rfl hl.1 rfl (Nat.le_of_ble_eq_true rfl) hroom dL_law_458 (fun H1 locs1 hw1 hP1 => ?_)
  have hY : sr_H D vwCl (yty tY) aY (ycf tY aY) 26 (lz_A s) s My H1 locs1 := ⟨hZ.2.1.1, hP1, hZ.2.1.2.2.1, hw1.2.2.2⟩
  refine lv_aload_n hF.1 hF.2.1 dL_law_461 rfl (lv_at hl 1 rfl) ?_
  refine lz_arg (j := 1) hF hw1.2.2.2 hl (by omega) hL rfl dL_law_462 dL_law_463 dL_law_464 dL_law_465 dL_law_466 ?_
  refine lz_arg (j := 2) hF hw1.2.2.2 hl (by omega) hL rfl dL_law_467 dL_law_468 dL_law_469 dL_law_470 dL_law_471 ?_
  refine sr_lVi (As := [.int (xs (i + 1)), .int (xs (i + 2))]) (rest := [.int r]) (lz_fix hF) (k5_of l D tY aY (xs (i + 1)) (xs (i + 2)) My r f2) (cwV 2 hF.2.2.2.2.1 (sr_goodV qmL_48 qiX5_of qsX5_of qnX5 qcX5_of) rfl rfl rfl qdX5_of ⟨Nat.le_of_ble_eq_true rfl, Nat.le_of_ble_eq_true rfl⟩) hY hw1.2.1 (fun a b ha hb h => hZ.2.2 b a hb ha h.symm) (fun _ h => h) (yo_0 tY aY) rfl hl.1 rfl (Nat.le_of_ble_eq_true rfl) hroom dL_law_472 (fun H2 locs2 hw2 hP2 => ?_)
  have hZ2 : lz_Z D tX tY aX aY s Mx My H2 locs2 := ⟨⟨hw1.1, hP2, hw1.2.2.1, hw2.2.2.2⟩, hw2, hZ.2.2⟩
  refine lv_icmp_eq (tgt := 1272) hF.1 hF.2.1 dL_law_475 (by decide) (fun _ => ?_) (fun h => absurd rfl h)
  exact kk _ _ _ _ hR hZ2
set_option maxRecDepth 100000 in
set_option maxHeartbeats 4000000 in
theorem lc_8 {p : Program} {l : Launch} {e : Env} {s : State} {m : MethodId} {below : List Frame} {meth : Method} {c : Code} {H : Heap} {locs : List Loc} {Q : State → Prop} {kc ks b L : Nat} {xs : Nat → Int32} {ls : Array Slot} {D : va_G} {tX tY : Nat → ClassId} {aX aY : Nat → Nat} {Mx My : sr_M} {i : Nat} (hF : lz_F p s m c b L xs) (hZ : lz_Z D tX tY aX aY s Mx My H locs) (hR : Rel Mx My) (hroom : kc ≤ room_1.cells ∧ ks ≤ room_1.slots) (hi : i + 6 ≤ L) (hL : L ≤ 3072) (hl : lv_has ls 4 (lz_l aX aY b i)) (kk : lz_G p l e s m below meth c Q kc ks b D tX tY aX aY ls) : W p l e room_1 s m #[Value.ref b] below meth c H locs kc ks Q (F0 m 480 ls []) := by
  obtain ⟨r, f1, f2⟩ := al_ranked hR (xs (i + 1))
  refine lv_aload_n hF.1 hF.2.1 dL_law_480 rfl (lv_at hl 2 rfl) ?_
  refine lz_arg (j := 1) hF hZ.1.2.2.2 hl (by omega) hL rfl dL_law_481 dL_law_482 dL_law_483 dL_law_484 dL_law_485 ?_
  refine sr_lVi (As := [.int (xs (i + 1))]) (rest := []) (lz_fix hF) (k4_ranked l D tX aX (xs (i + 1)) Mx r f1) (cwV 1 hF.2.2.2.2.1 (sr_goodV qmL_49 qiX4_ranked qsX4_ranked qnX4 qcX4_ranked) rfl rfl rfl qdX4_ranked ⟨Nat.le_of_ble_eq_true rfl, Nat.le_of_ble_eq_true rfl⟩) hZ.1 hZ.2.1.2.1 hZ.2.2 (fun _ h => h) (xo_0 tX aX) rfl hl.1 rfl (Nat.le_of_ble_eq_true rfl) hroom dL_law_486 (fun H1 locs1 hw1 hP1 => ?_)
  have hY : sr_H D vwCl (yty tY) aY (ycf tY aY) 26 (lz_A s) s My H1 locs1 := ⟨hZ.2.1.1, hP1, hZ.2.1.2.2.1, hw1.2.2.2⟩
  refine lv_aload_n hF.1 hF.2.1 dL_law_489 rfl (lv_at hl 1 rfl) ?_
  refine lz_arg (j := 1) hF hw1.2.2.2 hl (by omega) hL rfl dL_law_490 dL_law_491 dL_law_492 dL_law_493 dL_law_494 ?_
  refine sr_lVi (As := [.int (xs (i + 1))]) (rest := [.int r]) (lz_fix hF) (k5_ranked l D tY aY (xs (i + 1)) My r f2) (cwV 1 hF.2.2.2.2.1 (sr_goodV qmL_52 qiX5_ranked qsX5_ranked qnX5 qcX5_ranked) rfl rfl rfl qdX5_ranked ⟨Nat.le_of_ble_eq_true rfl, Nat.le_of_ble_eq_true rfl⟩) hY hw1.2.1 (fun a b ha hb h => hZ.2.2 b a hb ha h.symm) (fun _ h => h) (yo_0 tY aY) rfl hl.1 rfl (Nat.le_of_ble_eq_true rfl) hroom dL_law_495 (fun H2 locs2 hw2 hP2 => ?_)
  have hZ2 : lz_Z D tX tY aX aY s Mx My H2 locs2 := ⟨⟨hw1.1, hP2, hw1.2.2.1, hw2.2.2.2⟩, hw2, hZ.2.2⟩
  refine lv_icmp_eq (tgt := 1272) hF.1 hF.2.1 dL_law_498 (by decide) (fun _ => ?_) (fun h => absurd rfl h)
  exact kk _ _ _ _ hR hZ2
set_option maxRecDepth 100000 in
set_option maxHeartbeats 4000000 in
theorem lc_9 {p : Program} {l : Launch} {e : Env} {s : State} {m : MethodId} {below : List Frame} {meth : Method} {c : Code} {H : Heap} {locs : List Loc} {Q : State → Prop} {kc ks b L : Nat} {xs : Nat → Int32} {ls : Array Slot} {D : va_G} {tX tY : Nat → ClassId} {aX aY : Nat → Nat} {Mx My : sr_M} {i : Nat} (hF : lz_F p s m c b L xs) (hZ : lz_Z D tX tY aX aY s Mx My H locs) (hR : Rel Mx My) (hroom : kc ≤ room_1.cells ∧ ks ≤ room_1.slots) (hi : i + 6 ≤ L) (hL : L ≤ 3072) (hl : lv_has ls 4 (lz_l aX aY b i)) (kk : lz_G p l e s m below meth c Q kc ks b D tX tY aX aY ls) : W p l e room_1 s m #[Value.ref b] below meth c H locs kc ks Q (F0 m 503 ls []) := by
  obtain ⟨r, Mx', My', f1, f2, hR'⟩ := al_core hR (xs (i + 1)) (xs (i + 2)) (xs (i + 3))
  refine lv_aload_n hF.1 hF.2.1 dL_law_503 rfl (lv_at hl 2 rfl) ?_
  refine lz_arg (j := 1) hF hZ.1.2.2.2 hl (by omega) hL rfl dL_law_504 dL_law_505 dL_law_506 dL_law_507 dL_law_508 ?_
  refine lz_arg (j := 2) hF hZ.1.2.2.2 hl (by omega) hL rfl dL_law_509 dL_law_510 dL_law_511 dL_law_512 dL_law_513 ?_
  refine lz_arg (j := 3) hF hZ.1.2.2.2 hl (by omega) hL rfl dL_law_514 dL_law_515 dL_law_516 dL_law_517 dL_law_518 ?_
  refine sr_lVi (As := [.int (xs (i + 1)), .int (xs (i + 2)), .int (xs (i + 3))]) (rest := []) (lz_fix hF) (k4_core l D tX aX (xs (i + 1)) (xs (i + 2)) (xs (i + 3)) Mx r Mx' f1) (cwV 3 hF.2.2.2.2.1 (sr_goodV qmL_53 qiX4_core qsX4_core qnX4 qcX4_core) rfl rfl rfl qdX4_core ⟨Nat.le_of_ble_eq_true rfl, Nat.le_of_ble_eq_true rfl⟩) hZ.1 hZ.2.1.2.1 hZ.2.2 (fun _ h => h) (xo_0 tX aX) rfl hl.1 rfl (Nat.le_of_ble_eq_true rfl) hroom dL_law_519 (fun H1 locs1 hw1 hP1 => ?_)
  have hY : sr_H D vwCl (yty tY) aY (ycf tY aY) 26 (lz_A s) s My H1 locs1 := ⟨hZ.2.1.1, hP1, hZ.2.1.2.2.1, hw1.2.2.2⟩
  refine lv_aload_n hF.1 hF.2.1 dL_law_522 rfl (lv_at hl 1 rfl) ?_
  refine lz_arg (j := 1) hF hw1.2.2.2 hl (by omega) hL rfl dL_law_523 dL_law_524 dL_law_525 dL_law_526 dL_law_527 ?_
  refine lz_arg (j := 2) hF hw1.2.2.2 hl (by omega) hL rfl dL_law_528 dL_law_529 dL_law_530 dL_law_531 dL_law_532 ?_
  refine lz_arg (j := 3) hF hw1.2.2.2 hl (by omega) hL rfl dL_law_533 dL_law_534 dL_law_535 dL_law_536 dL_law_537 ?_
  refine sr_lVi (As := [.int (xs (i + 1)), .int (xs (i + 2)), .int (xs (i + 3))]) (rest := [.int r]) (lz_fix hF) (k5_core l D tY aY (xs (i + 1)) (xs (i + 2)) (xs (i + 3)) My r My' f2) (cwV 3 hF.2.2.2.2.1 (sr_goodV qmL_57 qiX5_core qsX5_core qnX5 qcX5_core) rfl rfl rfl qdX5_core ⟨Nat.le_of_ble_eq_true rfl, Nat.le_of_ble_eq_true rfl⟩) hY hw1.2.1 (fun a b ha hb h => hZ.2.2 b a hb ha h.symm) (fun _ h => h) (yo_0 tY aY) rfl hl.1 rfl (Nat.le_of_ble_eq_true rfl) hroom dL_law_538 (fun H2 locs2 hw2 hP2 => ?_)
  have hZ2 : lz_Z D tX tY aX aY s Mx' My' H2 locs2 := ⟨⟨hw1.1, hP2, hw1.2.2.1, hw2.2.2.2⟩, hw2, hZ.2.2⟩
  refine lv_icmp_eq (tgt := 1272) hF.1 hF.2.1 dL_law_541 (by decide) (fun _ => ?_) (fun h => absurd rfl h)
  exact kk _ _ _ _ hR' hZ2
set_option maxRecDepth 100000 in
set_option maxHeartbeats 4000000 in
theorem lc_10 {p : Program} {l : Launch} {e : Env} {s : State} {m : MethodId} {below : List Frame} {meth : Method} {c : Code} {H : Heap} {locs : List Loc} {Q : State → Prop} {kc ks b L : Nat} {xs : Nat → Int32} {ls : Array Slot} {D : va_G} {tX tY : Nat → ClassId} {aX aY : Nat → Nat} {Mx My : sr_M} {i : Nat} (hF : lz_F p s m c b L xs) (hZ : lz_Z D tX tY aX aY s Mx My H locs) (hR : Rel Mx My) (hroom : kc ≤ room_1.cells ∧ ks ≤ room_1.slots) (hi : i + 6 ≤ L) (hL : L ≤ 3072) (hl : lv_has ls 4 (lz_l aX aY b i)) (kk : lz_G p l e s m below meth c Q kc ks b D tX tY aX aY ls) : W p l e room_1 s m #[Value.ref b] below meth c H locs kc ks Q (F0 m 546 ls []) := by
  obtain ⟨r, Mx', My', f1, f2, hR'⟩ := al_cell hR (xs (i + 1)) (xs (i + 2)) (lz_J (xs (i + 3)) (xs (i + 4))) (xs (i + 5))
  refine lv_aload_n hF.1 hF.2.1 dL_law_546 rfl (lv_at hl 2 rfl) ?_
  refine lz_arg (j := 1) hF hZ.1.2.2.2 hl (by omega) hL rfl dL_law_547 dL_law_548 dL_law_549 dL_law_550 dL_law_551 ?_
  refine lz_arg (j := 2) hF hZ.1.2.2.2 hl (by omega) hL rfl dL_law_552 dL_law_553 dL_law_554 dL_law_555 dL_law_556 ?_
  refine lz_argJ hF hZ.1.2.2.2 hl hi hL dL_law_557 dL_law_558 dL_law_559 dL_law_560 dL_law_561 dL_law_562 dL_law_563 dL_law_565 dL_law_566 dL_law_567 dL_law_568 dL_law_569 dL_law_570 dL_law_571 dL_law_572 dL_law_575 dL_law_576 ?_
  refine lz_arg (j := 5) hF hZ.1.2.2.2 hl (by omega) hL rfl dL_law_577 dL_law_578 dL_law_579 dL_law_580 dL_law_581 ?_
  refine sr_lVi (As := [.int (xs (i + 1)), .int (xs (i + 2)), .long (lz_J (xs (i + 3)) (xs (i + 4))), .int (xs (i + 5))]) (rest := []) (lz_fix hF) (k4_cell l D tX aX (xs (i + 1)) (xs (i + 2)) (lz_J (xs (i + 3)) (xs (i + 4))) (xs (i + 5)) Mx r Mx' f1) (cwV 4 hF.2.2.2.2.1 (sr_goodV qmL_60 qiX4_cell qsX4_cell qnX4 qcX4_cell) rfl rfl rfl qdX4_cell ⟨Nat.le_of_ble_eq_true rfl, Nat.le_of_ble_eq_true rfl⟩) hZ.1 hZ.2.1.2.1 hZ.2.2 (fun _ h => h) (xo_0 tX aX) rfl hl.1 rfl (Nat.le_of_ble_eq_true rfl) hroom dL_law_582 (fun H1 locs1 hw1 hP1 => ?_)
  have hY : sr_H D vwCl (yty tY) aY (ycf tY aY) 26 (lz_A s) s My H1 locs1 := ⟨hZ.2.1.1, hP1, hZ.2.1.2.2.1, hw1.2.2.2⟩
  refine lv_aload_n hF.1 hF.2.1 dL_law_585 rfl (lv_at hl 1 rfl) ?_
  refine lz_arg (j := 1) hF hw1.2.2.2 hl (by omega) hL rfl dL_law_586 dL_law_587 dL_law_588 dL_law_589 dL_law_590 ?_
  refine lz_arg (j := 2) hF hw1.2.2.2 hl (by omega) hL rfl dL_law_591 dL_law_592 dL_law_593 dL_law_594 dL_law_595 ?_
  refine lz_argJ hF hw1.2.2.2 hl hi hL dL_law_596 dL_law_597 dL_law_598 dL_law_599 dL_law_600 dL_law_601 dL_law_602 dL_law_604 dL_law_605 dL_law_606 dL_law_607 dL_law_608 dL_law_609 dL_law_610 dL_law_611 dL_law_614 dL_law_615 ?_
  refine lz_arg (j := 5) hF hw1.2.2.2 hl (by omega) hL rfl dL_law_616 dL_law_617 dL_law_618 dL_law_619 dL_law_620 ?_
  refine sr_lVi (As := [.int (xs (i + 1)), .int (xs (i + 2)), .long (lz_J (xs (i + 3)) (xs (i + 4))), .int (xs (i + 5))]) (rest := [.int r]) (lz_fix hF) (k5_cell l D tY aY (xs (i + 1)) (xs (i + 2)) (lz_J (xs (i + 3)) (xs (i + 4))) (xs (i + 5)) My r My' f2) (cwV 4 hF.2.2.2.2.1 (sr_goodV qmL_64 qiX5_cell qsX5_cell qnX5 qcX5_cell) rfl rfl rfl qdX5_cell ⟨Nat.le_of_ble_eq_true rfl, Nat.le_of_ble_eq_true rfl⟩) hY hw1.2.1 (fun a b ha hb h => hZ.2.2 b a hb ha h.symm) (fun _ h => h) (yo_0 tY aY) rfl hl.1 rfl (Nat.le_of_ble_eq_true rfl) hroom dL_law_621 (fun H2 locs2 hw2 hP2 => ?_)
  have hZ2 : lz_Z D tX tY aX aY s Mx' My' H2 locs2 := ⟨⟨hw1.1, hP2, hw1.2.2.1, hw2.2.2.2⟩, hw2, hZ.2.2⟩
  refine lv_icmp_eq (tgt := 1272) hF.1 hF.2.1 dL_law_624 (by decide) (fun _ => ?_) (fun h => absurd rfl h)
  exact kk _ _ _ _ hR' hZ2
set_option maxRecDepth 100000 in
set_option maxHeartbeats 4000000 in
theorem lc_11 {p : Program} {l : Launch} {e : Env} {s : State} {m : MethodId} {below : List Frame} {meth : Method} {c : Code} {H : Heap} {locs : List Loc} {Q : State → Prop} {kc ks b L : Nat} {xs : Nat → Int32} {ls : Array Slot} {D : va_G} {tX tY : Nat → ClassId} {aX aY : Nat → Nat} {Mx My : sr_M} {i : Nat} (hF : lz_F p s m c b L xs) (hZ : lz_Z D tX tY aX aY s Mx My H locs) (hR : Rel Mx My) (hroom : kc ≤ room_1.cells ∧ ks ≤ room_1.slots) (hi : i + 6 ≤ L) (hL : L ≤ 3072) (hl : lv_has ls 4 (lz_l aX aY b i)) (kk : lz_G p l e s m below meth c Q kc ks b D tX tY aX aY ls) : W p l e room_1 s m #[Value.ref b] below meth c H locs kc ks Q (F0 m 629 ls []) := by
  obtain ⟨r, Mx', My', f1, f2, hR'⟩ := al_wild hR (xs (i + 1)) (xs (i + 2)) (xs (i + 3))
  refine lv_aload_n hF.1 hF.2.1 dL_law_629 rfl (lv_at hl 2 rfl) ?_
  refine lz_arg (j := 1) hF hZ.1.2.2.2 hl (by omega) hL rfl dL_law_630 dL_law_631 dL_law_632 dL_law_633 dL_law_634 ?_
  refine lz_arg (j := 2) hF hZ.1.2.2.2 hl (by omega) hL rfl dL_law_635 dL_law_636 dL_law_637 dL_law_638 dL_law_639 ?_
  refine lz_arg (j := 3) hF hZ.1.2.2.2 hl (by omega) hL rfl dL_law_640 dL_law_641 dL_law_642 dL_law_643 dL_law_644 ?_
  refine sr_lVi (As := [.int (xs (i + 1)), .int (xs (i + 2)), .int (xs (i + 3))]) (rest := []) (lz_fix hF) (k4_wild l D tX aX (xs (i + 1)) (xs (i + 2)) (xs (i + 3)) Mx r Mx' f1) (cwV 3 hF.2.2.2.2.1 (sr_goodV qmL_65 qiX4_wild qsX4_wild qnX4 qcX4_wild) rfl rfl rfl qdX4_wild ⟨Nat.le_of_ble_eq_true rfl, Nat.le_of_ble_eq_true rfl⟩) hZ.1 hZ.2.1.2.1 hZ.2.2 (fun _ h => h) (xo_0 tX aX) rfl hl.1 rfl (Nat.le_of_ble_eq_true rfl) hroom dL_law_645 (fun H1 locs1 hw1 hP1 => ?_)
  have hY : sr_H D vwCl (yty tY) aY (ycf tY aY) 26 (lz_A s) s My H1 locs1 := ⟨hZ.2.1.1, hP1, hZ.2.1.2.2.1, hw1.2.2.2⟩
  refine lv_aload_n hF.1 hF.2.1 dL_law_648 rfl (lv_at hl 1 rfl) ?_
  refine lz_arg (j := 1) hF hw1.2.2.2 hl (by omega) hL rfl dL_law_649 dL_law_650 dL_law_651 dL_law_652 dL_law_653 ?_
  refine lz_arg (j := 2) hF hw1.2.2.2 hl (by omega) hL rfl dL_law_654 dL_law_655 dL_law_656 dL_law_657 dL_law_658 ?_
  refine lz_arg (j := 3) hF hw1.2.2.2 hl (by omega) hL rfl dL_law_659 dL_law_660 dL_law_661 dL_law_662 dL_law_663 ?_
  refine sr_lVi (As := [.int (xs (i + 1)), .int (xs (i + 2)), .int (xs (i + 3))]) (rest := [.int r]) (lz_fix hF) (k5_wild l D tY aY (xs (i + 1)) (xs (i + 2)) (xs (i + 3)) My r My' f2) (cwV 3 hF.2.2.2.2.1 (sr_goodV qmL_68 qiX5_wild qsX5_wild qnX5 qcX5_wild) rfl rfl rfl qdX5_wild ⟨Nat.le_of_ble_eq_true rfl, Nat.le_of_ble_eq_true rfl⟩) hY hw1.2.1 (fun a b ha hb h => hZ.2.2 b a hb ha h.symm) (fun _ h => h) (yo_0 tY aY) rfl hl.1 rfl (Nat.le_of_ble_eq_true rfl) hroom dL_law_664 (fun H2 locs2 hw2 hP2 => ?_)
  have hZ2 : lz_Z D tX tY aX aY s Mx' My' H2 locs2 := ⟨⟨hw1.1, hP2, hw1.2.2.1, hw2.2.2.2⟩, hw2, hZ.2.2⟩
  refine lv_icmp_eq (tgt := 1272) hF.1 hF.2.1 dL_law_667 (by decide) (fun _ => ?_) (fun h => absurd rfl h)
  exact kk _ _ _ _ hR' hZ2
set_option maxRecDepth 100000 in
set_option maxHeartbeats 4000000 in
theorem lc_12 {p : Program} {l : Launch} {e : Env} {s : State} {m : MethodId} {below : List Frame} {meth : Method} {c : Code} {H : Heap} {locs : List Loc} {Q : State → Prop} {kc ks b L : Nat} {xs : Nat → Int32} {ls : Array Slot} {D : va_G} {tX tY : Nat → ClassId} {aX aY : Nat → Nat} {Mx My : sr_M} {i : Nat} (hF : lz_F p s m c b L xs) (hZ : lz_Z D tX tY aX aY s Mx My H locs) (hR : Rel Mx My) (hroom : kc ≤ room_1.cells ∧ ks ≤ room_1.slots) (hi : i + 6 ≤ L) (hL : L ≤ 3072) (hl : lv_has ls 4 (lz_l aX aY b i)) (kk : lz_G p l e s m below meth c Q kc ks b D tX tY aX aY ls) : W p l e room_1 s m #[Value.ref b] below meth c H locs kc ks Q (F0 m 672 ls []) := by
  obtain ⟨r, Mx', My', f1, f2, hR'⟩ := al_splice hR (xs (i + 1)) (xs (i + 2)) (xs (i + 3)) (xs (i + 4)) (xs (i + 5))
  refine lv_aload_n hF.1 hF.2.1 dL_law_672 rfl (lv_at hl 2 rfl) ?_
  refine lz_arg (j := 1) hF hZ.1.2.2.2 hl (by omega) hL rfl dL_law_673 dL_law_674 dL_law_675 dL_law_676 dL_law_677 ?_
  refine lz_arg (j := 2) hF hZ.1.2.2.2 hl (by omega) hL rfl dL_law_678 dL_law_679 dL_law_680 dL_law_681 dL_law_682 ?_
  refine lz_arg (j := 3) hF hZ.1.2.2.2 hl (by omega) hL rfl dL_law_683 dL_law_684 dL_law_685 dL_law_686 dL_law_687 ?_
  refine lz_arg (j := 4) hF hZ.1.2.2.2 hl (by omega) hL rfl dL_law_688 dL_law_689 dL_law_690 dL_law_691 dL_law_692 ?_
  refine lz_arg (j := 5) hF hZ.1.2.2.2 hl (by omega) hL rfl dL_law_693 dL_law_694 dL_law_695 dL_law_696 dL_law_697 ?_
  refine sr_lVi (As := [.int (xs (i + 1)), .int (xs (i + 2)), .int (xs (i + 3)), .int (xs (i + 4)), .int (xs (i + 5))]) (rest := []) (lz_fix hF) (k4_splice l D tX aX (xs (i + 1)) (xs (i + 2)) (xs (i + 3)) (xs (i + 4)) (xs (i + 5)) Mx r Mx' f1) (cwV 5 hF.2.2.2.2.1 (sr_goodV qmL_69 qiX4_splice qsX4_splice qnX4 qcX4_splice) rfl rfl rfl qdX4_splice ⟨Nat.le_of_ble_eq_true rfl, Nat.le_of_ble_eq_true rfl⟩) hZ.1 hZ.2.1.2.1 hZ.2.2 (fun _ h => h) (xo_0 tX aX) rfl hl.1 rfl (Nat.le_of_ble_eq_true rfl) hroom dL_law_698 (fun H1 locs1 hw1 hP1 => ?_)
  have hY : sr_H D vwCl (yty tY) aY (ycf tY aY) 26 (lz_A s) s My H1 locs1 := ⟨hZ.2.1.1, hP1, hZ.2.1.2.2.1, hw1.2.2.2⟩
  refine lv_aload_n hF.1 hF.2.1 dL_law_701 rfl (lv_at hl 1 rfl) ?_
  refine lz_arg (j := 1) hF hw1.2.2.2 hl (by omega) hL rfl dL_law_702 dL_law_703 dL_law_704 dL_law_705 dL_law_706 ?_
  refine lz_arg (j := 2) hF hw1.2.2.2 hl (by omega) hL rfl dL_law_707 dL_law_708 dL_law_709 dL_law_710 dL_law_711 ?_
  refine lz_arg (j := 3) hF hw1.2.2.2 hl (by omega) hL rfl dL_law_712 dL_law_713 dL_law_714 dL_law_715 dL_law_716 ?_
  refine lz_arg (j := 4) hF hw1.2.2.2 hl (by omega) hL rfl dL_law_717 dL_law_718 dL_law_719 dL_law_720 dL_law_721 ?_
  refine lz_arg (j := 5) hF hw1.2.2.2 hl (by omega) hL rfl dL_law_722 dL_law_723 dL_law_724 dL_law_725 dL_law_726 ?_
  refine sr_lVi (As := [.int (xs (i + 1)), .int (xs (i + 2)), .int (xs (i + 3)), .int (xs (i + 4)), .int (xs (i + 5))]) (rest := [.int r]) (lz_fix hF) (k5_splice l D tY aY (xs (i + 1)) (xs (i + 2)) (xs (i + 3)) (xs (i + 4)) (xs (i + 5)) My r My' f2) (cwV 5 hF.2.2.2.2.1 (sr_goodV qmL_73 qiX5_splice qsX5_splice qnX5 qcX5_splice) rfl rfl rfl qdX5_splice ⟨Nat.le_of_ble_eq_true rfl, Nat.le_of_ble_eq_true rfl⟩) hY hw1.2.1 (fun a b ha hb h => hZ.2.2 b a hb ha h.symm) (fun _ h => h) (yo_0 tY aY) rfl hl.1 rfl (Nat.le_of_ble_eq_true rfl) hroom dL_law_727 (fun H2 locs2 hw2 hP2 => ?_)
  have hZ2 : lz_Z D tX tY aX aY s Mx' My' H2 locs2 := ⟨⟨hw1.1, hP2, hw1.2.2.1, hw2.2.2.2⟩, hw2, hZ.2.2⟩
  refine lv_icmp_eq (tgt := 1272) hF.1 hF.2.1 dL_law_730 (by decide) (fun _ => ?_) (fun h => absurd rfl h)
  exact kk _ _ _ _ hR' hZ2
set_option maxRecDepth 100000 in
set_option maxHeartbeats 4000000 in
theorem lc_13 {p : Program} {l : Launch} {e : Env} {s : State} {m : MethodId} {below : List Frame} {meth : Method} {c : Code} {H : Heap} {locs : List Loc} {Q : State → Prop} {kc ks b L : Nat} {xs : Nat → Int32} {ls : Array Slot} {D : va_G} {tX tY : Nat → ClassId} {aX aY : Nat → Nat} {Mx My : sr_M} {i : Nat} (hF : lz_F p s m c b L xs) (hZ : lz_Z D tX tY aX aY s Mx My H locs) (hR : Rel Mx My) (hroom : kc ≤ room_1.cells ∧ ks ≤ room_1.slots) (hi : i + 6 ≤ L) (hL : L ≤ 3072) (hl : lv_has ls 4 (lz_l aX aY b i)) (kk : lz_G p l e s m below meth c Q kc ks b D tX tY aX aY ls) : W p l e room_1 s m #[Value.ref b] below meth c H locs kc ks Q (F0 m 735 ls []) := by
  obtain ⟨r, Mx', My', f1, f2, hR'⟩ := al_lose hR (xs (i + 1))
  refine lv_aload_n hF.1 hF.2.1 dL_law_735 rfl (lv_at hl 2 rfl) ?_
  refine lz_arg (j := 1) hF hZ.1.2.2.2 hl (by omega) hL rfl dL_law_736 dL_law_737 dL_law_738 dL_law_739 dL_law_740 ?_
  refine sr_lVi (As := [.int (xs (i + 1))]) (rest := []) (lz_fix hF) (k4_lose l D tX aX (xs (i + 1)) Mx r Mx' f1) (cwV 1 hF.2.2.2.2.1 (sr_goodV qmL_74 qiX4_lose qsX4_lose qnX4 qcX4_lose) rfl rfl rfl qdX4_lose ⟨Nat.le_of_ble_eq_true rfl, Nat.le_of_ble_eq_true rfl⟩) hZ.1 hZ.2.1.2.1 hZ.2.2 (fun _ h => h) (xo_0 tX aX) rfl hl.1 rfl (Nat.le_of_ble_eq_true rfl) hroom dL_law_741 (fun H1 locs1 hw1 hP1 => ?_)
  have hY : sr_H D vwCl (yty tY) aY (ycf tY aY) 26 (lz_A s) s My H1 locs1 := ⟨hZ.2.1.1, hP1, hZ.2.1.2.2.1, hw1.2.2.2⟩
  refine lv_aload_n hF.1 hF.2.1 dL_law_744 rfl (lv_at hl 1 rfl) ?_
  refine lz_arg (j := 1) hF hw1.2.2.2 hl (by omega) hL rfl dL_law_745 dL_law_746 dL_law_747 dL_law_748 dL_law_749 ?_
  refine sr_lVi (As := [.int (xs (i + 1))]) (rest := [.int r]) (lz_fix hF) (k5_lose l D tY aY (xs (i + 1)) My r My' f2) (cwV 1 hF.2.2.2.2.1 (sr_goodV qmL_77 qiX5_lose qsX5_lose qnX5 qcX5_lose) rfl rfl rfl qdX5_lose ⟨Nat.le_of_ble_eq_true rfl, Nat.le_of_ble_eq_true rfl⟩) hY hw1.2.1 (fun a b ha hb h => hZ.2.2 b a hb ha h.symm) (fun _ h => h) (yo_0 tY aY) rfl hl.1 rfl (Nat.le_of_ble_eq_true rfl) hroom dL_law_750 (fun H2 locs2 hw2 hP2 => ?_)
  have hZ2 : lz_Z D tX tY aX aY s Mx' My' H2 locs2 := ⟨⟨hw1.1, hP2, hw1.2.2.1, hw2.2.2.2⟩, hw2, hZ.2.2⟩
  refine lv_icmp_eq (tgt := 1272) hF.1 hF.2.1 dL_law_753 (by decide) (fun _ => ?_) (fun h => absurd rfl h)
  exact kk _ _ _ _ hR' hZ2
theorem lz_cmp (r : Int64) : lg_cmp r r = 0 := by
  unfold lg_cmp
  rw [if_neg (by rw [gt_iff_lt, Int64.lt_iff_toInt_lt]; omega), if_pos rfl]
set_option maxRecDepth 100000 in
set_option maxHeartbeats 4000000 in
theorem lc_14 {p : Program} {l : Launch} {e : Env} {s : State} {m : MethodId} {below : List Frame} {meth : Method} {c : Code} {H : Heap} {locs : List Loc} {Q : State → Prop} {kc ks b L : Nat} {xs : Nat → Int32} {ls : Array Slot} {D : va_G} {tX tY : Nat → ClassId} {aX aY : Nat → Nat} {Mx My : sr_M} {i : Nat} (hF : lz_F p s m c b L xs) (hZ : lz_Z D tX tY aX aY s Mx My H locs) (hR : Rel Mx My) (hroom : kc ≤ room_1.cells ∧ ks ≤ room_1.slots) (hi : i + 6 ≤ L) (hL : L ≤ 3072) (hl : lv_has ls 4 (lz_l aX aY b i)) (kk : lz_G p l e s m below meth c Q kc ks b D tX tY aX aY ls) : W p l e room_1 s m #[Value.ref b] below meth c H locs kc ks Q (F0 m 758 ls []) := by
  obtain ⟨r, f1, f2⟩ := al_told hR (xs (i + 1)) (xs (i + 2))
  refine lv_aload_n hF.1 hF.2.1 dL_law_758 rfl (lv_at hl 2 rfl) ?_
  refine lz_arg (j := 1) hF hZ.1.2.2.2 hl (by omega) hL rfl dL_law_759 dL_law_760 dL_law_761 dL_law_762 dL_law_763 ?_
  refine lz_arg (j := 2) hF hZ.1.2.2.2 hl (by omega) hL rfl dL_law_764 dL_law_765 dL_law_766 dL_law_767 dL_law_768 ?_
  refine sr_lVl (As := [.int (xs (i + 1)), .int (xs (i + 2))]) (rest := []) (lz_fix hF) (k4_told l D tX aX (xs (i + 1)) (xs (i + 2)) Mx r f1) (cwV 2 hF.2.2.2.2.1 (sr_goodV qmL_78 qiX4_told qsX4_told qnX4 qcX4_told) rfl rfl rfl qdX4_told ⟨Nat.le_of_ble_eq_true rfl, Nat.le_of_ble_eq_true rfl⟩) hZ.1 hZ.2.1.2.1 hZ.2.2 (fun _ h => h) (xo_0 tX aX) rfl hl.1 rfl (Nat.le_of_ble_eq_true rfl) hroom dL_law_769 (fun H1 locs1 hw1 hP1 => ?_)
  have hY : sr_H D vwCl (yty tY) aY (ycf tY aY) 26 (lz_A s) s My H1 locs1 := ⟨hZ.2.1.1, hP1, hZ.2.1.2.2.1, hw1.2.2.2⟩
  refine lv_aload_n hF.1 hF.2.1 dL_law_772 rfl (lv_at hl 1 rfl) ?_
  refine lz_arg (j := 1) hF hw1.2.2.2 hl (by omega) hL rfl dL_law_773 dL_law_774 dL_law_775 dL_law_776 dL_law_777 ?_
  refine lz_arg (j := 2) hF hw1.2.2.2 hl (by omega) hL rfl dL_law_778 dL_law_779 dL_law_780 dL_law_781 dL_law_782 ?_
  refine sr_lVl (As := [.int (xs (i + 1)), .int (xs (i + 2))]) (rest := [.long r]) (lz_fix hF) (k5_told l D tY aY (xs (i + 1)) (xs (i + 2)) My r f2) (cwV 2 hF.2.2.2.2.1 (sr_goodV qmL_82 qiX5_told qsX5_told qnX5 qcX5_told) rfl rfl rfl qdX5_told ⟨Nat.le_of_ble_eq_true rfl, Nat.le_of_ble_eq_true rfl⟩) hY hw1.2.1 (fun a b ha hb h => hZ.2.2 b a hb ha h.symm) (fun _ h => h) (yo_0 tY aY) rfl hl.1 rfl (Nat.le_of_ble_eq_true rfl) hroom dL_law_783 (fun H2 locs2 hw2 hP2 => ?_)
  have hZ2 : lz_Z D tX tY aX aY s Mx My H2 locs2 := ⟨⟨hw1.1, hP2, hw1.2.2.1, hw2.2.2.2⟩, hw2, hZ.2.2⟩
  refine W.lcmp hF.1 hF.2.1 dL_law_786 ?_
  refine lv_if_eq (tgt := 1272) hF.1 hF.2.1 dL_law_787 (by decide) (fun _ => ?_) (fun h => absurd (lz_cmp r) h)
  exact kk _ _ _ _ hR hZ2
set_option maxRecDepth 100000 in
set_option maxHeartbeats 4000000 in
theorem lc_15 {p : Program} {l : Launch} {e : Env} {s : State} {m : MethodId} {below : List Frame} {meth : Method} {c : Code} {H : Heap} {locs : List Loc} {Q : State → Prop} {kc ks b L : Nat} {xs : Nat → Int32} {ls : Array Slot} {D : va_G} {tX tY : Nat → ClassId} {aX aY : Nat → Nat} {Mx My : sr_M} {i : Nat} (hF : lz_F p s m c b L xs) (hZ : lz_Z D tX tY aX aY s Mx My H locs) (hR : Rel Mx My) (hroom : kc ≤ room_1.cells ∧ ks ≤ room_1.slots) (hi : i + 6 ≤ L) (hL : L ≤ 3072) (hl : lv_has ls 4 (lz_l aX aY b i)) (kk : lz_G p l e s m below meth c Q kc ks b D tX tY aX aY ls) : W p l e room_1 s m #[Value.ref b] below meth c H locs kc ks Q (F0 m 792 ls []) := by
  obtain ⟨r, Mx', My', f1, f2, hR'⟩ := al_pour hR (xs (i + 1)) (xs (i + 2)) (xs (i + 3)) (xs (i + 4))
  refine lv_aload_n hF.1 hF.2.1 dL_law_792 rfl (lv_at hl 2 rfl) ?_
  refine lz_arg (j := 1) hF hZ.1.2.2.2 hl (by omega) hL rfl dL_law_793 dL_law_794 dL_law_795 dL_law_796 dL_law_797 ?_
  refine lz_arg (j := 2) hF hZ.1.2.2.2 hl (by omega) hL rfl dL_law_798 dL_law_799 dL_law_800 dL_law_801 dL_law_802 ?_
  refine lz_arg (j := 3) hF hZ.1.2.2.2 hl (by omega) hL rfl dL_law_803 dL_law_804 dL_law_805 dL_law_806 dL_law_807 ?_
  refine lz_arg (j := 4) hF hZ.1.2.2.2 hl (by omega) hL rfl dL_law_808 dL_law_809 dL_law_810 dL_law_811 dL_law_812 ?_
  refine sr_lVi (As := [.int (xs (i + 1)), .int (xs (i + 2)), .int (xs (i + 3)), .int (xs (i + 4))]) (rest := []) (lz_fix hF) (k4_pour l D tX aX (xs (i + 1)) (xs (i + 2)) (xs (i + 3)) (xs (i + 4)) Mx r Mx' f1) (cwV 4 hF.2.2.2.2.1 (sr_goodV qmL_83 qiX4_pour qsX4_pour qnX4 qcX4_pour) rfl rfl rfl qdX4_pour ⟨Nat.le_of_ble_eq_true rfl, Nat.le_of_ble_eq_true rfl⟩) hZ.1 hZ.2.1.2.1 hZ.2.2 (fun _ h => h) (xo_0 tX aX) rfl hl.1 rfl (Nat.le_of_ble_eq_true rfl) hroom dL_law_813 (fun H1 locs1 hw1 hP1 => ?_)
  have hY : sr_H D vwCl (yty tY) aY (ycf tY aY) 26 (lz_A s) s My H1 locs1 := ⟨hZ.2.1.1, hP1, hZ.2.1.2.2.1, hw1.2.2.2⟩
  refine lv_aload_n hF.1 hF.2.1 dL_law_816 rfl (lv_at hl 1 rfl) ?_
  refine lz_arg (j := 1) hF hw1.2.2.2 hl (by omega) hL rfl dL_law_817 dL_law_818 dL_law_819 dL_law_820 dL_law_821 ?_
  refine lz_arg (j := 2) hF hw1.2.2.2 hl (by omega) hL rfl dL_law_822 dL_law_823 dL_law_824 dL_law_825 dL_law_826 ?_
  refine lz_arg (j := 3) hF hw1.2.2.2 hl (by omega) hL rfl dL_law_827 dL_law_828 dL_law_829 dL_law_830 dL_law_831 ?_
  refine lz_arg (j := 4) hF hw1.2.2.2 hl (by omega) hL rfl dL_law_832 dL_law_833 dL_law_834 dL_law_835 dL_law_836 ?_
  refine sr_lVi (As := [.int (xs (i + 1)), .int (xs (i + 2)), .int (xs (i + 3)), .int (xs (i + 4))]) (rest := [.int r]) (lz_fix hF) (k5_pour l D tY aY (xs (i + 1)) (xs (i + 2)) (xs (i + 3)) (xs (i + 4)) My r My' f2) (cwV 4 hF.2.2.2.2.1 (sr_goodV qmL_87 qiX5_pour qsX5_pour qnX5 qcX5_pour) rfl rfl rfl qdX5_pour ⟨Nat.le_of_ble_eq_true rfl, Nat.le_of_ble_eq_true rfl⟩) hY hw1.2.1 (fun a b ha hb h => hZ.2.2 b a hb ha h.symm) (fun _ h => h) (yo_0 tY aY) rfl hl.1 rfl (Nat.le_of_ble_eq_true rfl) hroom dL_law_837 (fun H2 locs2 hw2 hP2 => ?_)
  have hZ2 : lz_Z D tX tY aX aY s Mx' My' H2 locs2 := ⟨⟨hw1.1, hP2, hw1.2.2.1, hw2.2.2.2⟩, hw2, hZ.2.2⟩
  refine lv_icmp_eq (tgt := 1272) hF.1 hF.2.1 dL_law_840 (by decide) (fun _ => ?_) (fun h => absurd rfl h)
  exact kk _ _ _ _ hR' hZ2
set_option maxRecDepth 100000 in
set_option maxHeartbeats 4000000 in
theorem lc_16 {p : Program} {l : Launch} {e : Env} {s : State} {m : MethodId} {below : List Frame} {meth : Method} {c : Code} {H : Heap} {locs : List Loc} {Q : State → Prop} {kc ks b L : Nat} {xs : Nat → Int32} {ls : Array Slot} {D : va_G} {tX tY : Nat → ClassId} {aX aY : Nat → Nat} {Mx My : sr_M} {i : Nat} (hF : lz_F p s m c b L xs) (hZ : lz_Z D tX tY aX aY s Mx My H locs) (hR : Rel Mx My) (hroom : kc ≤ room_1.cells ∧ ks ≤ room_1.slots) (hi : i + 6 ≤ L) (hL : L ≤ 3072) (hl : lv_has ls 4 (lz_l aX aY b i)) (kk : lz_G p l e s m below meth c Q kc ks b D tX tY aX aY ls) : W p l e room_1 s m #[Value.ref b] below meth c H locs kc ks Q (F0 m 845 ls []) := by
  obtain ⟨r, Mx', My', f1, f2, hR'⟩ := op_begin hR 
  refine lv_aload_n hF.1 hF.2.1 dL_law_845 rfl (lv_at hl 2 rfl) ?_
  refine sr_lVi (As := []) (rest := []) (lz_fix hF) (k4_begin l D tX aX Mx r Mx' f1) (cwV 0 hF.2.2.2.2.1 (sr_goodV qmL_88 qiX4_begin qsX4_begin qnX4 qcX4_begin) rfl rfl rfl qdX4_begin ⟨Nat.le_of_ble_eq_true rfl, Nat.le_of_ble_eq_true rfl⟩) hZ.1 hZ.2.1.2.1 hZ.2.2 (fun _ h => h) (xo_0 tX aX) rfl hl.1 rfl (Nat.le_of_ble_eq_true rfl) hroom dL_law_846 (fun H1 locs1 hw1 hP1 => ?_)
  have hY : sr_H D vwCl (yty tY) aY (ycf tY aY) 26 (lz_A s) s My H1 locs1 := ⟨hZ.2.1.1, hP1, hZ.2.1.2.2.1, hw1.2.2.2⟩
  refine lv_aload_n hF.1 hF.2.1 dL_law_849 rfl (lv_at hl 1 rfl) ?_
  refine sr_lVi (As := []) (rest := [.int r]) (lz_fix hF) (k5_begin l D tY aY My r My' f2) (cwV 0 hF.2.2.2.2.1 (sr_goodV qmL_92 qiX5_begin qsX5_begin qnX5 qcX5_begin) rfl rfl rfl qdX5_begin ⟨Nat.le_of_ble_eq_true rfl, Nat.le_of_ble_eq_true rfl⟩) hY hw1.2.1 (fun a b ha hb h => hZ.2.2 b a hb ha h.symm) (fun _ h => h) (yo_0 tY aY) rfl hl.1 rfl (Nat.le_of_ble_eq_true rfl) hroom dL_law_850 (fun H2 locs2 hw2 hP2 => ?_)
  have hZ2 : lz_Z D tX tY aX aY s Mx' My' H2 locs2 := ⟨⟨hw1.1, hP2, hw1.2.2.1, hw2.2.2.2⟩, hw2, hZ.2.2⟩
  refine lv_icmp_eq (tgt := 1272) hF.1 hF.2.1 dL_law_853 (by decide) (fun _ => ?_) (fun h => absurd rfl h)
  exact kk _ _ _ _ hR' hZ2
set_option maxRecDepth 100000 in
set_option maxHeartbeats 4000000 in
theorem lc_17 {p : Program} {l : Launch} {e : Env} {s : State} {m : MethodId} {below : List Frame} {meth : Method} {c : Code} {H : Heap} {locs : List Loc} {Q : State → Prop} {kc ks b L : Nat} {xs : Nat → Int32} {ls : Array Slot} {D : va_G} {tX tY : Nat → ClassId} {aX aY : Nat → Nat} {Mx My : sr_M} {i : Nat} (hF : lz_F p s m c b L xs) (hZ : lz_Z D tX tY aX aY s Mx My H locs) (hR : Rel Mx My) (hroom : kc ≤ room_1.cells ∧ ks ≤ room_1.slots) (hi : i + 6 ≤ L) (hL : L ≤ 3072) (hl : lv_has ls 4 (lz_l aX aY b i)) (kk : lz_G p l e s m below meth c Q kc ks b D tX tY aX aY ls) : W p l e room_1 s m #[Value.ref b] below meth c H locs kc ks Q (F0 m 858 ls []) := by
  obtain ⟨r, Mx', My', f1, f2, hR'⟩ := op_step hR 
  refine lv_aload_n hF.1 hF.2.1 dL_law_858 rfl (lv_at hl 2 rfl) ?_
  refine sr_lVi (As := []) (rest := []) (lz_fix hF) (k4_step l D tX aX Mx r Mx' f1) (cwV 0 hF.2.2.2.2.1 (sr_goodV qmL_93 qiX4_step qsX4_step qnX4 qcX4_step) rfl rfl rfl qdX4_step ⟨Nat.le_of_ble_eq_true rfl, Nat.le_of_ble_eq_true rfl⟩) hZ.1 hZ.2.1.2.1 hZ.2.2 (fun _ h => h) (xo_0 tX aX) rfl hl.1 rfl (Nat.le_of_ble_eq_true rfl) hroom dL_law_859 (fun H1 locs1 hw1 hP1 => ?_)
  have hY : sr_H D vwCl (yty tY) aY (ycf tY aY) 26 (lz_A s) s My H1 locs1 := ⟨hZ.2.1.1, hP1, hZ.2.1.2.2.1, hw1.2.2.2⟩
  refine lv_aload_n hF.1 hF.2.1 dL_law_862 rfl (lv_at hl 1 rfl) ?_
  refine sr_lVi (As := []) (rest := [.int r]) (lz_fix hF) (k5_step l D tY aY My r My' f2) (cwV 0 hF.2.2.2.2.1 (sr_goodV qmL_96 qiX5_step qsX5_step qnX5 qcX5_step) rfl rfl rfl qdX5_step ⟨Nat.le_of_ble_eq_true rfl, Nat.le_of_ble_eq_true rfl⟩) hY hw1.2.1 (fun a b ha hb h => hZ.2.2 b a hb ha h.symm) (fun _ h => h) (yo_0 tY aY) rfl hl.1 rfl (Nat.le_of_ble_eq_true rfl) hroom dL_law_863 (fun H2 locs2 hw2 hP2 => ?_)
  have hZ2 : lz_Z D tX tY aX aY s Mx' My' H2 locs2 := ⟨⟨hw1.1, hP2, hw1.2.2.1, hw2.2.2.2⟩, hw2, hZ.2.2⟩
  refine lv_icmp_eq (tgt := 1272) hF.1 hF.2.1 dL_law_866 (by decide) (fun _ => ?_) (fun h => absurd rfl h)
  exact kk _ _ _ _ hR' hZ2
set_option maxRecDepth 100000 in
set_option maxHeartbeats 4000000 in
theorem lc_18 {p : Program} {l : Launch} {e : Env} {s : State} {m : MethodId} {below : List Frame} {meth : Method} {c : Code} {H : Heap} {locs : List Loc} {Q : State → Prop} {kc ks b L : Nat} {xs : Nat → Int32} {ls : Array Slot} {D : va_G} {tX tY : Nat → ClassId} {aX aY : Nat → Nat} {Mx My : sr_M} {i : Nat} (hF : lz_F p s m c b L xs) (hZ : lz_Z D tX tY aX aY s Mx My H locs) (hR : Rel Mx My) (hroom : kc ≤ room_1.cells ∧ ks ≤ room_1.slots) (hi : i + 6 ≤ L) (hL : L ≤ 3072) (hl : lv_has ls 4 (lz_l aX aY b i)) (kk : lz_G p l e s m below meth c Q kc ks b D tX tY aX aY ls) : W p l e room_1 s m #[Value.ref b] below meth c H locs kc ks Q (F0 m 871 ls []) := by
  obtain ⟨r, Mx', My', f1, f2, hR'⟩ := op_run hR (xs (i + 1))
  refine lv_aload_n hF.1 hF.2.1 dL_law_871 rfl (lv_at hl 2 rfl) ?_
  refine lz_arg (j := 1) hF hZ.1.2.2.2 hl (by omega) hL rfl dL_law_872 dL_law_873 dL_law_874 dL_law_875 dL_law_876 ?_
  refine sr_lVi (As := [.int (xs (i + 1))]) (rest := []) (lz_fix hF) (k4_run l D tX aX (xs (i + 1)) Mx r Mx' f1) (cwV 1 hF.2.2.2.2.1 (sr_goodV qmL_97 qiX4_run qsX4_run qnX4 qcX4_run) rfl rfl rfl qdX4_run ⟨Nat.le_of_ble_eq_true rfl, Nat.le_of_ble_eq_true rfl⟩) hZ.1 hZ.2.1.2.1 hZ.2.2 (fun _ h => h) (xo_0 tX aX) rfl hl.1 rfl (Nat.le_of_ble_eq_true rfl) hroom dL_law_877 (fun H1 locs1 hw1 hP1 => ?_)
  have hY : sr_H D vwCl (yty tY) aY (ycf tY aY) 26 (lz_A s) s My H1 locs1 := ⟨hZ.2.1.1, hP1, hZ.2.1.2.2.1, hw1.2.2.2⟩
  refine lv_aload_n hF.1 hF.2.1 dL_law_880 rfl (lv_at hl 1 rfl) ?_
  refine lz_arg (j := 1) hF hw1.2.2.2 hl (by omega) hL rfl dL_law_881 dL_law_882 dL_law_883 dL_law_884 dL_law_885 ?_
  refine sr_lVi (As := [.int (xs (i + 1))]) (rest := [.int r]) (lz_fix hF) (k5_run l D tY aY (xs (i + 1)) My r My' f2) (cwV 1 hF.2.2.2.2.1 (sr_goodV qmL_100 qiX5_run qsX5_run qnX5 qcX5_run) rfl rfl rfl qdX5_run ⟨Nat.le_of_ble_eq_true rfl, Nat.le_of_ble_eq_true rfl⟩) hY hw1.2.1 (fun a b ha hb h => hZ.2.2 b a hb ha h.symm) (fun _ h => h) (yo_0 tY aY) rfl hl.1 rfl (Nat.le_of_ble_eq_true rfl) hroom dL_law_886 (fun H2 locs2 hw2 hP2 => ?_)
  have hZ2 : lz_Z D tX tY aX aY s Mx' My' H2 locs2 := ⟨⟨hw1.1, hP2, hw1.2.2.1, hw2.2.2.2⟩, hw2, hZ.2.2⟩
  refine lv_icmp_eq (tgt := 1272) hF.1 hF.2.1 dL_law_889 (by decide) (fun _ => ?_) (fun h => absurd rfl h)
  exact kk _ _ _ _ hR' hZ2
set_option maxRecDepth 100000 in
set_option maxHeartbeats 4000000 in
theorem lc_19 {p : Program} {l : Launch} {e : Env} {s : State} {m : MethodId} {below : List Frame} {meth : Method} {c : Code} {H : Heap} {locs : List Loc} {Q : State → Prop} {kc ks b L : Nat} {xs : Nat → Int32} {ls : Array Slot} {D : va_G} {tX tY : Nat → ClassId} {aX aY : Nat → Nat} {Mx My : sr_M} {i : Nat} (hF : lz_F p s m c b L xs) (hZ : lz_Z D tX tY aX aY s Mx My H locs) (hR : Rel Mx My) (hroom : kc ≤ room_1.cells ∧ ks ≤ room_1.slots) (hi : i + 6 ≤ L) (hL : L ≤ 3072) (hl : lv_has ls 4 (lz_l aX aY b i)) (kk : lz_G p l e s m below meth c Q kc ks b D tX tY aX aY ls) : W p l e room_1 s m #[Value.ref b] below meth c H locs kc ks Q (F0 m 894 ls []) := by
  obtain ⟨r, Mx', My', f1, f2, hR'⟩ := op_undo hR (xs (i + 1))
  refine lv_aload_n hF.1 hF.2.1 dL_law_894 rfl (lv_at hl 2 rfl) ?_
  refine lz_arg (j := 1) hF hZ.1.2.2.2 hl (by omega) hL rfl dL_law_895 dL_law_896 dL_law_897 dL_law_898 dL_law_899 ?_
  refine sr_lVi (As := [.int (xs (i + 1))]) (rest := []) (lz_fix hF) (k4_undo l D tX aX (xs (i + 1)) Mx r Mx' f1) (cwV 1 hF.2.2.2.2.1 (sr_goodV qmL_101 qiX4_undo qsX4_undo qnX4 qcX4_undo) rfl rfl rfl qdX4_undo ⟨Nat.le_of_ble_eq_true rfl, Nat.le_of_ble_eq_true rfl⟩) hZ.1 hZ.2.1.2.1 hZ.2.2 (fun _ h => h) (xo_0 tX aX) rfl hl.1 rfl (Nat.le_of_ble_eq_true rfl) hroom dL_law_900 (fun H1 locs1 hw1 hP1 => ?_)
  have hY : sr_H D vwCl (yty tY) aY (ycf tY aY) 26 (lz_A s) s My H1 locs1 := ⟨hZ.2.1.1, hP1, hZ.2.1.2.2.1, hw1.2.2.2⟩
  refine lv_aload_n hF.1 hF.2.1 dL_law_903 rfl (lv_at hl 1 rfl) ?_
  refine lz_arg (j := 1) hF hw1.2.2.2 hl (by omega) hL rfl dL_law_904 dL_law_905 dL_law_906 dL_law_907 dL_law_908 ?_
  refine sr_lVi (As := [.int (xs (i + 1))]) (rest := [.int r]) (lz_fix hF) (k5_undo l D tY aY (xs (i + 1)) My r My' f2) (cwV 1 hF.2.2.2.2.1 (sr_goodV qmL_104 qiX5_undo qsX5_undo qnX5 qcX5_undo) rfl rfl rfl qdX5_undo ⟨Nat.le_of_ble_eq_true rfl, Nat.le_of_ble_eq_true rfl⟩) hY hw1.2.1 (fun a b ha hb h => hZ.2.2 b a hb ha h.symm) (fun _ h => h) (yo_0 tY aY) rfl hl.1 rfl (Nat.le_of_ble_eq_true rfl) hroom dL_law_909 (fun H2 locs2 hw2 hP2 => ?_)
  have hZ2 : lz_Z D tX tY aX aY s Mx' My' H2 locs2 := ⟨⟨hw1.1, hP2, hw1.2.2.1, hw2.2.2.2⟩, hw2, hZ.2.2⟩
  refine lv_icmp_eq (tgt := 1272) hF.1 hF.2.1 dL_law_912 (by decide) (fun _ => ?_) (fun h => absurd rfl h)
  exact kk _ _ _ _ hR' hZ2
set_option maxRecDepth 100000 in
set_option maxHeartbeats 4000000 in
theorem lc_20 {p : Program} {l : Launch} {e : Env} {s : State} {m : MethodId} {below : List Frame} {meth : Method} {c : Code} {H : Heap} {locs : List Loc} {Q : State → Prop} {kc ks b L : Nat} {xs : Nat → Int32} {ls : Array Slot} {D : va_G} {tX tY : Nat → ClassId} {aX aY : Nat → Nat} {Mx My : sr_M} {i : Nat} (hF : lz_F p s m c b L xs) (hZ : lz_Z D tX tY aX aY s Mx My H locs) (hR : Rel Mx My) (hroom : kc ≤ room_1.cells ∧ ks ≤ room_1.slots) (hi : i + 6 ≤ L) (hL : L ≤ 3072) (hl : lv_has ls 4 (lz_l aX aY b i)) (kk : lz_G p l e s m below meth c Q kc ks b D tX tY aX aY ls) : W p l e room_1 s m #[Value.ref b] below meth c H locs kc ks Q (F0 m 917 ls []) := by
  obtain ⟨r, My', f1, f2, hR'⟩ := op_many hR (xs (i + 1))
  refine lv_aload_n hF.1 hF.2.1 dL_law_917 rfl (lv_at hl 2 rfl) ?_
  refine lz_arg (j := 1) hF hZ.1.2.2.2 hl (by omega) hL rfl dL_law_918 dL_law_919 dL_law_920 dL_law_921 dL_law_922 ?_
  refine sr_lVi (As := [.int (xs (i + 1))]) (rest := []) (lz_fix hF) (k4_many l D tX aX (xs (i + 1)) Mx r f1) (cwV 1 hF.2.2.2.2.1 (sr_goodV qmL_105 qiX4_many qsX4_many qnX4 qcX4_many) rfl rfl rfl qdX4_many ⟨Nat.le_of_ble_eq_true rfl, Nat.le_of_ble_eq_true rfl⟩) hZ.1 hZ.2.1.2.1 hZ.2.2 (fun _ h => h) (xo_0 tX aX) rfl hl.1 rfl (Nat.le_of_ble_eq_true rfl) hroom dL_law_923 (fun H1 locs1 hw1 hP1 => ?_)
  have hY : sr_H D vwCl (yty tY) aY (ycf tY aY) 26 (lz_A s) s My H1 locs1 := ⟨hZ.2.1.1, hP1, hZ.2.1.2.2.1, hw1.2.2.2⟩
  refine lv_aload_n hF.1 hF.2.1 dL_law_926 rfl (lv_at hl 1 rfl) ?_
  refine lz_arg (j := 1) hF hw1.2.2.2 hl (by omega) hL rfl dL_law_927 dL_law_928 dL_law_929 dL_law_930 dL_law_931 ?_
  refine sr_lVi (As := [.int (xs (i + 1))]) (rest := [.int r]) (lz_fix hF) (k5_many l D tY aY (xs (i + 1)) My r My' f2) (cwV 1 hF.2.2.2.2.1 (sr_goodV qmL_108 qiX5_many qsX5_many qnX5 qcX5_many) rfl rfl rfl qdX5_many ⟨Nat.le_of_ble_eq_true rfl, Nat.le_of_ble_eq_true rfl⟩) hY hw1.2.1 (fun a b ha hb h => hZ.2.2 b a hb ha h.symm) (fun _ h => h) (yo_0 tY aY) rfl hl.1 rfl (Nat.le_of_ble_eq_true rfl) hroom dL_law_932 (fun H2 locs2 hw2 hP2 => ?_)
  have hZ2 : lz_Z D tX tY aX aY s Mx My' H2 locs2 := ⟨⟨hw1.1, hP2, hw1.2.2.1, hw2.2.2.2⟩, hw2, hZ.2.2⟩
  refine lv_icmp_eq (tgt := 1272) hF.1 hF.2.1 dL_law_935 (by decide) (fun _ => ?_) (fun h => absurd rfl h)
  exact kk _ _ _ _ hR' hZ2
set_option maxRecDepth 100000 in
set_option maxHeartbeats 4000000 in
theorem lc_21 {p : Program} {l : Launch} {e : Env} {s : State} {m : MethodId} {below : List Frame} {meth : Method} {c : Code} {H : Heap} {locs : List Loc} {Q : State → Prop} {kc ks b L : Nat} {xs : Nat → Int32} {ls : Array Slot} {D : va_G} {tX tY : Nat → ClassId} {aX aY : Nat → Nat} {Mx My : sr_M} {i : Nat} (hF : lz_F p s m c b L xs) (hZ : lz_Z D tX tY aX aY s Mx My H locs) (hR : Rel Mx My) (hroom : kc ≤ room_1.cells ∧ ks ≤ room_1.slots) (hi : i + 6 ≤ L) (hL : L ≤ 3072) (hl : lv_has ls 4 (lz_l aX aY b i)) (kk : lz_G p l e s m below meth c Q kc ks b D tX tY aX aY ls) : W p l e room_1 s m #[Value.ref b] below meth c H locs kc ks Q (F0 m 940 ls []) := by
  obtain ⟨r, f1, f2⟩ := op_opened hR (xs (i + 1))
  refine lv_aload_n hF.1 hF.2.1 dL_law_940 rfl (lv_at hl 2 rfl) ?_
  refine lz_arg (j := 1) hF hZ.1.2.2.2 hl (by omega) hL rfl dL_law_941 dL_law_942 dL_law_943 dL_law_944 dL_law_945 ?_
  refine sr_lVi (As := [.int (xs (i + 1))]) (rest := []) (lz_fix hF) (k4_opened l D tX aX (xs (i + 1)) Mx r f1) (cwV 1 hF.2.2.2.2.1 (sr_goodV qmL_109 qiX4_opened qsX4_opened qnX4 qcX4_opened) rfl rfl rfl qdX4_opened ⟨Nat.le_of_ble_eq_true rfl, Nat.le_of_ble_eq_true rfl⟩) hZ.1 hZ.2.1.2.1 hZ.2.2 (fun _ h => h) (xo_0 tX aX) rfl hl.1 rfl (Nat.le_of_ble_eq_true rfl) hroom dL_law_946 (fun H1 locs1 hw1 hP1 => ?_)
  have hY : sr_H D vwCl (yty tY) aY (ycf tY aY) 26 (lz_A s) s My H1 locs1 := ⟨hZ.2.1.1, hP1, hZ.2.1.2.2.1, hw1.2.2.2⟩
  refine lv_aload_n hF.1 hF.2.1 dL_law_949 rfl (lv_at hl 1 rfl) ?_
  refine lz_arg (j := 1) hF hw1.2.2.2 hl (by omega) hL rfl dL_law_950 dL_law_951 dL_law_952 dL_law_953 dL_law_954 ?_
  refine sr_lVi (As := [.int (xs (i + 1))]) (rest := [.int r]) (lz_fix hF) (k5_opened l D tY aY (xs (i + 1)) My r f2) (cwV 1 hF.2.2.2.2.1 (sr_goodV qmL_112 qiX5_opened qsX5_opened qnX5 qcX5_opened) rfl rfl rfl qdX5_opened ⟨Nat.le_of_ble_eq_true rfl, Nat.le_of_ble_eq_true rfl⟩) hY hw1.2.1 (fun a b ha hb h => hZ.2.2 b a hb ha h.symm) (fun _ h => h) (yo_0 tY aY) rfl hl.1 rfl (Nat.le_of_ble_eq_true rfl) hroom dL_law_955 (fun H2 locs2 hw2 hP2 => ?_)
  have hZ2 : lz_Z D tX tY aX aY s Mx My H2 locs2 := ⟨⟨hw1.1, hP2, hw1.2.2.1, hw2.2.2.2⟩, hw2, hZ.2.2⟩
  refine lv_icmp_eq (tgt := 1272) hF.1 hF.2.1 dL_law_958 (by decide) (fun _ => ?_) (fun h => absurd rfl h)
  exact kk _ _ _ _ hR hZ2
set_option maxRecDepth 100000 in
set_option maxHeartbeats 4000000 in
theorem lc_22 {p : Program} {l : Launch} {e : Env} {s : State} {m : MethodId} {below : List Frame} {meth : Method} {c : Code} {H : Heap} {locs : List Loc} {Q : State → Prop} {kc ks b L : Nat} {xs : Nat → Int32} {ls : Array Slot} {D : va_G} {tX tY : Nat → ClassId} {aX aY : Nat → Nat} {Mx My : sr_M} {i : Nat} (hF : lz_F p s m c b L xs) (hZ : lz_Z D tX tY aX aY s Mx My H locs) (hR : Rel Mx My) (hroom : kc ≤ room_1.cells ∧ ks ≤ room_1.slots) (hi : i + 6 ≤ L) (hL : L ≤ 3072) (hl : lv_has ls 4 (lz_l aX aY b i)) (kk : lz_G p l e s m below meth c Q kc ks b D tX tY aX aY ls) : W p l e room_1 s m #[Value.ref b] below meth c H locs kc ks Q (F0 m 963 ls []) := by
  obtain ⟨r, My', f1, f2, hR'⟩ := op_now hR (xs (i + 1)) (xs (i + 2))
  refine lv_aload_n hF.1 hF.2.1 dL_law_963 rfl (lv_at hl 2 rfl) ?_
  refine lz_arg (j := 1) hF hZ.1.2.2.2 hl (by omega) hL rfl dL_law_964 dL_law_965 dL_law_966 dL_law_967 dL_law_968 ?_
  refine lz_arg (j := 2) hF hZ.1.2.2.2 hl (by omega) hL rfl dL_law_969 dL_law_970 dL_law_971 dL_law_972 dL_law_973 ?_
  refine sr_lVi (As := [.int (xs (i + 1)), .int (xs (i + 2))]) (rest := []) (lz_fix hF) (k4_now l D tX aX (xs (i + 1)) (xs (i + 2)) Mx r f1) (cwV 2 hF.2.2.2.2.1 (sr_goodV qmL_113 qiX4_now qsX4_now qnX4 qcX4_now) rfl rfl rfl qdX4_now ⟨Nat.le_of_ble_eq_true rfl, Nat.le_of_ble_eq_true rfl⟩) hZ.1 hZ.2.1.2.1 hZ.2.2 (fun _ h => h) (xo_0 tX aX) rfl hl.1 rfl (Nat.le_of_ble_eq_true rfl) hroom dL_law_974 (fun H1 locs1 hw1 hP1 => ?_)
  have hY : sr_H D vwCl (yty tY) aY (ycf tY aY) 26 (lz_A s) s My H1 locs1 := ⟨hZ.2.1.1, hP1, hZ.2.1.2.2.1, hw1.2.2.2⟩
  refine lv_aload_n hF.1 hF.2.1 dL_law_977 rfl (lv_at hl 1 rfl) ?_
  refine lz_arg (j := 1) hF hw1.2.2.2 hl (by omega) hL rfl dL_law_978 dL_law_979 dL_law_980 dL_law_981 dL_law_982 ?_
  refine lz_arg (j := 2) hF hw1.2.2.2 hl (by omega) hL rfl dL_law_983 dL_law_984 dL_law_985 dL_law_986 dL_law_987 ?_
  refine sr_lVi (As := [.int (xs (i + 1)), .int (xs (i + 2))]) (rest := [.int r]) (lz_fix hF) (k5_now l D tY aY (xs (i + 1)) (xs (i + 2)) My r My' f2) (cwV 2 hF.2.2.2.2.1 (sr_goodV qmL_116 qiX5_now qsX5_now qnX5 qcX5_now) rfl rfl rfl qdX5_now ⟨Nat.le_of_ble_eq_true rfl, Nat.le_of_ble_eq_true rfl⟩) hY hw1.2.1 (fun a b ha hb h => hZ.2.2 b a hb ha h.symm) (fun _ h => h) (yo_0 tY aY) rfl hl.1 rfl (Nat.le_of_ble_eq_true rfl) hroom dL_law_988 (fun H2 locs2 hw2 hP2 => ?_)
  have hZ2 : lz_Z D tX tY aX aY s Mx My' H2 locs2 := ⟨⟨hw1.1, hP2, hw1.2.2.1, hw2.2.2.2⟩, hw2, hZ.2.2⟩
  refine lv_icmp_eq (tgt := 1272) hF.1 hF.2.1 dL_law_991 (by decide) (fun _ => ?_) (fun h => absurd rfl h)
  exact kk _ _ _ _ hR' hZ2
set_option maxRecDepth 100000 in
set_option maxHeartbeats 4000000 in
theorem lc_23 {p : Program} {l : Launch} {e : Env} {s : State} {m : MethodId} {below : List Frame} {meth : Method} {c : Code} {H : Heap} {locs : List Loc} {Q : State → Prop} {kc ks b L : Nat} {xs : Nat → Int32} {ls : Array Slot} {D : va_G} {tX tY : Nat → ClassId} {aX aY : Nat → Nat} {Mx My : sr_M} {i : Nat} (hF : lz_F p s m c b L xs) (hZ : lz_Z D tX tY aX aY s Mx My H locs) (hR : Rel Mx My) (hroom : kc ≤ room_1.cells ∧ ks ≤ room_1.slots) (hi : i + 6 ≤ L) (hL : L ≤ 3072) (hl : lv_has ls 4 (lz_l aX aY b i)) (kk : lz_G p l e s m below meth c Q kc ks b D tX tY aX aY ls) : W p l e room_1 s m #[Value.ref b] below meth c H locs kc ks Q (F0 m 996 ls []) := by
  obtain ⟨r, f1, f2⟩ := op_front hR (xs (i + 1))
  refine lv_aload_n hF.1 hF.2.1 dL_law_996 rfl (lv_at hl 2 rfl) ?_
  refine lz_arg (j := 1) hF hZ.1.2.2.2 hl (by omega) hL rfl dL_law_997 dL_law_998 dL_law_999 dL_law_1000 dL_law_1001 ?_
  refine sr_lVi (As := [.int (xs (i + 1))]) (rest := []) (lz_fix hF) (k4_front l D tX aX (xs (i + 1)) Mx r f1) (cwV 1 hF.2.2.2.2.1 (sr_goodV qmL_117 qiX4_front qsX4_front qnX4 qcX4_front) rfl rfl rfl qdX4_front ⟨Nat.le_of_ble_eq_true rfl, Nat.le_of_ble_eq_true rfl⟩) hZ.1 hZ.2.1.2.1 hZ.2.2 (fun _ h => h) (xo_0 tX aX) rfl hl.1 rfl (Nat.le_of_ble_eq_true rfl) hroom dL_law_1002 (fun H1 locs1 hw1 hP1 => ?_)
  have hY : sr_H D vwCl (yty tY) aY (ycf tY aY) 26 (lz_A s) s My H1 locs1 := ⟨hZ.2.1.1, hP1, hZ.2.1.2.2.1, hw1.2.2.2⟩
  refine lv_aload_n hF.1 hF.2.1 dL_law_1005 rfl (lv_at hl 1 rfl) ?_
  refine lz_arg (j := 1) hF hw1.2.2.2 hl (by omega) hL rfl dL_law_1006 dL_law_1007 dL_law_1008 dL_law_1009 dL_law_1010 ?_
  refine sr_lVi (As := [.int (xs (i + 1))]) (rest := [.int r]) (lz_fix hF) (k5_front l D tY aY (xs (i + 1)) My r f2) (cwV 1 hF.2.2.2.2.1 (sr_goodV qmL_120 qiX5_front qsX5_front qnX5 qcX5_front) rfl rfl rfl qdX5_front ⟨Nat.le_of_ble_eq_true rfl, Nat.le_of_ble_eq_true rfl⟩) hY hw1.2.1 (fun a b ha hb h => hZ.2.2 b a hb ha h.symm) (fun _ h => h) (yo_0 tY aY) rfl hl.1 rfl (Nat.le_of_ble_eq_true rfl) hroom dL_law_1011 (fun H2 locs2 hw2 hP2 => ?_)
  have hZ2 : lz_Z D tX tY aX aY s Mx My H2 locs2 := ⟨⟨hw1.1, hP2, hw1.2.2.1, hw2.2.2.2⟩, hw2, hZ.2.2⟩
  refine lv_icmp_eq (tgt := 1272) hF.1 hF.2.1 dL_law_1014 (by decide) (fun _ => ?_) (fun h => absurd rfl h)
  exact kk _ _ _ _ hR hZ2
set_option maxRecDepth 100000 in
set_option maxHeartbeats 4000000 in
theorem lc_24 {p : Program} {l : Launch} {e : Env} {s : State} {m : MethodId} {below : List Frame} {meth : Method} {c : Code} {H : Heap} {locs : List Loc} {Q : State → Prop} {kc ks b L : Nat} {xs : Nat → Int32} {ls : Array Slot} {D : va_G} {tX tY : Nat → ClassId} {aX aY : Nat → Nat} {Mx My : sr_M} {i : Nat} (hF : lz_F p s m c b L xs) (hZ : lz_Z D tX tY aX aY s Mx My H locs) (hR : Rel Mx My) (hroom : kc ≤ room_1.cells ∧ ks ≤ room_1.slots) (hi : i + 6 ≤ L) (hL : L ≤ 3072) (hl : lv_has ls 4 (lz_l aX aY b i)) (kk : lz_G p l e s m below meth c Q kc ks b D tX tY aX aY ls) : W p l e room_1 s m #[Value.ref b] below meth c H locs kc ks Q (F0 m 1019 ls []) := by
  obtain ⟨r, My', f1, f2, hR'⟩ := op_lake hR (xs (i + 1)) (xs (i + 2))
  refine lv_aload_n hF.1 hF.2.1 dL_law_1019 rfl (lv_at hl 2 rfl) ?_
  refine lz_arg (j := 1) hF hZ.1.2.2.2 hl (by omega) hL rfl dL_law_1020 dL_law_1021 dL_law_1022 dL_law_1023 dL_law_1024 ?_
  refine lz_arg (j := 2) hF hZ.1.2.2.2 hl (by omega) hL rfl dL_law_1025 dL_law_1026 dL_law_1027 dL_law_1028 dL_law_1029 ?_
  refine sr_lVi (As := [.int (xs (i + 1)), .int (xs (i + 2))]) (rest := []) (lz_fix hF) (k4_lake l D tX aX (xs (i + 1)) (xs (i + 2)) Mx r f1) (cwV 2 hF.2.2.2.2.1 (sr_goodV qmL_121 qiX4_lake qsX4_lake qnX4 qcX4_lake) rfl rfl rfl qdX4_lake ⟨Nat.le_of_ble_eq_true rfl, Nat.le_of_ble_eq_true rfl⟩) hZ.1 hZ.2.1.2.1 hZ.2.2 (fun _ h => h) (xo_0 tX aX) rfl hl.1 rfl (Nat.le_of_ble_eq_true rfl) hroom dL_law_1030 (fun H1 locs1 hw1 hP1 => ?_)
  have hY : sr_H D vwCl (yty tY) aY (ycf tY aY) 26 (lz_A s) s My H1 locs1 := ⟨hZ.2.1.1, hP1, hZ.2.1.2.2.1, hw1.2.2.2⟩
  refine lv_aload_n hF.1 hF.2.1 dL_law_1033 rfl (lv_at hl 1 rfl) ?_
  refine lz_arg (j := 1) hF hw1.2.2.2 hl (by omega) hL rfl dL_law_1034 dL_law_1035 dL_law_1036 dL_law_1037 dL_law_1038 ?_
  refine lz_arg (j := 2) hF hw1.2.2.2 hl (by omega) hL rfl dL_law_1039 dL_law_1040 dL_law_1041 dL_law_1042 dL_law_1043 ?_
  refine sr_lVi (As := [.int (xs (i + 1)), .int (xs (i + 2))]) (rest := [.int r]) (lz_fix hF) (k5_lake l D tY aY (xs (i + 1)) (xs (i + 2)) My r My' f2) (cwV 2 hF.2.2.2.2.1 (sr_goodV qmL_124 qiX5_lake qsX5_lake qnX5 qcX5_lake) rfl rfl rfl qdX5_lake ⟨Nat.le_of_ble_eq_true rfl, Nat.le_of_ble_eq_true rfl⟩) hY hw1.2.1 (fun a b ha hb h => hZ.2.2 b a hb ha h.symm) (fun _ h => h) (yo_0 tY aY) rfl hl.1 rfl (Nat.le_of_ble_eq_true rfl) hroom dL_law_1044 (fun H2 locs2 hw2 hP2 => ?_)
  have hZ2 : lz_Z D tX tY aX aY s Mx My' H2 locs2 := ⟨⟨hw1.1, hP2, hw1.2.2.1, hw2.2.2.2⟩, hw2, hZ.2.2⟩
  refine lv_icmp_eq (tgt := 1272) hF.1 hF.2.1 dL_law_1047 (by decide) (fun _ => ?_) (fun h => absurd rfl h)
  exact kk _ _ _ _ hR' hZ2
set_option maxRecDepth 100000 in
set_option maxHeartbeats 4000000 in
theorem lc_25 {p : Program} {l : Launch} {e : Env} {s : State} {m : MethodId} {below : List Frame} {meth : Method} {c : Code} {H : Heap} {locs : List Loc} {Q : State → Prop} {kc ks b L : Nat} {xs : Nat → Int32} {ls : Array Slot} {D : va_G} {tX tY : Nat → ClassId} {aX aY : Nat → Nat} {Mx My : sr_M} {i : Nat} (hF : lz_F p s m c b L xs) (hZ : lz_Z D tX tY aX aY s Mx My H locs) (hR : Rel Mx My) (hroom : kc ≤ room_1.cells ∧ ks ≤ room_1.slots) (hi : i + 6 ≤ L) (hL : L ≤ 3072) (hl : lv_has ls 4 (lz_l aX aY b i)) (kk : lz_G p l e s m below meth c Q kc ks b D tX tY aX aY ls) : W p l e room_1 s m #[Value.ref b] below meth c H locs kc ks Q (F0 m 1052 ls []) := by
  obtain ⟨r, f1, f2⟩ := op_through hR 
  refine lv_aload_n hF.1 hF.2.1 dL_law_1052 rfl (lv_at hl 2 rfl) ?_
  refine sr_lVi (As := []) (rest := []) (lz_fix hF) (k4_through l D tX aX Mx r f1) (cwV 0 hF.2.2.2.2.1 (sr_goodV qmL_125 qiX4_through qsX4_through qnX4 qcX4_through) rfl rfl rfl qdX4_through ⟨Nat.le_of_ble_eq_true rfl, Nat.le_of_ble_eq_true rfl⟩) hZ.1 hZ.2.1.2.1 hZ.2.2 (fun _ h => h) (xo_0 tX aX) rfl hl.1 rfl (Nat.le_of_ble_eq_true rfl) hroom dL_law_1053 (fun H1 locs1 hw1 hP1 => ?_)
  have hY : sr_H D vwCl (yty tY) aY (ycf tY aY) 26 (lz_A s) s My H1 locs1 := ⟨hZ.2.1.1, hP1, hZ.2.1.2.2.1, hw1.2.2.2⟩
  refine lv_aload_n hF.1 hF.2.1 dL_law_1056 rfl (lv_at hl 1 rfl) ?_
  refine sr_lVi (As := []) (rest := [.int r]) (lz_fix hF) (k5_through l D tY aY My r f2) (cwV 0 hF.2.2.2.2.1 (sr_goodV qmL_128 qiX5_through qsX5_through qnX5 qcX5_through) rfl rfl rfl qdX5_through ⟨Nat.le_of_ble_eq_true rfl, Nat.le_of_ble_eq_true rfl⟩) hY hw1.2.1 (fun a b ha hb h => hZ.2.2 b a hb ha h.symm) (fun _ h => h) (yo_0 tY aY) rfl hl.1 rfl (Nat.le_of_ble_eq_true rfl) hroom dL_law_1057 (fun H2 locs2 hw2 hP2 => ?_)
  have hZ2 : lz_Z D tX tY aX aY s Mx My H2 locs2 := ⟨⟨hw1.1, hP2, hw1.2.2.1, hw2.2.2.2⟩, hw2, hZ.2.2⟩
  refine lv_icmp_eq (tgt := 1272) hF.1 hF.2.1 dL_law_1060 (by decide) (fun _ => ?_) (fun h => absurd rfl h)
  exact kk _ _ _ _ hR hZ2
set_option maxRecDepth 100000 in
set_option maxHeartbeats 4000000 in
theorem lc_26 {p : Program} {l : Launch} {e : Env} {s : State} {m : MethodId} {below : List Frame} {meth : Method} {c : Code} {H : Heap} {locs : List Loc} {Q : State → Prop} {kc ks b L : Nat} {xs : Nat → Int32} {ls : Array Slot} {D : va_G} {tX tY : Nat → ClassId} {aX aY : Nat → Nat} {Mx My : sr_M} {i : Nat} (hF : lz_F p s m c b L xs) (hZ : lz_Z D tX tY aX aY s Mx My H locs) (hR : Rel Mx My) (hroom : kc ≤ room_1.cells ∧ ks ≤ room_1.slots) (hi : i + 6 ≤ L) (hL : L ≤ 3072) (hl : lv_has ls 4 (lz_l aX aY b i)) (kk : lz_G p l e s m below meth c Q kc ks b D tX tY aX aY ls) : W p l e room_1 s m #[Value.ref b] below meth c H locs kc ks Q (F0 m 1065 ls []) := by
  obtain ⟨r, Mx', My', f1, f2, hR'⟩ := op_worst hR (xs (i + 1))
  refine lv_aload_n hF.1 hF.2.1 dL_law_1065 rfl (lv_at hl 2 rfl) ?_
  refine lz_arg (j := 1) hF hZ.1.2.2.2 hl (by omega) hL rfl dL_law_1066 dL_law_1067 dL_law_1068 dL_law_1069 dL_law_1070 ?_
  refine sr_lVi (As := [.int (xs (i + 1))]) (rest := []) (lz_fix hF) (k4_worst l D tX aX (xs (i + 1)) Mx r Mx' f1) (cwV 1 hF.2.2.2.2.1 (sr_goodV qmL_129 qiX4_worst qsX4_worst qnX4 qcX4_worst) rfl rfl rfl qdX4_worst ⟨Nat.le_of_ble_eq_true rfl, Nat.le_of_ble_eq_true rfl⟩) hZ.1 hZ.2.1.2.1 hZ.2.2 (fun _ h => h) (xo_0 tX aX) rfl hl.1 rfl (Nat.le_of_ble_eq_true rfl) hroom dL_law_1071 (fun H1 locs1 hw1 hP1 => ?_)
  have hY : sr_H D vwCl (yty tY) aY (ycf tY aY) 26 (lz_A s) s My H1 locs1 := ⟨hZ.2.1.1, hP1, hZ.2.1.2.2.1, hw1.2.2.2⟩
  refine lv_aload_n hF.1 hF.2.1 dL_law_1074 rfl (lv_at hl 1 rfl) ?_
  refine lz_arg (j := 1) hF hw1.2.2.2 hl (by omega) hL rfl dL_law_1075 dL_law_1076 dL_law_1077 dL_law_1078 dL_law_1079 ?_
  refine sr_lVi (As := [.int (xs (i + 1))]) (rest := [.int r]) (lz_fix hF) (k5_worst l D tY aY (xs (i + 1)) My r My' f2) (cwV 1 hF.2.2.2.2.1 (sr_goodV qmL_132 qiX5_worst qsX5_worst qnX5 qcX5_worst) rfl rfl rfl qdX5_worst ⟨Nat.le_of_ble_eq_true rfl, Nat.le_of_ble_eq_true rfl⟩) hY hw1.2.1 (fun a b ha hb h => hZ.2.2 b a hb ha h.symm) (fun _ h => h) (yo_0 tY aY) rfl hl.1 rfl (Nat.le_of_ble_eq_true rfl) hroom dL_law_1080 (fun H2 locs2 hw2 hP2 => ?_)
  have hZ2 : lz_Z D tX tY aX aY s Mx' My' H2 locs2 := ⟨⟨hw1.1, hP2, hw1.2.2.1, hw2.2.2.2⟩, hw2, hZ.2.2⟩
  refine lv_icmp_eq (tgt := 1272) hF.1 hF.2.1 dL_law_1083 (by decide) (fun _ => ?_) (fun h => absurd rfl h)
  exact kk _ _ _ _ hR' hZ2
set_option maxRecDepth 100000 in
set_option maxHeartbeats 4000000 in
theorem lc_27 {p : Program} {l : Launch} {e : Env} {s : State} {m : MethodId} {below : List Frame} {meth : Method} {c : Code} {H : Heap} {locs : List Loc} {Q : State → Prop} {kc ks b L : Nat} {xs : Nat → Int32} {ls : Array Slot} {D : va_G} {tX tY : Nat → ClassId} {aX aY : Nat → Nat} {Mx My : sr_M} {i : Nat} (hF : lz_F p s m c b L xs) (hZ : lz_Z D tX tY aX aY s Mx My H locs) (hR : Rel Mx My) (hroom : kc ≤ room_1.cells ∧ ks ≤ room_1.slots) (hi : i + 6 ≤ L) (hL : L ≤ 3072) (hl : lv_has ls 4 (lz_l aX aY b i)) (kk : lz_G p l e s m below meth c Q kc ks b D tX tY aX aY ls) : W p l e room_1 s m #[Value.ref b] below meth c H locs kc ks Q (F0 m 1088 ls []) := by
  obtain ⟨r, Mx', My', f1, f2, hR'⟩ := op_way hR (xs (i + 1)) (xs (i + 2))
  refine lv_aload_n hF.1 hF.2.1 dL_law_1088 rfl (lv_at hl 2 rfl) ?_
  refine lz_arg (j := 1) hF hZ.1.2.2.2 hl (by omega) hL rfl dL_law_1089 dL_law_1090 dL_law_1091 dL_law_1092 dL_law_1093 ?_
  refine lz_arg (j := 2) hF hZ.1.2.2.2 hl (by omega) hL rfl dL_law_1094 dL_law_1095 dL_law_1096 dL_law_1097 dL_law_1098 ?_
  refine sr_lVi (As := [.int (xs (i + 1)), .int (xs (i + 2))]) (rest := []) (lz_fix hF) (k4_way l D tX aX (xs (i + 1)) (xs (i + 2)) Mx r Mx' f1) (cwV 2 hF.2.2.2.2.1 (sr_goodV qmL_133 qiX4_way qsX4_way qnX4 qcX4_way) rfl rfl rfl qdX4_way ⟨Nat.le_of_ble_eq_true rfl, Nat.le_of_ble_eq_true rfl⟩) hZ.1 hZ.2.1.2.1 hZ.2.2 (fun _ h => h) (xo_0 tX aX) rfl hl.1 rfl (Nat.le_of_ble_eq_true rfl) hroom dL_law_1099 (fun H1 locs1 hw1 hP1 => ?_)
  have hY : sr_H D vwCl (yty tY) aY (ycf tY aY) 26 (lz_A s) s My H1 locs1 := ⟨hZ.2.1.1, hP1, hZ.2.1.2.2.1, hw1.2.2.2⟩
  refine lv_aload_n hF.1 hF.2.1 dL_law_1102 rfl (lv_at hl 1 rfl) ?_
  refine lz_arg (j := 1) hF hw1.2.2.2 hl (by omega) hL rfl dL_law_1103 dL_law_1104 dL_law_1105 dL_law_1106 dL_law_1107 ?_
  refine lz_arg (j := 2) hF hw1.2.2.2 hl (by omega) hL rfl dL_law_1108 dL_law_1109 dL_law_1110 dL_law_1111 dL_law_1112 ?_
  refine sr_lVi (As := [.int (xs (i + 1)), .int (xs (i + 2))]) (rest := [.int r]) (lz_fix hF) (k5_way l D tY aY (xs (i + 1)) (xs (i + 2)) My r My' f2) (cwV 2 hF.2.2.2.2.1 (sr_goodV qmL_136 qiX5_way qsX5_way qnX5 qcX5_way) rfl rfl rfl qdX5_way ⟨Nat.le_of_ble_eq_true rfl, Nat.le_of_ble_eq_true rfl⟩) hY hw1.2.1 (fun a b ha hb h => hZ.2.2 b a hb ha h.symm) (fun _ h => h) (yo_0 tY aY) rfl hl.1 rfl (Nat.le_of_ble_eq_true rfl) hroom dL_law_1113 (fun H2 locs2 hw2 hP2 => ?_)
  have hZ2 : lz_Z D tX tY aX aY s Mx' My' H2 locs2 := ⟨⟨hw1.1, hP2, hw1.2.2.1, hw2.2.2.2⟩, hw2, hZ.2.2⟩
  refine lv_icmp_eq (tgt := 1272) hF.1 hF.2.1 dL_law_1116 (by decide) (fun _ => ?_) (fun h => absurd rfl h)
  exact kk _ _ _ _ hR' hZ2
set_option maxRecDepth 100000 in
set_option maxHeartbeats 4000000 in
theorem lc_28 {p : Program} {l : Launch} {e : Env} {s : State} {m : MethodId} {below : List Frame} {meth : Method} {c : Code} {H : Heap} {locs : List Loc} {Q : State → Prop} {kc ks b L : Nat} {xs : Nat → Int32} {ls : Array Slot} {D : va_G} {tX tY : Nat → ClassId} {aX aY : Nat → Nat} {Mx My : sr_M} {i : Nat} (hF : lz_F p s m c b L xs) (hZ : lz_Z D tX tY aX aY s Mx My H locs) (hR : Rel Mx My) (hroom : kc ≤ room_1.cells ∧ ks ≤ room_1.slots) (hi : i + 6 ≤ L) (hL : L ≤ 3072) (hl : lv_has ls 4 (lz_l aX aY b i)) (kk : lz_G p l e s m below meth c Q kc ks b D tX tY aX aY ls) : W p l e room_1 s m #[Value.ref b] below meth c H locs kc ks Q (F0 m 1121 ls []) := by
  obtain ⟨r, Mx', My', f1, f2, hR'⟩ := op_join hR (xs (i + 1)) (xs (i + 2))
  refine lv_aload_n hF.1 hF.2.1 dL_law_1121 rfl (lv_at hl 2 rfl) ?_
  refine lz_arg (j := 1) hF hZ.1.2.2.2 hl (by omega) hL rfl dL_law_1122 dL_law_1123 dL_law_1124 dL_law_1125 dL_law_1126 ?_
  refine lz_arg (j := 2) hF hZ.1.2.2.2 hl (by omega) hL rfl dL_law_1127 dL_law_1128 dL_law_1129 dL_law_1130 dL_law_1131 ?_
  refine sr_lVi (As := [.int (xs (i + 1)), .int (xs (i + 2))]) (rest := []) (lz_fix hF) (k4_join l D tX aX (xs (i + 1)) (xs (i + 2)) Mx r Mx' f1) (cwV 2 hF.2.2.2.2.1 (sr_goodV qmL_137 qiX4_join qsX4_join qnX4 qcX4_join) rfl rfl rfl qdX4_join ⟨Nat.le_of_ble_eq_true rfl, Nat.le_of_ble_eq_true rfl⟩) hZ.1 hZ.2.1.2.1 hZ.2.2 (fun _ h => h) (xo_0 tX aX) rfl hl.1 rfl (Nat.le_of_ble_eq_true rfl) hroom dL_law_1132 (fun H1 locs1 hw1 hP1 => ?_)
  have hY : sr_H D vwCl (yty tY) aY (ycf tY aY) 26 (lz_A s) s My H1 locs1 := ⟨hZ.2.1.1, hP1, hZ.2.1.2.2.1, hw1.2.2.2⟩
  refine lv_aload_n hF.1 hF.2.1 dL_law_1135 rfl (lv_at hl 1 rfl) ?_
  refine lz_arg (j := 1) hF hw1.2.2.2 hl (by omega) hL rfl dL_law_1136 dL_law_1137 dL_law_1138 dL_law_1139 dL_law_1140 ?_
  refine lz_arg (j := 2) hF hw1.2.2.2 hl (by omega) hL rfl dL_law_1141 dL_law_1142 dL_law_1143 dL_law_1144 dL_law_1145 ?_
  refine sr_lVi (As := [.int (xs (i + 1)), .int (xs (i + 2))]) (rest := [.int r]) (lz_fix hF) (k5_join l D tY aY (xs (i + 1)) (xs (i + 2)) My r My' f2) (cwV 2 hF.2.2.2.2.1 (sr_goodV qmL_140 qiX5_join qsX5_join qnX5 qcX5_join) rfl rfl rfl qdX5_join ⟨Nat.le_of_ble_eq_true rfl, Nat.le_of_ble_eq_true rfl⟩) hY hw1.2.1 (fun a b ha hb h => hZ.2.2 b a hb ha h.symm) (fun _ h => h) (yo_0 tY aY) rfl hl.1 rfl (Nat.le_of_ble_eq_true rfl) hroom dL_law_1146 (fun H2 locs2 hw2 hP2 => ?_)
  have hZ2 : lz_Z D tX tY aX aY s Mx' My' H2 locs2 := ⟨⟨hw1.1, hP2, hw1.2.2.1, hw2.2.2.2⟩, hw2, hZ.2.2⟩
  refine lv_icmp_eq (tgt := 1272) hF.1 hF.2.1 dL_law_1149 (by decide) (fun _ => ?_) (fun h => absurd rfl h)
  exact kk _ _ _ _ hR' hZ2
set_option maxRecDepth 100000 in
set_option maxHeartbeats 4000000 in
theorem lc_29 {p : Program} {l : Launch} {e : Env} {s : State} {m : MethodId} {below : List Frame} {meth : Method} {c : Code} {H : Heap} {locs : List Loc} {Q : State → Prop} {kc ks b L : Nat} {xs : Nat → Int32} {ls : Array Slot} {D : va_G} {tX tY : Nat → ClassId} {aX aY : Nat → Nat} {Mx My : sr_M} {i : Nat} (hF : lz_F p s m c b L xs) (hZ : lz_Z D tX tY aX aY s Mx My H locs) (hR : Rel Mx My) (hroom : kc ≤ room_1.cells ∧ ks ≤ room_1.slots) (hi : i + 6 ≤ L) (hL : L ≤ 3072) (hl : lv_has ls 4 (lz_l aX aY b i)) (kk : lz_G p l e s m below meth c Q kc ks b D tX tY aX aY ls) : W p l e room_1 s m #[Value.ref b] below meth c H locs kc ks Q (F0 m 1154 ls []) := by
  obtain ⟨r, Mx', My', f1, f2, hR'⟩ := op_tree hR (xs (i + 1))
  refine lv_aload_n hF.1 hF.2.1 dL_law_1154 rfl (lv_at hl 2 rfl) ?_
  refine lz_arg (j := 1) hF hZ.1.2.2.2 hl (by omega) hL rfl dL_law_1155 dL_law_1156 dL_law_1157 dL_law_1158 dL_law_1159 ?_
  refine sr_lVi (As := [.int (xs (i + 1))]) (rest := []) (lz_fix hF) (k4_tree l D tX aX (xs (i + 1)) Mx r Mx' f1) (cwV 1 hF.2.2.2.2.1 (sr_goodV qmL_141 qiX4_tree qsX4_tree qnX4 qcX4_tree) rfl rfl rfl qdX4_tree ⟨Nat.le_of_ble_eq_true rfl, Nat.le_of_ble_eq_true rfl⟩) hZ.1 hZ.2.1.2.1 hZ.2.2 (fun _ h => h) (xo_0 tX aX) rfl hl.1 rfl (Nat.le_of_ble_eq_true rfl) hroom dL_law_1160 (fun H1 locs1 hw1 hP1 => ?_)
  have hY : sr_H D vwCl (yty tY) aY (ycf tY aY) 26 (lz_A s) s My H1 locs1 := ⟨hZ.2.1.1, hP1, hZ.2.1.2.2.1, hw1.2.2.2⟩
  refine lv_aload_n hF.1 hF.2.1 dL_law_1163 rfl (lv_at hl 1 rfl) ?_
  refine lz_arg (j := 1) hF hw1.2.2.2 hl (by omega) hL rfl dL_law_1164 dL_law_1165 dL_law_1166 dL_law_1167 dL_law_1168 ?_
  refine sr_lVi (As := [.int (xs (i + 1))]) (rest := [.int r]) (lz_fix hF) (k5_tree l D tY aY (xs (i + 1)) My r My' f2) (cwV 1 hF.2.2.2.2.1 (sr_goodV qmL_144 qiX5_tree qsX5_tree qnX5 qcX5_tree) rfl rfl rfl qdX5_tree ⟨Nat.le_of_ble_eq_true rfl, Nat.le_of_ble_eq_true rfl⟩) hY hw1.2.1 (fun a b ha hb h => hZ.2.2 b a hb ha h.symm) (fun _ h => h) (yo_0 tY aY) rfl hl.1 rfl (Nat.le_of_ble_eq_true rfl) hroom dL_law_1169 (fun H2 locs2 hw2 hP2 => ?_)
  have hZ2 : lz_Z D tX tY aX aY s Mx' My' H2 locs2 := ⟨⟨hw1.1, hP2, hw1.2.2.1, hw2.2.2.2⟩, hw2, hZ.2.2⟩
  refine lv_icmp_eq (tgt := 1272) hF.1 hF.2.1 dL_law_1172 (by decide) (fun _ => ?_) (fun h => absurd rfl h)
  exact kk _ _ _ _ hR' hZ2
set_option maxRecDepth 100000 in
set_option maxHeartbeats 4000000 in
theorem lc_30 {p : Program} {l : Launch} {e : Env} {s : State} {m : MethodId} {below : List Frame} {meth : Method} {c : Code} {H : Heap} {locs : List Loc} {Q : State → Prop} {kc ks b L : Nat} {xs : Nat → Int32} {ls : Array Slot} {D : va_G} {tX tY : Nat → ClassId} {aX aY : Nat → Nat} {Mx My : sr_M} {i : Nat} (hF : lz_F p s m c b L xs) (hZ : lz_Z D tX tY aX aY s Mx My H locs) (hR : Rel Mx My) (hroom : kc ≤ room_1.cells ∧ ks ≤ room_1.slots) (hi : i + 6 ≤ L) (hL : L ≤ 3072) (hl : lv_has ls 4 (lz_l aX aY b i)) (kk : lz_G p l e s m below meth c Q kc ks b D tX tY aX aY ls) : W p l e room_1 s m #[Value.ref b] below meth c H locs kc ks Q (F0 m 1177 ls []) := by
  obtain ⟨r, Mx', My', f1, f2, hR'⟩ := al_claim hR (xs (i + 1))
  refine lv_aload_n hF.1 hF.2.1 dL_law_1177 rfl (lv_at hl 2 rfl) ?_
  refine lz_arg (j := 1) hF hZ.1.2.2.2 hl (by omega) hL rfl dL_law_1178 dL_law_1179 dL_law_1180 dL_law_1181 dL_law_1182 ?_
  refine sr_lVi (As := [.int (xs (i + 1))]) (rest := []) (lz_fix hF) (k4_claim l D tX aX (xs (i + 1)) Mx r Mx' f1) (cwV 1 hF.2.2.2.2.1 (sr_goodV qmL_145 qiX4_claim qsX4_claim qnX4 qcX4_claim) rfl rfl rfl qdX4_claim ⟨Nat.le_of_ble_eq_true rfl, Nat.le_of_ble_eq_true rfl⟩) hZ.1 hZ.2.1.2.1 hZ.2.2 (fun _ h => h) (xo_0 tX aX) rfl hl.1 rfl (Nat.le_of_ble_eq_true rfl) hroom dL_law_1183 (fun H1 locs1 hw1 hP1 => ?_)
  have hY : sr_H D vwCl (yty tY) aY (ycf tY aY) 26 (lz_A s) s My H1 locs1 := ⟨hZ.2.1.1, hP1, hZ.2.1.2.2.1, hw1.2.2.2⟩
  refine lv_aload_n hF.1 hF.2.1 dL_law_1186 rfl (lv_at hl 1 rfl) ?_
  refine lz_arg (j := 1) hF hw1.2.2.2 hl (by omega) hL rfl dL_law_1187 dL_law_1188 dL_law_1189 dL_law_1190 dL_law_1191 ?_
  refine sr_lVi (As := [.int (xs (i + 1))]) (rest := [.int r]) (lz_fix hF) (k5_claim l D tY aY (xs (i + 1)) My r My' f2) (cwV 1 hF.2.2.2.2.1 (sr_goodV qmL_148 qiX5_claim qsX5_claim qnX5 qcX5_claim) rfl rfl rfl qdX5_claim ⟨Nat.le_of_ble_eq_true rfl, Nat.le_of_ble_eq_true rfl⟩) hY hw1.2.1 (fun a b ha hb h => hZ.2.2 b a hb ha h.symm) (fun _ h => h) (yo_0 tY aY) rfl hl.1 rfl (Nat.le_of_ble_eq_true rfl) hroom dL_law_1192 (fun H2 locs2 hw2 hP2 => ?_)
  have hZ2 : lz_Z D tX tY aX aY s Mx' My' H2 locs2 := ⟨⟨hw1.1, hP2, hw1.2.2.1, hw2.2.2.2⟩, hw2, hZ.2.2⟩
  refine lv_icmp_eq (tgt := 1272) hF.1 hF.2.1 dL_law_1195 (by decide) (fun _ => ?_) (fun h => absurd rfl h)
  exact kk _ _ _ _ hR' hZ2
set_option maxRecDepth 100000 in
set_option maxHeartbeats 4000000 in
theorem lc_31 {p : Program} {l : Launch} {e : Env} {s : State} {m : MethodId} {below : List Frame} {meth : Method} {c : Code} {H : Heap} {locs : List Loc} {Q : State → Prop} {kc ks b L : Nat} {xs : Nat → Int32} {ls : Array Slot} {D : va_G} {tX tY : Nat → ClassId} {aX aY : Nat → Nat} {Mx My : sr_M} {i : Nat} (hF : lz_F p s m c b L xs) (hZ : lz_Z D tX tY aX aY s Mx My H locs) (hR : Rel Mx My) (hroom : kc ≤ room_1.cells ∧ ks ≤ room_1.slots) (hi : i + 6 ≤ L) (hL : L ≤ 3072) (hl : lv_has ls 4 (lz_l aX aY b i)) (kk : lz_G p l e s m below meth c Q kc ks b D tX tY aX aY ls) : W p l e room_1 s m #[Value.ref b] below meth c H locs kc ks Q (F0 m 1200 ls []) := by
  obtain ⟨r, Mx', My', f1, f2, hR'⟩ := op_copy hR 
  refine lv_aload_n hF.1 hF.2.1 dL_law_1200 rfl (lv_at hl 2 rfl) ?_
  refine sr_lVi (As := []) (rest := []) (lz_fix hF) (k4_copy l D tX aX Mx r Mx' f1) (cwV 0 hF.2.2.2.2.1 (sr_goodV qmL_149 qiX4_copy qsX4_copy qnX4 qcX4_copy) rfl rfl rfl qdX4_copy ⟨Nat.le_of_ble_eq_true rfl, Nat.le_of_ble_eq_true rfl⟩) hZ.1 hZ.2.1.2.1 hZ.2.2 (fun _ h => h) (xo_0 tX aX) rfl hl.1 rfl (Nat.le_of_ble_eq_true rfl) hroom dL_law_1201 (fun H1 locs1 hw1 hP1 => ?_)
  have hY : sr_H D vwCl (yty tY) aY (ycf tY aY) 26 (lz_A s) s My H1 locs1 := ⟨hZ.2.1.1, hP1, hZ.2.1.2.2.1, hw1.2.2.2⟩
  refine lv_aload_n hF.1 hF.2.1 dL_law_1204 rfl (lv_at hl 1 rfl) ?_
  refine sr_lVi (As := []) (rest := [.int r]) (lz_fix hF) (k5_copy l D tY aY My r My' f2) (cwV 0 hF.2.2.2.2.1 (sr_goodV qmL_152 qiX5_copy qsX5_copy qnX5 qcX5_copy) rfl rfl rfl qdX5_copy ⟨Nat.le_of_ble_eq_true rfl, Nat.le_of_ble_eq_true rfl⟩) hY hw1.2.1 (fun a b ha hb h => hZ.2.2 b a hb ha h.symm) (fun _ h => h) (yo_0 tY aY) rfl hl.1 rfl (Nat.le_of_ble_eq_true rfl) hroom dL_law_1205 (fun H2 locs2 hw2 hP2 => ?_)
  have hZ2 : lz_Z D tX tY aX aY s Mx' My' H2 locs2 := ⟨⟨hw1.1, hP2, hw1.2.2.1, hw2.2.2.2⟩, hw2, hZ.2.2⟩
  refine lv_icmp_eq (tgt := 1272) hF.1 hF.2.1 dL_law_1208 (by decide) (fun _ => ?_) (fun h => absurd rfl h)
  exact kk _ _ _ _ hR' hZ2
set_option maxRecDepth 100000 in
set_option maxHeartbeats 4000000 in
theorem lc_32 {p : Program} {l : Launch} {e : Env} {s : State} {m : MethodId} {below : List Frame} {meth : Method} {c : Code} {H : Heap} {locs : List Loc} {Q : State → Prop} {kc ks b L : Nat} {xs : Nat → Int32} {ls : Array Slot} {D : va_G} {tX tY : Nat → ClassId} {aX aY : Nat → Nat} {Mx My : sr_M} {i : Nat} (hF : lz_F p s m c b L xs) (hZ : lz_Z D tX tY aX aY s Mx My H locs) (hR : Rel Mx My) (hroom : kc ≤ room_1.cells ∧ ks ≤ room_1.slots) (hi : i + 6 ≤ L) (hL : L ≤ 3072) (hl : lv_has ls 4 (lz_l aX aY b i)) (kk : lz_G p l e s m below meth c Q kc ks b D tX tY aX aY ls) : W p l e room_1 s m #[Value.ref b] below meth c H locs kc ks Q (F0 m 1213 ls []) := by
  obtain ⟨r, Mx', My', f1, f2, hR'⟩ := al_alter hR (xs (i + 1)) (xs (i + 2))
  refine lv_aload_n hF.1 hF.2.1 dL_law_1213 rfl (lv_at hl 2 rfl) ?_
  refine lz_arg (j := 1) hF hZ.1.2.2.2 hl (by omega) hL rfl dL_law_1214 dL_law_1215 dL_law_1216 dL_law_1217 dL_law_1218 ?_
  refine lz_arg (j := 2) hF hZ.1.2.2.2 hl (by omega) hL rfl dL_law_1219 dL_law_1220 dL_law_1221 dL_law_1222 dL_law_1223 ?_
  refine sr_lVi (As := [.int (xs (i + 1)), .int (xs (i + 2))]) (rest := []) (lz_fix hF) (k4_alter l D tX aX (xs (i + 1)) (xs (i + 2)) Mx r Mx' f1) (cwV 2 hF.2.2.2.2.1 (sr_goodV qmL_153 qiX4_alter qsX4_alter qnX4 qcX4_alter) rfl rfl rfl qdX4_alter ⟨Nat.le_of_ble_eq_true rfl, Nat.le_of_ble_eq_true rfl⟩) hZ.1 hZ.2.1.2.1 hZ.2.2 (fun _ h => h) (xo_0 tX aX) rfl hl.1 rfl (Nat.le_of_ble_eq_true rfl) hroom dL_law_1224 (fun H1 locs1 hw1 hP1 => ?_)
  have hY : sr_H D vwCl (yty tY) aY (ycf tY aY) 26 (lz_A s) s My H1 locs1 := ⟨hZ.2.1.1, hP1, hZ.2.1.2.2.1, hw1.2.2.2⟩
  refine lv_aload_n hF.1 hF.2.1 dL_law_1227 rfl (lv_at hl 1 rfl) ?_
  refine lz_arg (j := 1) hF hw1.2.2.2 hl (by omega) hL rfl dL_law_1228 dL_law_1229 dL_law_1230 dL_law_1231 dL_law_1232 ?_
  refine lz_arg (j := 2) hF hw1.2.2.2 hl (by omega) hL rfl dL_law_1233 dL_law_1234 dL_law_1235 dL_law_1236 dL_law_1237 ?_
  refine sr_lVi (As := [.int (xs (i + 1)), .int (xs (i + 2))]) (rest := [.int r]) (lz_fix hF) (k5_alter l D tY aY (xs (i + 1)) (xs (i + 2)) My r My' f2) (cwV 2 hF.2.2.2.2.1 (sr_goodV qmL_156 qiX5_alter qsX5_alter qnX5 qcX5_alter) rfl rfl rfl qdX5_alter ⟨Nat.le_of_ble_eq_true rfl, Nat.le_of_ble_eq_true rfl⟩) hY hw1.2.1 (fun a b ha hb h => hZ.2.2 b a hb ha h.symm) (fun _ h => h) (yo_0 tY aY) rfl hl.1 rfl (Nat.le_of_ble_eq_true rfl) hroom dL_law_1238 (fun H2 locs2 hw2 hP2 => ?_)
  have hZ2 : lz_Z D tX tY aX aY s Mx' My' H2 locs2 := ⟨⟨hw1.1, hP2, hw1.2.2.1, hw2.2.2.2⟩, hw2, hZ.2.2⟩
  refine lv_icmp_eq (tgt := 1272) hF.1 hF.2.1 dL_law_1241 (by decide) (fun _ => ?_) (fun h => absurd rfl h)
  exact kk _ _ _ _ hR' hZ2
set_option maxRecDepth 100000 in
set_option maxHeartbeats 4000000 in
theorem lc_33 {p : Program} {l : Launch} {e : Env} {s : State} {m : MethodId} {below : List Frame} {meth : Method} {c : Code} {H : Heap} {locs : List Loc} {Q : State → Prop} {kc ks b L : Nat} {xs : Nat → Int32} {ls : Array Slot} {D : va_G} {tX tY : Nat → ClassId} {aX aY : Nat → Nat} {Mx My : sr_M} {i : Nat} (hF : lz_F p s m c b L xs) (hZ : lz_Z D tX tY aX aY s Mx My H locs) (hR : Rel Mx My) (hroom : kc ≤ room_1.cells ∧ ks ≤ room_1.slots) (hi : i + 6 ≤ L) (hL : L ≤ 3072) (hl : lv_has ls 4 (lz_l aX aY b i)) (kk : lz_G p l e s m below meth c Q kc ks b D tX tY aX aY ls) : W p l e room_1 s m #[Value.ref b] below meth c H locs kc ks Q (F0 m 1246 ls []) := by
  obtain ⟨r, Mx', My', f1, f2, hR'⟩ := al_unclaim hR 
  refine lv_aload_n hF.1 hF.2.1 dL_law_1246 rfl (lv_at hl 2 rfl) ?_
  refine sr_lVi (As := []) (rest := []) (lz_fix hF) (k4_unclaim l D tX aX Mx r Mx' f1) (cwV 0 hF.2.2.2.2.1 (sr_goodV qmL_157 qiX4_unclaim qsX4_unclaim qnX4 qcX4_unclaim) rfl rfl rfl qdX4_unclaim ⟨Nat.le_of_ble_eq_true rfl, Nat.le_of_ble_eq_true rfl⟩) hZ.1 hZ.2.1.2.1 hZ.2.2 (fun _ h => h) (xo_0 tX aX) rfl hl.1 rfl (Nat.le_of_ble_eq_true rfl) hroom dL_law_1247 (fun H1 locs1 hw1 hP1 => ?_)
  have hY : sr_H D vwCl (yty tY) aY (ycf tY aY) 26 (lz_A s) s My H1 locs1 := ⟨hZ.2.1.1, hP1, hZ.2.1.2.2.1, hw1.2.2.2⟩
  refine lv_aload_n hF.1 hF.2.1 dL_law_1250 rfl (lv_at hl 1 rfl) ?_
  refine sr_lVi (As := []) (rest := [.int r]) (lz_fix hF) (k5_unclaim l D tY aY My r My' f2) (cwV 0 hF.2.2.2.2.1 (sr_goodV qmL_160 qiX5_unclaim qsX5_unclaim qnX5 qcX5_unclaim) rfl rfl rfl qdX5_unclaim ⟨Nat.le_of_ble_eq_true rfl, Nat.le_of_ble_eq_true rfl⟩) hY hw1.2.1 (fun a b ha hb h => hZ.2.2 b a hb ha h.symm) (fun _ h => h) (yo_0 tY aY) rfl hl.1 rfl (Nat.le_of_ble_eq_true rfl) hroom dL_law_1251 (fun H2 locs2 hw2 hP2 => ?_)
  have hZ2 : lz_Z D tX tY aX aY s Mx' My' H2 locs2 := ⟨⟨hw1.1, hP2, hw1.2.2.1, hw2.2.2.2⟩, hw2, hZ.2.2⟩
  refine lv_icmp_eq (tgt := 1272) hF.1 hF.2.1 dL_law_1254 (by decide) (fun _ => ?_) (fun h => absurd rfl h)
  exact kk _ _ _ _ hR' hZ2
set_option maxRecDepth 100000 in
set_option maxHeartbeats 4000000 in
theorem lc_34 {p : Program} {l : Launch} {e : Env} {s : State} {m : MethodId} {below : List Frame} {meth : Method} {c : Code} {H : Heap} {locs : List Loc} {Q : State → Prop} {kc ks b L : Nat} {xs : Nat → Int32} {ls : Array Slot} {D : va_G} {tX tY : Nat → ClassId} {aX aY : Nat → Nat} {Mx My : sr_M} {i : Nat} (hF : lz_F p s m c b L xs) (hZ : lz_Z D tX tY aX aY s Mx My H locs) (hR : Rel Mx My) (hroom : kc ≤ room_1.cells ∧ ks ≤ room_1.slots) (hi : i + 6 ≤ L) (hL : L ≤ 3072) (hl : lv_has ls 4 (lz_l aX aY b i)) (kk : lz_G p l e s m below meth c Q kc ks b D tX tY aX aY ls) : W p l e room_1 s m #[Value.ref b] below meth c H locs kc ks Q (F0 m 1259 ls []) := by
  obtain ⟨r, Mx', My', f1, f2, hR'⟩ := op_check hR 
  refine lv_aload_n hF.1 hF.2.1 dL_law_1259 rfl (lv_at hl 2 rfl) ?_
  refine sr_lVi (As := []) (rest := []) (lz_fix hF) (k4_check l D tX aX Mx r Mx' f1) (cwV 0 hF.2.2.2.2.1 (sr_goodV qmL_161 qiX4_check qsX4_check qnX4 qcX4_check) rfl rfl rfl qdX4_check ⟨Nat.le_of_ble_eq_true rfl, Nat.le_of_ble_eq_true rfl⟩) hZ.1 hZ.2.1.2.1 hZ.2.2 (fun _ h => h) (xo_0 tX aX) rfl hl.1 rfl (Nat.le_of_ble_eq_true rfl) hroom dL_law_1260 (fun H1 locs1 hw1 hP1 => ?_)
  have hY : sr_H D vwCl (yty tY) aY (ycf tY aY) 26 (lz_A s) s My H1 locs1 := ⟨hZ.2.1.1, hP1, hZ.2.1.2.2.1, hw1.2.2.2⟩
  refine lv_aload_n hF.1 hF.2.1 dL_law_1263 rfl (lv_at hl 1 rfl) ?_
  refine sr_lVi (As := []) (rest := [.int r]) (lz_fix hF) (k5_check l D tY aY My r My' f2) (cwV 0 hF.2.2.2.2.1 (sr_goodV qmL_164 qiX5_check qsX5_check qnX5 qcX5_check) rfl rfl rfl qdX5_check ⟨Nat.le_of_ble_eq_true rfl, Nat.le_of_ble_eq_true rfl⟩) hY hw1.2.1 (fun a b ha hb h => hZ.2.2 b a hb ha h.symm) (fun _ h => h) (yo_0 tY aY) rfl hl.1 rfl (Nat.le_of_ble_eq_true rfl) hroom dL_law_1264 (fun H2 locs2 hw2 hP2 => ?_)
  have hZ2 : lz_Z D tX tY aX aY s Mx' My' H2 locs2 := ⟨⟨hw1.1, hP2, hw1.2.2.1, hw2.2.2.2⟩, hw2, hZ.2.2⟩
  refine lv_icmp_eq (tgt := 1272) hF.1 hF.2.1 dL_law_1267 (by decide) (fun _ => ?_) (fun h => absurd rfl h)
  exact kk _ _ _ _ hR' hZ2
