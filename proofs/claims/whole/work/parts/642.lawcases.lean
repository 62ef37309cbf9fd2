/-! the cases of the law, 0 to 9 -/
set_option maxHeartbeats 4000000 in
set_option maxRecDepth 100000 in
theorem law_corners {p : Program} {l : Launch} {e : Env} {s : State} {m : MethodId} {below : List Frame} {meth : Method} {c : Code} {Q : State → Prop} {b L : Nat} {xs : Nat → Int32} {Ω : zO} {μ : zMem} {H : Heap} {locs : List Loc} {ls : Array Slot} {i : Int} (D : lwD p s m c b L xs Ω) (X : zX Ω μ (lA s) s.heap H locs) (R : Rel μ) (hi : 0 ≤ i ∧ i + 7 ≤ (L : Int)) (hl : lv_has ls 4 [(0, Value.ref b), (1, zR Ω 1), (2, zR Ω 101), (3, zI i)]) (kk : ∀ (μ : zMem) (H : Heap) (locs : List Loc), zX Ω μ (lA s) s.heap H locs → Rel μ → W p l e room_1 s m #[Value.ref b] below meth c H locs 126 70000 Q (F0 m 1204 ls [])) : W p l e room_1 s m #[Value.ref b] below meth c H locs 126 70000 Q (F0 m 164 ls []) := by
  obtain ⟨C, hI, hM, _⟩ := id D
  refine lv_aload_n C.1 C.2.1 dL_law_164 rfl (lv_at hl 1 rfl) ?_
  refine y_arg D X hl hi (k := 1) ⟨by decide, by decide⟩ dL_law_165 dL_law_166 dL_law_167 dL_law_168 dL_law_169 ?_
  refine y_arg D X hl hi (k := 2) ⟨by decide, by decide⟩ dL_law_170 dL_law_171 dL_law_172 dL_law_173 dL_law_174 ?_
  obtain ⟨⟨r, μ1⟩, e1, ⟨q, μ2⟩, e2, e3, R2⟩ := sim_corners (a := (lsc xs (i + 1))) (b := (lsc xs (i + 2))) R
  refine z_callVG C X zk9 (hI.1 1 (by decide)) rfl (As := [zI (lsc xs (i + 1)), zI (lsc xs (i + 2))]) (M_X9_corners hI μ (lsc xs (i + 1)) (lsc xs (i + 2)) (lsc_rg _ _) (lsc_rg _ _) e1) zc_X9_corners kw_423 ⟨Nat.le_of_ble_eq_true rfl, Nat.le_of_ble_eq_true rfl⟩ rfl hl.1 rfl (Nat.le_of_ble_eq_true rfl) dL_law_175 ⟨Nat.le_of_ble_eq_true rfl, Nat.le_of_ble_eq_true rfl⟩ (fun H locs g1 X => ?_)
  refine lv_aload_n C.1 C.2.1 dL_law_178 rfl (lv_at hl 2 rfl) ?_
  refine y_arg D X hl hi (k := 1) ⟨by decide, by decide⟩ dL_law_179 dL_law_180 dL_law_181 dL_law_182 dL_law_183 ?_
  refine y_arg D X hl hi (k := 2) ⟨by decide, by decide⟩ dL_law_184 dL_law_185 dL_law_186 dL_law_187 dL_law_188 ?_
  refine z_callVG C X zk10 (hM.1 101 (by decide)) rfl (As := [zI (lsc xs (i + 1)), zI (lsc xs (i + 2))]) (M_X10_corners hM μ1 (lsc xs (i + 1)) (lsc xs (i + 2)) (lsc_rg _ _) (lsc_rg _ _) e2) zc_X10_corners kw_1210 ⟨Nat.le_of_ble_eq_true rfl, Nat.le_of_ble_eq_true rfl⟩ rfl hl.1 rfl (Nat.le_of_ble_eq_true rfl) dL_law_189 ⟨Nat.le_of_ble_eq_true rfl, Nat.le_of_ble_eq_true rfl⟩ (fun H locs g2 X => ?_)
  exact z_icmpeq C g1 g2 (tgt := 1204) dL_law_192 (by decide) (fun _ => kk μ2 _ _ X R2) (fun hn => absurd e3.symm hn)
set_option maxHeartbeats 4000000 in
set_option maxRecDepth 100000 in
theorem law_edge {p : Program} {l : Launch} {e : Env} {s : State} {m : MethodId} {below : List Frame} {meth : Method} {c : Code} {Q : State → Prop} {b L : Nat} {xs : Nat → Int32} {Ω : zO} {μ : zMem} {H : Heap} {locs : List Loc} {ls : Array Slot} {i : Int} (D : lwD p s m c b L xs Ω) (X : zX Ω μ (lA s) s.heap H locs) (R : Rel μ) (hi : 0 ≤ i ∧ i + 7 ≤ (L : Int)) (hl : lv_has ls 4 [(0, Value.ref b), (1, zR Ω 1), (2, zR Ω 101), (3, zI i)]) (kk : ∀ (μ : zMem) (H : Heap) (locs : List Loc), zX Ω μ (lA s) s.heap H locs → Rel μ → W p l e room_1 s m #[Value.ref b] below meth c H locs 126 70000 Q (F0 m 1204 ls [])) : W p l e room_1 s m #[Value.ref b] below meth c H locs 126 70000 Q (F0 m 197 ls []) := by
  obtain ⟨C, hI, hM, _⟩ := id D
  refine lv_aload_n C.1 C.2.1 dL_law_197 rfl (lv_at hl 1 rfl) ?_
  refine y_arg D X hl hi (k := 1) ⟨by decide, by decide⟩ dL_law_198 dL_law_199 dL_law_200 dL_law_201 dL_law_202 ?_
  refine y_arg D X hl hi (k := 2) ⟨by decide, by decide⟩ dL_law_203 dL_law_204 dL_law_205 dL_law_206 dL_law_207 ?_
  refine y_arg D X hl hi (k := 3) ⟨by decide, by decide⟩ dL_law_208 dL_law_209 dL_law_210 dL_law_211 dL_law_212 ?_
  obtain ⟨⟨r, μ1⟩, e1, ⟨q, μ2⟩, e2, e3, R2⟩ := sim_edge (a := (lsc xs (i + 1))) (b := (lsc xs (i + 2))) (c := (lsc xs (i + 3))) R
  refine z_callVG C X zk9 (hI.1 1 (by decide)) rfl (As := [zI (lsc xs (i + 1)), zI (lsc xs (i + 2)), zI (lsc xs (i + 3))]) (M_X9_edge hI μ (lsc xs (i + 1)) (lsc xs (i + 2)) (lsc xs (i + 3)) (lsc_rg _ _) (lsc_rg _ _) (lsc_rg _ _) e1) zc_X9_edge kw_436 ⟨Nat.le_of_ble_eq_true rfl, Nat.le_of_ble_eq_true rfl⟩ rfl hl.1 rfl (Nat.le_of_ble_eq_true rfl) dL_law_213 ⟨Nat.le_of_ble_eq_true rfl, Nat.le_of_ble_eq_true rfl⟩ (fun H locs g1 X => ?_)
  refine lv_aload_n C.1 C.2.1 dL_law_216 rfl (lv_at hl 2 rfl) ?_
  refine y_arg D X hl hi (k := 1) ⟨by decide, by decide⟩ dL_law_217 dL_law_218 dL_law_219 dL_law_220 dL_law_221 ?_
  refine y_arg D X hl hi (k := 2) ⟨by decide, by decide⟩ dL_law_222 dL_law_223 dL_law_224 dL_law_225 dL_law_226 ?_
  refine y_arg D X hl hi (k := 3) ⟨by decide, by decide⟩ dL_law_227 dL_law_228 dL_law_229 dL_law_230 dL_law_231 ?_
  refine z_callVG C X zk10 (hM.1 101 (by decide)) rfl (As := [zI (lsc xs (i + 1)), zI (lsc xs (i + 2)), zI (lsc xs (i + 3))]) (M_X10_edge hM μ1 (lsc xs (i + 1)) (lsc xs (i + 2)) (lsc xs (i + 3)) (lsc_rg _ _) (lsc_rg _ _) (lsc_rg _ _) e2) zc_X10_edge kw_1228 ⟨Nat.le_of_ble_eq_true rfl, Nat.le_of_ble_eq_true rfl⟩ rfl hl.1 rfl (Nat.le_of_ble_eq_true rfl) dL_law_232 ⟨Nat.le_of_ble_eq_true rfl, Nat.le_of_ble_eq_true rfl⟩ (fun H locs g2 X => ?_)
  exact z_icmpeq C g1 g2 (tgt := 1204) dL_law_235 (by decide) (fun _ => kk μ2 _ _ X R2) (fun hn => absurd e3.symm hn)
set_option maxHeartbeats 4000000 in
set_option maxRecDepth 100000 in
theorem law_type {p : Program} {l : Launch} {e : Env} {s : State} {m : MethodId} {below : List Frame} {meth : Method} {c : Code} {Q : State → Prop} {b L : Nat} {xs : Nat → Int32} {Ω : zO} {μ : zMem} {H : Heap} {locs : List Loc} {ls : Array Slot} {i : Int} (D : lwD p s m c b L xs Ω) (X : zX Ω μ (lA s) s.heap H locs) (R : Rel μ) (hi : 0 ≤ i ∧ i + 7 ≤ (L : Int)) (hl : lv_has ls 4 [(0, Value.ref b), (1, zR Ω 1), (2, zR Ω 101), (3, zI i)]) (kk : ∀ (μ : zMem) (H : Heap) (locs : List Loc), zX Ω μ (lA s) s.heap H locs → Rel μ → W p l e room_1 s m #[Value.ref b] below meth c H locs 126 70000 Q (F0 m 1204 ls [])) : W p l e room_1 s m #[Value.ref b] below meth c H locs 126 70000 Q (F0 m 240 ls []) := by
  obtain ⟨C, hI, hM, _⟩ := id D
  refine lv_aload_n C.1 C.2.1 dL_law_240 rfl (lv_at hl 1 rfl) ?_
  refine y_arg D X hl hi (k := 1) ⟨by decide, by decide⟩ dL_law_241 dL_law_242 dL_law_243 dL_law_244 dL_law_245 ?_
  refine z_i2l C (lsc_rg _ _) dL_law_246 ?_
  refine z_bipush C dL_law_247 (by decide) ?_
  refine z_lshl C dL_law_249 ?_
  refine y_arg D X hl hi (k := 2) ⟨by decide, by decide⟩ dL_law_250 dL_law_251 dL_law_252 dL_law_253 dL_law_254 ?_
  refine z_i2l C (lsc_rg _ _) dL_law_255 ?_
  refine z_ldc2 C 4294967295 kw_1569 (by decide) dL_law_256 ?_
  refine z_land C dL_law_259 ?_
  refine z_lor C dL_law_260 ?_
  refine y_arg D X hl hi (k := 3) ⟨by decide, by decide⟩ dL_law_261 dL_law_262 dL_law_263 dL_law_264 dL_law_265 ?_
  obtain ⟨⟨r, μ1⟩, e1, ⟨q, μ2⟩, e2, e3, R2⟩ := sim_type (w := (zlor (zlshl (lsc xs (i + 1)) 32) (zland (lsc xs (i + 2)) 4294967295))) (n := (lsc xs (i + 3))) (Rl.t _) R
  refine z_callVG C X zk9 (hI.1 1 (by decide)) rfl (As := [zJ (zlor (zlshl (lsc xs (i + 1)) 32) (zland (lsc xs (i + 2)) 4294967295)), zI (lsc xs (i + 3))]) (M_X9_type hI μ (zlor (zlshl (lsc xs (i + 1)) 32) (zland (lsc xs (i + 2)) 4294967295)) (lsc xs (i + 3)) (Rl.t _) (lsc_rg _ _) e1) zc_X9_type kw_448 ⟨Nat.le_of_ble_eq_true rfl, Nat.le_of_ble_eq_true rfl⟩ rfl hl.1 rfl (Nat.le_of_ble_eq_true rfl) dL_law_266 ⟨Nat.le_of_ble_eq_true rfl, Nat.le_of_ble_eq_true rfl⟩ (fun H locs g1 X => ?_)
  refine lv_aload_n C.1 C.2.1 dL_law_269 rfl (lv_at hl 2 rfl) ?_
  refine y_arg D X hl hi (k := 1) ⟨by decide, by decide⟩ dL_law_270 dL_law_271 dL_law_272 dL_law_273 dL_law_274 ?_
  refine z_i2l C (lsc_rg _ _) dL_law_275 ?_
  refine z_bipush C dL_law_276 (by decide) ?_
  refine z_lshl C dL_law_278 ?_
  refine y_arg D X hl hi (k := 2) ⟨by decide, by decide⟩ dL_law_279 dL_law_280 dL_law_281 dL_law_282 dL_law_283 ?_
  refine z_i2l C (lsc_rg _ _) dL_law_284 ?_
  refine z_ldc2 C 4294967295 kw_1569 (by decide) dL_law_285 ?_
  refine z_land C dL_law_288 ?_
  refine z_lor C dL_law_289 ?_
  refine y_arg D X hl hi (k := 3) ⟨by decide, by decide⟩ dL_law_290 dL_law_291 dL_law_292 dL_law_293 dL_law_294 ?_
  refine z_callVG C X zk10 (hM.1 101 (by decide)) rfl (As := [zJ (zlor (zlshl (lsc xs (i + 1)) 32) (zland (lsc xs (i + 2)) 4294967295)), zI (lsc xs (i + 3))]) (M_X10_type hM μ1 (zlor (zlshl (lsc xs (i + 1)) 32) (zland (lsc xs (i + 2)) 4294967295)) (lsc xs (i + 3)) (Rl.t _) (lsc_rg _ _) e2) zc_X10_type kw_1236 ⟨Nat.le_of_ble_eq_true rfl, Nat.le_of_ble_eq_true rfl⟩ rfl hl.1 rfl (Nat.le_of_ble_eq_true rfl) dL_law_295 ⟨Nat.le_of_ble_eq_true rfl, Nat.le_of_ble_eq_true rfl⟩ (fun H locs g2 X => ?_)
  exact z_icmpeq C g1 g2 (tgt := 1204) dL_law_298 (by decide) (fun _ => kk μ2 _ _ X R2) (fun hn => absurd e3.symm hn)
set_option maxHeartbeats 4000000 in
set_option maxRecDepth 100000 in
theorem law_face {p : Program} {l : Launch} {e : Env} {s : State} {m : MethodId} {below : List Frame} {meth : Method} {c : Code} {Q : State → Prop} {b L : Nat} {xs : Nat → Int32} {Ω : zO} {μ : zMem} {H : Heap} {locs : List Loc} {ls : Array Slot} {i : Int} (D : lwD p s m c b L xs Ω) (X : zX Ω μ (lA s) s.heap H locs) (R : Rel μ) (hi : 0 ≤ i ∧ i + 7 ≤ (L : Int)) (hl : lv_has ls 4 [(0, Value.ref b), (1, zR Ω 1), (2, zR Ω 101), (3, zI i)]) (kk : ∀ (μ : zMem) (H : Heap) (locs : List Loc), zX Ω μ (lA s) s.heap H locs → Rel μ → W p l e room_1 s m #[Value.ref b] below meth c H locs 126 70000 Q (F0 m 1204 ls [])) : W p l e room_1 s m #[Value.ref b] below meth c H locs 126 70000 Q (F0 m 303 ls []) := by
  obtain ⟨C, hI, hM, _⟩ := id D
  refine lv_aload_n C.1 C.2.1 dL_law_303 rfl (lv_at hl 1 rfl) ?_
  refine y_arg D X hl hi (k := 1) ⟨by decide, by decide⟩ dL_law_304 dL_law_305 dL_law_306 dL_law_307 dL_law_308 ?_
  obtain ⟨⟨r, μ1⟩, e1, ⟨q, μ2⟩, e2, e3, R2⟩ := sim_face (a := (lsc xs (i + 1))) R
  refine z_callVG C X zk9 (hI.1 1 (by decide)) rfl (As := [zI (lsc xs (i + 1))]) (M_X9_face hI μ (lsc xs (i + 1)) (lsc_rg _ _) e1) zc_X9_face kw_462 ⟨Nat.le_of_ble_eq_true rfl, Nat.le_of_ble_eq_true rfl⟩ rfl hl.1 rfl (Nat.le_of_ble_eq_true rfl) dL_law_309 ⟨Nat.le_of_ble_eq_true rfl, Nat.le_of_ble_eq_true rfl⟩ (fun H locs g1 X => ?_)
  refine lv_aload_n C.1 C.2.1 dL_law_312 rfl (lv_at hl 2 rfl) ?_
  refine y_arg D X hl hi (k := 1) ⟨by decide, by decide⟩ dL_law_313 dL_law_314 dL_law_315 dL_law_316 dL_law_317 ?_
  refine z_callVG C X zk10 (hM.1 101 (by decide)) rfl (As := [zI (lsc xs (i + 1))]) (M_X10_face hM μ1 (lsc xs (i + 1)) (lsc_rg _ _) e2) zc_X10_face kw_1241 ⟨Nat.le_of_ble_eq_true rfl, Nat.le_of_ble_eq_true rfl⟩ rfl hl.1 rfl (Nat.le_of_ble_eq_true rfl) dL_law_318 ⟨Nat.le_of_ble_eq_true rfl, Nat.le_of_ble_eq_true rfl⟩ (fun H locs g2 X => ?_)
  exact z_icmpeq C g1 g2 (tgt := 1204) dL_law_321 (by decide) (fun _ => kk μ2 _ _ X R2) (fun hn => absurd e3.symm hn)
set_option maxHeartbeats 4000000 in
set_option maxRecDepth 100000 in
theorem law_text {p : Program} {l : Launch} {e : Env} {s : State} {m : MethodId} {below : List Frame} {meth : Method} {c : Code} {Q : State → Prop} {b L : Nat} {xs : Nat → Int32} {Ω : zO} {μ : zMem} {H : Heap} {locs : List Loc} {ls : Array Slot} {i : Int} (D : lwD p s m c b L xs Ω) (X : zX Ω μ (lA s) s.heap H locs) (R : Rel μ) (hi : 0 ≤ i ∧ i + 7 ≤ (L : Int)) (hl : lv_has ls 4 [(0, Value.ref b), (1, zR Ω 1), (2, zR Ω 101), (3, zI i)]) (kk : ∀ (μ : zMem) (H : Heap) (locs : List Loc), zX Ω μ (lA s) s.heap H locs → Rel μ → W p l e room_1 s m #[Value.ref b] below meth c H locs 126 70000 Q (F0 m 1204 ls [])) : W p l e room_1 s m #[Value.ref b] below meth c H locs 126 70000 Q (F0 m 326 ls []) := by
  obtain ⟨C, hI, hM, _⟩ := id D
  refine lv_aload_n C.1 C.2.1 dL_law_326 rfl (lv_at hl 1 rfl) ?_
  refine y_arg D X hl hi (k := 1) ⟨by decide, by decide⟩ dL_law_327 dL_law_328 dL_law_329 dL_law_330 dL_law_331 ?_
  obtain ⟨⟨r, μ1⟩, e1, ⟨q, μ2⟩, e2, e3, R2⟩ := sim_text (a := (lsc xs (i + 1))) R
  refine z_callVG C X zk9 (hI.1 1 (by decide)) rfl (As := [zI (lsc xs (i + 1))]) (M_X9_text hI μ (lsc xs (i + 1)) (lsc_rg _ _) e1) zc_X9_text kw_524 ⟨Nat.le_of_ble_eq_true rfl, Nat.le_of_ble_eq_true rfl⟩ rfl hl.1 rfl (Nat.le_of_ble_eq_true rfl) dL_law_332 ⟨Nat.le_of_ble_eq_true rfl, Nat.le_of_ble_eq_true rfl⟩ (fun H locs g1 X => ?_)
  refine lv_aload_n C.1 C.2.1 dL_law_335 rfl (lv_at hl 2 rfl) ?_
  refine y_arg D X hl hi (k := 1) ⟨by decide, by decide⟩ dL_law_336 dL_law_337 dL_law_338 dL_law_339 dL_law_340 ?_
  refine z_callVG C X zk10 (hM.1 101 (by decide)) rfl (As := [zI (lsc xs (i + 1))]) (M_X10_text hM μ1 (lsc xs (i + 1)) (lsc_rg _ _) e2) zc_X10_text kw_1277 ⟨Nat.le_of_ble_eq_true rfl, Nat.le_of_ble_eq_true rfl⟩ rfl hl.1 rfl (Nat.le_of_ble_eq_true rfl) dL_law_341 ⟨Nat.le_of_ble_eq_true rfl, Nat.le_of_ble_eq_true rfl⟩ (fun H locs g2 X => ?_)
  exact z_icmpeq C g1 g2 (tgt := 1204) dL_law_344 (by decide) (fun _ => kk μ2 _ _ X R2) (fun hn => absurd e3.symm hn)
set_option maxHeartbeats 4000000 in
set_option maxRecDepth 100000 in
theorem law_count {p : Program} {l : Launch} {e : Env} {s : State} {m : MethodId} {below : List Frame} {meth : Method} {c : Code} {Q : State → Prop} {b L : Nat} {xs : Nat → Int32} {Ω : zO} {μ : zMem} {H : Heap} {locs : List Loc} {ls : Array Slot} {i : Int} (D : lwD p s m c b L xs Ω) (X : zX Ω μ (lA s) s.heap H locs) (R : Rel μ) (hi : 0 ≤ i ∧ i + 7 ≤ (L : Int)) (hl : lv_has ls 4 [(0, Value.ref b), (1, zR Ω 1), (2, zR Ω 101), (3, zI i)]) (kk : ∀ (μ : zMem) (H : Heap) (locs : List Loc), zX Ω μ (lA s) s.heap H locs → Rel μ → W p l e room_1 s m #[Value.ref b] below meth c H locs 126 70000 Q (F0 m 1204 ls [])) : W p l e room_1 s m #[Value.ref b] below meth c H locs 126 70000 Q (F0 m 349 ls []) := by
  obtain ⟨C, hI, hM, _⟩ := id D
  refine lv_aload_n C.1 C.2.1 dL_law_349 rfl (lv_at hl 1 rfl) ?_
  refine y_arg D X hl hi (k := 1) ⟨by decide, by decide⟩ dL_law_350 dL_law_351 dL_law_352 dL_law_353 dL_law_354 ?_
  refine y_arg D X hl hi (k := 2) ⟨by decide, by decide⟩ dL_law_355 dL_law_356 dL_law_357 dL_law_358 dL_law_359 ?_
  obtain ⟨r, e1, ⟨q, μ2⟩, e2, e3, R2⟩ := sim_count (a := (lsc xs (i + 1))) (b := (lsc xs (i + 2))) R
  refine z_callVG C X zk9 (hI.1 1 (by decide)) rfl (As := [zI (lsc xs (i + 1)), zI (lsc xs (i + 2))]) (M_X9_count hI μ (lsc xs (i + 1)) (lsc xs (i + 2)) (lsc_rg _ _) (lsc_rg _ _) e1) zc_X9_count kw_554 ⟨Nat.le_of_ble_eq_true rfl, Nat.le_of_ble_eq_true rfl⟩ rfl hl.1 rfl (Nat.le_of_ble_eq_true rfl) dL_law_360 ⟨Nat.le_of_ble_eq_true rfl, Nat.le_of_ble_eq_true rfl⟩ (fun H locs g1 X => ?_)
  refine lv_aload_n C.1 C.2.1 dL_law_363 rfl (lv_at hl 2 rfl) ?_
  refine y_arg D X hl hi (k := 1) ⟨by decide, by decide⟩ dL_law_364 dL_law_365 dL_law_366 dL_law_367 dL_law_368 ?_
  refine y_arg D X hl hi (k := 2) ⟨by decide, by decide⟩ dL_law_369 dL_law_370 dL_law_371 dL_law_372 dL_law_373 ?_
  refine z_callVG C X zk10 (hM.1 101 (by decide)) rfl (As := [zI (lsc xs (i + 1)), zI (lsc xs (i + 2))]) (M_X10_count hM μ (lsc xs (i + 1)) (lsc xs (i + 2)) (lsc_rg _ _) (lsc_rg _ _) e2) zc_X10_count kw_1301 ⟨Nat.le_of_ble_eq_true rfl, Nat.le_of_ble_eq_true rfl⟩ rfl hl.1 rfl (Nat.le_of_ble_eq_true rfl) dL_law_374 ⟨Nat.le_of_ble_eq_true rfl, Nat.le_of_ble_eq_true rfl⟩ (fun H locs g2 X => ?_)
  exact z_icmpeq C g1 g2 (tgt := 1204) dL_law_377 (by decide) (fun _ => kk μ2 _ _ X R2) (fun hn => absurd e3.symm hn)
set_option maxHeartbeats 4000000 in
set_option maxRecDepth 100000 in
theorem law_told {p : Program} {l : Launch} {e : Env} {s : State} {m : MethodId} {below : List Frame} {meth : Method} {c : Code} {Q : State → Prop} {b L : Nat} {xs : Nat → Int32} {Ω : zO} {μ : zMem} {H : Heap} {locs : List Loc} {ls : Array Slot} {i : Int} (D : lwD p s m c b L xs Ω) (X : zX Ω μ (lA s) s.heap H locs) (R : Rel μ) (hi : 0 ≤ i ∧ i + 7 ≤ (L : Int)) (hl : lv_has ls 4 [(0, Value.ref b), (1, zR Ω 1), (2, zR Ω 101), (3, zI i)]) (kk : ∀ (μ : zMem) (H : Heap) (locs : List Loc), zX Ω μ (lA s) s.heap H locs → Rel μ → W p l e room_1 s m #[Value.ref b] below meth c H locs 126 70000 Q (F0 m 1204 ls [])) : W p l e room_1 s m #[Value.ref b] below meth c H locs 126 70000 Q (F0 m 382 ls []) := by
  obtain ⟨C, hI, hM, _⟩ := id D
  refine lv_aload_n C.1 C.2.1 dL_law_382 rfl (lv_at hl 1 rfl) ?_
  refine y_arg D X hl hi (k := 1) ⟨by decide, by decide⟩ dL_law_383 dL_law_384 dL_law_385 dL_law_386 dL_law_387 ?_
  refine y_arg D X hl hi (k := 2) ⟨by decide, by decide⟩ dL_law_388 dL_law_389 dL_law_390 dL_law_391 dL_law_392 ?_
  refine y_arg D X hl hi (k := 3) ⟨by decide, by decide⟩ dL_law_393 dL_law_394 dL_law_395 dL_law_396 dL_law_397 ?_
  obtain ⟨r, e1, ⟨q, μ2⟩, e2, e3, R2⟩ := sim_told (a := (lsc xs (i + 1))) (b := (lsc xs (i + 2))) (c := (lsc xs (i + 3))) R
  refine z_callVG C X zk9 (hI.1 1 (by decide)) rfl (As := [zI (lsc xs (i + 1)), zI (lsc xs (i + 2)), zI (lsc xs (i + 3))]) (M_X9_told hI μ (lsc xs (i + 1)) (lsc xs (i + 2)) (lsc xs (i + 3)) (lsc_rg _ _) (lsc_rg _ _) (lsc_rg _ _) e1) zc_X9_told kw_566 ⟨Nat.le_of_ble_eq_true rfl, Nat.le_of_ble_eq_true rfl⟩ rfl hl.1 rfl (Nat.le_of_ble_eq_true rfl) dL_law_398 ⟨Nat.le_of_ble_eq_true rfl, Nat.le_of_ble_eq_true rfl⟩ (fun H locs g1 X => ?_)
  refine lv_aload_n C.1 C.2.1 dL_law_401 rfl (lv_at hl 2 rfl) ?_
  refine y_arg D X hl hi (k := 1) ⟨by decide, by decide⟩ dL_law_402 dL_law_403 dL_law_404 dL_law_405 dL_law_406 ?_
  refine y_arg D X hl hi (k := 2) ⟨by decide, by decide⟩ dL_law_407 dL_law_408 dL_law_409 dL_law_410 dL_law_411 ?_
  refine y_arg D X hl hi (k := 3) ⟨by decide, by decide⟩ dL_law_412 dL_law_413 dL_law_414 dL_law_415 dL_law_416 ?_
  refine z_callVG C X zk10 (hM.1 101 (by decide)) rfl (As := [zI (lsc xs (i + 1)), zI (lsc xs (i + 2)), zI (lsc xs (i + 3))]) (M_X10_told hM μ (lsc xs (i + 1)) (lsc xs (i + 2)) (lsc xs (i + 3)) (lsc_rg _ _) (lsc_rg _ _) (lsc_rg _ _) e2) zc_X10_told kw_1313 ⟨Nat.le_of_ble_eq_true rfl, Nat.le_of_ble_eq_true rfl⟩ rfl hl.1 rfl (Nat.le_of_ble_eq_true rfl) dL_law_417 ⟨Nat.le_of_ble_eq_true rfl, Nat.le_of_ble_eq_true rfl⟩ (fun H locs g2 X => ?_)
  exact z_icmpeq C g1 g2 (tgt := 1204) dL_law_420 (by decide) (fun _ => kk μ2 _ _ X R2) (fun hn => absurd e3.symm hn)
set_option maxHeartbeats 4000000 in
set_option maxRecDepth 100000 in
theorem law_rim {p : Program} {l : Launch} {e : Env} {s : State} {m : MethodId} {below : List Frame} {meth : Method} {c : Code} {Q : State → Prop} {b L : Nat} {xs : Nat → Int32} {Ω : zO} {μ : zMem} {H : Heap} {locs : List Loc} {ls : Array Slot} {i : Int} (D : lwD p s m c b L xs Ω) (X : zX Ω μ (lA s) s.heap H locs) (R : Rel μ) (hi : 0 ≤ i ∧ i + 7 ≤ (L : Int)) (hl : lv_has ls 4 [(0, Value.ref b), (1, zR Ω 1), (2, zR Ω 101), (3, zI i)]) (kk : ∀ (μ : zMem) (H : Heap) (locs : List Loc), zX Ω μ (lA s) s.heap H locs → Rel μ → W p l e room_1 s m #[Value.ref b] below meth c H locs 126 70000 Q (F0 m 1204 ls [])) : W p l e room_1 s m #[Value.ref b] below meth c H locs 126 70000 Q (F0 m 425 ls []) := by
  obtain ⟨C, hI, hM, _⟩ := id D
  refine lv_aload_n C.1 C.2.1 dL_law_425 rfl (lv_at hl 1 rfl) ?_
  refine y_arg D X hl hi (k := 1) ⟨by decide, by decide⟩ dL_law_426 dL_law_427 dL_law_428 dL_law_429 dL_law_430 ?_
  refine y_arg D X hl hi (k := 2) ⟨by decide, by decide⟩ dL_law_431 dL_law_432 dL_law_433 dL_law_434 dL_law_435 ?_
  refine y_arg D X hl hi (k := 3) ⟨by decide, by decide⟩ dL_law_436 dL_law_437 dL_law_438 dL_law_439 dL_law_440 ?_
  obtain ⟨r, e1, e2⟩ := sim_rim (a := (lsc xs (i + 1))) (b := (lsc xs (i + 2))) (c := (lsc xs (i + 3))) R
  refine z_callVG C X zk9 (hI.1 1 (by decide)) rfl (As := [zI (lsc xs (i + 1)), zI (lsc xs (i + 2)), zI (lsc xs (i + 3))]) (M_X9_rim hI μ (lsc xs (i + 1)) (lsc xs (i + 2)) (lsc xs (i + 3)) (lsc_rg _ _) (lsc_rg _ _) (lsc_rg _ _) e1) zc_X9_rim kw_570 ⟨Nat.le_of_ble_eq_true rfl, Nat.le_of_ble_eq_true rfl⟩ rfl hl.1 rfl (Nat.le_of_ble_eq_true rfl) dL_law_441 ⟨Nat.le_of_ble_eq_true rfl, Nat.le_of_ble_eq_true rfl⟩ (fun H locs g1 X => ?_)
  refine lv_aload_n C.1 C.2.1 dL_law_444 rfl (lv_at hl 2 rfl) ?_
  refine y_arg D X hl hi (k := 1) ⟨by decide, by decide⟩ dL_law_445 dL_law_446 dL_law_447 dL_law_448 dL_law_449 ?_
  refine y_arg D X hl hi (k := 2) ⟨by decide, by decide⟩ dL_law_450 dL_law_451 dL_law_452 dL_law_453 dL_law_454 ?_
  refine y_arg D X hl hi (k := 3) ⟨by decide, by decide⟩ dL_law_455 dL_law_456 dL_law_457 dL_law_458 dL_law_459 ?_
  refine z_callVG C X zk10 (hM.1 101 (by decide)) rfl (As := [zI (lsc xs (i + 1)), zI (lsc xs (i + 2)), zI (lsc xs (i + 3))]) (M_X10_rim hM μ (lsc xs (i + 1)) (lsc xs (i + 2)) (lsc xs (i + 3)) (lsc_rg _ _) (lsc_rg _ _) (lsc_rg _ _) e2) zc_X10_rim kw_1317 ⟨Nat.le_of_ble_eq_true rfl, Nat.le_of_ble_eq_true rfl⟩ rfl hl.1 rfl (Nat.le_of_ble_eq_true rfl) dL_law_460 ⟨Nat.le_of_ble_eq_true rfl, Nat.le_of_ble_eq_true rfl⟩ (fun H locs g2 X => ?_)
  exact z_icmpeq C g1 g2 (tgt := 1204) dL_law_463 (by decide) (fun _ => kk μ _ _ X R) (fun hn => absurd rfl hn)
set_option maxHeartbeats 4000000 in
set_option maxRecDepth 100000 in
theorem law_holes {p : Program} {l : Launch} {e : Env} {s : State} {m : MethodId} {below : List Frame} {meth : Method} {c : Code} {Q : State → Prop} {b L : Nat} {xs : Nat → Int32} {Ω : zO} {μ : zMem} {H : Heap} {locs : List Loc} {ls : Array Slot} {i : Int} (D : lwD p s m c b L xs Ω) (X : zX Ω μ (lA s) s.heap H locs) (R : Rel μ) (hi : 0 ≤ i ∧ i + 7 ≤ (L : Int)) (hl : lv_has ls 4 [(0, Value.ref b), (1, zR Ω 1), (2, zR Ω 101), (3, zI i)]) (kk : ∀ (μ : zMem) (H : Heap) (locs : List Loc), zX Ω μ (lA s) s.heap H locs → Rel μ → W p l e room_1 s m #[Value.ref b] below meth c H locs 126 70000 Q (F0 m 1204 ls [])) : W p l e room_1 s m #[Value.ref b] below meth c H locs 126 70000 Q (F0 m 468 ls []) := by
  obtain ⟨C, hI, hM, _⟩ := id D
  refine lv_aload_n C.1 C.2.1 dL_law_468 rfl (lv_at hl 1 rfl) ?_
  refine y_arg D X hl hi (k := 1) ⟨by decide, by decide⟩ dL_law_469 dL_law_470 dL_law_471 dL_law_472 dL_law_473 ?_
  refine y_arg D X hl hi (k := 2) ⟨by decide, by decide⟩ dL_law_474 dL_law_475 dL_law_476 dL_law_477 dL_law_478 ?_
  refine y_arg D X hl hi (k := 3) ⟨by decide, by decide⟩ dL_law_479 dL_law_480 dL_law_481 dL_law_482 dL_law_483 ?_
  obtain ⟨⟨r, μ1⟩, e1, ⟨q, μ2⟩, e2, e3, R2⟩ := sim_holes (a := (lsc xs (i + 1))) (b := (lsc xs (i + 2))) (c := (lsc xs (i + 3))) R
  refine z_callVG C X zk9 (hI.1 1 (by decide)) rfl (As := [zI (lsc xs (i + 1)), zI (lsc xs (i + 2)), zI (lsc xs (i + 3))]) (M_X9_holes hI μ (lsc xs (i + 1)) (lsc xs (i + 2)) (lsc xs (i + 3)) (lsc_rg _ _) (lsc_rg _ _) (lsc_rg _ _) e1) zc_X9_holes kw_581 ⟨Nat.le_of_ble_eq_true rfl, Nat.le_of_ble_eq_true rfl⟩ rfl hl.1 rfl (Nat.le_of_ble_eq_true rfl) dL_law_484 ⟨Nat.le_of_ble_eq_true rfl, Nat.le_of_ble_eq_true rfl⟩ (fun H locs g1 X => ?_)
  refine lv_aload_n C.1 C.2.1 dL_law_487 rfl (lv_at hl 2 rfl) ?_
  refine y_arg D X hl hi (k := 1) ⟨by decide, by decide⟩ dL_law_488 dL_law_489 dL_law_490 dL_law_491 dL_law_492 ?_
  refine y_arg D X hl hi (k := 2) ⟨by decide, by decide⟩ dL_law_493 dL_law_494 dL_law_495 dL_law_496 dL_law_497 ?_
  refine y_arg D X hl hi (k := 3) ⟨by decide, by decide⟩ dL_law_498 dL_law_499 dL_law_500 dL_law_501 dL_law_502 ?_
  refine z_callVG C X zk10 (hM.1 101 (by decide)) rfl (As := [zI (lsc xs (i + 1)), zI (lsc xs (i + 2)), zI (lsc xs (i + 3))]) (M_X10_holes hM μ1 (lsc xs (i + 1)) (lsc xs (i + 2)) (lsc xs (i + 3)) (lsc_rg _ _) (lsc_rg _ _) (lsc_rg _ _) e2) zc_X10_holes kw_1328 ⟨Nat.le_of_ble_eq_true rfl, Nat.le_of_ble_eq_true rfl⟩ rfl hl.1 rfl (Nat.le_of_ble_eq_true rfl) dL_law_503 ⟨Nat.le_of_ble_eq_true rfl, Nat.le_of_ble_eq_true rfl⟩ (fun H locs g2 X => ?_)
  exact z_icmpeq C g1 g2 (tgt := 1204) dL_law_506 (by decide) (fun _ => kk μ2 _ _ X R2) (fun hn => absurd e3.symm hn)
set_option maxHeartbeats 4000000 in
set_option maxRecDepth 100000 in
theorem law_bend {p : Program} {l : Launch} {e : Env} {s : State} {m : MethodId} {below : List Frame} {meth : Method} {c : Code} {Q : State → Prop} {b L : Nat} {xs : Nat → Int32} {Ω : zO} {μ : zMem} {H : Heap} {locs : List Loc} {ls : Array Slot} {i : Int} (D : lwD p s m c b L xs Ω) (X : zX Ω μ (lA s) s.heap H locs) (R : Rel μ) (hi : 0 ≤ i ∧ i + 7 ≤ (L : Int)) (hl : lv_has ls 4 [(0, Value.ref b), (1, zR Ω 1), (2, zR Ω 101), (3, zI i)]) (kk : ∀ (μ : zMem) (H : Heap) (locs : List Loc), zX Ω μ (lA s) s.heap H locs → Rel μ → W p l e room_1 s m #[Value.ref b] below meth c H locs 126 70000 Q (F0 m 1204 ls [])) : W p l e room_1 s m #[Value.ref b] below meth c H locs 126 70000 Q (F0 m 511 ls []) := by
  obtain ⟨C, hI, hM, _⟩ := id D
  refine lv_aload_n C.1 C.2.1 dL_law_511 rfl (lv_at hl 1 rfl) ?_
  refine y_arg D X hl hi (k := 1) ⟨by decide, by decide⟩ dL_law_512 dL_law_513 dL_law_514 dL_law_515 dL_law_516 ?_
  refine y_arg D X hl hi (k := 2) ⟨by decide, by decide⟩ dL_law_517 dL_law_518 dL_law_519 dL_law_520 dL_law_521 ?_
  obtain ⟨⟨r, μ1⟩, e1, ⟨q, μ2⟩, e2, e3, R2⟩ := sim_bend (a := (lsc xs (i + 1))) (b := (lsc xs (i + 2))) R
  refine z_callVG C X zk9 (hI.1 1 (by decide)) rfl (As := [zI (lsc xs (i + 1)), zI (lsc xs (i + 2))]) (M_X9_bend hI μ (lsc xs (i + 1)) (lsc xs (i + 2)) (lsc_rg _ _) (lsc_rg _ _) e1) zc_X9_bend kw_640 ⟨Nat.le_of_ble_eq_true rfl, Nat.le_of_ble_eq_true rfl⟩ rfl hl.1 rfl (Nat.le_of_ble_eq_true rfl) dL_law_522 ⟨Nat.le_of_ble_eq_true rfl, Nat.le_of_ble_eq_true rfl⟩ (fun H locs g1 X => ?_)
  refine lv_aload_n C.1 C.2.1 dL_law_525 rfl (lv_at hl 2 rfl) ?_
  refine y_arg D X hl hi (k := 1) ⟨by decide, by decide⟩ dL_law_526 dL_law_527 dL_law_528 dL_law_529 dL_law_530 ?_
  refine y_arg D X hl hi (k := 2) ⟨by decide, by decide⟩ dL_law_531 dL_law_532 dL_law_533 dL_law_534 dL_law_535 ?_
  refine z_callVG C X zk10 (hM.1 101 (by decide)) rfl (As := [zI (lsc xs (i + 1)), zI (lsc xs (i + 2))]) (M_X10_bend hM μ1 (lsc xs (i + 1)) (lsc xs (i + 2)) (lsc_rg _ _) (lsc_rg _ _) e2) zc_X10_bend kw_1370 ⟨Nat.le_of_ble_eq_true rfl, Nat.le_of_ble_eq_true rfl⟩ rfl hl.1 rfl (Nat.le_of_ble_eq_true rfl) dL_law_536 ⟨Nat.le_of_ble_eq_true rfl, Nat.le_of_ble_eq_true rfl⟩ (fun H locs g2 X => ?_)
  refine z_lcmp C g1 g2 dL_law_539 ?_
  exact z_ifeq C (Rg_cmp _ _) (tgt := 1204) dL_law_540 (by decide) (fun _ => kk μ2 _ _ X R2) (fun hn => absurd (zcmp_e e3.symm) hn)
