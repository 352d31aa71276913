/-! THE LAW: cases -/
set_option maxHeartbeats 4000000 in
set_option maxRecDepth 100000 in
theorem law_0 {p : Program} {l : Launch} {e : Env} {s : State} {m : MethodId} {args : Array Value} {below : List Frame} {meth : Method} {c : Code} {Q : State → Prop} {D : va_G} {cy cz : Nat → ClassId} {ad am : Nat → Nat} {tI b N : Nat} {xs : Nat → Int32} (C0 : LW p s m args meth c D cy ad cz am tI b N xs) {n : Nat} (hn : n + 6 ≤ N) {P Dr : Nat} {I J : xMem} {L M : xLon} {H : Heap} {locs : List Loc} (C1 : LA D cy ad cz am s P Dr I L J M H locs) {ls : Array Slot} (hl : lv_has ls 4 [(0, .ref b), (1, .ref (ad 0)), (2, .ref (am 0)), (3, .int (nI n))]) (kk : ∀ (P Dr : Nat) (I : xMem) (L : xLon) (J : xMem) (M : xLon) (H : Heap) (locs : List Loc), LA D cy ad cz am s P Dr I L J M H locs → W p l e room_1 s m args below meth c H locs 600000 7302250 Q (F0 m 1348 ls [])) : W p l e room_1 s m args below meth c H locs 600000 7302250 Q (F0 m 212 ls []) := by
  have hX4 := C1.ok C0.2.2.2.1
  obtain ⟨⟨hx, hb, hml, hown, hts⟩, ⟨hX, hbl, hN⟩, ⟨hK, hKm, hZ⟩, hi, him, hA, hAm, hdis⟩ := C0
  obtain ⟨hSim, hG, hGm, hS⟩ := C1
  obtain ⟨r, I2, J2, e1, e2, hSim2⟩ := op_row hSim (xs (n + 1)) (xs (n + 2))
  refine lv_aload_n hx hb dL_law_212 rfl (lv_at hl 1 rfl) ?_
  refine law_arg (k := 1) hx hb hX hbl hS hl (j0 := 0) (j3 := 3) rfl rfl (by omega) (by omega) dL_law_213 dL_law_214 dL_law_215 dL_law_216 dL_law_217 ?_
  refine law_arg (k := 2) hx hb hX hbl hS hl (j0 := 0) (j3 := 3) rfl rfl (by omega) (by omega) dL_law_218 dL_law_219 dL_law_220 dL_law_221 dL_law_222 ?_
  refine law_i (va_runV (As := [.int (xs (n + 1)), .int (xs (n + 2))]) (rest := []) ⟨hx, hb, hml, hown, hts⟩ (k_X4_row l D cy ad P Dr tI hX4 _ L (xs (n + 1)) (xs (n + 2)) (r, I2) e1) (cwV 2 hts (goodIn_up gL_law_X4_row) rfl rfl rfl cd_X4_row ⟨Nat.le_of_ble_eq_true rfl, Nat.le_of_ble_eq_true rfl⟩) ⟨g_blind cZm, g_recv hK hG (k := 0) (by decide) (cE_4 _ _) vwCl_4, g_pre cZm hK hG hZ (law_S0 hS)⟩ rfl rfl hl.1 rfl (lv_room (Nat.le_of_ble_eq_true rfl)) dL_law_223 ⟨Nat.le_of_ble_eq_true rfl, Nat.le_of_ble_eq_true rfl⟩) hS hA hGm (fun k h1 j h2 h3 => hdis j h2 k h1 h3.symm) (fun H locs hG hGm hS => ?_)
  refine lv_aload_n hx hb dL_law_226 rfl (lv_at hl 2 rfl) ?_
  refine law_arg (k := 1) hx hb hX hbl hS hl (j0 := 0) (j3 := 3) rfl rfl (by omega) (by omega) dL_law_227 dL_law_228 dL_law_229 dL_law_230 dL_law_231 ?_
  refine law_arg (k := 2) hx hb hX hbl hS hl (j0 := 0) (j3 := 3) rfl rfl (by omega) (by omega) dL_law_232 dL_law_233 dL_law_234 dL_law_235 dL_law_236 ?_
  refine law_i (va_runV (As := [.int (xs (n + 1)), .int (xs (n + 2))]) (rest := [_]) ⟨hx, hb, hml, hown, hts⟩ (k_X5_row l D cz am him _ M (xs (n + 1)) (xs (n + 2)) (r, J2) e2) (cwV 2 hts (goodIn_up gL_law_X5_row) rfl rfl rfl cd_X5_row ⟨Nat.le_of_ble_eq_true rfl, Nat.le_of_ble_eq_true rfl⟩) ⟨g_blind mZm, g_recv hKm hGm (k := 0) (by decide) (mE_5 _ _) vwCl_5, g_pre mZm hKm hGm trivial (law_S0 hS)⟩ rfl rfl hl.1 rfl (lv_room (Nat.le_of_ble_eq_true rfl)) dL_law_237 ⟨Nat.le_of_ble_eq_true rfl, Nat.le_of_ble_eq_true rfl⟩) hS hAm hG hdis (fun H locs hGm hG hS => ?_)
  refine lv_icmp_eq (tgt := 1348) hx hb dL_law_240 (by decide) (fun _ => ?_) (fun c9 => absurd rfl c9)
  exact kk P Dr I2 L J2 M _ _ ⟨hSim2, hG, hGm, hS⟩

set_option maxHeartbeats 4000000 in
set_option maxRecDepth 100000 in
theorem law_1 {p : Program} {l : Launch} {e : Env} {s : State} {m : MethodId} {args : Array Value} {below : List Frame} {meth : Method} {c : Code} {Q : State → Prop} {D : va_G} {cy cz : Nat → ClassId} {ad am : Nat → Nat} {tI b N : Nat} {xs : Nat → Int32} (C0 : LW p s m args meth c D cy ad cz am tI b N xs) {n : Nat} (hn : n + 6 ≤ N) {P Dr : Nat} {I J : xMem} {L M : xLon} {H : Heap} {locs : List Loc} (C1 : LA D cy ad cz am s P Dr I L J M H locs) {ls : Array Slot} (hl : lv_has ls 4 [(0, .ref b), (1, .ref (ad 0)), (2, .ref (am 0)), (3, .int (nI n))]) (kk : ∀ (P Dr : Nat) (I : xMem) (L : xLon) (J : xMem) (M : xLon) (H : Heap) (locs : List Loc), LA D cy ad cz am s P Dr I L J M H locs → W p l e room_1 s m args below meth c H locs 600000 7302250 Q (F0 m 1348 ls [])) : W p l e room_1 s m args below meth c H locs 600000 7302250 Q (F0 m 245 ls []) := by
  have hX4 := C1.ok C0.2.2.2.1
  obtain ⟨⟨hx, hb, hml, hown, hts⟩, ⟨hX, hbl, hN⟩, ⟨hK, hKm, hZ⟩, hi, him, hA, hAm, hdis⟩ := C0
  obtain ⟨hSim, hG, hGm, hS⟩ := C1
  obtain ⟨r, I2, J2, e1, e2, hSim2⟩ := op_lay hSim (xs (n + 1)) (xs (n + 2)) (xs (n + 3))
  refine lv_aload_n hx hb dL_law_245 rfl (lv_at hl 1 rfl) ?_
  refine law_arg (k := 1) hx hb hX hbl hS hl (j0 := 0) (j3 := 3) rfl rfl (by omega) (by omega) dL_law_246 dL_law_247 dL_law_248 dL_law_249 dL_law_250 ?_
  refine law_arg (k := 2) hx hb hX hbl hS hl (j0 := 0) (j3 := 3) rfl rfl (by omega) (by omega) dL_law_251 dL_law_252 dL_law_253 dL_law_254 dL_law_255 ?_
  refine law_arg (k := 3) hx hb hX hbl hS hl (j0 := 0) (j3 := 3) rfl rfl (by omega) (by omega) dL_law_256 dL_law_257 dL_law_258 dL_law_259 dL_law_260 ?_
  refine law_i (va_runV (As := [.int (xs (n + 1)), .int (xs (n + 2)), .int (xs (n + 3))]) (rest := []) ⟨hx, hb, hml, hown, hts⟩ (k_X4_lay l D cy ad P Dr tI hX4 _ L (xs (n + 1)) (xs (n + 2)) (xs (n + 3)) (r, I2) e1) (cwV 3 hts (goodIn_up gL_law_X4_lay) rfl rfl rfl cd_X4_lay ⟨Nat.le_of_ble_eq_true rfl, Nat.le_of_ble_eq_true rfl⟩) ⟨g_blind cZm, g_recv hK hG (k := 0) (by decide) (cE_4 _ _) vwCl_4, g_pre cZm hK hG hZ (law_S0 hS)⟩ rfl rfl hl.1 rfl (lv_room (Nat.le_of_ble_eq_true rfl)) dL_law_261 ⟨Nat.le_of_ble_eq_true rfl, Nat.le_of_ble_eq_true rfl⟩) hS hA hGm (fun k h1 j h2 h3 => hdis j h2 k h1 h3.symm) (fun H locs hG hGm hS => ?_)
  refine lv_aload_n hx hb dL_law_264 rfl (lv_at hl 2 rfl) ?_
  refine law_arg (k := 1) hx hb hX hbl hS hl (j0 := 0) (j3 := 3) rfl rfl (by omega) (by omega) dL_law_265 dL_law_266 dL_law_267 dL_law_268 dL_law_269 ?_
  refine law_arg (k := 2) hx hb hX hbl hS hl (j0 := 0) (j3 := 3) rfl rfl (by omega) (by omega) dL_law_270 dL_law_271 dL_law_272 dL_law_273 dL_law_274 ?_
  refine law_arg (k := 3) hx hb hX hbl hS hl (j0 := 0) (j3 := 3) rfl rfl (by omega) (by omega) dL_law_275 dL_law_276 dL_law_277 dL_law_278 dL_law_279 ?_
  refine law_i (va_runV (As := [.int (xs (n + 1)), .int (xs (n + 2)), .int (xs (n + 3))]) (rest := [_]) ⟨hx, hb, hml, hown, hts⟩ (k_X5_lay l D cz am him _ M (xs (n + 1)) (xs (n + 2)) (xs (n + 3)) (r, J2) e2) (cwV 3 hts (goodIn_up gL_law_X5_lay) rfl rfl rfl cd_X5_lay ⟨Nat.le_of_ble_eq_true rfl, Nat.le_of_ble_eq_true rfl⟩) ⟨g_blind mZm, g_recv hKm hGm (k := 0) (by decide) (mE_5 _ _) vwCl_5, g_pre mZm hKm hGm trivial (law_S0 hS)⟩ rfl rfl hl.1 rfl (lv_room (Nat.le_of_ble_eq_true rfl)) dL_law_280 ⟨Nat.le_of_ble_eq_true rfl, Nat.le_of_ble_eq_true rfl⟩) hS hAm hG hdis (fun H locs hGm hG hS => ?_)
  refine lv_icmp_eq (tgt := 1348) hx hb dL_law_283 (by decide) (fun _ => ?_) (fun c9 => absurd rfl c9)
  exact kk P Dr I2 L J2 M _ _ ⟨hSim2, hG, hGm, hS⟩

set_option maxHeartbeats 4000000 in
set_option maxRecDepth 100000 in
theorem law_2 {p : Program} {l : Launch} {e : Env} {s : State} {m : MethodId} {args : Array Value} {below : List Frame} {meth : Method} {c : Code} {Q : State → Prop} {D : va_G} {cy cz : Nat → ClassId} {ad am : Nat → Nat} {tI b N : Nat} {xs : Nat → Int32} (C0 : LW p s m args meth c D cy ad cz am tI b N xs) {n : Nat} (hn : n + 6 ≤ N) {P Dr : Nat} {I J : xMem} {L M : xLon} {H : Heap} {locs : List Loc} (C1 : LA D cy ad cz am s P Dr I L J M H locs) {ls : Array Slot} (hl : lv_has ls 4 [(0, .ref b), (1, .ref (ad 0)), (2, .ref (am 0)), (3, .int (nI n))]) (kk : ∀ (P Dr : Nat) (I : xMem) (L : xLon) (J : xMem) (M : xLon) (H : Heap) (locs : List Loc), LA D cy ad cz am s P Dr I L J M H locs → W p l e room_1 s m args below meth c H locs 600000 7302250 Q (F0 m 1348 ls [])) : W p l e room_1 s m args below meth c H locs 600000 7302250 Q (F0 m 288 ls []) := by
  have hX4 := C1.ok C0.2.2.2.1
  obtain ⟨⟨hx, hb, hml, hown, hts⟩, ⟨hX, hbl, hN⟩, ⟨hK, hKm, hZ⟩, hi, him, hA, hAm, hdis⟩ := C0
  obtain ⟨hSim, hG, hGm, hS⟩ := C1
  obtain ⟨r, I2, J2, e1, e2, hSim2⟩ := op_at hSim (xs (n + 1)) (xs (n + 2))
  refine lv_aload_n hx hb dL_law_288 rfl (lv_at hl 1 rfl) ?_
  refine law_arg (k := 1) hx hb hX hbl hS hl (j0 := 0) (j3 := 3) rfl rfl (by omega) (by omega) dL_law_289 dL_law_290 dL_law_291 dL_law_292 dL_law_293 ?_
  refine law_arg (k := 2) hx hb hX hbl hS hl (j0 := 0) (j3 := 3) rfl rfl (by omega) (by omega) dL_law_294 dL_law_295 dL_law_296 dL_law_297 dL_law_298 ?_
  refine law_i (va_runV (As := [.int (xs (n + 1)), .int (xs (n + 2))]) (rest := []) ⟨hx, hb, hml, hown, hts⟩ (k_X4_at l D cy ad P Dr tI hX4 _ L (xs (n + 1)) (xs (n + 2)) (r, I2) e1) (cwV 2 hts (goodIn_up gL_law_X4_at) rfl rfl rfl cd_X4_at ⟨Nat.le_of_ble_eq_true rfl, Nat.le_of_ble_eq_true rfl⟩) ⟨g_blind cZm, g_recv hK hG (k := 0) (by decide) (cE_4 _ _) vwCl_4, g_pre cZm hK hG hZ (law_S0 hS)⟩ rfl rfl hl.1 rfl (lv_room (Nat.le_of_ble_eq_true rfl)) dL_law_299 ⟨Nat.le_of_ble_eq_true rfl, Nat.le_of_ble_eq_true rfl⟩) hS hA hGm (fun k h1 j h2 h3 => hdis j h2 k h1 h3.symm) (fun H locs hG hGm hS => ?_)
  refine lv_aload_n hx hb dL_law_302 rfl (lv_at hl 2 rfl) ?_
  refine law_arg (k := 1) hx hb hX hbl hS hl (j0 := 0) (j3 := 3) rfl rfl (by omega) (by omega) dL_law_303 dL_law_304 dL_law_305 dL_law_306 dL_law_307 ?_
  refine law_arg (k := 2) hx hb hX hbl hS hl (j0 := 0) (j3 := 3) rfl rfl (by omega) (by omega) dL_law_308 dL_law_309 dL_law_310 dL_law_311 dL_law_312 ?_
  refine law_i (va_runV (As := [.int (xs (n + 1)), .int (xs (n + 2))]) (rest := [_]) ⟨hx, hb, hml, hown, hts⟩ (k_X5_at l D cz am him _ M (xs (n + 1)) (xs (n + 2)) (r, J2) e2) (cwV 2 hts (goodIn_up gL_law_X5_at) rfl rfl rfl cd_X5_at ⟨Nat.le_of_ble_eq_true rfl, Nat.le_of_ble_eq_true rfl⟩) ⟨g_blind mZm, g_recv hKm hGm (k := 0) (by decide) (mE_5 _ _) vwCl_5, g_pre mZm hKm hGm trivial (law_S0 hS)⟩ rfl rfl hl.1 rfl (lv_room (Nat.le_of_ble_eq_true rfl)) dL_law_313 ⟨Nat.le_of_ble_eq_true rfl, Nat.le_of_ble_eq_true rfl⟩) hS hAm hG hdis (fun H locs hGm hG hS => ?_)
  refine lv_icmp_eq (tgt := 1348) hx hb dL_law_316 (by decide) (fun _ => ?_) (fun c9 => absurd rfl c9)
  exact kk P Dr I2 L J2 M _ _ ⟨hSim2, hG, hGm, hS⟩

set_option maxHeartbeats 4000000 in
set_option maxRecDepth 100000 in
theorem law_3 {p : Program} {l : Launch} {e : Env} {s : State} {m : MethodId} {args : Array Value} {below : List Frame} {meth : Method} {c : Code} {Q : State → Prop} {D : va_G} {cy cz : Nat → ClassId} {ad am : Nat → Nat} {tI b N : Nat} {xs : Nat → Int32} (C0 : LW p s m args meth c D cy ad cz am tI b N xs) {n : Nat} (hn : n + 6 ≤ N) {P Dr : Nat} {I J : xMem} {L M : xLon} {H : Heap} {locs : List Loc} (C1 : LA D cy ad cz am s P Dr I L J M H locs) {ls : Array Slot} (hl : lv_has ls 4 [(0, .ref b), (1, .ref (ad 0)), (2, .ref (am 0)), (3, .int (nI n))]) (kk : ∀ (P Dr : Nat) (I : xMem) (L : xLon) (J : xMem) (M : xLon) (H : Heap) (locs : List Loc), LA D cy ad cz am s P Dr I L J M H locs → W p l e room_1 s m args below meth c H locs 600000 7302250 Q (F0 m 1348 ls [])) : W p l e room_1 s m args below meth c H locs 600000 7302250 Q (F0 m 321 ls []) := by
  have hX4 := C1.ok C0.2.2.2.1
  obtain ⟨⟨hx, hb, hml, hown, hts⟩, ⟨hX, hbl, hN⟩, ⟨hK, hKm, hZ⟩, hi, him, hA, hAm, hdis⟩ := C0
  obtain ⟨hSim, hG, hGm, hS⟩ := C1
  obtain ⟨r, I2, J2, e1, e2, hSim2⟩ := op_tear hSim (xs (n + 1))
  refine lv_aload_n hx hb dL_law_321 rfl (lv_at hl 1 rfl) ?_
  refine law_arg (k := 1) hx hb hX hbl hS hl (j0 := 0) (j3 := 3) rfl rfl (by omega) (by omega) dL_law_322 dL_law_323 dL_law_324 dL_law_325 dL_law_326 ?_
  refine law_i (va_runV (As := [.int (xs (n + 1))]) (rest := []) ⟨hx, hb, hml, hown, hts⟩ (k_X4_tear l D cy ad P Dr tI hX4 _ L (xs (n + 1)) (r, I2) e1) (cwV 1 hts (goodIn_up gL_law_X4_tear) rfl rfl rfl cd_X4_tear ⟨Nat.le_of_ble_eq_true rfl, Nat.le_of_ble_eq_true rfl⟩) ⟨g_blind cZm, g_recv hK hG (k := 0) (by decide) (cE_4 _ _) vwCl_4, g_pre cZm hK hG hZ (law_S0 hS)⟩ rfl rfl hl.1 rfl (lv_room (Nat.le_of_ble_eq_true rfl)) dL_law_327 ⟨Nat.le_of_ble_eq_true rfl, Nat.le_of_ble_eq_true rfl⟩) hS hA hGm (fun k h1 j h2 h3 => hdis j h2 k h1 h3.symm) (fun H locs hG hGm hS => ?_)
  refine lv_aload_n hx hb dL_law_330 rfl (lv_at hl 2 rfl) ?_
  refine law_arg (k := 1) hx hb hX hbl hS hl (j0 := 0) (j3 := 3) rfl rfl (by omega) (by omega) dL_law_331 dL_law_332 dL_law_333 dL_law_334 dL_law_335 ?_
  refine law_i (va_runV (As := [.int (xs (n + 1))]) (rest := [_]) ⟨hx, hb, hml, hown, hts⟩ (k_X5_tear l D cz am him _ M (xs (n + 1)) (r, J2) e2) (cwV 1 hts (goodIn_up gL_law_X5_tear) rfl rfl rfl cd_X5_tear ⟨Nat.le_of_ble_eq_true rfl, Nat.le_of_ble_eq_true rfl⟩) ⟨g_blind mZm, g_recv hKm hGm (k := 0) (by decide) (mE_5 _ _) vwCl_5, g_pre mZm hKm hGm trivial (law_S0 hS)⟩ rfl rfl hl.1 rfl (lv_room (Nat.le_of_ble_eq_true rfl)) dL_law_336 ⟨Nat.le_of_ble_eq_true rfl, Nat.le_of_ble_eq_true rfl⟩) hS hAm hG hdis (fun H locs hGm hG hS => ?_)
  refine lv_icmp_eq (tgt := 1348) hx hb dL_law_339 (by decide) (fun _ => ?_) (fun c9 => absurd rfl c9)
  exact kk P Dr I2 L J2 M _ _ ⟨hSim2, hG, hGm, hS⟩

set_option maxHeartbeats 4000000 in
set_option maxRecDepth 100000 in
theorem law_4 {p : Program} {l : Launch} {e : Env} {s : State} {m : MethodId} {args : Array Value} {below : List Frame} {meth : Method} {c : Code} {Q : State → Prop} {D : va_G} {cy cz : Nat → ClassId} {ad am : Nat → Nat} {tI b N : Nat} {xs : Nat → Int32} (C0 : LW p s m args meth c D cy ad cz am tI b N xs) {n : Nat} (hn : n + 6 ≤ N) {P Dr : Nat} {I J : xMem} {L M : xLon} {H : Heap} {locs : List Loc} (C1 : LA D cy ad cz am s P Dr I L J M H locs) {ls : Array Slot} (hl : lv_has ls 4 [(0, .ref b), (1, .ref (ad 0)), (2, .ref (am 0)), (3, .int (nI n))]) (kk : ∀ (P Dr : Nat) (I : xMem) (L : xLon) (J : xMem) (M : xLon) (H : Heap) (locs : List Loc), LA D cy ad cz am s P Dr I L J M H locs → W p l e room_1 s m args below meth c H locs 600000 7302250 Q (F0 m 1348 ls [])) : W p l e room_1 s m args below meth c H locs 600000 7302250 Q (F0 m 344 ls []) := by
  have hX4 := C1.ok C0.2.2.2.1
  obtain ⟨⟨hx, hb, hml, hown, hts⟩, ⟨hX, hbl, hN⟩, ⟨hK, hKm, hZ⟩, hi, him, hA, hAm, hdis⟩ := C0
  obtain ⟨hSim, hG, hGm, hS⟩ := C1
  obtain ⟨r, I2, J2, e1, e2, hSim2⟩ := op_copy hSim (xs (n + 1)) (xs (n + 2)) (xs (n + 3)) (xs (n + 4)) (xs (n + 5))
  refine lv_aload_n hx hb dL_law_344 rfl (lv_at hl 1 rfl) ?_
  refine law_arg (k := 1) hx hb hX hbl hS hl (j0 := 0) (j3 := 3) rfl rfl (by omega) (by omega) dL_law_345 dL_law_346 dL_law_347 dL_law_348 dL_law_349 ?_
  refine law_arg (k := 2) hx hb hX hbl hS hl (j0 := 0) (j3 := 3) rfl rfl (by omega) (by omega) dL_law_350 dL_law_351 dL_law_352 dL_law_353 dL_law_354 ?_
  refine law_arg (k := 3) hx hb hX hbl hS hl (j0 := 0) (j3 := 3) rfl rfl (by omega) (by omega) dL_law_355 dL_law_356 dL_law_357 dL_law_358 dL_law_359 ?_
  refine law_arg (k := 4) hx hb hX hbl hS hl (j0 := 0) (j3 := 3) rfl rfl (by omega) (by omega) dL_law_360 dL_law_361 dL_law_362 dL_law_363 dL_law_364 ?_
  refine law_arg (k := 5) hx hb hX hbl hS hl (j0 := 0) (j3 := 3) rfl rfl (by omega) (by omega) dL_law_365 dL_law_366 dL_law_367 dL_law_368 dL_law_369 ?_
  refine law_i (va_runV (As := [.int (xs (n + 1)), .int (xs (n + 2)), .int (xs (n + 3)), .int (xs (n + 4)), .int (xs (n + 5))]) (rest := []) ⟨hx, hb, hml, hown, hts⟩ (k_X4_copy l D cy ad P Dr tI hX4 _ L (xs (n + 1)) (xs (n + 2)) (xs (n + 3)) (xs (n + 4)) (xs (n + 5)) (r, I2) e1) (cwV 5 hts (goodIn_up gL_law_X4_copy) rfl rfl rfl cd_X4_copy ⟨Nat.le_of_ble_eq_true rfl, Nat.le_of_ble_eq_true rfl⟩) ⟨g_blind cZm, g_recv hK hG (k := 0) (by decide) (cE_4 _ _) vwCl_4, g_pre cZm hK hG hZ (law_S0 hS)⟩ rfl rfl hl.1 rfl (lv_room (Nat.le_of_ble_eq_true rfl)) dL_law_370 ⟨Nat.le_of_ble_eq_true rfl, Nat.le_of_ble_eq_true rfl⟩) hS hA hGm (fun k h1 j h2 h3 => hdis j h2 k h1 h3.symm) (fun H locs hG hGm hS => ?_)
  refine lv_aload_n hx hb dL_law_373 rfl (lv_at hl 2 rfl) ?_
  refine law_arg (k := 1) hx hb hX hbl hS hl (j0 := 0) (j3 := 3) rfl rfl (by omega) (by omega) dL_law_374 dL_law_375 dL_law_376 dL_law_377 dL_law_378 ?_
  refine law_arg (k := 2) hx hb hX hbl hS hl (j0 := 0) (j3 := 3) rfl rfl (by omega) (by omega) dL_law_379 dL_law_380 dL_law_381 dL_law_382 dL_law_383 ?_
  refine law_arg (k := 3) hx hb hX hbl hS hl (j0 := 0) (j3 := 3) rfl rfl (by omega) (by omega) dL_law_384 dL_law_385 dL_law_386 dL_law_387 dL_law_388 ?_
  refine law_arg (k := 4) hx hb hX hbl hS hl (j0 := 0) (j3 := 3) rfl rfl (by omega) (by omega) dL_law_389 dL_law_390 dL_law_391 dL_law_392 dL_law_393 ?_
  refine law_arg (k := 5) hx hb hX hbl hS hl (j0 := 0) (j3 := 3) rfl rfl (by omega) (by omega) dL_law_394 dL_law_395 dL_law_396 dL_law_397 dL_law_398 ?_
  refine law_i (va_runV (As := [.int (xs (n + 1)), .int (xs (n + 2)), .int (xs (n + 3)), .int (xs (n + 4)), .int (xs (n + 5))]) (rest := [_]) ⟨hx, hb, hml, hown, hts⟩ (k_X5_copy l D cz am him _ M (xs (n + 1)) (xs (n + 2)) (xs (n + 3)) (xs (n + 4)) (xs (n + 5)) (r, J2) e2) (cwV 5 hts (goodIn_up gL_law_X5_copy) rfl rfl rfl cd_X5_copy ⟨Nat.le_of_ble_eq_true rfl, Nat.le_of_ble_eq_true rfl⟩) ⟨g_blind mZm, g_recv hKm hGm (k := 0) (by decide) (mE_5 _ _) vwCl_5, g_pre mZm hKm hGm trivial (law_S0 hS)⟩ rfl rfl hl.1 rfl (lv_room (Nat.le_of_ble_eq_true rfl)) dL_law_399 ⟨Nat.le_of_ble_eq_true rfl, Nat.le_of_ble_eq_true rfl⟩) hS hAm hG hdis (fun H locs hGm hG hS => ?_)
  refine lv_icmp_eq (tgt := 1348) hx hb dL_law_402 (by decide) (fun _ => ?_) (fun c9 => absurd rfl c9)
  exact kk P Dr I2 L J2 M _ _ ⟨hSim2, hG, hGm, hS⟩

set_option maxHeartbeats 4000000 in
set_option maxRecDepth 100000 in
theorem law_5 {p : Program} {l : Launch} {e : Env} {s : State} {m : MethodId} {args : Array Value} {below : List Frame} {meth : Method} {c : Code} {Q : State → Prop} {D : va_G} {cy cz : Nat → ClassId} {ad am : Nat → Nat} {tI b N : Nat} {xs : Nat → Int32} (C0 : LW p s m args meth c D cy ad cz am tI b N xs) {n : Nat} (hn : n + 6 ≤ N) {P Dr : Nat} {I J : xMem} {L M : xLon} {H : Heap} {locs : List Loc} (C1 : LA D cy ad cz am s P Dr I L J M H locs) {ls : Array Slot} (hl : lv_has ls 4 [(0, .ref b), (1, .ref (ad 0)), (2, .ref (am 0)), (3, .int (nI n))]) (kk : ∀ (P Dr : Nat) (I : xMem) (L : xLon) (J : xMem) (M : xLon) (H : Heap) (locs : List Loc), LA D cy ad cz am s P Dr I L J M H locs → W p l e room_1 s m args below meth c H locs 600000 7302250 Q (F0 m 1348 ls [])) : W p l e room_1 s m args below meth c H locs 600000 7302250 Q (F0 m 407 ls []) := by
  have hX4 := C1.ok C0.2.2.2.1
  obtain ⟨⟨hx, hb, hml, hown, hts⟩, ⟨hX, hbl, hN⟩, ⟨hK, hKm, hZ⟩, hi, him, hA, hAm, hdis⟩ := C0
  obtain ⟨hSim, hG, hGm, hS⟩ := C1
  obtain ⟨r, I2, J2, e1, e2, hSim2⟩ := op_mean hSim (xs (n + 1))
  refine lv_aload_n hx hb dL_law_407 rfl (lv_at hl 1 rfl) ?_
  refine law_arg (k := 1) hx hb hX hbl hS hl (j0 := 0) (j3 := 3) rfl rfl (by omega) (by omega) dL_law_408 dL_law_409 dL_law_410 dL_law_411 dL_law_412 ?_
  refine law_i (va_runV (As := [.int (xs (n + 1))]) (rest := []) ⟨hx, hb, hml, hown, hts⟩ (k_X4_mean l D cy ad P Dr tI hX4 _ L (xs (n + 1)) (r, I2) e1) (cwV 1 hts (goodIn_up gL_law_X4_mean) rfl rfl rfl cd_X4_mean ⟨Nat.le_of_ble_eq_true rfl, Nat.le_of_ble_eq_true rfl⟩) ⟨g_blind cZm, g_recv hK hG (k := 0) (by decide) (cE_4 _ _) vwCl_4, g_pre cZm hK hG hZ (law_S0 hS)⟩ rfl rfl hl.1 rfl (lv_room (Nat.le_of_ble_eq_true rfl)) dL_law_413 ⟨Nat.le_of_ble_eq_true rfl, Nat.le_of_ble_eq_true rfl⟩) hS hA hGm (fun k h1 j h2 h3 => hdis j h2 k h1 h3.symm) (fun H locs hG hGm hS => ?_)
  refine lv_aload_n hx hb dL_law_416 rfl (lv_at hl 2 rfl) ?_
  refine law_arg (k := 1) hx hb hX hbl hS hl (j0 := 0) (j3 := 3) rfl rfl (by omega) (by omega) dL_law_417 dL_law_418 dL_law_419 dL_law_420 dL_law_421 ?_
  refine law_i (va_runV (As := [.int (xs (n + 1))]) (rest := [_]) ⟨hx, hb, hml, hown, hts⟩ (k_X5_mean l D cz am him _ M (xs (n + 1)) (r, J2) e2) (cwV 1 hts (goodIn_up gL_law_X5_mean) rfl rfl rfl cd_X5_mean ⟨Nat.le_of_ble_eq_true rfl, Nat.le_of_ble_eq_true rfl⟩) ⟨g_blind mZm, g_recv hKm hGm (k := 0) (by decide) (mE_5 _ _) vwCl_5, g_pre mZm hKm hGm trivial (law_S0 hS)⟩ rfl rfl hl.1 rfl (lv_room (Nat.le_of_ble_eq_true rfl)) dL_law_422 ⟨Nat.le_of_ble_eq_true rfl, Nat.le_of_ble_eq_true rfl⟩) hS hAm hG hdis (fun H locs hGm hG hS => ?_)
  refine lv_icmp_eq (tgt := 1348) hx hb dL_law_425 (by decide) (fun _ => ?_) (fun c9 => absurd rfl c9)
  exact kk P Dr I2 L J2 M _ _ ⟨hSim2, hG, hGm, hS⟩

set_option maxHeartbeats 4000000 in
set_option maxRecDepth 100000 in
theorem law_6 {p : Program} {l : Launch} {e : Env} {s : State} {m : MethodId} {args : Array Value} {below : List Frame} {meth : Method} {c : Code} {Q : State → Prop} {D : va_G} {cy cz : Nat → ClassId} {ad am : Nat → Nat} {tI b N : Nat} {xs : Nat → Int32} (C0 : LW p s m args meth c D cy ad cz am tI b N xs) {n : Nat} (hn : n + 6 ≤ N) {P Dr : Nat} {I J : xMem} {L M : xLon} {H : Heap} {locs : List Loc} (C1 : LA D cy ad cz am s P Dr I L J M H locs) {ls : Array Slot} (hl : lv_has ls 4 [(0, .ref b), (1, .ref (ad 0)), (2, .ref (am 0)), (3, .int (nI n))]) (kk : ∀ (P Dr : Nat) (I : xMem) (L : xLon) (J : xMem) (M : xLon) (H : Heap) (locs : List Loc), LA D cy ad cz am s P Dr I L J M H locs → W p l e room_1 s m args below meth c H locs 600000 7302250 Q (F0 m 1348 ls [])) : W p l e room_1 s m args below meth c H locs 600000 7302250 Q (F0 m 430 ls []) := by
  have hX4 := C1.ok C0.2.2.2.1
  obtain ⟨⟨hx, hb, hml, hown, hts⟩, ⟨hX, hbl, hN⟩, ⟨hK, hKm, hZ⟩, hi, him, hA, hAm, hdis⟩ := C0
  obtain ⟨hSim, hG, hGm, hS⟩ := C1
  obtain ⟨r, I2, J2, e1, e2, hSim2⟩ := op_text hSim (xs (n + 1)) (xs (n + 2))
  refine lv_aload_n hx hb dL_law_430 rfl (lv_at hl 1 rfl) ?_
  refine law_arg (k := 1) hx hb hX hbl hS hl (j0 := 0) (j3 := 3) rfl rfl (by omega) (by omega) dL_law_431 dL_law_432 dL_law_433 dL_law_434 dL_law_435 ?_
  refine law_arg (k := 2) hx hb hX hbl hS hl (j0 := 0) (j3 := 3) rfl rfl (by omega) (by omega) dL_law_436 dL_law_437 dL_law_438 dL_law_439 dL_law_440 ?_
  refine law_i (va_runV (As := [.int (xs (n + 1)), .int (xs (n + 2))]) (rest := []) ⟨hx, hb, hml, hown, hts⟩ (k_X4_text l D cy ad P Dr tI hX4 _ L (xs (n + 1)) (xs (n + 2)) (r, I2) e1) (cwV 2 hts (goodIn_up gL_law_X4_text) rfl rfl rfl cd_X4_text ⟨Nat.le_of_ble_eq_true rfl, Nat.le_of_ble_eq_true rfl⟩) ⟨g_blind cZm, g_recv hK hG (k := 0) (by decide) (cE_4 _ _) vwCl_4, g_pre cZm hK hG hZ (law_S0 hS)⟩ rfl rfl hl.1 rfl (lv_room (Nat.le_of_ble_eq_true rfl)) dL_law_441 ⟨Nat.le_of_ble_eq_true rfl, Nat.le_of_ble_eq_true rfl⟩) hS hA hGm (fun k h1 j h2 h3 => hdis j h2 k h1 h3.symm) (fun H locs hG hGm hS => ?_)
  refine lv_aload_n hx hb dL_law_444 rfl (lv_at hl 2 rfl) ?_
  refine law_arg (k := 1) hx hb hX hbl hS hl (j0 := 0) (j3 := 3) rfl rfl (by omega) (by omega) dL_law_445 dL_law_446 dL_law_447 dL_law_448 dL_law_449 ?_
  refine law_arg (k := 2) hx hb hX hbl hS hl (j0 := 0) (j3 := 3) rfl rfl (by omega) (by omega) dL_law_450 dL_law_451 dL_law_452 dL_law_453 dL_law_454 ?_
  refine law_i (va_runV (As := [.int (xs (n + 1)), .int (xs (n + 2))]) (rest := [_]) ⟨hx, hb, hml, hown, hts⟩ (k_X5_text l D cz am him _ M (xs (n + 1)) (xs (n + 2)) (r, J2) e2) (cwV 2 hts (goodIn_up gL_law_X5_text) rfl rfl rfl cd_X5_text ⟨Nat.le_of_ble_eq_true rfl, Nat.le_of_ble_eq_true rfl⟩) ⟨g_blind mZm, g_recv hKm hGm (k := 0) (by decide) (mE_5 _ _) vwCl_5, g_pre mZm hKm hGm trivial (law_S0 hS)⟩ rfl rfl hl.1 rfl (lv_room (Nat.le_of_ble_eq_true rfl)) dL_law_455 ⟨Nat.le_of_ble_eq_true rfl, Nat.le_of_ble_eq_true rfl⟩) hS hAm hG hdis (fun H locs hGm hG hS => ?_)
  refine lv_icmp_eq (tgt := 1348) hx hb dL_law_458 (by decide) (fun _ => ?_) (fun c9 => absurd rfl c9)
  exact kk P Dr I2 L J2 M _ _ ⟨hSim2, hG, hGm, hS⟩

set_option maxHeartbeats 4000000 in
set_option maxRecDepth 100000 in
theorem law_7 {p : Program} {l : Launch} {e : Env} {s : State} {m : MethodId} {args : Array Value} {below : List Frame} {meth : Method} {c : Code} {Q : State → Prop} {D : va_G} {cy cz : Nat → ClassId} {ad am : Nat → Nat} {tI b N : Nat} {xs : Nat → Int32} (C0 : LW p s m args meth c D cy ad cz am tI b N xs) {n : Nat} (hn : n + 6 ≤ N) {P Dr : Nat} {I J : xMem} {L M : xLon} {H : Heap} {locs : List Loc} (C1 : LA D cy ad cz am s P Dr I L J M H locs) {ls : Array Slot} (hl : lv_has ls 4 [(0, .ref b), (1, .ref (ad 0)), (2, .ref (am 0)), (3, .int (nI n))]) (kk : ∀ (P Dr : Nat) (I : xMem) (L : xLon) (J : xMem) (M : xLon) (H : Heap) (locs : List Loc), LA D cy ad cz am s P Dr I L J M H locs → W p l e room_1 s m args below meth c H locs 600000 7302250 Q (F0 m 1348 ls [])) : W p l e room_1 s m args below meth c H locs 600000 7302250 Q (F0 m 463 ls []) := by
  have hX4 := C1.ok C0.2.2.2.1
  obtain ⟨⟨hx, hb, hml, hown, hts⟩, ⟨hX, hbl, hN⟩, ⟨hK, hKm, hZ⟩, hi, him, hA, hAm, hdis⟩ := C0
  obtain ⟨hSim, hG, hGm, hS⟩ := C1
  obtain ⟨r, I2, J2, e1, e2, hSim2⟩ := op_put hSim (xs (n + 1)) (xs (n + 2)) (xs (n + 3))
  refine lv_aload_n hx hb dL_law_463 rfl (lv_at hl 1 rfl) ?_
  refine law_arg (k := 1) hx hb hX hbl hS hl (j0 := 0) (j3 := 3) rfl rfl (by omega) (by omega) dL_law_464 dL_law_465 dL_law_466 dL_law_467 dL_law_468 ?_
  refine law_arg (k := 2) hx hb hX hbl hS hl (j0 := 0) (j3 := 3) rfl rfl (by omega) (by omega) dL_law_469 dL_law_470 dL_law_471 dL_law_472 dL_law_473 ?_
  refine law_arg (k := 3) hx hb hX hbl hS hl (j0 := 0) (j3 := 3) rfl rfl (by omega) (by omega) dL_law_474 dL_law_475 dL_law_476 dL_law_477 dL_law_478 ?_
  refine law_i (va_runV (As := [.int (xs (n + 1)), .int (xs (n + 2)), .int (xs (n + 3))]) (rest := []) ⟨hx, hb, hml, hown, hts⟩ (k_X4_put l D cy ad P Dr tI hX4 _ L (xs (n + 1)) (xs (n + 2)) (xs (n + 3)) (r, I2) e1) (cwV 3 hts (goodIn_up gL_law_X4_put) rfl rfl rfl cd_X4_put ⟨Nat.le_of_ble_eq_true rfl, Nat.le_of_ble_eq_true rfl⟩) ⟨g_blind cZm, g_recv hK hG (k := 0) (by decide) (cE_4 _ _) vwCl_4, g_pre cZm hK hG hZ (law_S0 hS)⟩ rfl rfl hl.1 rfl (lv_room (Nat.le_of_ble_eq_true rfl)) dL_law_479 ⟨Nat.le_of_ble_eq_true rfl, Nat.le_of_ble_eq_true rfl⟩) hS hA hGm (fun k h1 j h2 h3 => hdis j h2 k h1 h3.symm) (fun H locs hG hGm hS => ?_)
  refine lv_aload_n hx hb dL_law_482 rfl (lv_at hl 2 rfl) ?_
  refine law_arg (k := 1) hx hb hX hbl hS hl (j0 := 0) (j3 := 3) rfl rfl (by omega) (by omega) dL_law_483 dL_law_484 dL_law_485 dL_law_486 dL_law_487 ?_
  refine law_arg (k := 2) hx hb hX hbl hS hl (j0 := 0) (j3 := 3) rfl rfl (by omega) (by omega) dL_law_488 dL_law_489 dL_law_490 dL_law_491 dL_law_492 ?_
  refine law_arg (k := 3) hx hb hX hbl hS hl (j0 := 0) (j3 := 3) rfl rfl (by omega) (by omega) dL_law_493 dL_law_494 dL_law_495 dL_law_496 dL_law_497 ?_
  refine law_i (va_runV (As := [.int (xs (n + 1)), .int (xs (n + 2)), .int (xs (n + 3))]) (rest := [_]) ⟨hx, hb, hml, hown, hts⟩ (k_X5_put l D cz am him _ M (xs (n + 1)) (xs (n + 2)) (xs (n + 3)) (r, J2) e2) (cwV 3 hts (goodIn_up gL_law_X5_put) rfl rfl rfl cd_X5_put ⟨Nat.le_of_ble_eq_true rfl, Nat.le_of_ble_eq_true rfl⟩) ⟨g_blind mZm, g_recv hKm hGm (k := 0) (by decide) (mE_5 _ _) vwCl_5, g_pre mZm hKm hGm trivial (law_S0 hS)⟩ rfl rfl hl.1 rfl (lv_room (Nat.le_of_ble_eq_true rfl)) dL_law_498 ⟨Nat.le_of_ble_eq_true rfl, Nat.le_of_ble_eq_true rfl⟩) hS hAm hG hdis (fun H locs hGm hG hS => ?_)
  refine lv_icmp_eq (tgt := 1348) hx hb dL_law_501 (by decide) (fun _ => ?_) (fun c9 => absurd rfl c9)
  exact kk P Dr I2 L J2 M _ _ ⟨hSim2, hG, hGm, hS⟩

set_option maxHeartbeats 4000000 in
set_option maxRecDepth 100000 in
theorem law_8 {p : Program} {l : Launch} {e : Env} {s : State} {m : MethodId} {args : Array Value} {below : List Frame} {meth : Method} {c : Code} {Q : State → Prop} {D : va_G} {cy cz : Nat → ClassId} {ad am : Nat → Nat} {tI b N : Nat} {xs : Nat → Int32} (C0 : LW p s m args meth c D cy ad cz am tI b N xs) {n : Nat} (hn : n + 6 ≤ N) {P Dr : Nat} {I J : xMem} {L M : xLon} {H : Heap} {locs : List Loc} (C1 : LA D cy ad cz am s P Dr I L J M H locs) {ls : Array Slot} (hl : lv_has ls 4 [(0, .ref b), (1, .ref (ad 0)), (2, .ref (am 0)), (3, .int (nI n))]) (kk : ∀ (P Dr : Nat) (I : xMem) (L : xLon) (J : xMem) (M : xLon) (H : Heap) (locs : List Loc), LA D cy ad cz am s P Dr I L J M H locs → W p l e room_1 s m args below meth c H locs 600000 7302250 Q (F0 m 1348 ls [])) : W p l e room_1 s m args below meth c H locs 600000 7302250 Q (F0 m 506 ls []) := by
  have hX4 := C1.ok C0.2.2.2.1
  obtain ⟨⟨hx, hb, hml, hown, hts⟩, ⟨hX, hbl, hN⟩, ⟨hK, hKm, hZ⟩, hi, him, hA, hAm, hdis⟩ := C0
  obtain ⟨hSim, hG, hGm, hS⟩ := C1
  obtain ⟨r, I2, J2, e1, e2, hSim2⟩ := op_fault hSim (xs (n + 1))
  refine lv_aload_n hx hb dL_law_506 rfl (lv_at hl 1 rfl) ?_
  refine law_arg (k := 1) hx hb hX hbl hS hl (j0 := 0) (j3 := 3) rfl rfl (by omega) (by omega) dL_law_507 dL_law_508 dL_law_509 dL_law_510 dL_law_511 ?_
  refine law_i (va_runV (As := [.int (xs (n + 1))]) (rest := []) ⟨hx, hb, hml, hown, hts⟩ (k_X4_fault l D cy ad P Dr tI hX4 _ L (xs (n + 1)) (r, I2) e1) (cwV 1 hts (goodIn_up gL_law_X4_fault) rfl rfl rfl cd_X4_fault ⟨Nat.le_of_ble_eq_true rfl, Nat.le_of_ble_eq_true rfl⟩) ⟨g_blind cZm, g_recv hK hG (k := 0) (by decide) (cE_4 _ _) vwCl_4, g_pre cZm hK hG hZ (law_S0 hS)⟩ rfl rfl hl.1 rfl (lv_room (Nat.le_of_ble_eq_true rfl)) dL_law_512 ⟨Nat.le_of_ble_eq_true rfl, Nat.le_of_ble_eq_true rfl⟩) hS hA hGm (fun k h1 j h2 h3 => hdis j h2 k h1 h3.symm) (fun H locs hG hGm hS => ?_)
  refine lv_aload_n hx hb dL_law_515 rfl (lv_at hl 2 rfl) ?_
  refine law_arg (k := 1) hx hb hX hbl hS hl (j0 := 0) (j3 := 3) rfl rfl (by omega) (by omega) dL_law_516 dL_law_517 dL_law_518 dL_law_519 dL_law_520 ?_
  refine law_i (va_runV (As := [.int (xs (n + 1))]) (rest := [_]) ⟨hx, hb, hml, hown, hts⟩ (k_X5_fault l D cz am him _ M (xs (n + 1)) (r, J2) e2) (cwV 1 hts (goodIn_up gL_law_X5_fault) rfl rfl rfl cd_X5_fault ⟨Nat.le_of_ble_eq_true rfl, Nat.le_of_ble_eq_true rfl⟩) ⟨g_blind mZm, g_recv hKm hGm (k := 0) (by decide) (mE_5 _ _) vwCl_5, g_pre mZm hKm hGm trivial (law_S0 hS)⟩ rfl rfl hl.1 rfl (lv_room (Nat.le_of_ble_eq_true rfl)) dL_law_521 ⟨Nat.le_of_ble_eq_true rfl, Nat.le_of_ble_eq_true rfl⟩) hS hAm hG hdis (fun H locs hGm hG hS => ?_)
  refine lv_icmp_eq (tgt := 1348) hx hb dL_law_524 (by decide) (fun _ => ?_) (fun c9 => absurd rfl c9)
  exact kk P Dr I2 L J2 M _ _ ⟨hSim2, hG, hGm, hS⟩

set_option maxHeartbeats 4000000 in
set_option maxRecDepth 100000 in
theorem law_9 {p : Program} {l : Launch} {e : Env} {s : State} {m : MethodId} {args : Array Value} {below : List Frame} {meth : Method} {c : Code} {Q : State → Prop} {D : va_G} {cy cz : Nat → ClassId} {ad am : Nat → Nat} {tI b N : Nat} {xs : Nat → Int32} (C0 : LW p s m args meth c D cy ad cz am tI b N xs) {n : Nat} (hn : n + 6 ≤ N) {P Dr : Nat} {I J : xMem} {L M : xLon} {H : Heap} {locs : List Loc} (C1 : LA D cy ad cz am s P Dr I L J M H locs) {ls : Array Slot} (hl : lv_has ls 4 [(0, .ref b), (1, .ref (ad 0)), (2, .ref (am 0)), (3, .int (nI n))]) (kk : ∀ (P Dr : Nat) (I : xMem) (L : xLon) (J : xMem) (M : xLon) (H : Heap) (locs : List Loc), LA D cy ad cz am s P Dr I L J M H locs → W p l e room_1 s m args below meth c H locs 600000 7302250 Q (F0 m 1348 ls [])) : W p l e room_1 s m args below meth c H locs 600000 7302250 Q (F0 m 529 ls []) := by
  have hX4 := C1.ok C0.2.2.2.1
  obtain ⟨⟨hx, hb, hml, hown, hts⟩, ⟨hX, hbl, hN⟩, ⟨hK, hKm, hZ⟩, hi, him, hA, hAm, hdis⟩ := C0
  obtain ⟨hSim, hG, hGm, hS⟩ := C1
  obtain ⟨r, I2, P2, D2, J2, e1, e2, hSim2⟩ := op_tower hSim (xs (n + 1))
  refine lv_aload_n hx hb dL_law_529 rfl (lv_at hl 1 rfl) ?_
  refine law_arg (k := 1) hx hb hX hbl hS hl (j0 := 0) (j3 := 3) rfl rfl (by omega) (by omega) dL_law_530 dL_law_531 dL_law_532 dL_law_533 dL_law_534 ?_
  refine law_i (va_runV (As := [.int (xs (n + 1))]) (rest := []) ⟨hx, hb, hml, hown, hts⟩ (k_X4_tower l D cy ad P Dr tI hX4 _ L (xs (n + 1)) (r, I2, P2, D2) e1) (cwV 1 hts (goodIn_up gL_law_X4_tower) rfl rfl rfl cd_X4_tower ⟨Nat.le_of_ble_eq_true rfl, Nat.le_of_ble_eq_true rfl⟩) ⟨g_blind cZm, g_recv hK hG (k := 0) (by decide) (cE_4 _ _) vwCl_4, g_pre cZm hK hG hZ (law_S0 hS)⟩ rfl rfl hl.1 rfl (lv_room (Nat.le_of_ble_eq_true rfl)) dL_law_535 ⟨Nat.le_of_ble_eq_true rfl, Nat.le_of_ble_eq_true rfl⟩) hS hA hGm (fun k h1 j h2 h3 => hdis j h2 k h1 h3.symm) (fun H locs hG hGm hS => ?_)
  refine lv_aload_n hx hb dL_law_538 rfl (lv_at hl 2 rfl) ?_
  refine law_arg (k := 1) hx hb hX hbl hS hl (j0 := 0) (j3 := 3) rfl rfl (by omega) (by omega) dL_law_539 dL_law_540 dL_law_541 dL_law_542 dL_law_543 ?_
  refine law_i (va_runV (As := [.int (xs (n + 1))]) (rest := [_]) ⟨hx, hb, hml, hown, hts⟩ (k_X5_tower l D cz am him _ M (xs (n + 1)) (r, J2) e2) (cwV 1 hts (goodIn_up gL_law_X5_tower) rfl rfl rfl cd_X5_tower ⟨Nat.le_of_ble_eq_true rfl, Nat.le_of_ble_eq_true rfl⟩) ⟨g_blind mZm, g_recv hKm hGm (k := 0) (by decide) (mE_5 _ _) vwCl_5, g_pre mZm hKm hGm trivial (law_S0 hS)⟩ rfl rfl hl.1 rfl (lv_room (Nat.le_of_ble_eq_true rfl)) dL_law_544 ⟨Nat.le_of_ble_eq_true rfl, Nat.le_of_ble_eq_true rfl⟩) hS hAm hG hdis (fun H locs hGm hG hS => ?_)
  refine lv_icmp_eq (tgt := 1348) hx hb dL_law_547 (by decide) (fun _ => ?_) (fun c9 => absurd rfl c9)
  exact kk P2 D2 I2 L J2 M _ _ ⟨hSim2, hG, hGm, hS⟩

set_option maxHeartbeats 4000000 in
set_option maxRecDepth 100000 in
theorem law_10 {p : Program} {l : Launch} {e : Env} {s : State} {m : MethodId} {args : Array Value} {below : List Frame} {meth : Method} {c : Code} {Q : State → Prop} {D : va_G} {cy cz : Nat → ClassId} {ad am : Nat → Nat} {tI b N : Nat} {xs : Nat → Int32} (C0 : LW p s m args meth c D cy ad cz am tI b N xs) {n : Nat} (hn : n + 6 ≤ N) {P Dr : Nat} {I J : xMem} {L M : xLon} {H : Heap} {locs : List Loc} (C1 : LA D cy ad cz am s P Dr I L J M H locs) {ls : Array Slot} (hl : lv_has ls 4 [(0, .ref b), (1, .ref (ad 0)), (2, .ref (am 0)), (3, .int (nI n))]) (kk : ∀ (P Dr : Nat) (I : xMem) (L : xLon) (J : xMem) (M : xLon) (H : Heap) (locs : List Loc), LA D cy ad cz am s P Dr I L J M H locs → W p l e room_1 s m args below meth c H locs 600000 7302250 Q (F0 m 1348 ls [])) : W p l e room_1 s m args below meth c H locs 600000 7302250 Q (F0 m 552 ls []) := by
  have hX4 := C1.ok C0.2.2.2.1
  obtain ⟨⟨hx, hb, hml, hown, hts⟩, ⟨hX, hbl, hN⟩, ⟨hK, hKm, hZ⟩, hi, him, hA, hAm, hdis⟩ := C0
  obtain ⟨hSim, hG, hGm, hS⟩ := C1
  obtain ⟨r, I2, J2, e1, e2, hSim2⟩ := op_one hSim (xs (n + 1)) (xs (n + 2))
  refine lv_aload_n hx hb dL_law_552 rfl (lv_at hl 1 rfl) ?_
  refine law_arg (k := 1) hx hb hX hbl hS hl (j0 := 0) (j3 := 3) rfl rfl (by omega) (by omega) dL_law_553 dL_law_554 dL_law_555 dL_law_556 dL_law_557 ?_
  refine law_arg (k := 2) hx hb hX hbl hS hl (j0 := 0) (j3 := 3) rfl rfl (by omega) (by omega) dL_law_558 dL_law_559 dL_law_560 dL_law_561 dL_law_562 ?_
  refine law_i (va_runV (As := [.int (xs (n + 1)), .int (xs (n + 2))]) (rest := []) ⟨hx, hb, hml, hown, hts⟩ (k_X4_one l D cy ad P Dr tI hX4 _ L (xs (n + 1)) (xs (n + 2)) (r, I2) e1) (cwV 2 hts (goodIn_up gL_law_X4_one) rfl rfl rfl cd_X4_one ⟨Nat.le_of_ble_eq_true rfl, Nat.le_of_ble_eq_true rfl⟩) ⟨g_blind cZm, g_recv hK hG (k := 0) (by decide) (cE_4 _ _) vwCl_4, g_pre cZm hK hG hZ (law_S0 hS)⟩ rfl rfl hl.1 rfl (lv_room (Nat.le_of_ble_eq_true rfl)) dL_law_563 ⟨Nat.le_of_ble_eq_true rfl, Nat.le_of_ble_eq_true rfl⟩) hS hA hGm (fun k h1 j h2 h3 => hdis j h2 k h1 h3.symm) (fun H locs hG hGm hS => ?_)
  refine lv_aload_n hx hb dL_law_566 rfl (lv_at hl 2 rfl) ?_
  refine law_arg (k := 1) hx hb hX hbl hS hl (j0 := 0) (j3 := 3) rfl rfl (by omega) (by omega) dL_law_567 dL_law_568 dL_law_569 dL_law_570 dL_law_571 ?_
  refine law_arg (k := 2) hx hb hX hbl hS hl (j0 := 0) (j3 := 3) rfl rfl (by omega) (by omega) dL_law_572 dL_law_573 dL_law_574 dL_law_575 dL_law_576 ?_
  refine law_i (va_runV (As := [.int (xs (n + 1)), .int (xs (n + 2))]) (rest := [_]) ⟨hx, hb, hml, hown, hts⟩ (k_X5_one l D cz am him _ M (xs (n + 1)) (xs (n + 2)) (r, J2) e2) (cwV 2 hts (goodIn_up gL_law_X5_one) rfl rfl rfl cd_X5_one ⟨Nat.le_of_ble_eq_true rfl, Nat.le_of_ble_eq_true rfl⟩) ⟨g_blind mZm, g_recv hKm hGm (k := 0) (by decide) (mE_5 _ _) vwCl_5, g_pre mZm hKm hGm trivial (law_S0 hS)⟩ rfl rfl hl.1 rfl (lv_room (Nat.le_of_ble_eq_true rfl)) dL_law_577 ⟨Nat.le_of_ble_eq_true rfl, Nat.le_of_ble_eq_true rfl⟩) hS hAm hG hdis (fun H locs hGm hG hS => ?_)
  refine lv_icmp_eq (tgt := 1348) hx hb dL_law_580 (by decide) (fun _ => ?_) (fun c9 => absurd rfl c9)
  exact kk P Dr I2 L J2 M _ _ ⟨hSim2, hG, hGm, hS⟩
