/-! THE LAW: cases -/
set_option maxHeartbeats 4000000 in
set_option maxRecDepth 100000 in
theorem law_33 {p : Program} {l : Launch} {e : Env} {s : State} {m : MethodId} {args : Array Value} {below : List Frame} {meth : Method} {c : Code} {Q : State → Prop} {D : va_G} {cy cz : Nat → ClassId} {ad am : Nat → Nat} {tI b N : Nat} {xs : Nat → Int32} (C0 : LW p s m args meth c D cy ad cz am tI b N xs) {n : Nat} (hn : n + 6 ≤ N) {P Dr : Nat} {I J : xMem} {L M : xLon} {H : Heap} {locs : List Loc} (C1 : LA D cy ad cz am s P Dr I L J M H locs) {ls : Array Slot} (hl : lv_has ls 4 [(0, .ref b), (1, .ref (ad 0)), (2, .ref (am 0)), (3, .int (nI n))]) (kk : ∀ (P Dr : Nat) (I : xMem) (L : xLon) (J : xMem) (M : xLon) (H : Heap) (locs : List Loc), LA D cy ad cz am s P Dr I L J M H locs → W p l e room_1 s m args below meth c H locs 600000 7302250 Q (F0 m 1348 ls [])) : W p l e room_1 s m args below meth c H locs 600000 7302250 Q (F0 m 1201 ls []) := by
  have hX4 := C1.ok C0.2.2.2.1
  obtain ⟨⟨hx, hb, hml, hown, hts⟩, ⟨hX, hbl, hN⟩, ⟨hK, hKm, hZ⟩, hi, him, hA, hAm, hdis⟩ := C0
  obtain ⟨hSim, hG, hGm, hS⟩ := C1
  obtain ⟨r, I2, J2, e1, e2, hSim2⟩ := op_lots hSim (xs (n + 1)) (xs (n + 2))
  refine lv_aload_n hx hb dL_law_1201 rfl (lv_at hl 1 rfl) ?_
  refine law_arg (k := 1) hx hb hX hbl hS hl (j0 := 0) (j3 := 3) rfl rfl (by omega) (by omega) dL_law_1202 dL_law_1203 dL_law_1204 dL_law_1205 dL_law_1206 ?_
  refine law_arg (k := 2) hx hb hX hbl hS hl (j0 := 0) (j3 := 3) rfl rfl (by omega) (by omega) dL_law_1207 dL_law_1208 dL_law_1209 dL_law_1210 dL_law_1211 ?_
  refine law_i (va_runV (As := [.int (xs (n + 1)), .int (xs (n + 2))]) (rest := []) ⟨hx, hb, hml, hown, hts⟩ (k_X4_lots l D cy ad P Dr tI hX4 _ L (xs (n + 1)) (xs (n + 2)) (r, I2) e1) (cwV 2 hts (goodIn_up gL_law_X4_lots) rfl rfl rfl cd_X4_lots ⟨Nat.le_of_ble_eq_true rfl, Nat.le_of_ble_eq_true rfl⟩) ⟨g_blind cZm, g_recv hK hG (k := 0) (by decide) (cE_4 _ _) vwCl_4, g_pre cZm hK hG hZ (law_S0 hS)⟩ rfl rfl hl.1 rfl (lv_room (Nat.le_of_ble_eq_true rfl)) dL_law_1212 ⟨Nat.le_of_ble_eq_true rfl, Nat.le_of_ble_eq_true rfl⟩) hS hA hGm (fun k h1 j h2 h3 => hdis j h2 k h1 h3.symm) (fun H locs hG hGm hS => ?_)
  refine lv_aload_n hx hb dL_law_1215 rfl (lv_at hl 2 rfl) ?_
  refine law_arg (k := 1) hx hb hX hbl hS hl (j0 := 0) (j3 := 3) rfl rfl (by omega) (by omega) dL_law_1216 dL_law_1217 dL_law_1218 dL_law_1219 dL_law_1220 ?_
  refine law_arg (k := 2) hx hb hX hbl hS hl (j0 := 0) (j3 := 3) rfl rfl (by omega) (by omega) dL_law_1221 dL_law_1222 dL_law_1223 dL_law_1224 dL_law_1225 ?_
  refine law_i (va_runV (As := [.int (xs (n + 1)), .int (xs (n + 2))]) (rest := [_]) ⟨hx, hb, hml, hown, hts⟩ (k_X5_lots l D cz am him _ M (xs (n + 1)) (xs (n + 2)) (r, J2) e2) (cwV 2 hts (goodIn_up gL_law_X5_lots) rfl rfl rfl cd_X5_lots ⟨Nat.le_of_ble_eq_true rfl, Nat.le_of_ble_eq_true rfl⟩) ⟨g_blind mZm, g_recv hKm hGm (k := 0) (by decide) (mE_5 _ _) vwCl_5, g_pre mZm hKm hGm trivial (law_S0 hS)⟩ rfl rfl hl.1 rfl (lv_room (Nat.le_of_ble_eq_true rfl)) dL_law_1226 ⟨Nat.le_of_ble_eq_true rfl, Nat.le_of_ble_eq_true rfl⟩) hS hAm hG hdis (fun H locs hGm hG hS => ?_)
  refine lv_icmp_eq (tgt := 1348) hx hb dL_law_1229 (by decide) (fun _ => ?_) (fun c9 => absurd rfl c9)
  exact kk P Dr I2 L J2 M _ _ ⟨hSim2, hG, hGm, hS⟩

set_option maxHeartbeats 4000000 in
set_option maxRecDepth 100000 in
theorem law_34 {p : Program} {l : Launch} {e : Env} {s : State} {m : MethodId} {args : Array Value} {below : List Frame} {meth : Method} {c : Code} {Q : State → Prop} {D : va_G} {cy cz : Nat → ClassId} {ad am : Nat → Nat} {tI b N : Nat} {xs : Nat → Int32} (C0 : LW p s m args meth c D cy ad cz am tI b N xs) {n : Nat} (hn : n + 6 ≤ N) {P Dr : Nat} {I J : xMem} {L M : xLon} {H : Heap} {locs : List Loc} (C1 : LA D cy ad cz am s P Dr I L J M H locs) {ls : Array Slot} (hl : lv_has ls 4 [(0, .ref b), (1, .ref (ad 0)), (2, .ref (am 0)), (3, .int (nI n))]) (kk : ∀ (P Dr : Nat) (I : xMem) (L : xLon) (J : xMem) (M : xLon) (H : Heap) (locs : List Loc), LA D cy ad cz am s P Dr I L J M H locs → W p l e room_1 s m args below meth c H locs 600000 7302250 Q (F0 m 1348 ls [])) : W p l e room_1 s m args below meth c H locs 600000 7302250 Q (F0 m 1234 ls []) := by
  have hX4 := C1.ok C0.2.2.2.1
  obtain ⟨⟨hx, hb, hml, hown, hts⟩, ⟨hX, hbl, hN⟩, ⟨hK, hKm, hZ⟩, hi, him, hA, hAm, hdis⟩ := C0
  obtain ⟨hSim, hG, hGm, hS⟩ := C1
  have e2 : X5_asked J = X4_asked I := (op_asked hSim).symm
  have e1 : X4_asked I = X4_asked I := rfl
  refine lv_aload_n hx hb dL_law_1234 rfl (lv_at hl 1 rfl) ?_
  refine law_i (va_runV (As := []) (rest := []) ⟨hx, hb, hml, hown, hts⟩ (k_X4_asked l D cy ad P Dr tI hX4 _ L  _ e1) (cwV 0 hts (goodIn_up gL_law_X4_asked) rfl rfl rfl cd_X4_asked ⟨Nat.le_of_ble_eq_true rfl, Nat.le_of_ble_eq_true rfl⟩) ⟨g_blind cZm, g_recv hK hG (k := 0) (by decide) (cE_4 _ _) vwCl_4, g_pre cZm hK hG hZ (law_S0 hS)⟩ rfl rfl hl.1 rfl (lv_room (Nat.le_of_ble_eq_true rfl)) dL_law_1235 ⟨Nat.le_of_ble_eq_true rfl, Nat.le_of_ble_eq_true rfl⟩) hS hA hGm (fun k h1 j h2 h3 => hdis j h2 k h1 h3.symm) (fun H locs hG hGm hS => ?_)
  refine lv_aload_n hx hb dL_law_1238 rfl (lv_at hl 2 rfl) ?_
  refine law_i (va_runV (As := []) (rest := [_]) ⟨hx, hb, hml, hown, hts⟩ (k_X5_asked l D cz am him _ M  _ e2) (cwV 0 hts (goodIn_up gL_law_X5_asked) rfl rfl rfl cd_X5_asked ⟨Nat.le_of_ble_eq_true rfl, Nat.le_of_ble_eq_true rfl⟩) ⟨g_blind mZm, g_recv hKm hGm (k := 0) (by decide) (mE_5 _ _) vwCl_5, g_pre mZm hKm hGm trivial (law_S0 hS)⟩ rfl rfl hl.1 rfl (lv_room (Nat.le_of_ble_eq_true rfl)) dL_law_1239 ⟨Nat.le_of_ble_eq_true rfl, Nat.le_of_ble_eq_true rfl⟩) hS hAm hG hdis (fun H locs hGm hG hS => ?_)
  refine lv_icmp_eq (tgt := 1348) hx hb dL_law_1242 (by decide) (fun _ => ?_) (fun c9 => absurd rfl c9)
  exact kk P Dr I L J M _ _ ⟨hSim, hG, hGm, hS⟩

set_option maxHeartbeats 4000000 in
set_option maxRecDepth 100000 in
theorem law_35 {p : Program} {l : Launch} {e : Env} {s : State} {m : MethodId} {args : Array Value} {below : List Frame} {meth : Method} {c : Code} {Q : State → Prop} {D : va_G} {cy cz : Nat → ClassId} {ad am : Nat → Nat} {tI b N : Nat} {xs : Nat → Int32} (C0 : LW p s m args meth c D cy ad cz am tI b N xs) {n : Nat} (hn : n + 6 ≤ N) {P Dr : Nat} {I J : xMem} {L M : xLon} {H : Heap} {locs : List Loc} (C1 : LA D cy ad cz am s P Dr I L J M H locs) {ls : Array Slot} (hl : lv_has ls 4 [(0, .ref b), (1, .ref (ad 0)), (2, .ref (am 0)), (3, .int (nI n))]) (kk : ∀ (P Dr : Nat) (I : xMem) (L : xLon) (J : xMem) (M : xLon) (H : Heap) (locs : List Loc), LA D cy ad cz am s P Dr I L J M H locs → W p l e room_1 s m args below meth c H locs 600000 7302250 Q (F0 m 1348 ls [])) : W p l e room_1 s m args below meth c H locs 600000 7302250 Q (F0 m 1247 ls []) := by
  have hX4 := C1.ok C0.2.2.2.1
  obtain ⟨⟨hx, hb, hml, hown, hts⟩, ⟨hX, hbl, hN⟩, ⟨hK, hKm, hZ⟩, hi, him, hA, hAm, hdis⟩ := C0
  obtain ⟨hSim, hG, hGm, hS⟩ := C1
  have e2 : X5_upper M = X4_upper L := (op_upper hSim).symm
  have e1 : X4_upper L = X4_upper L := rfl
  refine lv_aload_n hx hb dL_law_1247 rfl (lv_at hl 1 rfl) ?_
  refine law_l (va_runV (As := []) (rest := []) ⟨hx, hb, hml, hown, hts⟩ (k_X4_upper l D cy ad P Dr tI hX4 _ L  _ e1) (cwV 0 hts (goodIn_up gL_law_X4_upper) rfl rfl rfl cd_X4_upper ⟨Nat.le_of_ble_eq_true rfl, Nat.le_of_ble_eq_true rfl⟩) ⟨g_blind cZm, g_recv hK hG (k := 0) (by decide) (cE_4 _ _) vwCl_4, g_pre cZm hK hG hZ (law_S0 hS)⟩ rfl rfl hl.1 rfl (lv_room (Nat.le_of_ble_eq_true rfl)) dL_law_1248 ⟨Nat.le_of_ble_eq_true rfl, Nat.le_of_ble_eq_true rfl⟩) hS hA hGm (fun k h1 j h2 h3 => hdis j h2 k h1 h3.symm) (fun H locs hG hGm hS => ?_)
  refine lv_aload_n hx hb dL_law_1251 rfl (lv_at hl 2 rfl) ?_
  refine law_l (va_runV (As := []) (rest := [_]) ⟨hx, hb, hml, hown, hts⟩ (k_X5_upper l D cz am him _ M  _ e2) (cwV 0 hts (goodIn_up gL_law_X5_upper) rfl rfl rfl cd_X5_upper ⟨Nat.le_of_ble_eq_true rfl, Nat.le_of_ble_eq_true rfl⟩) ⟨g_blind mZm, g_recv hKm hGm (k := 0) (by decide) (mE_5 _ _) vwCl_5, g_pre mZm hKm hGm trivial (law_S0 hS)⟩ rfl rfl hl.1 rfl (lv_room (Nat.le_of_ble_eq_true rfl)) dL_law_1252 ⟨Nat.le_of_ble_eq_true rfl, Nat.le_of_ble_eq_true rfl⟩) hS hAm hG hdis (fun H locs hGm hG hS => ?_)
  refine W.lcmp hx hb dL_law_1255 ?_
  refine lv_if_eq (tgt := 1348) hx hb dL_law_1256 (by decide) (fun _ => ?_) (fun c9 => absurd ((lg_eq0 _ _).mpr rfl) c9)
  exact kk P Dr I L J M _ _ ⟨hSim, hG, hGm, hS⟩

set_option maxHeartbeats 4000000 in
set_option maxRecDepth 100000 in
theorem law_36 {p : Program} {l : Launch} {e : Env} {s : State} {m : MethodId} {args : Array Value} {below : List Frame} {meth : Method} {c : Code} {Q : State → Prop} {D : va_G} {cy cz : Nat → ClassId} {ad am : Nat → Nat} {tI b N : Nat} {xs : Nat → Int32} (C0 : LW p s m args meth c D cy ad cz am tI b N xs) {n : Nat} (hn : n + 6 ≤ N) {P Dr : Nat} {I J : xMem} {L M : xLon} {H : Heap} {locs : List Loc} (C1 : LA D cy ad cz am s P Dr I L J M H locs) {ls : Array Slot} (hl : lv_has ls 4 [(0, .ref b), (1, .ref (ad 0)), (2, .ref (am 0)), (3, .int (nI n))]) (kk : ∀ (P Dr : Nat) (I : xMem) (L : xLon) (J : xMem) (M : xLon) (H : Heap) (locs : List Loc), LA D cy ad cz am s P Dr I L J M H locs → W p l e room_1 s m args below meth c H locs 600000 7302250 Q (F0 m 1348 ls [])) : W p l e room_1 s m args below meth c H locs 600000 7302250 Q (F0 m 1261 ls []) := by
  have hX4 := C1.ok C0.2.2.2.1
  obtain ⟨⟨hx, hb, hml, hown, hts⟩, ⟨hX, hbl, hN⟩, ⟨hK, hKm, hZ⟩, hi, him, hA, hAm, hdis⟩ := C0
  obtain ⟨hSim, hG, hGm, hS⟩ := C1
  have e2 : X5_lower M = X4_lower L := (op_lower hSim).symm
  have e1 : X4_lower L = X4_lower L := rfl
  refine lv_aload_n hx hb dL_law_1261 rfl (lv_at hl 1 rfl) ?_
  refine law_l (va_runV (As := []) (rest := []) ⟨hx, hb, hml, hown, hts⟩ (k_X4_lower l D cy ad P Dr tI hX4 _ L  _ e1) (cwV 0 hts (goodIn_up gL_law_X4_lower) rfl rfl rfl cd_X4_lower ⟨Nat.le_of_ble_eq_true rfl, Nat.le_of_ble_eq_true rfl⟩) ⟨g_blind cZm, g_recv hK hG (k := 0) (by decide) (cE_4 _ _) vwCl_4, g_pre cZm hK hG hZ (law_S0 hS)⟩ rfl rfl hl.1 rfl (lv_room (Nat.le_of_ble_eq_true rfl)) dL_law_1262 ⟨Nat.le_of_ble_eq_true rfl, Nat.le_of_ble_eq_true rfl⟩) hS hA hGm (fun k h1 j h2 h3 => hdis j h2 k h1 h3.symm) (fun H locs hG hGm hS => ?_)
  refine lv_aload_n hx hb dL_law_1265 rfl (lv_at hl 2 rfl) ?_
  refine law_l (va_runV (As := []) (rest := [_]) ⟨hx, hb, hml, hown, hts⟩ (k_X5_lower l D cz am him _ M  _ e2) (cwV 0 hts (goodIn_up gL_law_X5_lower) rfl rfl rfl cd_X5_lower ⟨Nat.le_of_ble_eq_true rfl, Nat.le_of_ble_eq_true rfl⟩) ⟨g_blind mZm, g_recv hKm hGm (k := 0) (by decide) (mE_5 _ _) vwCl_5, g_pre mZm hKm hGm trivial (law_S0 hS)⟩ rfl rfl hl.1 rfl (lv_room (Nat.le_of_ble_eq_true rfl)) dL_law_1266 ⟨Nat.le_of_ble_eq_true rfl, Nat.le_of_ble_eq_true rfl⟩) hS hAm hG hdis (fun H locs hGm hG hS => ?_)
  refine W.lcmp hx hb dL_law_1269 ?_
  refine lv_if_eq (tgt := 1348) hx hb dL_law_1270 (by decide) (fun _ => ?_) (fun c9 => absurd ((lg_eq0 _ _).mpr rfl) c9)
  exact kk P Dr I L J M _ _ ⟨hSim, hG, hGm, hS⟩

set_option maxHeartbeats 4000000 in
set_option maxRecDepth 100000 in
theorem law_37 {p : Program} {l : Launch} {e : Env} {s : State} {m : MethodId} {args : Array Value} {below : List Frame} {meth : Method} {c : Code} {Q : State → Prop} {D : va_G} {cy cz : Nat → ClassId} {ad am : Nat → Nat} {tI b N : Nat} {xs : Nat → Int32} (C0 : LW p s m args meth c D cy ad cz am tI b N xs) {n : Nat} (hn : n + 6 ≤ N) {P Dr : Nat} {I J : xMem} {L M : xLon} {H : Heap} {locs : List Loc} (C1 : LA D cy ad cz am s P Dr I L J M H locs) {ls : Array Slot} (hl : lv_has ls 4 [(0, .ref b), (1, .ref (ad 0)), (2, .ref (am 0)), (3, .int (nI n))]) (kk : ∀ (P Dr : Nat) (I : xMem) (L : xLon) (J : xMem) (M : xLon) (H : Heap) (locs : List Loc), LA D cy ad cz am s P Dr I L J M H locs → W p l e room_1 s m args below meth c H locs 600000 7302250 Q (F0 m 1348 ls [])) : W p l e room_1 s m args below meth c H locs 600000 7302250 Q (F0 m 1275 ls []) := by
  have hX4 := C1.ok C0.2.2.2.1
  obtain ⟨⟨hx, hb, hml, hown, hts⟩, ⟨hX, hbl, hN⟩, ⟨hK, hKm, hZ⟩, hi, him, hA, hAm, hdis⟩ := C0
  obtain ⟨hSim, hG, hGm, hS⟩ := C1
  obtain ⟨r, e1, e2⟩ := op_count hSim (xs (n + 1))
  refine lv_aload_n hx hb dL_law_1275 rfl (lv_at hl 1 rfl) ?_
  refine law_arg (k := 1) hx hb hX hbl hS hl (j0 := 0) (j3 := 3) rfl rfl (by omega) (by omega) dL_law_1276 dL_law_1277 dL_law_1278 dL_law_1279 dL_law_1280 ?_
  refine law_i (va_runV (As := [.int (xs (n + 1))]) (rest := []) ⟨hx, hb, hml, hown, hts⟩ (k_X4_count l D cy ad P Dr tI hX4 _ L (xs (n + 1)) r e1) (cwV 1 hts (goodIn_up gL_law_X4_count) rfl rfl rfl cd_X4_count ⟨Nat.le_of_ble_eq_true rfl, Nat.le_of_ble_eq_true rfl⟩) ⟨g_blind cZm, g_recv hK hG (k := 0) (by decide) (cE_4 _ _) vwCl_4, g_pre cZm hK hG hZ (law_S0 hS)⟩ rfl rfl hl.1 rfl (lv_room (Nat.le_of_ble_eq_true rfl)) dL_law_1281 ⟨Nat.le_of_ble_eq_true rfl, Nat.le_of_ble_eq_true rfl⟩) hS hA hGm (fun k h1 j h2 h3 => hdis j h2 k h1 h3.symm) (fun H locs hG hGm hS => ?_)
  refine lv_aload_n hx hb dL_law_1284 rfl (lv_at hl 2 rfl) ?_
  refine law_arg (k := 1) hx hb hX hbl hS hl (j0 := 0) (j3 := 3) rfl rfl (by omega) (by omega) dL_law_1285 dL_law_1286 dL_law_1287 dL_law_1288 dL_law_1289 ?_
  refine law_i (va_runV (As := [.int (xs (n + 1))]) (rest := [_]) ⟨hx, hb, hml, hown, hts⟩ (k_X5_count l D cz am him _ M (xs (n + 1)) r e2) (cwV 1 hts (goodIn_up gL_law_X5_count) rfl rfl rfl cd_X5_count ⟨Nat.le_of_ble_eq_true rfl, Nat.le_of_ble_eq_true rfl⟩) ⟨g_blind mZm, g_recv hKm hGm (k := 0) (by decide) (mE_5 _ _) vwCl_5, g_pre mZm hKm hGm trivial (law_S0 hS)⟩ rfl rfl hl.1 rfl (lv_room (Nat.le_of_ble_eq_true rfl)) dL_law_1290 ⟨Nat.le_of_ble_eq_true rfl, Nat.le_of_ble_eq_true rfl⟩) hS hAm hG hdis (fun H locs hGm hG hS => ?_)
  refine lv_icmp_eq (tgt := 1348) hx hb dL_law_1293 (by decide) (fun _ => ?_) (fun c9 => absurd rfl c9)
  exact kk P Dr I L J M _ _ ⟨hSim, hG, hGm, hS⟩

set_option maxHeartbeats 4000000 in
set_option maxRecDepth 100000 in
theorem law_38 {p : Program} {l : Launch} {e : Env} {s : State} {m : MethodId} {args : Array Value} {below : List Frame} {meth : Method} {c : Code} {Q : State → Prop} {D : va_G} {cy cz : Nat → ClassId} {ad am : Nat → Nat} {tI b N : Nat} {xs : Nat → Int32} (C0 : LW p s m args meth c D cy ad cz am tI b N xs) {n : Nat} (hn : n + 6 ≤ N) {P Dr : Nat} {I J : xMem} {L M : xLon} {H : Heap} {locs : List Loc} (C1 : LA D cy ad cz am s P Dr I L J M H locs) {ls : Array Slot} (hl : lv_has ls 4 [(0, .ref b), (1, .ref (ad 0)), (2, .ref (am 0)), (3, .int (nI n))]) (kk : ∀ (P Dr : Nat) (I : xMem) (L : xLon) (J : xMem) (M : xLon) (H : Heap) (locs : List Loc), LA D cy ad cz am s P Dr I L J M H locs → W p l e room_1 s m args below meth c H locs 600000 7302250 Q (F0 m 1348 ls [])) : W p l e room_1 s m args below meth c H locs 600000 7302250 Q (F0 m 1298 ls []) := by
  have hX4 := C1.ok C0.2.2.2.1
  obtain ⟨⟨hx, hb, hml, hown, hts⟩, ⟨hX, hbl, hN⟩, ⟨hK, hKm, hZ⟩, hi, him, hA, hAm, hdis⟩ := C0
  obtain ⟨hSim, hG, hGm, hS⟩ := C1
  have e2 : X5_finding J = X4_finding I := (op_finding hSim).symm
  have e1 : X4_finding I = X4_finding I := rfl
  refine lv_aload_n hx hb dL_law_1298 rfl (lv_at hl 1 rfl) ?_
  refine law_i (va_runV (As := []) (rest := []) ⟨hx, hb, hml, hown, hts⟩ (k_X4_finding l D cy ad P Dr tI hX4 _ L  _ e1) (cwV 0 hts (goodIn_up gL_law_X4_finding) rfl rfl rfl cd_X4_finding ⟨Nat.le_of_ble_eq_true rfl, Nat.le_of_ble_eq_true rfl⟩) ⟨g_blind cZm, g_recv hK hG (k := 0) (by decide) (cE_4 _ _) vwCl_4, g_pre cZm hK hG hZ (law_S0 hS)⟩ rfl rfl hl.1 rfl (lv_room (Nat.le_of_ble_eq_true rfl)) dL_law_1299 ⟨Nat.le_of_ble_eq_true rfl, Nat.le_of_ble_eq_true rfl⟩) hS hA hGm (fun k h1 j h2 h3 => hdis j h2 k h1 h3.symm) (fun H locs hG hGm hS => ?_)
  refine lv_aload_n hx hb dL_law_1302 rfl (lv_at hl 2 rfl) ?_
  refine law_i (va_runV (As := []) (rest := [_]) ⟨hx, hb, hml, hown, hts⟩ (k_X5_finding l D cz am him _ M  _ e2) (cwV 0 hts (goodIn_up gL_law_X5_finding) rfl rfl rfl cd_X5_finding ⟨Nat.le_of_ble_eq_true rfl, Nat.le_of_ble_eq_true rfl⟩) ⟨g_blind mZm, g_recv hKm hGm (k := 0) (by decide) (mE_5 _ _) vwCl_5, g_pre mZm hKm hGm trivial (law_S0 hS)⟩ rfl rfl hl.1 rfl (lv_room (Nat.le_of_ble_eq_true rfl)) dL_law_1303 ⟨Nat.le_of_ble_eq_true rfl, Nat.le_of_ble_eq_true rfl⟩) hS hAm hG hdis (fun H locs hGm hG hS => ?_)
  refine lv_icmp_eq (tgt := 1348) hx hb dL_law_1306 (by decide) (fun _ => ?_) (fun c9 => absurd rfl c9)
  exact kk P Dr I L J M _ _ ⟨hSim, hG, hGm, hS⟩

set_option maxHeartbeats 4000000 in
set_option maxRecDepth 100000 in
theorem law_39 {p : Program} {l : Launch} {e : Env} {s : State} {m : MethodId} {args : Array Value} {below : List Frame} {meth : Method} {c : Code} {Q : State → Prop} {D : va_G} {cy cz : Nat → ClassId} {ad am : Nat → Nat} {tI b N : Nat} {xs : Nat → Int32} (C0 : LW p s m args meth c D cy ad cz am tI b N xs) {n : Nat} (hn : n + 6 ≤ N) {P Dr : Nat} {I J : xMem} {L M : xLon} {H : Heap} {locs : List Loc} (C1 : LA D cy ad cz am s P Dr I L J M H locs) {ls : Array Slot} (hl : lv_has ls 4 [(0, .ref b), (1, .ref (ad 0)), (2, .ref (am 0)), (3, .int (nI n))]) (kk : ∀ (P Dr : Nat) (I : xMem) (L : xLon) (J : xMem) (M : xLon) (H : Heap) (locs : List Loc), LA D cy ad cz am s P Dr I L J M H locs → W p l e room_1 s m args below meth c H locs 600000 7302250 Q (F0 m 1348 ls [])) : W p l e room_1 s m args below meth c H locs 600000 7302250 Q (F0 m 1311 ls []) := by
  have hX4 := C1.ok C0.2.2.2.1
  obtain ⟨⟨hx, hb, hml, hown, hts⟩, ⟨hX, hbl, hN⟩, ⟨hK, hKm, hZ⟩, hi, him, hA, hAm, hdis⟩ := C0
  obtain ⟨hSim, hG, hGm, hS⟩ := C1
  obtain ⟨r, e1, e2⟩ := op_findings hSim (xs (n + 1))
  refine lv_aload_n hx hb dL_law_1311 rfl (lv_at hl 1 rfl) ?_
  refine law_arg (k := 1) hx hb hX hbl hS hl (j0 := 0) (j3 := 3) rfl rfl (by omega) (by omega) dL_law_1312 dL_law_1313 dL_law_1314 dL_law_1315 dL_law_1316 ?_
  refine law_i (va_runV (As := [.int (xs (n + 1))]) (rest := []) ⟨hx, hb, hml, hown, hts⟩ (k_X4_findings l D cy ad P Dr tI hX4 _ L (xs (n + 1)) r e1) (cwV 1 hts (goodIn_up gL_law_X4_findings) rfl rfl rfl cd_X4_findings ⟨Nat.le_of_ble_eq_true rfl, Nat.le_of_ble_eq_true rfl⟩) ⟨g_blind cZm, g_recv hK hG (k := 0) (by decide) (cE_4 _ _) vwCl_4, g_pre cZm hK hG hZ (law_S0 hS)⟩ rfl rfl hl.1 rfl (lv_room (Nat.le_of_ble_eq_true rfl)) dL_law_1317 ⟨Nat.le_of_ble_eq_true rfl, Nat.le_of_ble_eq_true rfl⟩) hS hA hGm (fun k h1 j h2 h3 => hdis j h2 k h1 h3.symm) (fun H locs hG hGm hS => ?_)
  refine lv_aload_n hx hb dL_law_1320 rfl (lv_at hl 2 rfl) ?_
  refine law_arg (k := 1) hx hb hX hbl hS hl (j0 := 0) (j3 := 3) rfl rfl (by omega) (by omega) dL_law_1321 dL_law_1322 dL_law_1323 dL_law_1324 dL_law_1325 ?_
  refine law_i (va_runV (As := [.int (xs (n + 1))]) (rest := [_]) ⟨hx, hb, hml, hown, hts⟩ (k_X5_findings l D cz am him _ M (xs (n + 1)) r e2) (cwV 1 hts (goodIn_up gL_law_X5_findings) rfl rfl rfl cd_X5_findings ⟨Nat.le_of_ble_eq_true rfl, Nat.le_of_ble_eq_true rfl⟩) ⟨g_blind mZm, g_recv hKm hGm (k := 0) (by decide) (mE_5 _ _) vwCl_5, g_pre mZm hKm hGm trivial (law_S0 hS)⟩ rfl rfl hl.1 rfl (lv_room (Nat.le_of_ble_eq_true rfl)) dL_law_1326 ⟨Nat.le_of_ble_eq_true rfl, Nat.le_of_ble_eq_true rfl⟩) hS hAm hG hdis (fun H locs hGm hG hS => ?_)
  refine lv_icmp_eq (tgt := 1348) hx hb dL_law_1329 (by decide) (fun _ => ?_) (fun c9 => absurd rfl c9)
  exact kk P Dr I L J M _ _ ⟨hSim, hG, hGm, hS⟩

set_option maxHeartbeats 4000000 in
set_option maxRecDepth 100000 in
theorem law_40 {p : Program} {l : Launch} {e : Env} {s : State} {m : MethodId} {args : Array Value} {below : List Frame} {meth : Method} {c : Code} {Q : State → Prop} {D : va_G} {cy cz : Nat → ClassId} {ad am : Nat → Nat} {tI b N : Nat} {xs : Nat → Int32} (C0 : LW p s m args meth c D cy ad cz am tI b N xs) {n : Nat} (hn : n + 6 ≤ N) {P Dr : Nat} {I J : xMem} {L M : xLon} {H : Heap} {locs : List Loc} (C1 : LA D cy ad cz am s P Dr I L J M H locs) {ls : Array Slot} (hl : lv_has ls 4 [(0, .ref b), (1, .ref (ad 0)), (2, .ref (am 0)), (3, .int (nI n))]) (kk : ∀ (P Dr : Nat) (I : xMem) (L : xLon) (J : xMem) (M : xLon) (H : Heap) (locs : List Loc), LA D cy ad cz am s P Dr I L J M H locs → W p l e room_1 s m args below meth c H locs 600000 7302250 Q (F0 m 1348 ls [])) : W p l e room_1 s m args below meth c H locs 600000 7302250 Q (F0 m 1334 ls []) := by
  have hX4 := C1.ok C0.2.2.2.1
  obtain ⟨⟨hx, hb, hml, hown, hts⟩, ⟨hX, hbl, hN⟩, ⟨hK, hKm, hZ⟩, hi, him, hA, hAm, hdis⟩ := C0
  obtain ⟨hSim, hG, hGm, hS⟩ := C1
  obtain ⟨r, I2, J2, e1, e2, e3, hSim2⟩ := op_digest hSim
  subst e3
  refine lv_aload_n hx hb dL_law_1334 rfl (lv_at hl 1 rfl) ?_
  refine law_l (va_runV (As := []) (rest := []) ⟨hx, hb, hml, hown, hts⟩ (k_X4_digest l D cy ad P Dr tI hX4 _ L  r e1) (cwV 0 hts (goodIn_up gL_law_X4_digest) rfl rfl rfl cd_X4_digest ⟨Nat.le_of_ble_eq_true rfl, Nat.le_of_ble_eq_true rfl⟩) ⟨g_blind cZm, g_recv hK hG (k := 0) (by decide) (cE_4 _ _) vwCl_4, g_pre cZm hK hG hZ (law_S0 hS)⟩ rfl rfl hl.1 rfl (lv_room (Nat.le_of_ble_eq_true rfl)) dL_law_1335 ⟨Nat.le_of_ble_eq_true rfl, Nat.le_of_ble_eq_true rfl⟩) hS hA hGm (fun k h1 j h2 h3 => hdis j h2 k h1 h3.symm) (fun H locs hG hGm hS => ?_)
  refine lv_aload_n hx hb dL_law_1338 rfl (lv_at hl 2 rfl) ?_
  refine law_l (va_runV (As := []) (rest := [_]) ⟨hx, hb, hml, hown, hts⟩ (k_X5_digest l D cz am him _ M  (r, J2) e2) (cwV 0 hts (goodIn_up gL_law_X5_digest) rfl rfl rfl cd_X5_digest ⟨Nat.le_of_ble_eq_true rfl, Nat.le_of_ble_eq_true rfl⟩) ⟨g_blind mZm, g_recv hKm hGm (k := 0) (by decide) (mE_5 _ _) vwCl_5, g_pre mZm hKm hGm trivial (law_S0 hS)⟩ rfl rfl hl.1 rfl (lv_room (Nat.le_of_ble_eq_true rfl)) dL_law_1339 ⟨Nat.le_of_ble_eq_true rfl, Nat.le_of_ble_eq_true rfl⟩) hS hAm hG hdis (fun H locs hGm hG hS => ?_)
  refine W.lcmp hx hb dL_law_1342 ?_
  refine lv_if_eq (tgt := 1348) hx hb dL_law_1343 (by decide) (fun _ => ?_) (fun c9 => absurd ((lg_eq0 _ _).mpr rfl) c9)
  exact kk P Dr I2 L J2 M _ _ ⟨hSim2, hG, hGm, hS⟩
