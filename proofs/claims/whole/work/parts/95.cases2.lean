/-! THE LAW: cases -/
set_option maxHeartbeats 4000000 in
set_option maxRecDepth 100000 in
theorem law_22 {p : Program} {l : Launch} {e : Env} {s : State} {m : MethodId} {args : Array Value} {below : List Frame} {meth : Method} {c : Code} {Q : State → Prop} {D : va_G} {cy cz : Nat → ClassId} {ad am : Nat → Nat} {tI b N : Nat} {xs : Nat → Int32} (C0 : LW p s m args meth c D cy ad cz am tI b N xs) {n : Nat} (hn : n + 6 ≤ N) {P Dr : Nat} {I J : xMem} {L M : xLon} {H : Heap} {locs : List Loc} (C1 : LA D cy ad cz am s P Dr I L J M H locs) {ls : Array Slot} (hl : lv_has ls 4 [(0, .ref b), (1, .ref (ad 0)), (2, .ref (am 0)), (3, .int (nI n))]) (kk : ∀ (P Dr : Nat) (I : xMem) (L : xLon) (J : xMem) (M : xLon) (H : Heap) (locs : List Loc), LA D cy ad cz am s P Dr I L J M H locs → W p l e room_1 s m args below meth c H locs 600000 7302250 Q (F0 m 1348 ls [])) : W p l e room_1 s m args below meth c H locs 600000 7302250 Q (F0 m 888 ls []) := by
  have hX4 := C1.ok C0.2.2.2.1
  obtain ⟨⟨hx, hb, hml, hown, hts⟩, ⟨hX, hbl, hN⟩, ⟨hK, hKm, hZ⟩, hi, him, hA, hAm, hdis⟩ := C0
  obtain ⟨hSim, hG, hGm, hS⟩ := C1
  obtain ⟨r, I2, J2, e1, e2, hSim2⟩ := op_worth hSim 
  refine lv_aload_n hx hb dL_law_888 rfl (lv_at hl 1 rfl) ?_
  refine law_i (va_runV (As := []) (rest := []) ⟨hx, hb, hml, hown, hts⟩ (k_X4_worth l D cy ad P Dr tI hX4 _ L  (r, I2) e1) (cwV 0 hts (goodIn_up gL_law_X4_worth) rfl rfl rfl cd_X4_worth ⟨Nat.le_of_ble_eq_true rfl, Nat.le_of_ble_eq_true rfl⟩) ⟨g_blind cZm, g_recv hK hG (k := 0) (by decide) (cE_4 _ _) vwCl_4, g_pre cZm hK hG hZ (law_S0 hS)⟩ rfl rfl hl.1 rfl (lv_room (Nat.le_of_ble_eq_true rfl)) dL_law_889 ⟨Nat.le_of_ble_eq_true rfl, Nat.le_of_ble_eq_true rfl⟩) hS hA hGm (fun k h1 j h2 h3 => hdis j h2 k h1 h3.symm) (fun H locs hG hGm hS => ?_)
  refine lv_aload_n hx hb dL_law_892 rfl (lv_at hl 2 rfl) ?_
  refine law_i (va_runV (As := []) (rest := [_]) ⟨hx, hb, hml, hown, hts⟩ (k_X5_worth l D cz am him _ M  (r, J2) e2) (cwV 0 hts (goodIn_up gL_law_X5_worth) rfl rfl rfl cd_X5_worth ⟨Nat.le_of_ble_eq_true rfl, Nat.le_of_ble_eq_true rfl⟩) ⟨g_blind mZm, g_recv hKm hGm (k := 0) (by decide) (mE_5 _ _) vwCl_5, g_pre mZm hKm hGm trivial (law_S0 hS)⟩ rfl rfl hl.1 rfl (lv_room (Nat.le_of_ble_eq_true rfl)) dL_law_893 ⟨Nat.le_of_ble_eq_true rfl, Nat.le_of_ble_eq_true rfl⟩) hS hAm hG hdis (fun H locs hGm hG hS => ?_)
  refine lv_icmp_eq (tgt := 1348) hx hb dL_law_896 (by decide) (fun _ => ?_) (fun c9 => absurd rfl c9)
  exact kk P Dr I2 L J2 M _ _ ⟨hSim2, hG, hGm, hS⟩

set_option maxHeartbeats 4000000 in
set_option maxRecDepth 100000 in
theorem law_23 {p : Program} {l : Launch} {e : Env} {s : State} {m : MethodId} {args : Array Value} {below : List Frame} {meth : Method} {c : Code} {Q : State → Prop} {D : va_G} {cy cz : Nat → ClassId} {ad am : Nat → Nat} {tI b N : Nat} {xs : Nat → Int32} (C0 : LW p s m args meth c D cy ad cz am tI b N xs) {n : Nat} (hn : n + 6 ≤ N) {P Dr : Nat} {I J : xMem} {L M : xLon} {H : Heap} {locs : List Loc} (C1 : LA D cy ad cz am s P Dr I L J M H locs) {ls : Array Slot} (hl : lv_has ls 4 [(0, .ref b), (1, .ref (ad 0)), (2, .ref (am 0)), (3, .int (nI n))]) (kk : ∀ (P Dr : Nat) (I : xMem) (L : xLon) (J : xMem) (M : xLon) (H : Heap) (locs : List Loc), LA D cy ad cz am s P Dr I L J M H locs → W p l e room_1 s m args below meth c H locs 600000 7302250 Q (F0 m 1348 ls [])) : W p l e room_1 s m args below meth c H locs 600000 7302250 Q (F0 m 901 ls []) := by
  have hX4 := C1.ok C0.2.2.2.1
  obtain ⟨⟨hx, hb, hml, hown, hts⟩, ⟨hX, hbl, hN⟩, ⟨hK, hKm, hZ⟩, hi, him, hA, hAm, hdis⟩ := C0
  obtain ⟨hSim, hG, hGm, hS⟩ := C1
  obtain ⟨r, e1, e2⟩ := op_loaves hSim (xs (n + 1)) (xs (n + 2))
  refine lv_aload_n hx hb dL_law_901 rfl (lv_at hl 1 rfl) ?_
  refine law_arg (k := 1) hx hb hX hbl hS hl (j0 := 0) (j3 := 3) rfl rfl (by omega) (by omega) dL_law_902 dL_law_903 dL_law_904 dL_law_905 dL_law_906 ?_
  refine law_arg (k := 2) hx hb hX hbl hS hl (j0 := 0) (j3 := 3) rfl rfl (by omega) (by omega) dL_law_907 dL_law_908 dL_law_909 dL_law_910 dL_law_911 ?_
  refine law_i (va_runV (As := [.int (xs (n + 1)), .int (xs (n + 2))]) (rest := []) ⟨hx, hb, hml, hown, hts⟩ (k_X4_loaves l D cy ad P Dr tI hX4 _ L (xs (n + 1)) (xs (n + 2)) r e1) (cwV 2 hts (goodIn_up gL_law_X4_loaves) rfl rfl rfl cd_X4_loaves ⟨Nat.le_of_ble_eq_true rfl, Nat.le_of_ble_eq_true rfl⟩) ⟨g_blind cZm, g_recv hK hG (k := 0) (by decide) (cE_4 _ _) vwCl_4, g_pre cZm hK hG hZ (law_S0 hS)⟩ rfl rfl hl.1 rfl (lv_room (Nat.le_of_ble_eq_true rfl)) dL_law_912 ⟨Nat.le_of_ble_eq_true rfl, Nat.le_of_ble_eq_true rfl⟩) hS hA hGm (fun k h1 j h2 h3 => hdis j h2 k h1 h3.symm) (fun H locs hG hGm hS => ?_)
  refine lv_aload_n hx hb dL_law_915 rfl (lv_at hl 2 rfl) ?_
  refine law_arg (k := 1) hx hb hX hbl hS hl (j0 := 0) (j3 := 3) rfl rfl (by omega) (by omega) dL_law_916 dL_law_917 dL_law_918 dL_law_919 dL_law_920 ?_
  refine law_arg (k := 2) hx hb hX hbl hS hl (j0 := 0) (j3 := 3) rfl rfl (by omega) (by omega) dL_law_921 dL_law_922 dL_law_923 dL_law_924 dL_law_925 ?_
  refine law_i (va_runV (As := [.int (xs (n + 1)), .int (xs (n + 2))]) (rest := [_]) ⟨hx, hb, hml, hown, hts⟩ (k_X5_loaves l D cz am him _ M (xs (n + 1)) (xs (n + 2)) r e2) (cwV 2 hts (goodIn_up gL_law_X5_loaves) rfl rfl rfl cd_X5_loaves ⟨Nat.le_of_ble_eq_true rfl, Nat.le_of_ble_eq_true rfl⟩) ⟨g_blind mZm, g_recv hKm hGm (k := 0) (by decide) (mE_5 _ _) vwCl_5, g_pre mZm hKm hGm trivial (law_S0 hS)⟩ rfl rfl hl.1 rfl (lv_room (Nat.le_of_ble_eq_true rfl)) dL_law_926 ⟨Nat.le_of_ble_eq_true rfl, Nat.le_of_ble_eq_true rfl⟩) hS hAm hG hdis (fun H locs hGm hG hS => ?_)
  refine lv_icmp_eq (tgt := 1348) hx hb dL_law_929 (by decide) (fun _ => ?_) (fun c9 => absurd rfl c9)
  exact kk P Dr I L J M _ _ ⟨hSim, hG, hGm, hS⟩

set_option maxHeartbeats 4000000 in
set_option maxRecDepth 100000 in
theorem law_24 {p : Program} {l : Launch} {e : Env} {s : State} {m : MethodId} {args : Array Value} {below : List Frame} {meth : Method} {c : Code} {Q : State → Prop} {D : va_G} {cy cz : Nat → ClassId} {ad am : Nat → Nat} {tI b N : Nat} {xs : Nat → Int32} (C0 : LW p s m args meth c D cy ad cz am tI b N xs) {n : Nat} (hn : n + 6 ≤ N) {P Dr : Nat} {I J : xMem} {L M : xLon} {H : Heap} {locs : List Loc} (C1 : LA D cy ad cz am s P Dr I L J M H locs) {ls : Array Slot} (hl : lv_has ls 4 [(0, .ref b), (1, .ref (ad 0)), (2, .ref (am 0)), (3, .int (nI n))]) (kk : ∀ (P Dr : Nat) (I : xMem) (L : xLon) (J : xMem) (M : xLon) (H : Heap) (locs : List Loc), LA D cy ad cz am s P Dr I L J M H locs → W p l e room_1 s m args below meth c H locs 600000 7302250 Q (F0 m 1348 ls [])) : W p l e room_1 s m args below meth c H locs 600000 7302250 Q (F0 m 934 ls []) := by
  have hX4 := C1.ok C0.2.2.2.1
  obtain ⟨⟨hx, hb, hml, hown, hts⟩, ⟨hX, hbl, hN⟩, ⟨hK, hKm, hZ⟩, hi, him, hA, hAm, hdis⟩ := C0
  obtain ⟨hSim, hG, hGm, hS⟩ := C1
  obtain ⟨r, I2, J2, e1, e2, hSim2⟩ := op_up hSim (xs (n + 1))
  refine lv_aload_n hx hb dL_law_934 rfl (lv_at hl 1 rfl) ?_
  refine law_arg (k := 1) hx hb hX hbl hS hl (j0 := 0) (j3 := 3) rfl rfl (by omega) (by omega) dL_law_935 dL_law_936 dL_law_937 dL_law_938 dL_law_939 ?_
  refine law_i (va_runV (As := [.int (xs (n + 1))]) (rest := []) ⟨hx, hb, hml, hown, hts⟩ (k_X4_up l D cy ad P Dr tI hX4 _ L (xs (n + 1)) (r, I2) e1) (cwV 1 hts (goodIn_up gL_law_X4_up) rfl rfl rfl cd_X4_up ⟨Nat.le_of_ble_eq_true rfl, Nat.le_of_ble_eq_true rfl⟩) ⟨g_blind cZm, g_recv hK hG (k := 0) (by decide) (cE_4 _ _) vwCl_4, g_pre cZm hK hG hZ (law_S0 hS)⟩ rfl rfl hl.1 rfl (lv_room (Nat.le_of_ble_eq_true rfl)) dL_law_940 ⟨Nat.le_of_ble_eq_true rfl, Nat.le_of_ble_eq_true rfl⟩) hS hA hGm (fun k h1 j h2 h3 => hdis j h2 k h1 h3.symm) (fun H locs hG hGm hS => ?_)
  refine lv_aload_n hx hb dL_law_943 rfl (lv_at hl 2 rfl) ?_
  refine law_arg (k := 1) hx hb hX hbl hS hl (j0 := 0) (j3 := 3) rfl rfl (by omega) (by omega) dL_law_944 dL_law_945 dL_law_946 dL_law_947 dL_law_948 ?_
  refine law_i (va_runV (As := [.int (xs (n + 1))]) (rest := [_]) ⟨hx, hb, hml, hown, hts⟩ (k_X5_up l D cz am him _ M (xs (n + 1)) (r, J2) e2) (cwV 1 hts (goodIn_up gL_law_X5_up) rfl rfl rfl cd_X5_up ⟨Nat.le_of_ble_eq_true rfl, Nat.le_of_ble_eq_true rfl⟩) ⟨g_blind mZm, g_recv hKm hGm (k := 0) (by decide) (mE_5 _ _) vwCl_5, g_pre mZm hKm hGm trivial (law_S0 hS)⟩ rfl rfl hl.1 rfl (lv_room (Nat.le_of_ble_eq_true rfl)) dL_law_949 ⟨Nat.le_of_ble_eq_true rfl, Nat.le_of_ble_eq_true rfl⟩) hS hAm hG hdis (fun H locs hGm hG hS => ?_)
  refine lv_icmp_eq (tgt := 1348) hx hb dL_law_952 (by decide) (fun _ => ?_) (fun c9 => absurd rfl c9)
  exact kk P Dr I2 L J2 M _ _ ⟨hSim2, hG, hGm, hS⟩

set_option maxHeartbeats 4000000 in
set_option maxRecDepth 100000 in
theorem law_25 {p : Program} {l : Launch} {e : Env} {s : State} {m : MethodId} {args : Array Value} {below : List Frame} {meth : Method} {c : Code} {Q : State → Prop} {D : va_G} {cy cz : Nat → ClassId} {ad am : Nat → Nat} {tI b N : Nat} {xs : Nat → Int32} (C0 : LW p s m args meth c D cy ad cz am tI b N xs) {n : Nat} (hn : n + 6 ≤ N) {P Dr : Nat} {I J : xMem} {L M : xLon} {H : Heap} {locs : List Loc} (C1 : LA D cy ad cz am s P Dr I L J M H locs) {ls : Array Slot} (hl : lv_has ls 4 [(0, .ref b), (1, .ref (ad 0)), (2, .ref (am 0)), (3, .int (nI n))]) (kk : ∀ (P Dr : Nat) (I : xMem) (L : xLon) (J : xMem) (M : xLon) (H : Heap) (locs : List Loc), LA D cy ad cz am s P Dr I L J M H locs → W p l e room_1 s m args below meth c H locs 600000 7302250 Q (F0 m 1348 ls [])) : W p l e room_1 s m args below meth c H locs 600000 7302250 Q (F0 m 957 ls []) := by
  have hX4 := C1.ok C0.2.2.2.1
  obtain ⟨⟨hx, hb, hml, hown, hts⟩, ⟨hX, hbl, hN⟩, ⟨hK, hKm, hZ⟩, hi, him, hA, hAm, hdis⟩ := C0
  obtain ⟨hSim, hG, hGm, hS⟩ := C1
  obtain ⟨r, I2, J2, e1, e2, hSim2⟩ := op_down hSim (xs (n + 1))
  refine lv_aload_n hx hb dL_law_957 rfl (lv_at hl 1 rfl) ?_
  refine law_arg (k := 1) hx hb hX hbl hS hl (j0 := 0) (j3 := 3) rfl rfl (by omega) (by omega) dL_law_958 dL_law_959 dL_law_960 dL_law_961 dL_law_962 ?_
  refine law_i (va_runV (As := [.int (xs (n + 1))]) (rest := []) ⟨hx, hb, hml, hown, hts⟩ (k_X4_down l D cy ad P Dr tI hX4 _ L (xs (n + 1)) (r, I2) e1) (cwV 1 hts (goodIn_up gL_law_X4_down) rfl rfl rfl cd_X4_down ⟨Nat.le_of_ble_eq_true rfl, Nat.le_of_ble_eq_true rfl⟩) ⟨g_blind cZm, g_recv hK hG (k := 0) (by decide) (cE_4 _ _) vwCl_4, g_pre cZm hK hG hZ (law_S0 hS)⟩ rfl rfl hl.1 rfl (lv_room (Nat.le_of_ble_eq_true rfl)) dL_law_963 ⟨Nat.le_of_ble_eq_true rfl, Nat.le_of_ble_eq_true rfl⟩) hS hA hGm (fun k h1 j h2 h3 => hdis j h2 k h1 h3.symm) (fun H locs hG hGm hS => ?_)
  refine lv_aload_n hx hb dL_law_966 rfl (lv_at hl 2 rfl) ?_
  refine law_arg (k := 1) hx hb hX hbl hS hl (j0 := 0) (j3 := 3) rfl rfl (by omega) (by omega) dL_law_967 dL_law_968 dL_law_969 dL_law_970 dL_law_971 ?_
  refine law_i (va_runV (As := [.int (xs (n + 1))]) (rest := [_]) ⟨hx, hb, hml, hown, hts⟩ (k_X5_down l D cz am him _ M (xs (n + 1)) (r, J2) e2) (cwV 1 hts (goodIn_up gL_law_X5_down) rfl rfl rfl cd_X5_down ⟨Nat.le_of_ble_eq_true rfl, Nat.le_of_ble_eq_true rfl⟩) ⟨g_blind mZm, g_recv hKm hGm (k := 0) (by decide) (mE_5 _ _) vwCl_5, g_pre mZm hKm hGm trivial (law_S0 hS)⟩ rfl rfl hl.1 rfl (lv_room (Nat.le_of_ble_eq_true rfl)) dL_law_972 ⟨Nat.le_of_ble_eq_true rfl, Nat.le_of_ble_eq_true rfl⟩) hS hAm hG hdis (fun H locs hGm hG hS => ?_)
  refine lv_icmp_eq (tgt := 1348) hx hb dL_law_975 (by decide) (fun _ => ?_) (fun c9 => absurd rfl c9)
  exact kk P Dr I2 L J2 M _ _ ⟨hSim2, hG, hGm, hS⟩

set_option maxHeartbeats 4000000 in
set_option maxRecDepth 100000 in
theorem law_26 {p : Program} {l : Launch} {e : Env} {s : State} {m : MethodId} {args : Array Value} {below : List Frame} {meth : Method} {c : Code} {Q : State → Prop} {D : va_G} {cy cz : Nat → ClassId} {ad am : Nat → Nat} {tI b N : Nat} {xs : Nat → Int32} (C0 : LW p s m args meth c D cy ad cz am tI b N xs) {n : Nat} (hn : n + 6 ≤ N) {P Dr : Nat} {I J : xMem} {L M : xLon} {H : Heap} {locs : List Loc} (C1 : LA D cy ad cz am s P Dr I L J M H locs) {ls : Array Slot} (hl : lv_has ls 4 [(0, .ref b), (1, .ref (ad 0)), (2, .ref (am 0)), (3, .int (nI n))]) (kk : ∀ (P Dr : Nat) (I : xMem) (L : xLon) (J : xMem) (M : xLon) (H : Heap) (locs : List Loc), LA D cy ad cz am s P Dr I L J M H locs → W p l e room_1 s m args below meth c H locs 600000 7302250 Q (F0 m 1348 ls [])) : W p l e room_1 s m args below meth c H locs 600000 7302250 Q (F0 m 980 ls []) := by
  have hX4 := C1.ok C0.2.2.2.1
  obtain ⟨⟨hx, hb, hml, hown, hts⟩, ⟨hX, hbl, hN⟩, ⟨hK, hKm, hZ⟩, hi, him, hA, hAm, hdis⟩ := C0
  obtain ⟨hSim, hG, hGm, hS⟩ := C1
  obtain ⟨r, I2, J2, e1, e2, hSim2⟩ := op_ever hSim 
  refine lv_aload_n hx hb dL_law_980 rfl (lv_at hl 1 rfl) ?_
  refine law_i (va_runV (As := []) (rest := []) ⟨hx, hb, hml, hown, hts⟩ (k_X4_ever l D cy ad P Dr tI hX4 _ L  (r, I2) e1) (cwV 0 hts (goodIn_up gL_law_X4_ever) rfl rfl rfl cd_X4_ever ⟨Nat.le_of_ble_eq_true rfl, Nat.le_of_ble_eq_true rfl⟩) ⟨g_blind cZm, g_recv hK hG (k := 0) (by decide) (cE_4 _ _) vwCl_4, g_pre cZm hK hG hZ (law_S0 hS)⟩ rfl rfl hl.1 rfl (lv_room (Nat.le_of_ble_eq_true rfl)) dL_law_981 ⟨Nat.le_of_ble_eq_true rfl, Nat.le_of_ble_eq_true rfl⟩) hS hA hGm (fun k h1 j h2 h3 => hdis j h2 k h1 h3.symm) (fun H locs hG hGm hS => ?_)
  refine lv_aload_n hx hb dL_law_984 rfl (lv_at hl 2 rfl) ?_
  refine law_i (va_runV (As := []) (rest := [_]) ⟨hx, hb, hml, hown, hts⟩ (k_X5_ever l D cz am him _ M  (r, J2) e2) (cwV 0 hts (goodIn_up gL_law_X5_ever) rfl rfl rfl cd_X5_ever ⟨Nat.le_of_ble_eq_true rfl, Nat.le_of_ble_eq_true rfl⟩) ⟨g_blind mZm, g_recv hKm hGm (k := 0) (by decide) (mE_5 _ _) vwCl_5, g_pre mZm hKm hGm trivial (law_S0 hS)⟩ rfl rfl hl.1 rfl (lv_room (Nat.le_of_ble_eq_true rfl)) dL_law_985 ⟨Nat.le_of_ble_eq_true rfl, Nat.le_of_ble_eq_true rfl⟩) hS hAm hG hdis (fun H locs hGm hG hS => ?_)
  refine lv_icmp_eq (tgt := 1348) hx hb dL_law_988 (by decide) (fun _ => ?_) (fun c9 => absurd rfl c9)
  exact kk P Dr I2 L J2 M _ _ ⟨hSim2, hG, hGm, hS⟩

set_option maxHeartbeats 4000000 in
set_option maxRecDepth 100000 in
theorem law_27 {p : Program} {l : Launch} {e : Env} {s : State} {m : MethodId} {args : Array Value} {below : List Frame} {meth : Method} {c : Code} {Q : State → Prop} {D : va_G} {cy cz : Nat → ClassId} {ad am : Nat → Nat} {tI b N : Nat} {xs : Nat → Int32} (C0 : LW p s m args meth c D cy ad cz am tI b N xs) {n : Nat} (hn : n + 6 ≤ N) {P Dr : Nat} {I J : xMem} {L M : xLon} {H : Heap} {locs : List Loc} (C1 : LA D cy ad cz am s P Dr I L J M H locs) {ls : Array Slot} (hl : lv_has ls 4 [(0, .ref b), (1, .ref (ad 0)), (2, .ref (am 0)), (3, .int (nI n))]) (kk : ∀ (P Dr : Nat) (I : xMem) (L : xLon) (J : xMem) (M : xLon) (H : Heap) (locs : List Loc), LA D cy ad cz am s P Dr I L J M H locs → W p l e room_1 s m args below meth c H locs 600000 7302250 Q (F0 m 1348 ls [])) : W p l e room_1 s m args below meth c H locs 600000 7302250 Q (F0 m 993 ls []) := by
  have hX4 := C1.ok C0.2.2.2.1
  obtain ⟨⟨hx, hb, hml, hown, hts⟩, ⟨hX, hbl, hN⟩, ⟨hK, hKm, hZ⟩, hi, him, hA, hAm, hdis⟩ := C0
  obtain ⟨hSim, hG, hGm, hS⟩ := C1
  obtain ⟨r, I2, J2, e1, e2, hSim2⟩ := op_pounds hSim (xs (n + 1)) (xs (n + 2))
  refine lv_aload_n hx hb dL_law_993 rfl (lv_at hl 1 rfl) ?_
  refine law_arg (k := 1) hx hb hX hbl hS hl (j0 := 0) (j3 := 3) rfl rfl (by omega) (by omega) dL_law_994 dL_law_995 dL_law_996 dL_law_997 dL_law_998 ?_
  refine law_arg (k := 2) hx hb hX hbl hS hl (j0 := 0) (j3 := 3) rfl rfl (by omega) (by omega) dL_law_999 dL_law_1000 dL_law_1001 dL_law_1002 dL_law_1003 ?_
  refine law_i (va_runV (As := [.int (xs (n + 1)), .int (xs (n + 2))]) (rest := []) ⟨hx, hb, hml, hown, hts⟩ (k_X4_pounds l D cy ad P Dr tI hX4 _ L (xs (n + 1)) (xs (n + 2)) (r, I2) e1) (cwV 2 hts (goodIn_up gL_law_X4_pounds) rfl rfl rfl cd_X4_pounds ⟨Nat.le_of_ble_eq_true rfl, Nat.le_of_ble_eq_true rfl⟩) ⟨g_blind cZm, g_recv hK hG (k := 0) (by decide) (cE_4 _ _) vwCl_4, g_pre cZm hK hG hZ (law_S0 hS)⟩ rfl rfl hl.1 rfl (lv_room (Nat.le_of_ble_eq_true rfl)) dL_law_1004 ⟨Nat.le_of_ble_eq_true rfl, Nat.le_of_ble_eq_true rfl⟩) hS hA hGm (fun k h1 j h2 h3 => hdis j h2 k h1 h3.symm) (fun H locs hG hGm hS => ?_)
  refine lv_aload_n hx hb dL_law_1007 rfl (lv_at hl 2 rfl) ?_
  refine law_arg (k := 1) hx hb hX hbl hS hl (j0 := 0) (j3 := 3) rfl rfl (by omega) (by omega) dL_law_1008 dL_law_1009 dL_law_1010 dL_law_1011 dL_law_1012 ?_
  refine law_arg (k := 2) hx hb hX hbl hS hl (j0 := 0) (j3 := 3) rfl rfl (by omega) (by omega) dL_law_1013 dL_law_1014 dL_law_1015 dL_law_1016 dL_law_1017 ?_
  refine law_i (va_runV (As := [.int (xs (n + 1)), .int (xs (n + 2))]) (rest := [_]) ⟨hx, hb, hml, hown, hts⟩ (k_X5_pounds l D cz am him _ M (xs (n + 1)) (xs (n + 2)) (r, J2) e2) (cwV 2 hts (goodIn_up gL_law_X5_pounds) rfl rfl rfl cd_X5_pounds ⟨Nat.le_of_ble_eq_true rfl, Nat.le_of_ble_eq_true rfl⟩) ⟨g_blind mZm, g_recv hKm hGm (k := 0) (by decide) (mE_5 _ _) vwCl_5, g_pre mZm hKm hGm trivial (law_S0 hS)⟩ rfl rfl hl.1 rfl (lv_room (Nat.le_of_ble_eq_true rfl)) dL_law_1018 ⟨Nat.le_of_ble_eq_true rfl, Nat.le_of_ble_eq_true rfl⟩) hS hAm hG hdis (fun H locs hGm hG hS => ?_)
  refine lv_icmp_eq (tgt := 1348) hx hb dL_law_1021 (by decide) (fun _ => ?_) (fun c9 => absurd rfl c9)
  exact kk P Dr I2 L J2 M _ _ ⟨hSim2, hG, hGm, hS⟩

set_option maxHeartbeats 4000000 in
set_option maxRecDepth 100000 in
theorem law_28 {p : Program} {l : Launch} {e : Env} {s : State} {m : MethodId} {args : Array Value} {below : List Frame} {meth : Method} {c : Code} {Q : State → Prop} {D : va_G} {cy cz : Nat → ClassId} {ad am : Nat → Nat} {tI b N : Nat} {xs : Nat → Int32} (C0 : LW p s m args meth c D cy ad cz am tI b N xs) {n : Nat} (hn : n + 6 ≤ N) {P Dr : Nat} {I J : xMem} {L M : xLon} {H : Heap} {locs : List Loc} (C1 : LA D cy ad cz am s P Dr I L J M H locs) {ls : Array Slot} (hl : lv_has ls 4 [(0, .ref b), (1, .ref (ad 0)), (2, .ref (am 0)), (3, .int (nI n))]) (kk : ∀ (P Dr : Nat) (I : xMem) (L : xLon) (J : xMem) (M : xLon) (H : Heap) (locs : List Loc), LA D cy ad cz am s P Dr I L J M H locs → W p l e room_1 s m args below meth c H locs 600000 7302250 Q (F0 m 1348 ls [])) : W p l e room_1 s m args below meth c H locs 600000 7302250 Q (F0 m 1026 ls []) := by
  have hX4 := C1.ok C0.2.2.2.1
  obtain ⟨⟨hx, hb, hml, hown, hts⟩, ⟨hX, hbl, hN⟩, ⟨hK, hKm, hZ⟩, hi, him, hA, hAm, hdis⟩ := C0
  obtain ⟨hSim, hG, hGm, hS⟩ := C1
  obtain ⟨r, I2, J2, e1, e2, hSim2⟩ := op_kinds hSim (xs (n + 1)) (xs (n + 2))
  refine lv_aload_n hx hb dL_law_1026 rfl (lv_at hl 1 rfl) ?_
  refine law_arg (k := 1) hx hb hX hbl hS hl (j0 := 0) (j3 := 3) rfl rfl (by omega) (by omega) dL_law_1027 dL_law_1028 dL_law_1029 dL_law_1030 dL_law_1031 ?_
  refine law_arg (k := 2) hx hb hX hbl hS hl (j0 := 0) (j3 := 3) rfl rfl (by omega) (by omega) dL_law_1032 dL_law_1033 dL_law_1034 dL_law_1035 dL_law_1036 ?_
  refine law_i (va_runV (As := [.int (xs (n + 1)), .int (xs (n + 2))]) (rest := []) ⟨hx, hb, hml, hown, hts⟩ (k_X4_kinds l D cy ad P Dr tI hX4 _ L (xs (n + 1)) (xs (n + 2)) (r, I2) e1) (cwV 2 hts (goodIn_up gL_law_X4_kinds) rfl rfl rfl cd_X4_kinds ⟨Nat.le_of_ble_eq_true rfl, Nat.le_of_ble_eq_true rfl⟩) ⟨g_blind cZm, g_recv hK hG (k := 0) (by decide) (cE_4 _ _) vwCl_4, g_pre cZm hK hG hZ (law_S0 hS)⟩ rfl rfl hl.1 rfl (lv_room (Nat.le_of_ble_eq_true rfl)) dL_law_1037 ⟨Nat.le_of_ble_eq_true rfl, Nat.le_of_ble_eq_true rfl⟩) hS hA hGm (fun k h1 j h2 h3 => hdis j h2 k h1 h3.symm) (fun H locs hG hGm hS => ?_)
  refine lv_aload_n hx hb dL_law_1040 rfl (lv_at hl 2 rfl) ?_
  refine law_arg (k := 1) hx hb hX hbl hS hl (j0 := 0) (j3 := 3) rfl rfl (by omega) (by omega) dL_law_1041 dL_law_1042 dL_law_1043 dL_law_1044 dL_law_1045 ?_
  refine law_arg (k := 2) hx hb hX hbl hS hl (j0 := 0) (j3 := 3) rfl rfl (by omega) (by omega) dL_law_1046 dL_law_1047 dL_law_1048 dL_law_1049 dL_law_1050 ?_
  refine law_i (va_runV (As := [.int (xs (n + 1)), .int (xs (n + 2))]) (rest := [_]) ⟨hx, hb, hml, hown, hts⟩ (k_X5_kinds l D cz am him _ M (xs (n + 1)) (xs (n + 2)) (r, J2) e2) (cwV 2 hts (goodIn_up gL_law_X5_kinds) rfl rfl rfl cd_X5_kinds ⟨Nat.le_of_ble_eq_true rfl, Nat.le_of_ble_eq_true rfl⟩) ⟨g_blind mZm, g_recv hKm hGm (k := 0) (by decide) (mE_5 _ _) vwCl_5, g_pre mZm hKm hGm trivial (law_S0 hS)⟩ rfl rfl hl.1 rfl (lv_room (Nat.le_of_ble_eq_true rfl)) dL_law_1051 ⟨Nat.le_of_ble_eq_true rfl, Nat.le_of_ble_eq_true rfl⟩) hS hAm hG hdis (fun H locs hGm hG hS => ?_)
  refine lv_icmp_eq (tgt := 1348) hx hb dL_law_1054 (by decide) (fun _ => ?_) (fun c9 => absurd rfl c9)
  exact kk P Dr I2 L J2 M _ _ ⟨hSim2, hG, hGm, hS⟩

set_option maxHeartbeats 4000000 in
set_option maxRecDepth 100000 in
theorem law_29 {p : Program} {l : Launch} {e : Env} {s : State} {m : MethodId} {args : Array Value} {below : List Frame} {meth : Method} {c : Code} {Q : State → Prop} {D : va_G} {cy cz : Nat → ClassId} {ad am : Nat → Nat} {tI b N : Nat} {xs : Nat → Int32} (C0 : LW p s m args meth c D cy ad cz am tI b N xs) {n : Nat} (hn : n + 6 ≤ N) {P Dr : Nat} {I J : xMem} {L M : xLon} {H : Heap} {locs : List Loc} (C1 : LA D cy ad cz am s P Dr I L J M H locs) {ls : Array Slot} (hl : lv_has ls 4 [(0, .ref b), (1, .ref (ad 0)), (2, .ref (am 0)), (3, .int (nI n))]) (kk : ∀ (P Dr : Nat) (I : xMem) (L : xLon) (J : xMem) (M : xLon) (H : Heap) (locs : List Loc), LA D cy ad cz am s P Dr I L J M H locs → W p l e room_1 s m args below meth c H locs 600000 7302250 Q (F0 m 1348 ls [])) : W p l e room_1 s m args below meth c H locs 600000 7302250 Q (F0 m 1059 ls []) := by
  have hX4 := C1.ok C0.2.2.2.1
  obtain ⟨⟨hx, hb, hml, hown, hts⟩, ⟨hX, hbl, hN⟩, ⟨hK, hKm, hZ⟩, hi, him, hA, hAm, hdis⟩ := C0
  obtain ⟨hSim, hG, hGm, hS⟩ := C1
  obtain ⟨r, I2, J2, e1, e2, hSim2⟩ := op_next hSim (xs (n + 1)) (xs (n + 2))
  refine lv_aload_n hx hb dL_law_1059 rfl (lv_at hl 1 rfl) ?_
  refine law_arg (k := 1) hx hb hX hbl hS hl (j0 := 0) (j3 := 3) rfl rfl (by omega) (by omega) dL_law_1060 dL_law_1061 dL_law_1062 dL_law_1063 dL_law_1064 ?_
  refine law_arg (k := 2) hx hb hX hbl hS hl (j0 := 0) (j3 := 3) rfl rfl (by omega) (by omega) dL_law_1065 dL_law_1066 dL_law_1067 dL_law_1068 dL_law_1069 ?_
  refine law_i (va_runV (As := [.int (xs (n + 1)), .int (xs (n + 2))]) (rest := []) ⟨hx, hb, hml, hown, hts⟩ (k_X4_next l D cy ad P Dr tI hX4 _ L (xs (n + 1)) (xs (n + 2)) (r, I2) e1) (cwV 2 hts (goodIn_up gL_law_X4_next) rfl rfl rfl cd_X4_next ⟨Nat.le_of_ble_eq_true rfl, Nat.le_of_ble_eq_true rfl⟩) ⟨g_blind cZm, g_recv hK hG (k := 0) (by decide) (cE_4 _ _) vwCl_4, g_pre cZm hK hG hZ (law_S0 hS)⟩ rfl rfl hl.1 rfl (lv_room (Nat.le_of_ble_eq_true rfl)) dL_law_1070 ⟨Nat.le_of_ble_eq_true rfl, Nat.le_of_ble_eq_true rfl⟩) hS hA hGm (fun k h1 j h2 h3 => hdis j h2 k h1 h3.symm) (fun H locs hG hGm hS => ?_)
  refine lv_aload_n hx hb dL_law_1073 rfl (lv_at hl 2 rfl) ?_
  refine law_arg (k := 1) hx hb hX hbl hS hl (j0 := 0) (j3 := 3) rfl rfl (by omega) (by omega) dL_law_1074 dL_law_1075 dL_law_1076 dL_law_1077 dL_law_1078 ?_
  refine law_arg (k := 2) hx hb hX hbl hS hl (j0 := 0) (j3 := 3) rfl rfl (by omega) (by omega) dL_law_1079 dL_law_1080 dL_law_1081 dL_law_1082 dL_law_1083 ?_
  refine law_i (va_runV (As := [.int (xs (n + 1)), .int (xs (n + 2))]) (rest := [_]) ⟨hx, hb, hml, hown, hts⟩ (k_X5_next l D cz am him _ M (xs (n + 1)) (xs (n + 2)) (r, J2) e2) (cwV 2 hts (goodIn_up gL_law_X5_next) rfl rfl rfl cd_X5_next ⟨Nat.le_of_ble_eq_true rfl, Nat.le_of_ble_eq_true rfl⟩) ⟨g_blind mZm, g_recv hKm hGm (k := 0) (by decide) (mE_5 _ _) vwCl_5, g_pre mZm hKm hGm trivial (law_S0 hS)⟩ rfl rfl hl.1 rfl (lv_room (Nat.le_of_ble_eq_true rfl)) dL_law_1084 ⟨Nat.le_of_ble_eq_true rfl, Nat.le_of_ble_eq_true rfl⟩) hS hAm hG hdis (fun H locs hGm hG hS => ?_)
  refine lv_icmp_eq (tgt := 1348) hx hb dL_law_1087 (by decide) (fun _ => ?_) (fun c9 => absurd rfl c9)
  exact kk P Dr I2 L J2 M _ _ ⟨hSim2, hG, hGm, hS⟩

set_option maxHeartbeats 4000000 in
set_option maxRecDepth 100000 in
theorem law_30 {p : Program} {l : Launch} {e : Env} {s : State} {m : MethodId} {args : Array Value} {below : List Frame} {meth : Method} {c : Code} {Q : State → Prop} {D : va_G} {cy cz : Nat → ClassId} {ad am : Nat → Nat} {tI b N : Nat} {xs : Nat → Int32} (C0 : LW p s m args meth c D cy ad cz am tI b N xs) {n : Nat} (hn : n + 6 ≤ N) {P Dr : Nat} {I J : xMem} {L M : xLon} {H : Heap} {locs : List Loc} (C1 : LA D cy ad cz am s P Dr I L J M H locs) {ls : Array Slot} (hl : lv_has ls 4 [(0, .ref b), (1, .ref (ad 0)), (2, .ref (am 0)), (3, .int (nI n))]) (kk : ∀ (P Dr : Nat) (I : xMem) (L : xLon) (J : xMem) (M : xLon) (H : Heap) (locs : List Loc), LA D cy ad cz am s P Dr I L J M H locs → W p l e room_1 s m args below meth c H locs 600000 7302250 Q (F0 m 1348 ls [])) : W p l e room_1 s m args below meth c H locs 600000 7302250 Q (F0 m 1092 ls []) := by
  have hX4 := C1.ok C0.2.2.2.1
  obtain ⟨⟨hx, hb, hml, hown, hts⟩, ⟨hX, hbl, hN⟩, ⟨hK, hKm, hZ⟩, hi, him, hA, hAm, hdis⟩ := C0
  obtain ⟨hSim, hG, hGm, hS⟩ := C1
  obtain ⟨r, I2, J2, e1, e2, hSim2⟩ := op_send hSim (xs (n + 1))
  refine lv_aload_n hx hb dL_law_1092 rfl (lv_at hl 1 rfl) ?_
  refine law_arg (k := 1) hx hb hX hbl hS hl (j0 := 0) (j3 := 3) rfl rfl (by omega) (by omega) dL_law_1093 dL_law_1094 dL_law_1095 dL_law_1096 dL_law_1097 ?_
  refine law_i (va_runV (As := [.int (xs (n + 1))]) (rest := []) ⟨hx, hb, hml, hown, hts⟩ (k_X4_send l D cy ad P Dr tI hX4 _ L (xs (n + 1)) (r, I2) e1) (cwV 1 hts (goodIn_up gL_law_X4_send) rfl rfl rfl cd_X4_send ⟨Nat.le_of_ble_eq_true rfl, Nat.le_of_ble_eq_true rfl⟩) ⟨g_blind cZm, g_recv hK hG (k := 0) (by decide) (cE_4 _ _) vwCl_4, g_pre cZm hK hG hZ (law_S0 hS)⟩ rfl rfl hl.1 rfl (lv_room (Nat.le_of_ble_eq_true rfl)) dL_law_1098 ⟨Nat.le_of_ble_eq_true rfl, Nat.le_of_ble_eq_true rfl⟩) hS hA hGm (fun k h1 j h2 h3 => hdis j h2 k h1 h3.symm) (fun H locs hG hGm hS => ?_)
  refine lv_aload_n hx hb dL_law_1101 rfl (lv_at hl 2 rfl) ?_
  refine law_arg (k := 1) hx hb hX hbl hS hl (j0 := 0) (j3 := 3) rfl rfl (by omega) (by omega) dL_law_1102 dL_law_1103 dL_law_1104 dL_law_1105 dL_law_1106 ?_
  refine law_i (va_runV (As := [.int (xs (n + 1))]) (rest := [_]) ⟨hx, hb, hml, hown, hts⟩ (k_X5_send l D cz am him _ M (xs (n + 1)) (r, J2) e2) (cwV 1 hts (goodIn_up gL_law_X5_send) rfl rfl rfl cd_X5_send ⟨Nat.le_of_ble_eq_true rfl, Nat.le_of_ble_eq_true rfl⟩) ⟨g_blind mZm, g_recv hKm hGm (k := 0) (by decide) (mE_5 _ _) vwCl_5, g_pre mZm hKm hGm trivial (law_S0 hS)⟩ rfl rfl hl.1 rfl (lv_room (Nat.le_of_ble_eq_true rfl)) dL_law_1107 ⟨Nat.le_of_ble_eq_true rfl, Nat.le_of_ble_eq_true rfl⟩) hS hAm hG hdis (fun H locs hGm hG hS => ?_)
  refine lv_icmp_eq (tgt := 1348) hx hb dL_law_1110 (by decide) (fun _ => ?_) (fun c9 => absurd rfl c9)
  exact kk P Dr I2 L J2 M _ _ ⟨hSim2, hG, hGm, hS⟩

set_option maxHeartbeats 4000000 in
set_option maxRecDepth 100000 in
theorem law_31 {p : Program} {l : Launch} {e : Env} {s : State} {m : MethodId} {args : Array Value} {below : List Frame} {meth : Method} {c : Code} {Q : State → Prop} {D : va_G} {cy cz : Nat → ClassId} {ad am : Nat → Nat} {tI b N : Nat} {xs : Nat → Int32} (C0 : LW p s m args meth c D cy ad cz am tI b N xs) {n : Nat} (hn : n + 6 ≤ N) {P Dr : Nat} {I J : xMem} {L M : xLon} {H : Heap} {locs : List Loc} (C1 : LA D cy ad cz am s P Dr I L J M H locs) {ls : Array Slot} (hl : lv_has ls 4 [(0, .ref b), (1, .ref (ad 0)), (2, .ref (am 0)), (3, .int (nI n))]) (kk : ∀ (P Dr : Nat) (I : xMem) (L : xLon) (J : xMem) (M : xLon) (H : Heap) (locs : List Loc), LA D cy ad cz am s P Dr I L J M H locs → W p l e room_1 s m args below meth c H locs 600000 7302250 Q (F0 m 1348 ls [])) : W p l e room_1 s m args below meth c H locs 600000 7302250 Q (F0 m 1115 ls []) := by
  have hX4 := C1.ok C0.2.2.2.1
  obtain ⟨⟨hx, hb, hml, hown, hts⟩, ⟨hX, hbl, hN⟩, ⟨hK, hKm, hZ⟩, hi, him, hA, hAm, hdis⟩ := C0
  obtain ⟨hSim, hG, hGm, hS⟩ := C1
  obtain ⟨r, L2, J2, M2, e1, e2, hSim2⟩ := op_odds hSim (xs (n + 1)) (xs (n + 2)) (xs (n + 3))
  refine lv_aload_n hx hb dL_law_1115 rfl (lv_at hl 1 rfl) ?_
  refine law_arg (k := 1) hx hb hX hbl hS hl (j0 := 0) (j3 := 3) rfl rfl (by omega) (by omega) dL_law_1116 dL_law_1117 dL_law_1118 dL_law_1119 dL_law_1120 ?_
  refine law_arg (k := 2) hx hb hX hbl hS hl (j0 := 0) (j3 := 3) rfl rfl (by omega) (by omega) dL_law_1121 dL_law_1122 dL_law_1123 dL_law_1124 dL_law_1125 ?_
  refine law_arg (k := 3) hx hb hX hbl hS hl (j0 := 0) (j3 := 3) rfl rfl (by omega) (by omega) dL_law_1126 dL_law_1127 dL_law_1128 dL_law_1129 dL_law_1130 ?_
  refine law_i (va_runV (As := [.int (xs (n + 1)), .int (xs (n + 2)), .int (xs (n + 3))]) (rest := []) ⟨hx, hb, hml, hown, hts⟩ (k_X4_odds l D cy ad P Dr tI hX4 _ L (xs (n + 1)) (xs (n + 2)) (xs (n + 3)) (r, L2) e1) (cwV 3 hts (goodIn_up gL_law_X4_odds) rfl rfl rfl cd_X4_odds ⟨Nat.le_of_ble_eq_true rfl, Nat.le_of_ble_eq_true rfl⟩) ⟨g_blind cZm, g_recv hK hG (k := 0) (by decide) (cE_4 _ _) vwCl_4, g_pre cZm hK hG hZ (law_S0 hS)⟩ rfl rfl hl.1 rfl (lv_room (Nat.le_of_ble_eq_true rfl)) dL_law_1131 ⟨Nat.le_of_ble_eq_true rfl, Nat.le_of_ble_eq_true rfl⟩) hS hA hGm (fun k h1 j h2 h3 => hdis j h2 k h1 h3.symm) (fun H locs hG hGm hS => ?_)
  refine lv_aload_n hx hb dL_law_1134 rfl (lv_at hl 2 rfl) ?_
  refine law_arg (k := 1) hx hb hX hbl hS hl (j0 := 0) (j3 := 3) rfl rfl (by omega) (by omega) dL_law_1135 dL_law_1136 dL_law_1137 dL_law_1138 dL_law_1139 ?_
  refine law_arg (k := 2) hx hb hX hbl hS hl (j0 := 0) (j3 := 3) rfl rfl (by omega) (by omega) dL_law_1140 dL_law_1141 dL_law_1142 dL_law_1143 dL_law_1144 ?_
  refine law_arg (k := 3) hx hb hX hbl hS hl (j0 := 0) (j3 := 3) rfl rfl (by omega) (by omega) dL_law_1145 dL_law_1146 dL_law_1147 dL_law_1148 dL_law_1149 ?_
  refine law_i (va_runV (As := [.int (xs (n + 1)), .int (xs (n + 2)), .int (xs (n + 3))]) (rest := [_]) ⟨hx, hb, hml, hown, hts⟩ (k_X5_odds l D cz am him _ M (xs (n + 1)) (xs (n + 2)) (xs (n + 3)) (r, J2, M2) e2) (cwV 3 hts (goodIn_up gL_law_X5_odds) rfl rfl rfl cd_X5_odds ⟨Nat.le_of_ble_eq_true rfl, Nat.le_of_ble_eq_true rfl⟩) ⟨g_blind mZm, g_recv hKm hGm (k := 0) (by decide) (mE_5 _ _) vwCl_5, g_pre mZm hKm hGm trivial (law_S0 hS)⟩ rfl rfl hl.1 rfl (lv_room (Nat.le_of_ble_eq_true rfl)) dL_law_1150 ⟨Nat.le_of_ble_eq_true rfl, Nat.le_of_ble_eq_true rfl⟩) hS hAm hG hdis (fun H locs hGm hG hS => ?_)
  refine lv_icmp_eq (tgt := 1348) hx hb dL_law_1153 (by decide) (fun _ => ?_) (fun c9 => absurd rfl c9)
  exact kk P Dr I L2 J2 M2 _ _ ⟨hSim2, hG, hGm, hS⟩

set_option maxHeartbeats 4000000 in
set_option maxRecDepth 100000 in
theorem law_32 {p : Program} {l : Launch} {e : Env} {s : State} {m : MethodId} {args : Array Value} {below : List Frame} {meth : Method} {c : Code} {Q : State → Prop} {D : va_G} {cy cz : Nat → ClassId} {ad am : Nat → Nat} {tI b N : Nat} {xs : Nat → Int32} (C0 : LW p s m args meth c D cy ad cz am tI b N xs) {n : Nat} (hn : n + 6 ≤ N) {P Dr : Nat} {I J : xMem} {L M : xLon} {H : Heap} {locs : List Loc} (C1 : LA D cy ad cz am s P Dr I L J M H locs) {ls : Array Slot} (hl : lv_has ls 4 [(0, .ref b), (1, .ref (ad 0)), (2, .ref (am 0)), (3, .int (nI n))]) (kk : ∀ (P Dr : Nat) (I : xMem) (L : xLon) (J : xMem) (M : xLon) (H : Heap) (locs : List Loc), LA D cy ad cz am s P Dr I L J M H locs → W p l e room_1 s m args below meth c H locs 600000 7302250 Q (F0 m 1348 ls [])) : W p l e room_1 s m args below meth c H locs 600000 7302250 Q (F0 m 1158 ls []) := by
  have hX4 := C1.ok C0.2.2.2.1
  obtain ⟨⟨hx, hb, hml, hown, hts⟩, ⟨hX, hbl, hN⟩, ⟨hK, hKm, hZ⟩, hi, him, hA, hAm, hdis⟩ := C0
  obtain ⟨hSim, hG, hGm, hS⟩ := C1
  obtain ⟨r, L2, J2, M2, e1, e2, hSim2⟩ := op_mid hSim (xs (n + 1)) (xs (n + 2)) (xs (n + 3))
  refine lv_aload_n hx hb dL_law_1158 rfl (lv_at hl 1 rfl) ?_
  refine law_arg (k := 1) hx hb hX hbl hS hl (j0 := 0) (j3 := 3) rfl rfl (by omega) (by omega) dL_law_1159 dL_law_1160 dL_law_1161 dL_law_1162 dL_law_1163 ?_
  refine law_arg (k := 2) hx hb hX hbl hS hl (j0 := 0) (j3 := 3) rfl rfl (by omega) (by omega) dL_law_1164 dL_law_1165 dL_law_1166 dL_law_1167 dL_law_1168 ?_
  refine law_arg (k := 3) hx hb hX hbl hS hl (j0 := 0) (j3 := 3) rfl rfl (by omega) (by omega) dL_law_1169 dL_law_1170 dL_law_1171 dL_law_1172 dL_law_1173 ?_
  refine law_i (va_runV (As := [.int (xs (n + 1)), .int (xs (n + 2)), .int (xs (n + 3))]) (rest := []) ⟨hx, hb, hml, hown, hts⟩ (k_X4_mid l D cy ad P Dr tI hX4 _ L (xs (n + 1)) (xs (n + 2)) (xs (n + 3)) (r, L2) e1) (cwV 3 hts (goodIn_up gL_law_X4_mid) rfl rfl rfl cd_X4_mid ⟨Nat.le_of_ble_eq_true rfl, Nat.le_of_ble_eq_true rfl⟩) ⟨g_blind cZm, g_recv hK hG (k := 0) (by decide) (cE_4 _ _) vwCl_4, g_pre cZm hK hG hZ (law_S0 hS)⟩ rfl rfl hl.1 rfl (lv_room (Nat.le_of_ble_eq_true rfl)) dL_law_1174 ⟨Nat.le_of_ble_eq_true rfl, Nat.le_of_ble_eq_true rfl⟩) hS hA hGm (fun k h1 j h2 h3 => hdis j h2 k h1 h3.symm) (fun H locs hG hGm hS => ?_)
  refine lv_aload_n hx hb dL_law_1177 rfl (lv_at hl 2 rfl) ?_
  refine law_arg (k := 1) hx hb hX hbl hS hl (j0 := 0) (j3 := 3) rfl rfl (by omega) (by omega) dL_law_1178 dL_law_1179 dL_law_1180 dL_law_1181 dL_law_1182 ?_
  refine law_arg (k := 2) hx hb hX hbl hS hl (j0 := 0) (j3 := 3) rfl rfl (by omega) (by omega) dL_law_1183 dL_law_1184 dL_law_1185 dL_law_1186 dL_law_1187 ?_
  refine law_arg (k := 3) hx hb hX hbl hS hl (j0 := 0) (j3 := 3) rfl rfl (by omega) (by omega) dL_law_1188 dL_law_1189 dL_law_1190 dL_law_1191 dL_law_1192 ?_
  refine law_i (va_runV (As := [.int (xs (n + 1)), .int (xs (n + 2)), .int (xs (n + 3))]) (rest := [_]) ⟨hx, hb, hml, hown, hts⟩ (k_X5_mid l D cz am him _ M (xs (n + 1)) (xs (n + 2)) (xs (n + 3)) (r, J2, M2) e2) (cwV 3 hts (goodIn_up gL_law_X5_mid) rfl rfl rfl cd_X5_mid ⟨Nat.le_of_ble_eq_true rfl, Nat.le_of_ble_eq_true rfl⟩) ⟨g_blind mZm, g_recv hKm hGm (k := 0) (by decide) (mE_5 _ _) vwCl_5, g_pre mZm hKm hGm trivial (law_S0 hS)⟩ rfl rfl hl.1 rfl (lv_room (Nat.le_of_ble_eq_true rfl)) dL_law_1193 ⟨Nat.le_of_ble_eq_true rfl, Nat.le_of_ble_eq_true rfl⟩) hS hAm hG hdis (fun H locs hGm hG hS => ?_)
  refine lv_icmp_eq (tgt := 1348) hx hb dL_law_1196 (by decide) (fun _ => ?_) (fun c9 => absurd rfl c9)
  exact kk P Dr I L2 J2 M2 _ _ ⟨hSim2, hG, hGm, hS⟩
