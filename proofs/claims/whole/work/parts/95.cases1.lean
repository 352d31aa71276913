/-! THE LAW: cases -/
set_option maxHeartbeats 4000000 in
set_option maxRecDepth 100000 in
theorem law_11 {p : Program} {l : Launch} {e : Env} {s : State} {m : MethodId} {args : Array Value} {below : List Frame} {meth : Method} {c : Code} {Q : State → Prop} {D : va_G} {cy cz : Nat → ClassId} {ad am : Nat → Nat} {tI b N : Nat} {xs : Nat → Int32} (C0 : LW p s m args meth c D cy ad cz am tI b N xs) {n : Nat} (hn : n + 6 ≤ N) {P Dr : Nat} {I J : xMem} {L M : xLon} {H : Heap} {locs : List Loc} (C1 : LA D cy ad cz am s P Dr I L J M H locs) {ls : Array Slot} (hl : lv_has ls 4 [(0, .ref b), (1, .ref (ad 0)), (2, .ref (am 0)), (3, .int (nI n))]) (kk : ∀ (P Dr : Nat) (I : xMem) (L : xLon) (J : xMem) (M : xLon) (H : Heap) (locs : List Loc), LA D cy ad cz am s P Dr I L J M H locs → W p l e room_1 s m args below meth c H locs 600000 7302250 Q (F0 m 1348 ls [])) : W p l e room_1 s m args below meth c H locs 600000 7302250 Q (F0 m 585 ls []) := by
  have hX4 := C1.ok C0.2.2.2.1
  obtain ⟨⟨hx, hb, hml, hown, hts⟩, ⟨hX, hbl, hN⟩, ⟨hK, hKm, hZ⟩, hi, him, hA, hAm, hdis⟩ := C0
  obtain ⟨hSim, hG, hGm, hS⟩ := C1
  obtain ⟨r, I2, J2, e1, e2, hSim2⟩ := op_mark hSim (xs (n + 1)) (xs (n + 2))
  refine lv_aload_n hx hb dL_law_585 rfl (lv_at hl 1 rfl) ?_
  refine law_arg (k := 1) hx hb hX hbl hS hl (j0 := 0) (j3 := 3) rfl rfl (by omega) (by omega) dL_law_586 dL_law_587 dL_law_588 dL_law_589 dL_law_590 ?_
  refine law_arg (k := 2) hx hb hX hbl hS hl (j0 := 0) (j3 := 3) rfl rfl (by omega) (by omega) dL_law_591 dL_law_592 dL_law_593 dL_law_594 dL_law_595 ?_
  refine law_i (va_runV (As := [.int (xs (n + 1)), .int (xs (n + 2))]) (rest := []) ⟨hx, hb, hml, hown, hts⟩ (k_X4_mark l D cy ad P Dr tI hX4 _ L (xs (n + 1)) (xs (n + 2)) (r, I2) e1) (cwV 2 hts (goodIn_up gL_law_X4_mark) rfl rfl rfl cd_X4_mark ⟨Nat.le_of_ble_eq_true rfl, Nat.le_of_ble_eq_true rfl⟩) ⟨g_blind cZm, g_recv hK hG (k := 0) (by decide) (cE_4 _ _) vwCl_4, g_pre cZm hK hG hZ (law_S0 hS)⟩ rfl rfl hl.1 rfl (lv_room (Nat.le_of_ble_eq_true rfl)) dL_law_596 ⟨Nat.le_of_ble_eq_true rfl, Nat.le_of_ble_eq_true rfl⟩) hS hA hGm (fun k h1 j h2 h3 => hdis j h2 k h1 h3.symm) (fun H locs hG hGm hS => ?_)
  refine lv_aload_n hx hb dL_law_599 rfl (lv_at hl 2 rfl) ?_
  refine law_arg (k := 1) hx hb hX hbl hS hl (j0 := 0) (j3 := 3) rfl rfl (by omega) (by omega) dL_law_600 dL_law_601 dL_law_602 dL_law_603 dL_law_604 ?_
  refine law_arg (k := 2) hx hb hX hbl hS hl (j0 := 0) (j3 := 3) rfl rfl (by omega) (by omega) dL_law_605 dL_law_606 dL_law_607 dL_law_608 dL_law_609 ?_
  refine law_i (va_runV (As := [.int (xs (n + 1)), .int (xs (n + 2))]) (rest := [_]) ⟨hx, hb, hml, hown, hts⟩ (k_X5_mark l D cz am him _ M (xs (n + 1)) (xs (n + 2)) (r, J2) e2) (cwV 2 hts (goodIn_up gL_law_X5_mark) rfl rfl rfl cd_X5_mark ⟨Nat.le_of_ble_eq_true rfl, Nat.le_of_ble_eq_true rfl⟩) ⟨g_blind mZm, g_recv hKm hGm (k := 0) (by decide) (mE_5 _ _) vwCl_5, g_pre mZm hKm hGm trivial (law_S0 hS)⟩ rfl rfl hl.1 rfl (lv_room (Nat.le_of_ble_eq_true rfl)) dL_law_610 ⟨Nat.le_of_ble_eq_true rfl, Nat.le_of_ble_eq_true rfl⟩) hS hAm hG hdis (fun H locs hGm hG hS => ?_)
  refine lv_icmp_eq (tgt := 1348) hx hb dL_law_613 (by decide) (fun _ => ?_) (fun c9 => absurd rfl c9)
  exact kk P Dr I2 L J2 M _ _ ⟨hSim2, hG, hGm, hS⟩

set_option maxHeartbeats 4000000 in
set_option maxRecDepth 100000 in
theorem law_12 {p : Program} {l : Launch} {e : Env} {s : State} {m : MethodId} {args : Array Value} {below : List Frame} {meth : Method} {c : Code} {Q : State → Prop} {D : va_G} {cy cz : Nat → ClassId} {ad am : Nat → Nat} {tI b N : Nat} {xs : Nat → Int32} (C0 : LW p s m args meth c D cy ad cz am tI b N xs) {n : Nat} (hn : n + 6 ≤ N) {P Dr : Nat} {I J : xMem} {L M : xLon} {H : Heap} {locs : List Loc} (C1 : LA D cy ad cz am s P Dr I L J M H locs) {ls : Array Slot} (hl : lv_has ls 4 [(0, .ref b), (1, .ref (ad 0)), (2, .ref (am 0)), (3, .int (nI n))]) (kk : ∀ (P Dr : Nat) (I : xMem) (L : xLon) (J : xMem) (M : xLon) (H : Heap) (locs : List Loc), LA D cy ad cz am s P Dr I L J M H locs → W p l e room_1 s m args below meth c H locs 600000 7302250 Q (F0 m 1348 ls [])) : W p l e room_1 s m args below meth c H locs 600000 7302250 Q (F0 m 618 ls []) := by
  have hX4 := C1.ok C0.2.2.2.1
  obtain ⟨⟨hx, hb, hml, hown, hts⟩, ⟨hX, hbl, hN⟩, ⟨hK, hKm, hZ⟩, hi, him, hA, hAm, hdis⟩ := C0
  obtain ⟨hSim, hG, hGm, hS⟩ := C1
  obtain ⟨r, I2, J2, e1, e2, hSim2⟩ := op_go hSim (xs (n + 1)) (xs (n + 2)) (xs (n + 3)) (xs (n + 4))
  refine lv_aload_n hx hb dL_law_618 rfl (lv_at hl 1 rfl) ?_
  refine law_arg (k := 1) hx hb hX hbl hS hl (j0 := 0) (j3 := 3) rfl rfl (by omega) (by omega) dL_law_619 dL_law_620 dL_law_621 dL_law_622 dL_law_623 ?_
  refine law_arg (k := 2) hx hb hX hbl hS hl (j0 := 0) (j3 := 3) rfl rfl (by omega) (by omega) dL_law_624 dL_law_625 dL_law_626 dL_law_627 dL_law_628 ?_
  refine law_arg (k := 3) hx hb hX hbl hS hl (j0 := 0) (j3 := 3) rfl rfl (by omega) (by omega) dL_law_629 dL_law_630 dL_law_631 dL_law_632 dL_law_633 ?_
  refine law_arg (k := 4) hx hb hX hbl hS hl (j0 := 0) (j3 := 3) rfl rfl (by omega) (by omega) dL_law_634 dL_law_635 dL_law_636 dL_law_637 dL_law_638 ?_
  refine law_i (va_runV (As := [.int (xs (n + 1)), .int (xs (n + 2)), .int (xs (n + 3)), .int (xs (n + 4))]) (rest := []) ⟨hx, hb, hml, hown, hts⟩ (k_X4_go l D cy ad P Dr tI hX4 _ L (xs (n + 1)) (xs (n + 2)) (xs (n + 3)) (xs (n + 4)) (r, I2) e1) (cwV 4 hts (goodIn_up gL_law_X4_go) rfl rfl rfl cd_X4_go ⟨Nat.le_of_ble_eq_true rfl, Nat.le_of_ble_eq_true rfl⟩) ⟨g_blind cZm, g_recv hK hG (k := 0) (by decide) (cE_4 _ _) vwCl_4, g_pre cZm hK hG hZ (law_S0 hS)⟩ rfl rfl hl.1 rfl (lv_room (Nat.le_of_ble_eq_true rfl)) dL_law_639 ⟨Nat.le_of_ble_eq_true rfl, Nat.le_of_ble_eq_true rfl⟩) hS hA hGm (fun k h1 j h2 h3 => hdis j h2 k h1 h3.symm) (fun H locs hG hGm hS => ?_)
  refine lv_aload_n hx hb dL_law_642 rfl (lv_at hl 2 rfl) ?_
  refine law_arg (k := 1) hx hb hX hbl hS hl (j0 := 0) (j3 := 3) rfl rfl (by omega) (by omega) dL_law_643 dL_law_644 dL_law_645 dL_law_646 dL_law_647 ?_
  refine law_arg (k := 2) hx hb hX hbl hS hl (j0 := 0) (j3 := 3) rfl rfl (by omega) (by omega) dL_law_648 dL_law_649 dL_law_650 dL_law_651 dL_law_652 ?_
  refine law_arg (k := 3) hx hb hX hbl hS hl (j0 := 0) (j3 := 3) rfl rfl (by omega) (by omega) dL_law_653 dL_law_654 dL_law_655 dL_law_656 dL_law_657 ?_
  refine law_arg (k := 4) hx hb hX hbl hS hl (j0 := 0) (j3 := 3) rfl rfl (by omega) (by omega) dL_law_658 dL_law_659 dL_law_660 dL_law_661 dL_law_662 ?_
  refine law_i (va_runV (As := [.int (xs (n + 1)), .int (xs (n + 2)), .int (xs (n + 3)), .int (xs (n + 4))]) (rest := [_]) ⟨hx, hb, hml, hown, hts⟩ (k_X5_go l D cz am him _ M (xs (n + 1)) (xs (n + 2)) (xs (n + 3)) (xs (n + 4)) (r, J2) e2) (cwV 4 hts (goodIn_up gL_law_X5_go) rfl rfl rfl cd_X5_go ⟨Nat.le_of_ble_eq_true rfl, Nat.le_of_ble_eq_true rfl⟩) ⟨g_blind mZm, g_recv hKm hGm (k := 0) (by decide) (mE_5 _ _) vwCl_5, g_pre mZm hKm hGm trivial (law_S0 hS)⟩ rfl rfl hl.1 rfl (lv_room (Nat.le_of_ble_eq_true rfl)) dL_law_663 ⟨Nat.le_of_ble_eq_true rfl, Nat.le_of_ble_eq_true rfl⟩) hS hAm hG hdis (fun H locs hGm hG hS => ?_)
  refine lv_icmp_eq (tgt := 1348) hx hb dL_law_666 (by decide) (fun _ => ?_) (fun c9 => absurd rfl c9)
  exact kk P Dr I2 L J2 M _ _ ⟨hSim2, hG, hGm, hS⟩

set_option maxHeartbeats 4000000 in
set_option maxRecDepth 100000 in
theorem law_13 {p : Program} {l : Launch} {e : Env} {s : State} {m : MethodId} {args : Array Value} {below : List Frame} {meth : Method} {c : Code} {Q : State → Prop} {D : va_G} {cy cz : Nat → ClassId} {ad am : Nat → Nat} {tI b N : Nat} {xs : Nat → Int32} (C0 : LW p s m args meth c D cy ad cz am tI b N xs) {n : Nat} (hn : n + 6 ≤ N) {P Dr : Nat} {I J : xMem} {L M : xLon} {H : Heap} {locs : List Loc} (C1 : LA D cy ad cz am s P Dr I L J M H locs) {ls : Array Slot} (hl : lv_has ls 4 [(0, .ref b), (1, .ref (ad 0)), (2, .ref (am 0)), (3, .int (nI n))]) (kk : ∀ (P Dr : Nat) (I : xMem) (L : xLon) (J : xMem) (M : xLon) (H : Heap) (locs : List Loc), LA D cy ad cz am s P Dr I L J M H locs → W p l e room_1 s m args below meth c H locs 600000 7302250 Q (F0 m 1348 ls [])) : W p l e room_1 s m args below meth c H locs 600000 7302250 Q (F0 m 671 ls []) := by
  have hX4 := C1.ok C0.2.2.2.1
  obtain ⟨⟨hx, hb, hml, hown, hts⟩, ⟨hX, hbl, hN⟩, ⟨hK, hKm, hZ⟩, hi, him, hA, hAm, hdis⟩ := C0
  obtain ⟨hSim, hG, hGm, hS⟩ := C1
  obtain ⟨r, I2, J2, e1, e2, hSim2⟩ := op_loaf hSim 
  refine lv_aload_n hx hb dL_law_671 rfl (lv_at hl 1 rfl) ?_
  refine law_i (va_runV (As := []) (rest := []) ⟨hx, hb, hml, hown, hts⟩ (k_X4_loaf l D cy ad P Dr tI hX4 _ L  (r, I2) e1) (cwV 0 hts (goodIn_up gL_law_X4_loaf) rfl rfl rfl cd_X4_loaf ⟨Nat.le_of_ble_eq_true rfl, Nat.le_of_ble_eq_true rfl⟩) ⟨g_blind cZm, g_recv hK hG (k := 0) (by decide) (cE_4 _ _) vwCl_4, g_pre cZm hK hG hZ (law_S0 hS)⟩ rfl rfl hl.1 rfl (lv_room (Nat.le_of_ble_eq_true rfl)) dL_law_672 ⟨Nat.le_of_ble_eq_true rfl, Nat.le_of_ble_eq_true rfl⟩) hS hA hGm (fun k h1 j h2 h3 => hdis j h2 k h1 h3.symm) (fun H locs hG hGm hS => ?_)
  refine lv_aload_n hx hb dL_law_675 rfl (lv_at hl 2 rfl) ?_
  refine law_i (va_runV (As := []) (rest := [_]) ⟨hx, hb, hml, hown, hts⟩ (k_X5_loaf l D cz am him _ M  (r, J2) e2) (cwV 0 hts (goodIn_up gL_law_X5_loaf) rfl rfl rfl cd_X5_loaf ⟨Nat.le_of_ble_eq_true rfl, Nat.le_of_ble_eq_true rfl⟩) ⟨g_blind mZm, g_recv hKm hGm (k := 0) (by decide) (mE_5 _ _) vwCl_5, g_pre mZm hKm hGm trivial (law_S0 hS)⟩ rfl rfl hl.1 rfl (lv_room (Nat.le_of_ble_eq_true rfl)) dL_law_676 ⟨Nat.le_of_ble_eq_true rfl, Nat.le_of_ble_eq_true rfl⟩) hS hAm hG hdis (fun H locs hGm hG hS => ?_)
  refine lv_icmp_eq (tgt := 1348) hx hb dL_law_679 (by decide) (fun _ => ?_) (fun c9 => absurd rfl c9)
  exact kk P Dr I2 L J2 M _ _ ⟨hSim2, hG, hGm, hS⟩

set_option maxHeartbeats 4000000 in
set_option maxRecDepth 100000 in
theorem law_14 {p : Program} {l : Launch} {e : Env} {s : State} {m : MethodId} {args : Array Value} {below : List Frame} {meth : Method} {c : Code} {Q : State → Prop} {D : va_G} {cy cz : Nat → ClassId} {ad am : Nat → Nat} {tI b N : Nat} {xs : Nat → Int32} (C0 : LW p s m args meth c D cy ad cz am tI b N xs) {n : Nat} (hn : n + 6 ≤ N) {P Dr : Nat} {I J : xMem} {L M : xLon} {H : Heap} {locs : List Loc} (C1 : LA D cy ad cz am s P Dr I L J M H locs) {ls : Array Slot} (hl : lv_has ls 4 [(0, .ref b), (1, .ref (ad 0)), (2, .ref (am 0)), (3, .int (nI n))]) (kk : ∀ (P Dr : Nat) (I : xMem) (L : xLon) (J : xMem) (M : xLon) (H : Heap) (locs : List Loc), LA D cy ad cz am s P Dr I L J M H locs → W p l e room_1 s m args below meth c H locs 600000 7302250 Q (F0 m 1348 ls [])) : W p l e room_1 s m args below meth c H locs 600000 7302250 Q (F0 m 684 ls []) := by
  have hX4 := C1.ok C0.2.2.2.1
  obtain ⟨⟨hx, hb, hml, hown, hts⟩, ⟨hX, hbl, hN⟩, ⟨hK, hKm, hZ⟩, hi, him, hA, hAm, hdis⟩ := C0
  obtain ⟨hSim, hG, hGm, hS⟩ := C1
  obtain ⟨r, I2, J2, e1, e2, hSim2⟩ := op_undo hSim (xs (n + 1))
  refine lv_aload_n hx hb dL_law_684 rfl (lv_at hl 1 rfl) ?_
  refine law_arg (k := 1) hx hb hX hbl hS hl (j0 := 0) (j3 := 3) rfl rfl (by omega) (by omega) dL_law_685 dL_law_686 dL_law_687 dL_law_688 dL_law_689 ?_
  refine law_i (va_runV (As := [.int (xs (n + 1))]) (rest := []) ⟨hx, hb, hml, hown, hts⟩ (k_X4_undo l D cy ad P Dr tI hX4 _ L (xs (n + 1)) (r, I2) e1) (cwV 1 hts (goodIn_up gL_law_X4_undo) rfl rfl rfl cd_X4_undo ⟨Nat.le_of_ble_eq_true rfl, Nat.le_of_ble_eq_true rfl⟩) ⟨g_blind cZm, g_recv hK hG (k := 0) (by decide) (cE_4 _ _) vwCl_4, g_pre cZm hK hG hZ (law_S0 hS)⟩ rfl rfl hl.1 rfl (lv_room (Nat.le_of_ble_eq_true rfl)) dL_law_690 ⟨Nat.le_of_ble_eq_true rfl, Nat.le_of_ble_eq_true rfl⟩) hS hA hGm (fun k h1 j h2 h3 => hdis j h2 k h1 h3.symm) (fun H locs hG hGm hS => ?_)
  refine lv_aload_n hx hb dL_law_693 rfl (lv_at hl 2 rfl) ?_
  refine law_arg (k := 1) hx hb hX hbl hS hl (j0 := 0) (j3 := 3) rfl rfl (by omega) (by omega) dL_law_694 dL_law_695 dL_law_696 dL_law_697 dL_law_698 ?_
  refine law_i (va_runV (As := [.int (xs (n + 1))]) (rest := [_]) ⟨hx, hb, hml, hown, hts⟩ (k_X5_undo l D cz am him _ M (xs (n + 1)) (r, J2) e2) (cwV 1 hts (goodIn_up gL_law_X5_undo) rfl rfl rfl cd_X5_undo ⟨Nat.le_of_ble_eq_true rfl, Nat.le_of_ble_eq_true rfl⟩) ⟨g_blind mZm, g_recv hKm hGm (k := 0) (by decide) (mE_5 _ _) vwCl_5, g_pre mZm hKm hGm trivial (law_S0 hS)⟩ rfl rfl hl.1 rfl (lv_room (Nat.le_of_ble_eq_true rfl)) dL_law_699 ⟨Nat.le_of_ble_eq_true rfl, Nat.le_of_ble_eq_true rfl⟩) hS hAm hG hdis (fun H locs hGm hG hS => ?_)
  refine lv_icmp_eq (tgt := 1348) hx hb dL_law_702 (by decide) (fun _ => ?_) (fun c9 => absurd rfl c9)
  exact kk P Dr I2 L J2 M _ _ ⟨hSim2, hG, hGm, hS⟩

set_option maxHeartbeats 4000000 in
set_option maxRecDepth 100000 in
theorem law_15 {p : Program} {l : Launch} {e : Env} {s : State} {m : MethodId} {args : Array Value} {below : List Frame} {meth : Method} {c : Code} {Q : State → Prop} {D : va_G} {cy cz : Nat → ClassId} {ad am : Nat → Nat} {tI b N : Nat} {xs : Nat → Int32} (C0 : LW p s m args meth c D cy ad cz am tI b N xs) {n : Nat} (hn : n + 6 ≤ N) {P Dr : Nat} {I J : xMem} {L M : xLon} {H : Heap} {locs : List Loc} (C1 : LA D cy ad cz am s P Dr I L J M H locs) {ls : Array Slot} (hl : lv_has ls 4 [(0, .ref b), (1, .ref (ad 0)), (2, .ref (am 0)), (3, .int (nI n))]) (kk : ∀ (P Dr : Nat) (I : xMem) (L : xLon) (J : xMem) (M : xLon) (H : Heap) (locs : List Loc), LA D cy ad cz am s P Dr I L J M H locs → W p l e room_1 s m args below meth c H locs 600000 7302250 Q (F0 m 1348 ls [])) : W p l e room_1 s m args below meth c H locs 600000 7302250 Q (F0 m 707 ls []) := by
  have hX4 := C1.ok C0.2.2.2.1
  obtain ⟨⟨hx, hb, hml, hown, hts⟩, ⟨hX, hbl, hN⟩, ⟨hK, hKm, hZ⟩, hi, him, hA, hAm, hdis⟩ := C0
  obtain ⟨hSim, hG, hGm, hS⟩ := C1
  obtain ⟨r, I2, J2, e1, e2, hSim2⟩ := op_keep hSim (xs (n + 1))
  refine lv_aload_n hx hb dL_law_707 rfl (lv_at hl 1 rfl) ?_
  refine law_arg (k := 1) hx hb hX hbl hS hl (j0 := 0) (j3 := 3) rfl rfl (by omega) (by omega) dL_law_708 dL_law_709 dL_law_710 dL_law_711 dL_law_712 ?_
  refine law_i (va_runV (As := [.int (xs (n + 1))]) (rest := []) ⟨hx, hb, hml, hown, hts⟩ (k_X4_keep l D cy ad P Dr tI hX4 _ L (xs (n + 1)) (r, I2) e1) (cwV 1 hts (goodIn_up gL_law_X4_keep) rfl rfl rfl cd_X4_keep ⟨Nat.le_of_ble_eq_true rfl, Nat.le_of_ble_eq_true rfl⟩) ⟨g_blind cZm, g_recv hK hG (k := 0) (by decide) (cE_4 _ _) vwCl_4, g_pre cZm hK hG hZ (law_S0 hS)⟩ rfl rfl hl.1 rfl (lv_room (Nat.le_of_ble_eq_true rfl)) dL_law_713 ⟨Nat.le_of_ble_eq_true rfl, Nat.le_of_ble_eq_true rfl⟩) hS hA hGm (fun k h1 j h2 h3 => hdis j h2 k h1 h3.symm) (fun H locs hG hGm hS => ?_)
  refine lv_aload_n hx hb dL_law_716 rfl (lv_at hl 2 rfl) ?_
  refine law_arg (k := 1) hx hb hX hbl hS hl (j0 := 0) (j3 := 3) rfl rfl (by omega) (by omega) dL_law_717 dL_law_718 dL_law_719 dL_law_720 dL_law_721 ?_
  refine law_i (va_runV (As := [.int (xs (n + 1))]) (rest := [_]) ⟨hx, hb, hml, hown, hts⟩ (k_X5_keep l D cz am him _ M (xs (n + 1)) (r, J2) e2) (cwV 1 hts (goodIn_up gL_law_X5_keep) rfl rfl rfl cd_X5_keep ⟨Nat.le_of_ble_eq_true rfl, Nat.le_of_ble_eq_true rfl⟩) ⟨g_blind mZm, g_recv hKm hGm (k := 0) (by decide) (mE_5 _ _) vwCl_5, g_pre mZm hKm hGm trivial (law_S0 hS)⟩ rfl rfl hl.1 rfl (lv_room (Nat.le_of_ble_eq_true rfl)) dL_law_722 ⟨Nat.le_of_ble_eq_true rfl, Nat.le_of_ble_eq_true rfl⟩) hS hAm hG hdis (fun H locs hGm hG hS => ?_)
  refine lv_icmp_eq (tgt := 1348) hx hb dL_law_725 (by decide) (fun _ => ?_) (fun c9 => absurd rfl c9)
  exact kk P Dr I2 L J2 M _ _ ⟨hSim2, hG, hGm, hS⟩

set_option maxHeartbeats 4000000 in
set_option maxRecDepth 100000 in
theorem law_16 {p : Program} {l : Launch} {e : Env} {s : State} {m : MethodId} {args : Array Value} {below : List Frame} {meth : Method} {c : Code} {Q : State → Prop} {D : va_G} {cy cz : Nat → ClassId} {ad am : Nat → Nat} {tI b N : Nat} {xs : Nat → Int32} (C0 : LW p s m args meth c D cy ad cz am tI b N xs) {n : Nat} (hn : n + 6 ≤ N) {P Dr : Nat} {I J : xMem} {L M : xLon} {H : Heap} {locs : List Loc} (C1 : LA D cy ad cz am s P Dr I L J M H locs) {ls : Array Slot} (hl : lv_has ls 4 [(0, .ref b), (1, .ref (ad 0)), (2, .ref (am 0)), (3, .int (nI n))]) (kk : ∀ (P Dr : Nat) (I : xMem) (L : xLon) (J : xMem) (M : xLon) (H : Heap) (locs : List Loc), LA D cy ad cz am s P Dr I L J M H locs → W p l e room_1 s m args below meth c H locs 600000 7302250 Q (F0 m 1348 ls [])) : W p l e room_1 s m args below meth c H locs 600000 7302250 Q (F0 m 730 ls []) := by
  have hX4 := C1.ok C0.2.2.2.1
  obtain ⟨⟨hx, hb, hml, hown, hts⟩, ⟨hX, hbl, hN⟩, ⟨hK, hKm, hZ⟩, hi, him, hA, hAm, hdis⟩ := C0
  obtain ⟨hSim, hG, hGm, hS⟩ := C1
  obtain ⟨r, I2, J2, e1, e2, hSim2⟩ := op_on hSim (xs (n + 1))
  refine lv_aload_n hx hb dL_law_730 rfl (lv_at hl 1 rfl) ?_
  refine law_arg (k := 1) hx hb hX hbl hS hl (j0 := 0) (j3 := 3) rfl rfl (by omega) (by omega) dL_law_731 dL_law_732 dL_law_733 dL_law_734 dL_law_735 ?_
  refine law_i (va_runV (As := [.int (xs (n + 1))]) (rest := []) ⟨hx, hb, hml, hown, hts⟩ (k_X4_on l D cy ad P Dr tI hX4 _ L (xs (n + 1)) (r, I2) e1) (cwV 1 hts (goodIn_up gL_law_X4_on) rfl rfl rfl cd_X4_on ⟨Nat.le_of_ble_eq_true rfl, Nat.le_of_ble_eq_true rfl⟩) ⟨g_blind cZm, g_recv hK hG (k := 0) (by decide) (cE_4 _ _) vwCl_4, g_pre cZm hK hG hZ (law_S0 hS)⟩ rfl rfl hl.1 rfl (lv_room (Nat.le_of_ble_eq_true rfl)) dL_law_736 ⟨Nat.le_of_ble_eq_true rfl, Nat.le_of_ble_eq_true rfl⟩) hS hA hGm (fun k h1 j h2 h3 => hdis j h2 k h1 h3.symm) (fun H locs hG hGm hS => ?_)
  refine lv_aload_n hx hb dL_law_739 rfl (lv_at hl 2 rfl) ?_
  refine law_arg (k := 1) hx hb hX hbl hS hl (j0 := 0) (j3 := 3) rfl rfl (by omega) (by omega) dL_law_740 dL_law_741 dL_law_742 dL_law_743 dL_law_744 ?_
  refine law_i (va_runV (As := [.int (xs (n + 1))]) (rest := [_]) ⟨hx, hb, hml, hown, hts⟩ (k_X5_on l D cz am him _ M (xs (n + 1)) (r, J2) e2) (cwV 1 hts (goodIn_up gL_law_X5_on) rfl rfl rfl cd_X5_on ⟨Nat.le_of_ble_eq_true rfl, Nat.le_of_ble_eq_true rfl⟩) ⟨g_blind mZm, g_recv hKm hGm (k := 0) (by decide) (mE_5 _ _) vwCl_5, g_pre mZm hKm hGm trivial (law_S0 hS)⟩ rfl rfl hl.1 rfl (lv_room (Nat.le_of_ble_eq_true rfl)) dL_law_745 ⟨Nat.le_of_ble_eq_true rfl, Nat.le_of_ble_eq_true rfl⟩) hS hAm hG hdis (fun H locs hGm hG hS => ?_)
  refine lv_icmp_eq (tgt := 1348) hx hb dL_law_748 (by decide) (fun _ => ?_) (fun c9 => absurd rfl c9)
  exact kk P Dr I2 L J2 M _ _ ⟨hSim2, hG, hGm, hS⟩

set_option maxHeartbeats 4000000 in
set_option maxRecDepth 100000 in
theorem law_17 {p : Program} {l : Launch} {e : Env} {s : State} {m : MethodId} {args : Array Value} {below : List Frame} {meth : Method} {c : Code} {Q : State → Prop} {D : va_G} {cy cz : Nat → ClassId} {ad am : Nat → Nat} {tI b N : Nat} {xs : Nat → Int32} (C0 : LW p s m args meth c D cy ad cz am tI b N xs) {n : Nat} (hn : n + 6 ≤ N) {P Dr : Nat} {I J : xMem} {L M : xLon} {H : Heap} {locs : List Loc} (C1 : LA D cy ad cz am s P Dr I L J M H locs) {ls : Array Slot} (hl : lv_has ls 4 [(0, .ref b), (1, .ref (ad 0)), (2, .ref (am 0)), (3, .int (nI n))]) (kk : ∀ (P Dr : Nat) (I : xMem) (L : xLon) (J : xMem) (M : xLon) (H : Heap) (locs : List Loc), LA D cy ad cz am s P Dr I L J M H locs → W p l e room_1 s m args below meth c H locs 600000 7302250 Q (F0 m 1348 ls [])) : W p l e room_1 s m args below meth c H locs 600000 7302250 Q (F0 m 753 ls []) := by
  have hX4 := C1.ok C0.2.2.2.1
  obtain ⟨⟨hx, hb, hml, hown, hts⟩, ⟨hX, hbl, hN⟩, ⟨hK, hKm, hZ⟩, hi, him, hA, hAm, hdis⟩ := C0
  obtain ⟨hSim, hG, hGm, hS⟩ := C1
  obtain ⟨r, e1, e2⟩ := op_sink hSim (xs (n + 1)) (xs (n + 2)) (xs (n + 3)) (xs (n + 4))
  refine lv_aload_n hx hb dL_law_753 rfl (lv_at hl 1 rfl) ?_
  refine law_arg (k := 1) hx hb hX hbl hS hl (j0 := 0) (j3 := 3) rfl rfl (by omega) (by omega) dL_law_754 dL_law_755 dL_law_756 dL_law_757 dL_law_758 ?_
  refine law_arg (k := 2) hx hb hX hbl hS hl (j0 := 0) (j3 := 3) rfl rfl (by omega) (by omega) dL_law_759 dL_law_760 dL_law_761 dL_law_762 dL_law_763 ?_
  refine law_arg (k := 3) hx hb hX hbl hS hl (j0 := 0) (j3 := 3) rfl rfl (by omega) (by omega) dL_law_764 dL_law_765 dL_law_766 dL_law_767 dL_law_768 ?_
  refine law_arg (k := 4) hx hb hX hbl hS hl (j0 := 0) (j3 := 3) rfl rfl (by omega) (by omega) dL_law_769 dL_law_770 dL_law_771 dL_law_772 dL_law_773 ?_
  refine law_i (va_runV (As := [.int (xs (n + 1)), .int (xs (n + 2)), .int (xs (n + 3)), .int (xs (n + 4))]) (rest := []) ⟨hx, hb, hml, hown, hts⟩ (k_X4_sink l D cy ad P Dr tI hX4 _ L (xs (n + 1)) (xs (n + 2)) (xs (n + 3)) (xs (n + 4)) r e1) (cwV 4 hts (goodIn_up gL_law_X4_sink) rfl rfl rfl cd_X4_sink ⟨Nat.le_of_ble_eq_true rfl, Nat.le_of_ble_eq_true rfl⟩) ⟨g_blind cZm, g_recv hK hG (k := 0) (by decide) (cE_4 _ _) vwCl_4, g_pre cZm hK hG hZ (law_S0 hS)⟩ rfl rfl hl.1 rfl (lv_room (Nat.le_of_ble_eq_true rfl)) dL_law_774 ⟨Nat.le_of_ble_eq_true rfl, Nat.le_of_ble_eq_true rfl⟩) hS hA hGm (fun k h1 j h2 h3 => hdis j h2 k h1 h3.symm) (fun H locs hG hGm hS => ?_)
  refine lv_aload_n hx hb dL_law_777 rfl (lv_at hl 2 rfl) ?_
  refine law_arg (k := 1) hx hb hX hbl hS hl (j0 := 0) (j3 := 3) rfl rfl (by omega) (by omega) dL_law_778 dL_law_779 dL_law_780 dL_law_781 dL_law_782 ?_
  refine law_arg (k := 2) hx hb hX hbl hS hl (j0 := 0) (j3 := 3) rfl rfl (by omega) (by omega) dL_law_783 dL_law_784 dL_law_785 dL_law_786 dL_law_787 ?_
  refine law_arg (k := 3) hx hb hX hbl hS hl (j0 := 0) (j3 := 3) rfl rfl (by omega) (by omega) dL_law_788 dL_law_789 dL_law_790 dL_law_791 dL_law_792 ?_
  refine law_arg (k := 4) hx hb hX hbl hS hl (j0 := 0) (j3 := 3) rfl rfl (by omega) (by omega) dL_law_793 dL_law_794 dL_law_795 dL_law_796 dL_law_797 ?_
  refine law_i (va_runV (As := [.int (xs (n + 1)), .int (xs (n + 2)), .int (xs (n + 3)), .int (xs (n + 4))]) (rest := [_]) ⟨hx, hb, hml, hown, hts⟩ (k_X5_sink l D cz am him _ M (xs (n + 1)) (xs (n + 2)) (xs (n + 3)) (xs (n + 4)) r e2) (cwV 4 hts (goodIn_up gL_law_X5_sink) rfl rfl rfl cd_X5_sink ⟨Nat.le_of_ble_eq_true rfl, Nat.le_of_ble_eq_true rfl⟩) ⟨g_blind mZm, g_recv hKm hGm (k := 0) (by decide) (mE_5 _ _) vwCl_5, g_pre mZm hKm hGm trivial (law_S0 hS)⟩ rfl rfl hl.1 rfl (lv_room (Nat.le_of_ble_eq_true rfl)) dL_law_798 ⟨Nat.le_of_ble_eq_true rfl, Nat.le_of_ble_eq_true rfl⟩) hS hAm hG hdis (fun H locs hGm hG hS => ?_)
  refine lv_icmp_eq (tgt := 1348) hx hb dL_law_801 (by decide) (fun _ => ?_) (fun c9 => absurd rfl c9)
  exact kk P Dr I L J M _ _ ⟨hSim, hG, hGm, hS⟩

set_option maxHeartbeats 4000000 in
set_option maxRecDepth 100000 in
theorem law_18 {p : Program} {l : Launch} {e : Env} {s : State} {m : MethodId} {args : Array Value} {below : List Frame} {meth : Method} {c : Code} {Q : State → Prop} {D : va_G} {cy cz : Nat → ClassId} {ad am : Nat → Nat} {tI b N : Nat} {xs : Nat → Int32} (C0 : LW p s m args meth c D cy ad cz am tI b N xs) {n : Nat} (hn : n + 6 ≤ N) {P Dr : Nat} {I J : xMem} {L M : xLon} {H : Heap} {locs : List Loc} (C1 : LA D cy ad cz am s P Dr I L J M H locs) {ls : Array Slot} (hl : lv_has ls 4 [(0, .ref b), (1, .ref (ad 0)), (2, .ref (am 0)), (3, .int (nI n))]) (kk : ∀ (P Dr : Nat) (I : xMem) (L : xLon) (J : xMem) (M : xLon) (H : Heap) (locs : List Loc), LA D cy ad cz am s P Dr I L J M H locs → W p l e room_1 s m args below meth c H locs 600000 7302250 Q (F0 m 1348 ls [])) : W p l e room_1 s m args below meth c H locs 600000 7302250 Q (F0 m 806 ls []) := by
  have hX4 := C1.ok C0.2.2.2.1
  obtain ⟨⟨hx, hb, hml, hown, hts⟩, ⟨hX, hbl, hN⟩, ⟨hK, hKm, hZ⟩, hi, him, hA, hAm, hdis⟩ := C0
  obtain ⟨hSim, hG, hGm, hS⟩ := C1
  obtain ⟨r, I2, J2, e1, e2, hSim2⟩ := op_best hSim (xs (n + 1)) (xs (n + 2))
  refine lv_aload_n hx hb dL_law_806 rfl (lv_at hl 1 rfl) ?_
  refine law_arg (k := 1) hx hb hX hbl hS hl (j0 := 0) (j3 := 3) rfl rfl (by omega) (by omega) dL_law_807 dL_law_808 dL_law_809 dL_law_810 dL_law_811 ?_
  refine law_arg (k := 2) hx hb hX hbl hS hl (j0 := 0) (j3 := 3) rfl rfl (by omega) (by omega) dL_law_812 dL_law_813 dL_law_814 dL_law_815 dL_law_816 ?_
  refine law_i (va_runV (As := [.int (xs (n + 1)), .int (xs (n + 2))]) (rest := []) ⟨hx, hb, hml, hown, hts⟩ (k_X4_best l D cy ad P Dr tI hX4 _ L (xs (n + 1)) (xs (n + 2)) (r, I2) e1) (cwV 2 hts (goodIn_up gL_law_X4_best) rfl rfl rfl cd_X4_best ⟨Nat.le_of_ble_eq_true rfl, Nat.le_of_ble_eq_true rfl⟩) ⟨g_blind cZm, g_recv hK hG (k := 0) (by decide) (cE_4 _ _) vwCl_4, g_pre cZm hK hG hZ (law_S0 hS)⟩ rfl rfl hl.1 rfl (lv_room (Nat.le_of_ble_eq_true rfl)) dL_law_817 ⟨Nat.le_of_ble_eq_true rfl, Nat.le_of_ble_eq_true rfl⟩) hS hA hGm (fun k h1 j h2 h3 => hdis j h2 k h1 h3.symm) (fun H locs hG hGm hS => ?_)
  refine lv_aload_n hx hb dL_law_820 rfl (lv_at hl 2 rfl) ?_
  refine law_arg (k := 1) hx hb hX hbl hS hl (j0 := 0) (j3 := 3) rfl rfl (by omega) (by omega) dL_law_821 dL_law_822 dL_law_823 dL_law_824 dL_law_825 ?_
  refine law_arg (k := 2) hx hb hX hbl hS hl (j0 := 0) (j3 := 3) rfl rfl (by omega) (by omega) dL_law_826 dL_law_827 dL_law_828 dL_law_829 dL_law_830 ?_
  refine law_i (va_runV (As := [.int (xs (n + 1)), .int (xs (n + 2))]) (rest := [_]) ⟨hx, hb, hml, hown, hts⟩ (k_X5_best l D cz am him _ M (xs (n + 1)) (xs (n + 2)) (r, J2) e2) (cwV 2 hts (goodIn_up gL_law_X5_best) rfl rfl rfl cd_X5_best ⟨Nat.le_of_ble_eq_true rfl, Nat.le_of_ble_eq_true rfl⟩) ⟨g_blind mZm, g_recv hKm hGm (k := 0) (by decide) (mE_5 _ _) vwCl_5, g_pre mZm hKm hGm trivial (law_S0 hS)⟩ rfl rfl hl.1 rfl (lv_room (Nat.le_of_ble_eq_true rfl)) dL_law_831 ⟨Nat.le_of_ble_eq_true rfl, Nat.le_of_ble_eq_true rfl⟩) hS hAm hG hdis (fun H locs hGm hG hS => ?_)
  refine lv_icmp_eq (tgt := 1348) hx hb dL_law_834 (by decide) (fun _ => ?_) (fun c9 => absurd rfl c9)
  exact kk P Dr I2 L J2 M _ _ ⟨hSim2, hG, hGm, hS⟩

set_option maxHeartbeats 4000000 in
set_option maxRecDepth 100000 in
theorem law_19 {p : Program} {l : Launch} {e : Env} {s : State} {m : MethodId} {args : Array Value} {below : List Frame} {meth : Method} {c : Code} {Q : State → Prop} {D : va_G} {cy cz : Nat → ClassId} {ad am : Nat → Nat} {tI b N : Nat} {xs : Nat → Int32} (C0 : LW p s m args meth c D cy ad cz am tI b N xs) {n : Nat} (hn : n + 6 ≤ N) {P Dr : Nat} {I J : xMem} {L M : xLon} {H : Heap} {locs : List Loc} (C1 : LA D cy ad cz am s P Dr I L J M H locs) {ls : Array Slot} (hl : lv_has ls 4 [(0, .ref b), (1, .ref (ad 0)), (2, .ref (am 0)), (3, .int (nI n))]) (kk : ∀ (P Dr : Nat) (I : xMem) (L : xLon) (J : xMem) (M : xLon) (H : Heap) (locs : List Loc), LA D cy ad cz am s P Dr I L J M H locs → W p l e room_1 s m args below meth c H locs 600000 7302250 Q (F0 m 1348 ls [])) : W p l e room_1 s m args below meth c H locs 600000 7302250 Q (F0 m 839 ls []) := by
  have hX4 := C1.ok C0.2.2.2.1
  obtain ⟨⟨hx, hb, hml, hown, hts⟩, ⟨hX, hbl, hN⟩, ⟨hK, hKm, hZ⟩, hi, him, hA, hAm, hdis⟩ := C0
  obtain ⟨hSim, hG, hGm, hS⟩ := C1
  obtain ⟨r, I2, J2, e1, e2, hSim2⟩ := op_pairs hSim 
  refine lv_aload_n hx hb dL_law_839 rfl (lv_at hl 1 rfl) ?_
  refine law_i (va_runV (As := []) (rest := []) ⟨hx, hb, hml, hown, hts⟩ (k_X4_pairs l D cy ad P Dr tI hX4 _ L  (r, I2) e1) (cwV 0 hts (goodIn_up gL_law_X4_pairs) rfl rfl rfl cd_X4_pairs ⟨Nat.le_of_ble_eq_true rfl, Nat.le_of_ble_eq_true rfl⟩) ⟨g_blind cZm, g_recv hK hG (k := 0) (by decide) (cE_4 _ _) vwCl_4, g_pre cZm hK hG hZ (law_S0 hS)⟩ rfl rfl hl.1 rfl (lv_room (Nat.le_of_ble_eq_true rfl)) dL_law_840 ⟨Nat.le_of_ble_eq_true rfl, Nat.le_of_ble_eq_true rfl⟩) hS hA hGm (fun k h1 j h2 h3 => hdis j h2 k h1 h3.symm) (fun H locs hG hGm hS => ?_)
  refine lv_aload_n hx hb dL_law_843 rfl (lv_at hl 2 rfl) ?_
  refine law_i (va_runV (As := []) (rest := [_]) ⟨hx, hb, hml, hown, hts⟩ (k_X5_pairs l D cz am him _ M  (r, J2) e2) (cwV 0 hts (goodIn_up gL_law_X5_pairs) rfl rfl rfl cd_X5_pairs ⟨Nat.le_of_ble_eq_true rfl, Nat.le_of_ble_eq_true rfl⟩) ⟨g_blind mZm, g_recv hKm hGm (k := 0) (by decide) (mE_5 _ _) vwCl_5, g_pre mZm hKm hGm trivial (law_S0 hS)⟩ rfl rfl hl.1 rfl (lv_room (Nat.le_of_ble_eq_true rfl)) dL_law_844 ⟨Nat.le_of_ble_eq_true rfl, Nat.le_of_ble_eq_true rfl⟩) hS hAm hG hdis (fun H locs hGm hG hS => ?_)
  refine lv_icmp_eq (tgt := 1348) hx hb dL_law_847 (by decide) (fun _ => ?_) (fun c9 => absurd rfl c9)
  exact kk P Dr I2 L J2 M _ _ ⟨hSim2, hG, hGm, hS⟩

set_option maxHeartbeats 4000000 in
set_option maxRecDepth 100000 in
theorem law_20 {p : Program} {l : Launch} {e : Env} {s : State} {m : MethodId} {args : Array Value} {below : List Frame} {meth : Method} {c : Code} {Q : State → Prop} {D : va_G} {cy cz : Nat → ClassId} {ad am : Nat → Nat} {tI b N : Nat} {xs : Nat → Int32} (C0 : LW p s m args meth c D cy ad cz am tI b N xs) {n : Nat} (hn : n + 6 ≤ N) {P Dr : Nat} {I J : xMem} {L M : xLon} {H : Heap} {locs : List Loc} (C1 : LA D cy ad cz am s P Dr I L J M H locs) {ls : Array Slot} (hl : lv_has ls 4 [(0, .ref b), (1, .ref (ad 0)), (2, .ref (am 0)), (3, .int (nI n))]) (kk : ∀ (P Dr : Nat) (I : xMem) (L : xLon) (J : xMem) (M : xLon) (H : Heap) (locs : List Loc), LA D cy ad cz am s P Dr I L J M H locs → W p l e room_1 s m args below meth c H locs 600000 7302250 Q (F0 m 1348 ls [])) : W p l e room_1 s m args below meth c H locs 600000 7302250 Q (F0 m 852 ls []) := by
  have hX4 := C1.ok C0.2.2.2.1
  obtain ⟨⟨hx, hb, hml, hown, hts⟩, ⟨hX, hbl, hN⟩, ⟨hK, hKm, hZ⟩, hi, him, hA, hAm, hdis⟩ := C0
  obtain ⟨hSim, hG, hGm, hS⟩ := C1
  obtain ⟨r, I2, J2, e1, e2, hSim2⟩ := op_match hSim 
  refine lv_aload_n hx hb dL_law_852 rfl (lv_at hl 1 rfl) ?_
  refine law_i (va_runV (As := []) (rest := []) ⟨hx, hb, hml, hown, hts⟩ (k_X4_match l D cy ad P Dr tI hX4 _ L  (r, I2) e1) (cwV 0 hts (goodIn_up gL_law_X4_match) rfl rfl rfl cd_X4_match ⟨Nat.le_of_ble_eq_true rfl, Nat.le_of_ble_eq_true rfl⟩) ⟨g_blind cZm, g_recv hK hG (k := 0) (by decide) (cE_4 _ _) vwCl_4, g_pre cZm hK hG hZ (law_S0 hS)⟩ rfl rfl hl.1 rfl (lv_room (Nat.le_of_ble_eq_true rfl)) dL_law_853 ⟨Nat.le_of_ble_eq_true rfl, Nat.le_of_ble_eq_true rfl⟩) hS hA hGm (fun k h1 j h2 h3 => hdis j h2 k h1 h3.symm) (fun H locs hG hGm hS => ?_)
  refine lv_aload_n hx hb dL_law_856 rfl (lv_at hl 2 rfl) ?_
  refine law_i (va_runV (As := []) (rest := [_]) ⟨hx, hb, hml, hown, hts⟩ (k_X5_match l D cz am him _ M  (r, J2) e2) (cwV 0 hts (goodIn_up gL_law_X5_match) rfl rfl rfl cd_X5_match ⟨Nat.le_of_ble_eq_true rfl, Nat.le_of_ble_eq_true rfl⟩) ⟨g_blind mZm, g_recv hKm hGm (k := 0) (by decide) (mE_5 _ _) vwCl_5, g_pre mZm hKm hGm trivial (law_S0 hS)⟩ rfl rfl hl.1 rfl (lv_room (Nat.le_of_ble_eq_true rfl)) dL_law_857 ⟨Nat.le_of_ble_eq_true rfl, Nat.le_of_ble_eq_true rfl⟩) hS hAm hG hdis (fun H locs hGm hG hS => ?_)
  refine lv_icmp_eq (tgt := 1348) hx hb dL_law_860 (by decide) (fun _ => ?_) (fun c9 => absurd rfl c9)
  exact kk P Dr I2 L J2 M _ _ ⟨hSim2, hG, hGm, hS⟩

set_option maxHeartbeats 4000000 in
set_option maxRecDepth 100000 in
theorem law_21 {p : Program} {l : Launch} {e : Env} {s : State} {m : MethodId} {args : Array Value} {below : List Frame} {meth : Method} {c : Code} {Q : State → Prop} {D : va_G} {cy cz : Nat → ClassId} {ad am : Nat → Nat} {tI b N : Nat} {xs : Nat → Int32} (C0 : LW p s m args meth c D cy ad cz am tI b N xs) {n : Nat} (hn : n + 6 ≤ N) {P Dr : Nat} {I J : xMem} {L M : xLon} {H : Heap} {locs : List Loc} (C1 : LA D cy ad cz am s P Dr I L J M H locs) {ls : Array Slot} (hl : lv_has ls 4 [(0, .ref b), (1, .ref (ad 0)), (2, .ref (am 0)), (3, .int (nI n))]) (kk : ∀ (P Dr : Nat) (I : xMem) (L : xLon) (J : xMem) (M : xLon) (H : Heap) (locs : List Loc), LA D cy ad cz am s P Dr I L J M H locs → W p l e room_1 s m args below meth c H locs 600000 7302250 Q (F0 m 1348 ls [])) : W p l e room_1 s m args below meth c H locs 600000 7302250 Q (F0 m 865 ls []) := by
  have hX4 := C1.ok C0.2.2.2.1
  obtain ⟨⟨hx, hb, hml, hown, hts⟩, ⟨hX, hbl, hN⟩, ⟨hK, hKm, hZ⟩, hi, him, hA, hAm, hdis⟩ := C0
  obtain ⟨hSim, hG, hGm, hS⟩ := C1
  obtain ⟨r, e1, e2⟩ := op_waits hSim (xs (n + 1))
  refine lv_aload_n hx hb dL_law_865 rfl (lv_at hl 1 rfl) ?_
  refine law_arg (k := 1) hx hb hX hbl hS hl (j0 := 0) (j3 := 3) rfl rfl (by omega) (by omega) dL_law_866 dL_law_867 dL_law_868 dL_law_869 dL_law_870 ?_
  refine law_i (va_runV (As := [.int (xs (n + 1))]) (rest := []) ⟨hx, hb, hml, hown, hts⟩ (k_X4_waits l D cy ad P Dr tI hX4 _ L (xs (n + 1)) r e1) (cwV 1 hts (goodIn_up gL_law_X4_waits) rfl rfl rfl cd_X4_waits ⟨Nat.le_of_ble_eq_true rfl, Nat.le_of_ble_eq_true rfl⟩) ⟨g_blind cZm, g_recv hK hG (k := 0) (by decide) (cE_4 _ _) vwCl_4, g_pre cZm hK hG hZ (law_S0 hS)⟩ rfl rfl hl.1 rfl (lv_room (Nat.le_of_ble_eq_true rfl)) dL_law_871 ⟨Nat.le_of_ble_eq_true rfl, Nat.le_of_ble_eq_true rfl⟩) hS hA hGm (fun k h1 j h2 h3 => hdis j h2 k h1 h3.symm) (fun H locs hG hGm hS => ?_)
  refine lv_aload_n hx hb dL_law_874 rfl (lv_at hl 2 rfl) ?_
  refine law_arg (k := 1) hx hb hX hbl hS hl (j0 := 0) (j3 := 3) rfl rfl (by omega) (by omega) dL_law_875 dL_law_876 dL_law_877 dL_law_878 dL_law_879 ?_
  refine law_i (va_runV (As := [.int (xs (n + 1))]) (rest := [_]) ⟨hx, hb, hml, hown, hts⟩ (k_X5_waits l D cz am him _ M (xs (n + 1)) r e2) (cwV 1 hts (goodIn_up gL_law_X5_waits) rfl rfl rfl cd_X5_waits ⟨Nat.le_of_ble_eq_true rfl, Nat.le_of_ble_eq_true rfl⟩) ⟨g_blind mZm, g_recv hKm hGm (k := 0) (by decide) (mE_5 _ _) vwCl_5, g_pre mZm hKm hGm trivial (law_S0 hS)⟩ rfl rfl hl.1 rfl (lv_room (Nat.le_of_ble_eq_true rfl)) dL_law_880 ⟨Nat.le_of_ble_eq_true rfl, Nat.le_of_ble_eq_true rfl⟩) hS hAm hG hdis (fun H locs hGm hG hS => ?_)
  refine lv_icmp_eq (tgt := 1348) hx hb dL_law_883 (by decide) (fun _ => ?_) (fun c9 => absurd rfl c9)
  exact kk P Dr I L J M _ _ ⟨hSim, hG, hGm, hS⟩
