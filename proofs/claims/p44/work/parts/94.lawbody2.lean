section LAWC1
variable {p : Program} {l : Launch} {e : Env} {s : State} {m : MethodId} {args : Array Value} {below : List Frame} {meth : Method} {c : Code} {Q : State → Prop} {D : va_G} {cy : Nat → ClassId} {ad : Nat → Nat} {tI : xTab}
def XC_1701 (tI : xTab) (P Dr : Nat) (B67 : Int32 → Int32 → Int32 → Int64 → Int32 → xMem → xLon → Option Int32) (B1579 : Int32 → Int32 → Int32 → Int64 → Int32 → Int32 → Int32 → Int32 → Int32 → Int32 → Int32 → Int32 → Int32 → Int32 → Int32 → Int32 → Int32 → Int32 → xMem → xLon → Option Int32) (x4 : Int32) (x5 : Int32) (x6 : Int32) (x7 : Int64) (x9 : Int32) (x10 : Int32) (x11 : Int32) (x12 : Int32) (x13 : Int32) (x14 : Int32) (x15 : Int32) (x23 : Int32) (x24 : Int32) (x28 : Int32) (x29 : Int32) (x30 : Int32) (x31 : Int32) (x32 : Int32) (I : xMem) (L : xLon) : Option Int32 := B1579 x4 x5 x6 x7 x9 x10 x11 x12 x13 x14 x15 x23 x24 x28 x29 x30 x31 (x32 + (1 : Int32)) I L
set_option maxHeartbeats 4000000 in
set_option maxRecDepth 100000 in
theorem kc_1701 (C0 : LC p l e s m args below meth c Q D cy ad tI) {P Dr : Nat} (hX : cOk ad P Dr) {B67 : Int32 → Int32 → Int32 → Int64 → Int32 → xMem → xLon → Option Int32} {B1579 : Int32 → Int32 → Int32 → Int64 → Int32 → Int32 → Int32 → Int32 → Int32 → Int32 → Int32 → Int32 → Int32 → Int32 → Int32 → Int32 → Int32 → Int32 → xMem → xLon → Option Int32} (hB67 : ∀ (y4 : Int32) (y5 : Int32) (y6 : Int32) (y7 : Int64) (y9 : Int32) (I : xMem) (L : xLon) (H : Heap) (locs : List Loc) (ls : Array Slot), B67 y4 y5 y6 y7 y9 I L = some 1 → cG D cy ad P Dr I L H → va_S (fun q : Nat => s.heap.size ≤ q) s.heap H locs → lv_has ls 43 [(0, .ref tI.2.1), (1, .ref (ad 0)), (2, .ref (ad 62)), (3, .ref (ad 63)), (4, .int y4), (5, .int y5), (6, .int y6), (7, .long y7), (9, .int y9)] → W p l e room_1 s m args below meth c H locs 600000 7302250 Q (F0 m 67 ls [])) (hB1579 : ∀ (y4 : Int32) (y5 : Int32) (y6 : Int32) (y7 : Int64) (y9 : Int32) (y10 : Int32) (y11 : Int32) (y12 : Int32) (y13 : Int32) (y14 : Int32) (y15 : Int32) (y23 : Int32) (y24 : Int32) (y28 : Int32) (y29 : Int32) (y30 : Int32) (y31 : Int32) (y32 : Int32) (I : xMem) (L : xLon) (H : Heap) (locs : List Loc) (ls : Array Slot), B1579 y4 y5 y6 y7 y9 y10 y11 y12 y13 y14 y15 y23 y24 y28 y29 y30 y31 y32 I L = some 1 → cG D cy ad P Dr I L H → va_S (fun q : Nat => s.heap.size ≤ q) s.heap H locs → lv_has ls 43 [(0, .ref tI.2.1), (1, .ref (ad 0)), (2, .ref (ad 62)), (3, .ref (ad 63)), (4, .int y4), (5, .int y5), (6, .int y6), (7, .long y7), (9, .int y9), (10, .int y10), (11, .int y11), (12, .int y12), (13, .int y13), (14, .int y14), (15, .int y15), (23, .int y23), (24, .int y24), (28, .int y28), (29, .int y29), (30, .int y30), (31, .int y31), (32, .int y32)] → W p l e room_1 s m args below meth c H locs 600000 7302250 Q (F0 m 1579 ls [])) (x4 : Int32) (x5 : Int32) (x6 : Int32) (x7 : Int64) (x9 : Int32) (x10 : Int32) (x11 : Int32) (x12 : Int32) (x13 : Int32) (x14 : Int32) (x15 : Int32) (x23 : Int32) (x24 : Int32) (x28 : Int32) (x29 : Int32) (x30 : Int32) (x31 : Int32) (x32 : Int32) (I : xMem) (L : xLon) (H : Heap) (locs : List Loc) (ls : Array Slot) (h : XC_1701 tI P Dr B67 B1579 x4 x5 x6 x7 x9 x10 x11 x12 x13 x14 x15 x23 x24 x28 x29 x30 x31 x32 I L = some 1) : cG D cy ad P Dr I L H → va_S (fun q : Nat => s.heap.size ≤ q) s.heap H locs → lv_has ls 43 [(0, .ref tI.2.1), (1, .ref (ad 0)), (2, .ref (ad 62)), (3, .ref (ad 63)), (4, .int x4), (5, .int x5), (6, .int x6), (7, .long x7), (9, .int x9), (10, .int x10), (11, .int x11), (12, .int x12), (13, .int x13), (14, .int x14), (15, .int x15), (23, .int x23), (24, .int x24), (28, .int x28), (29, .int x29), (30, .int x30), (31, .int x31), (32, .int x32)] → W p l e room_1 s m args below meth c H locs 600000 7302250 Q (F0 m 1701 ls []) := by
  obtain ⟨⟨hx, hb, hml, hown, hts⟩, ⟨hK, hZ⟩, hi, hA, kr⟩ := id C0
  intro hG hS hl
  unfold XC_1701 at h
  refine lv_iinc (v := (x32 + (1 : Int32))) (lv' := [(32, .int (x32 + (1 : Int32))), (0, .ref tI.2.1), (1, .ref (ad 0)), (2, .ref (ad 62)), (3, .ref (ad 63)), (4, .int x4), (5, .int x5), (6, .int x6), (7, .long x7), (9, .int x9), (10, .int x10), (11, .int x11), (12, .int x12), (13, .int x13), (14, .int x14), (15, .int x15), (23, .int x23), (24, .int x24), (28, .int x28), (29, .int x29), (30, .int x30), (31, .int x31)]) hx hb dL_law_1701 hl (k := 21) rfl rfl (by decide) rfl (fun ls hl => ?_)
  refine lv_goto (tgt := 1579) hx hb dL_law_1704 (by decide) ?_
  exact hB1579 _ _ _ _ _ _ _ _ _ _ _ _ _ _ _ _ _ _ _ _ _ _ _ h hG hS (lv_sub hl [1, 2, 3, 4, 5, 6, 7, 8, 9, 10, 11, 12, 13, 14, 15, 16, 17, 18, 19, 20, 21, 0] rfl)
def XC_1675 (tI : xTab) (P Dr : Nat) (B67 : Int32 → Int32 → Int32 → Int64 → Int32 → xMem → xLon → Option Int32) (B1579 : Int32 → Int32 → Int32 → Int64 → Int32 → Int32 → Int32 → Int32 → Int32 → Int32 → Int32 → Int32 → Int32 → Int32 → Int32 → Int32 → Int32 → Int32 → xMem → xLon → Option Int32) (x4 : Int32) (x5 : Int32) (x6 : Int32) (x7 : Int64) (x9 : Int32) (x10 : Int32) (x11 : Int32) (x12 : Int32) (x13 : Int32) (x14 : Int32) (x15 : Int32) (x23 : Int32) (x24 : Int32) (x28 : Int32) (x29 : Int32) (x30 : Int32) (x31 : Int32) (x32 : Int32) (x35 : Int32) (I : xMem) (L : xLon) : Option Int32 := (X4_undo I x11).bind fun q1 => if q1.1 = (1 : Int32) then (if x35 < (0 : Int32) then (XC_1701 tI P Dr B67 B1579 x4 x5 x6 x7 x9 x10 x11 x12 x13 x14 x15 x23 x24 x28 x29 x30 x31 x32 q1.2 L) else (if (x24 - (1 : Int32)) ≤ x35 then (XC_1701 tI P Dr B67 B1579 x4 x5 x6 x7 x9 x10 x11 x12 x13 x14 x15 x23 x24 x28 x29 x30 x31 x32 q1.2 L) else (some (0 : Int32)))) else (some (0 : Int32))
set_option maxHeartbeats 4000000 in
set_option maxRecDepth 100000 in
theorem kc_1675 (C0 : LC p l e s m args below meth c Q D cy ad tI) {P Dr : Nat} (hX : cOk ad P Dr) {B67 : Int32 → Int32 → Int32 → Int64 → Int32 → xMem → xLon → Option Int32} {B1579 : Int32 → Int32 → Int32 → Int64 → Int32 → Int32 → Int32 → Int32 → Int32 → Int32 → Int32 → Int32 → Int32 → Int32 → Int32 → Int32 → Int32 → Int32 → xMem → xLon → Option Int32} (hB67 : ∀ (y4 : Int32) (y5 : Int32) (y6 : Int32) (y7 : Int64) (y9 : Int32) (I : xMem) (L : xLon) (H : Heap) (locs : List Loc) (ls : Array Slot), B67 y4 y5 y6 y7 y9 I L = some 1 → cG D cy ad P Dr I L H → va_S (fun q : Nat => s.heap.size ≤ q) s.heap H locs → lv_has ls 43 [(0, .ref tI.2.1), (1, .ref (ad 0)), (2, .ref (ad 62)), (3, .ref (ad 63)), (4, .int y4), (5, .int y5), (6, .int y6), (7, .long y7), (9, .int y9)] → W p l e room_1 s m args below meth c H locs 600000 7302250 Q (F0 m 67 ls [])) (hB1579 : ∀ (y4 : Int32) (y5 : Int32) (y6 : Int32) (y7 : Int64) (y9 : Int32) (y10 : Int32) (y11 : Int32) (y12 : Int32) (y13 : Int32) (y14 : Int32) (y15 : Int32) (y23 : Int32) (y24 : Int32) (y28 : Int32) (y29 : Int32) (y30 : Int32) (y31 : Int32) (y32 : Int32) (I : xMem) (L : xLon) (H : Heap) (locs : List Loc) (ls : Array Slot), B1579 y4 y5 y6 y7 y9 y10 y11 y12 y13 y14 y15 y23 y24 y28 y29 y30 y31 y32 I L = some 1 → cG D cy ad P Dr I L H → va_S (fun q : Nat => s.heap.size ≤ q) s.heap H locs → lv_has ls 43 [(0, .ref tI.2.1), (1, .ref (ad 0)), (2, .ref (ad 62)), (3, .ref (ad 63)), (4, .int y4), (5, .int y5), (6, .int y6), (7, .long y7), (9, .int y9), (10, .int y10), (11, .int y11), (12, .int y12), (13, .int y13), (14, .int y14), (15, .int y15), (23, .int y23), (24, .int y24), (28, .int y28), (29, .int y29), (30, .int y30), (31, .int y31), (32, .int y32)] → W p l e room_1 s m args below meth c H locs 600000 7302250 Q (F0 m 1579 ls [])) (x4 : Int32) (x5 : Int32) (x6 : Int32) (x7 : Int64) (x9 : Int32) (x10 : Int32) (x11 : Int32) (x12 : Int32) (x13 : Int32) (x14 : Int32) (x15 : Int32) (x23 : Int32) (x24 : Int32) (x28 : Int32) (x29 : Int32) (x30 : Int32) (x31 : Int32) (x32 : Int32) (x35 : Int32) (I : xMem) (L : xLon) (H : Heap) (locs : List Loc) (ls : Array Slot) (h : XC_1675 tI P Dr B67 B1579 x4 x5 x6 x7 x9 x10 x11 x12 x13 x14 x15 x23 x24 x28 x29 x30 x31 x32 x35 I L = some 1) : cG D cy ad P Dr I L H → va_S (fun q : Nat => s.heap.size ≤ q) s.heap H locs → lv_has ls 43 [(0, .ref tI.2.1), (1, .ref (ad 0)), (2, .ref (ad 62)), (3, .ref (ad 63)), (4, .int x4), (5, .int x5), (6, .int x6), (7, .long x7), (9, .int x9), (10, .int x10), (11, .int x11), (12, .int x12), (13, .int x13), (14, .int x14), (15, .int x15), (23, .int x23), (24, .int x24), (28, .int x28), (29, .int x29), (30, .int x30), (31, .int x31), (32, .int x32), (35, .int x35)] → W p l e room_1 s m args below meth c H locs 600000 7302250 Q (F0 m 1675 ls []) := by
  obtain ⟨⟨hx, hb, hml, hown, hts⟩, ⟨hK, hZ⟩, hi, hA, kr⟩ := id C0
  intro hG hS hl
  unfold XC_1675 at h
  refine lv_aload_n hx hb dL_law_1675 rfl (lv_at hl 1 rfl) ?_
  refine lv_iload hx hb dL_law_1676 (lv_at hl 10 rfl) ?_
  obtain ⟨q1, eq1, h⟩ := obind h
  refine lw_ci (va_runV (As := [.int x11]) (rest := []) ⟨hx, hb, hml, hown, hts⟩ (k_X4_undo l D cy ad P Dr tI hX I L x11 q1 eq1) (cwV 1 hts (goodIn_up gL_law_X4_undo) rfl rfl rfl cd_X4_undo ⟨Nat.le_of_ble_eq_true rfl, Nat.le_of_ble_eq_true rfl⟩) ⟨g_blind cZm, g_recv hK hG (k := 0) (by decide) (cE_4 _ _) vwCl_4, g_pre cZm hK hG hZ (law_S0 hS)⟩ rfl rfl hl.1 rfl (lv_room (Nat.le_of_ble_eq_true rfl)) dL_law_1678 ⟨Nat.le_of_ble_eq_true rfl, Nat.le_of_ble_eq_true rfl⟩) hS hA (fun H locs hG hS => ?_)
  refine lv_iconst (v := (1 : Int32)) hx hb dL_law_1681 (by decide) ?_
  refine lv_icmp_ne (tgt := 1699) hx hb dL_law_1682 (by decide) (fun c2 => ?_) (fun c2 => ?_)
  · have h := ite_f h c2
    refine lv_iconst (v := (0 : Int32)) hx hb dL_law_1699 (by decide) ?_
    have h := Option.some.inj h
    exact absurd h (by decide)
  · have h := ite_t h c2
    refine lv_iload hx hb dL_law_1685 (lv_at hl 22 rfl) ?_
    refine lv_if_lt (tgt := 1701) hx hb dL_law_1687 (by decide) (fun c3 => ?_) (fun c3 => ?_)
    · have h := ite_t h c3
      exact kc_1701 C0 hX hB67 hB1579 _ _ _ _ _ _ _ _ _ _ _ _ _ _ _ _ _ _ _ _ _ _ _ h hG hS (lv_sub hl [0, 1, 2, 3, 4, 5, 6, 7, 8, 9, 10, 11, 12, 13, 14, 15, 16, 17, 18, 19, 20, 21] rfl)
    · have h := ite_f h c3
      refine lv_iload hx hb dL_law_1690 (lv_at hl 22 rfl) ?_
      refine lv_iload hx hb dL_law_1692 (lv_at hl 16 rfl) ?_
      refine lv_iconst (v := (1 : Int32)) hx hb dL_law_1694 (by decide) ?_
      refine lv_isub hx hb dL_law_1695 ?_
      refine lv_icmp_ge (tgt := 1701) hx hb dL_law_1696 (by decide) (fun c4 => ?_) (fun c4 => ?_)
      · have h := ite_t h c4
        exact kc_1701 C0 hX hB67 hB1579 _ _ _ _ _ _ _ _ _ _ _ _ _ _ _ _ _ _ _ _ _ _ _ h hG hS (lv_sub hl [0, 1, 2, 3, 4, 5, 6, 7, 8, 9, 10, 11, 12, 13, 14, 15, 16, 17, 18, 19, 20, 21] rfl)
      · have h := ite_f h c4
        refine lv_iconst (v := (0 : Int32)) hx hb dL_law_1699 (by decide) ?_
        have h := Option.some.inj h
        exact absurd h (by decide)
def XC_1579 (tI : xTab) (P Dr : Nat) (B67 : Int32 → Int32 → Int32 → Int64 → Int32 → xMem → xLon → Option Int32) : Nat → Int32 → Int32 → Int32 → Int64 → Int32 → Int32 → Int32 → Int32 → Int32 → Int32 → Int32 → Int32 → Int32 → Int32 → Int32 → Int32 → Int32 → Int32 → xMem → xLon → Option Int32
  | 0, _, _, _, _, _, _, _, _, _, _, _, _, _, _, _, _, _, _, _, _ => none
  | n + 1, x4, x5, x6, x7, x9, x10, x11, x12, x13, x14, x15, x23, x24, x28, x29, x30, x31, x32, I, L => if (256 : Int32) ≤ x32 then (XC_1707 tI P Dr B67 x4 x5 x6 x7 x9 x10 x11 x12 x13 x14 x15 x24 x28 x31 I L) else (if x31 = (x24 - (1 : Int32)) then (XC_1701 tI P Dr B67 (XC_1579 tI P Dr B67 n) x4 x5 x6 x7 x9 x10 x11 x12 x13 x14 x15 x23 x24 x28 x29 x30 x31 x32 I L) else (if x6 < (x32 >>> ((4 : Int32) &&& 31)) then (XC_1701 tI P Dr B67 (XC_1579 tI P Dr B67 n) x4 x5 x6 x7 x9 x10 x11 x12 x13 x14 x15 x23 x24 x28 x29 x30 x31 x32 I L) else (if x6 < (x32 &&& (15 : Int32)) then (XC_1701 tI P Dr B67 (XC_1579 tI P Dr B67 n) x4 x5 x6 x7 x9 x10 x11 x12 x13 x14 x15 x23 x24 x28 x29 x30 x31 x32 I L) else (if ((x32 >>> ((4 : Int32) &&& 31)) &&& (x32 &&& (15 : Int32))) = (0 : Int32) then ((X4_go P I x29 x30 (x32 >>> ((4 : Int32) &&& 31)) (x32 &&& (15 : Int32))).bind fun q6 => if q6.1 < (0 : Int32) then (XC_1701 tI P Dr B67 (XC_1579 tI P Dr B67 n) x4 x5 x6 x7 x9 x10 x11 x12 x13 x14 x15 x23 x24 x28 x29 x30 x31 x32 q6.2 L) else ((X4_up P q6.2 x23).bind fun q8 => (if q8.1 < (0 : Int32) then (some x31) else (if x31 ≤ q8.1 then (some x31) else (some q8.1))).bind fun q9 => XC_1675 tI P Dr B67 (XC_1579 tI P Dr B67 n) x4 x5 x6 x7 x9 x10 x11 x12 x13 x14 x15 x23 x24 x28 x29 x30 q9 x32 q8.1 q8.2 L)) else (XC_1701 tI P Dr B67 (XC_1579 tI P Dr B67 n) x4 x5 x6 x7 x9 x10 x11 x12 x13 x14 x15 x23 x24 x28 x29 x30 x31 x32 I L)))))
set_option maxHeartbeats 4000000 in
set_option maxRecDepth 100000 in
theorem kc_1579 (C0 : LC p l e s m args below meth c Q D cy ad tI) {P Dr : Nat} (hX : cOk ad P Dr) {B67 : Int32 → Int32 → Int32 → Int64 → Int32 → xMem → xLon → Option Int32} (hB67 : ∀ (y4 : Int32) (y5 : Int32) (y6 : Int32) (y7 : Int64) (y9 : Int32) (I : xMem) (L : xLon) (H : Heap) (locs : List Loc) (ls : Array Slot), B67 y4 y5 y6 y7 y9 I L = some 1 → cG D cy ad P Dr I L H → va_S (fun q : Nat => s.heap.size ≤ q) s.heap H locs → lv_has ls 43 [(0, .ref tI.2.1), (1, .ref (ad 0)), (2, .ref (ad 62)), (3, .ref (ad 63)), (4, .int y4), (5, .int y5), (6, .int y6), (7, .long y7), (9, .int y9)] → W p l e room_1 s m args below meth c H locs 600000 7302250 Q (F0 m 67 ls [])) : ∀ (n : Nat) (x4 : Int32) (x5 : Int32) (x6 : Int32) (x7 : Int64) (x9 : Int32) (x10 : Int32) (x11 : Int32) (x12 : Int32) (x13 : Int32) (x14 : Int32) (x15 : Int32) (x23 : Int32) (x24 : Int32) (x28 : Int32) (x29 : Int32) (x30 : Int32) (x31 : Int32) (x32 : Int32) (I : xMem) (L : xLon) (H : Heap) (locs : List Loc) (ls : Array Slot), XC_1579 tI P Dr B67 n x4 x5 x6 x7 x9 x10 x11 x12 x13 x14 x15 x23 x24 x28 x29 x30 x31 x32 I L = some 1 → cG D cy ad P Dr I L H → va_S (fun q : Nat => s.heap.size ≤ q) s.heap H locs → lv_has ls 43 [(0, .ref tI.2.1), (1, .ref (ad 0)), (2, .ref (ad 62)), (3, .ref (ad 63)), (4, .int x4), (5, .int x5), (6, .int x6), (7, .long x7), (9, .int x9), (10, .int x10), (11, .int x11), (12, .int x12), (13, .int x13), (14, .int x14), (15, .int x15), (23, .int x23), (24, .int x24), (28, .int x28), (29, .int x29), (30, .int x30), (31, .int x31), (32, .int x32)] → W p l e room_1 s m args below meth c H locs 600000 7302250 Q (F0 m 1579 ls []) := by
  obtain ⟨⟨hx, hb, hml, hown, hts⟩, ⟨hK, hZ⟩, hi, hA, kr⟩ := id C0
  intro n
  induction n with
  | zero =>
    intro x4 x5 x6 x7 x9 x10 x11 x12 x13 x14 x15 x23 x24 x28 x29 x30 x31 x32 I L H locs ls h
    exact ono h
  | succ n ih =>
    intro x4 x5 x6 x7 x9 x10 x11 x12 x13 x14 x15 x23 x24 x28 x29 x30 x31 x32 I L H locs ls h hG hS hl
    rw [XC_1579] at h
    refine lv_iload hx hb dL_law_1579 (lv_at hl 21 rfl) ?_
    refine lv_sipush (v := (256 : Int32)) hx hb dL_law_1581 (by decide) ?_
    refine lv_icmp_ge (tgt := 1707) hx hb dL_law_1584 (by decide) (fun c1 => ?_) (fun c1 => ?_)
    · have h := ite_t h c1
      exact kc_1707 C0 hX hB67 _ _ _ _ _ _ _ _ _ _ _ _ _ _ _ _ _ _ _ h hG hS (lv_sub hl [0, 1, 2, 3, 4, 5, 6, 7, 8, 9, 10, 11, 12, 13, 14, 16, 17, 20] rfl)
    · have h := ite_f h c1
      refine lv_iload hx hb dL_law_1587 (lv_at hl 21 rfl) ?_
      refine lv_iconst (v := (4 : Int32)) hx hb dL_law_1589 (by decide) ?_
      refine lv_ishr hx hb dL_law_1590 ?_
      refine lv_istore (lv' := [(33, .int (x32 >>> ((4 : Int32) &&& 31))), (0, .ref tI.2.1), (1, .ref (ad 0)), (2, .ref (ad 62)), (3, .ref (ad 63)), (4, .int x4), (5, .int x5), (6, .int x6), (7, .long x7), (9, .int x9), (10, .int x10), (11, .int x11), (12, .int x12), (13, .int x13), (14, .int x14), (15, .int x15), (23, .int x23), (24, .int x24), (28, .int x28), (29, .int x29), (30, .int x30), (31, .int x31), (32, .int x32)]) hx hb dL_law_1591 hl (by decide) rfl (fun ls hl => ?_)
      refine lv_iload hx hb dL_law_1593 (lv_at hl 22 rfl) ?_
      refine lv_bipush (v := (15 : Int32)) hx hb dL_law_1595 (by decide) ?_
      refine lv_iand hx hb dL_law_1597 ?_
      refine lv_istore (lv' := [(34, .int (x32 &&& (15 : Int32))), (33, .int (x32 >>> ((4 : Int32) &&& 31))), (0, .ref tI.2.1), (1, .ref (ad 0)), (2, .ref (ad 62)), (3, .ref (ad 63)), (4, .int x4), (5, .int x5), (6, .int x6), (7, .long x7), (9, .int x9), (10, .int x10), (11, .int x11), (12, .int x12), (13, .int x13), (14, .int x14), (15, .int x15), (23, .int x23), (24, .int x24), (28, .int x28), (29, .int x29), (30, .int x30), (31, .int x31), (32, .int x32)]) hx hb dL_law_1598 hl (by decide) rfl (fun ls hl => ?_)
      refine lv_iload hx hb dL_law_1600 (lv_at hl 22 rfl) ?_
      refine lv_iload hx hb dL_law_1602 (lv_at hl 18 rfl) ?_
      refine lv_iconst (v := (1 : Int32)) hx hb dL_law_1604 (by decide) ?_
      refine lv_isub hx hb dL_law_1605 ?_
      refine lv_icmp_eq (tgt := 1701) hx hb dL_law_1606 (by decide) (fun c2 => ?_) (fun c2 => ?_)
      · have h := ite_t h c2
        exact kc_1701 C0 hX hB67 ih _ _ _ _ _ _ _ _ _ _ _ _ _ _ _ _ _ _ _ _ _ _ _ h hG hS (lv_sub hl [2, 3, 4, 5, 6, 7, 8, 9, 10, 11, 12, 13, 14, 15, 16, 17, 18, 19, 20, 21, 22, 23] rfl)
      · have h := ite_f h c2
        refine lv_iload hx hb dL_law_1609 (lv_at hl 1 rfl) ?_
        refine lv_iload hx hb dL_law_1611 (lv_at hl 8 rfl) ?_
        refine lv_icmp_gt (tgt := 1701) hx hb dL_law_1613 (by decide) (fun c3 => ?_) (fun c3 => ?_)
        · have h := ite_t h c3
          exact kc_1701 C0 hX hB67 ih _ _ _ _ _ _ _ _ _ _ _ _ _ _ _ _ _ _ _ _ _ _ _ h hG hS (lv_sub hl [2, 3, 4, 5, 6, 7, 8, 9, 10, 11, 12, 13, 14, 15, 16, 17, 18, 19, 20, 21, 22, 23] rfl)
        · have h := ite_f h c3
          refine lv_iload hx hb dL_law_1616 (lv_at hl 0 rfl) ?_
          refine lv_iload hx hb dL_law_1618 (lv_at hl 8 rfl) ?_
          refine lv_icmp_gt (tgt := 1701) hx hb dL_law_1620 (by decide) (fun c4 => ?_) (fun c4 => ?_)
          · have h := ite_t h c4
            exact kc_1701 C0 hX hB67 ih _ _ _ _ _ _ _ _ _ _ _ _ _ _ _ _ _ _ _ _ _ _ _ h hG hS (lv_sub hl [2, 3, 4, 5, 6, 7, 8, 9, 10, 11, 12, 13, 14, 15, 16, 17, 18, 19, 20, 21, 22, 23] rfl)
          · have h := ite_f h c4
            refine lv_iload hx hb dL_law_1623 (lv_at hl 1 rfl) ?_
            refine lv_iload hx hb dL_law_1625 (lv_at hl 0 rfl) ?_
            refine lv_iand hx hb dL_law_1627 ?_
            refine lv_if_ne (tgt := 1701) hx hb dL_law_1628 (by decide) (fun c5 => ?_) (fun c5 => ?_)
            · have h := ite_f h c5
              exact kc_1701 C0 hX hB67 ih _ _ _ _ _ _ _ _ _ _ _ _ _ _ _ _ _ _ _ _ _ _ _ h hG hS (lv_sub hl [2, 3, 4, 5, 6, 7, 8, 9, 10, 11, 12, 13, 14, 15, 16, 17, 18, 19, 20, 21, 22, 23] rfl)
            · have h := ite_t h c5
              refine lv_aload_n hx hb dL_law_1631 rfl (lv_at hl 3 rfl) ?_
              refine lv_iload hx hb dL_law_1632 (lv_at hl 20 rfl) ?_
              refine lv_iload hx hb dL_law_1634 (lv_at hl 21 rfl) ?_
              refine lv_iload hx hb dL_law_1636 (lv_at hl 1 rfl) ?_
              refine lv_iload hx hb dL_law_1638 (lv_at hl 0 rfl) ?_
              obtain ⟨q6, eq6, h⟩ := obind h
              refine lw_ci (va_runV (As := [.int x29, .int x30, .int (x32 >>> ((4 : Int32) &&& 31)), .int (x32 &&& (15 : Int32))]) (rest := []) ⟨hx, hb, hml, hown, hts⟩ (k_X4_go l D cy ad P Dr tI hX I L x29 x30 (x32 >>> ((4 : Int32) &&& 31)) (x32 &&& (15 : Int32)) q6 eq6) (cwV 4 hts (goodIn_up gL_law_X4_go) rfl rfl rfl cd_X4_go ⟨Nat.le_of_ble_eq_true rfl, Nat.le_of_ble_eq_true rfl⟩) ⟨g_blind cZm, g_recv hK hG (k := 0) (by decide) (cE_4 _ _) vwCl_4, g_pre cZm hK hG hZ (law_S0 hS)⟩ rfl rfl hl.1 rfl (lv_room (Nat.le_of_ble_eq_true rfl)) dL_law_1640 ⟨Nat.le_of_ble_eq_true rfl, Nat.le_of_ble_eq_true rfl⟩) hS hA (fun H locs hG hS => ?_)
              refine lv_if_lt (tgt := 1701) hx hb dL_law_1643 (by decide) (fun c7 => ?_) (fun c7 => ?_)
              · have h := ite_t h c7
                exact kc_1701 C0 hX hB67 ih _ _ _ _ _ _ _ _ _ _ _ _ _ _ _ _ _ _ _ _ _ _ _ h hG hS (lv_sub hl [2, 3, 4, 5, 6, 7, 8, 9, 10, 11, 12, 13, 14, 15, 16, 17, 18, 19, 20, 21, 22, 23] rfl)
              · have h := ite_f h c7
                refine lv_aload_n hx hb dL_law_1646 rfl (lv_at hl 3 rfl) ?_
                refine lv_iload hx hb dL_law_1647 (lv_at hl 17 rfl) ?_
                obtain ⟨q8, eq8, h⟩ := obind h
                refine lw_ci (va_runV (As := [.int x23]) (rest := []) ⟨hx, hb, hml, hown, hts⟩ (k_X4_up l D cy ad P Dr tI hX q6.2 L x23 q8 eq8) (cwV 1 hts (goodIn_up gL_law_X4_up) rfl rfl rfl cd_X4_up ⟨Nat.le_of_ble_eq_true rfl, Nat.le_of_ble_eq_true rfl⟩) ⟨g_blind cZm, g_recv hK hG (k := 0) (by decide) (cE_4 _ _) vwCl_4, g_pre cZm hK hG hZ (law_S0 hS)⟩ rfl rfl hl.1 rfl (lv_room (Nat.le_of_ble_eq_true rfl)) dL_law_1649 ⟨Nat.le_of_ble_eq_true rfl, Nat.le_of_ble_eq_true rfl⟩) hS hA (fun H locs hG hS => ?_)
                refine lv_istore (lv' := [(35, .int q8.1), (34, .int (x32 &&& (15 : Int32))), (33, .int (x32 >>> ((4 : Int32) &&& 31))), (0, .ref tI.2.1), (1, .ref (ad 0)), (2, .ref (ad 62)), (3, .ref (ad 63)), (4, .int x4), (5, .int x5), (6, .int x6), (7, .long x7), (9, .int x9), (10, .int x10), (11, .int x11), (12, .int x12), (13, .int x13), (14, .int x14), (15, .int x15), (23, .int x23), (24, .int x24), (28, .int x28), (29, .int x29), (30, .int x30), (31, .int x31), (32, .int x32)]) hx hb dL_law_1652 hl (by decide) rfl (fun ls hl => ?_)
                refine lv_iload hx hb dL_law_1654 (lv_at hl 0 rfl) ?_
                obtain ⟨q9, h9, h⟩ := obind h
                have hk_q9 : ∀ (H : Heap) (locs : List Loc) (ls : Array Slot), cG D cy ad P Dr q8.2 L H → va_S (fun q : Nat => s.heap.size ≤ q) s.heap H locs → lv_has ls 43 [(0, .ref tI.2.1), (1, .ref (ad 0)), (2, .ref (ad 62)), (3, .ref (ad 63)), (4, .int x4), (5, .int x5), (6, .int x6), (7, .long x7), (9, .int x9), (10, .int x10), (11, .int x11), (12, .int x12), (13, .int x13), (14, .int x14), (15, .int x15), (23, .int x23), (24, .int x24), (28, .int x28), (29, .int x29), (30, .int x30), (32, .int x32), (35, .int q8.1)] → W p l e room_1 s m args below meth c H locs 600000 7302250 Q (F0 m 1673 ls [.int q9]) := by
                  intro H locs ls hG hS hl
                  refine lv_istore (lv' := [(31, .int q9), (0, .ref tI.2.1), (1, .ref (ad 0)), (2, .ref (ad 62)), (3, .ref (ad 63)), (4, .int x4), (5, .int x5), (6, .int x6), (7, .long x7), (9, .int x9), (10, .int x10), (11, .int x11), (12, .int x12), (13, .int x13), (14, .int x14), (15, .int x15), (23, .int x23), (24, .int x24), (28, .int x28), (29, .int x29), (30, .int x30), (32, .int x32), (35, .int q8.1)]) hx hb dL_law_1673 hl (by decide) rfl (fun ls hl => ?_)
                  exact kc_1675 C0 hX hB67 ih _ _ _ _ _ _ _ _ _ _ _ _ _ _ _ _ _ _ _ _ _ _ _ _ h hG hS (lv_sub hl [1, 2, 3, 4, 5, 6, 7, 8, 9, 10, 11, 12, 13, 14, 15, 16, 17, 18, 19, 20, 0, 21, 22] rfl)
                clear h
                have h := h9
                clear h9
                refine lv_if_lt (tgt := 1671) hx hb dL_law_1656 (by decide) (fun c10 => ?_) (fun c10 => ?_)
                · have h := ite_t h c10
                  refine lv_iload hx hb dL_law_1671 (lv_at hl 23 rfl) ?_
                  have h := Option.some.inj h
                  subst h
                  exact hk_q9 _ _ _ hG hS (lv_sub hl [3, 4, 5, 6, 7, 8, 9, 10, 11, 12, 13, 14, 15, 16, 17, 18, 19, 20, 21, 22, 24, 0] rfl)
                · have h := ite_f h c10
                  refine lv_iload hx hb dL_law_1659 (lv_at hl 0 rfl) ?_
                  refine lv_iload hx hb dL_law_1661 (lv_at hl 23 rfl) ?_
                  refine lv_icmp_ge (tgt := 1671) hx hb dL_law_1663 (by decide) (fun c11 => ?_) (fun c11 => ?_)
                  · have h := ite_t h c11
                    refine lv_iload hx hb dL_law_1671 (lv_at hl 23 rfl) ?_
                    have h := Option.some.inj h
                    subst h
                    exact hk_q9 _ _ _ hG hS (lv_sub hl [3, 4, 5, 6, 7, 8, 9, 10, 11, 12, 13, 14, 15, 16, 17, 18, 19, 20, 21, 22, 24, 0] rfl)
                  · have h := ite_f h c11
                    refine lv_iload hx hb dL_law_1666 (lv_at hl 0 rfl) ?_
                    refine lv_goto (tgt := 1673) hx hb dL_law_1668 (by decide) ?_
                    have h := Option.some.inj h
                    subst h
                    exact hk_q9 _ _ _ hG hS (lv_sub hl [3, 4, 5, 6, 7, 8, 9, 10, 11, 12, 13, 14, 15, 16, 17, 18, 19, 20, 21, 22, 24, 0] rfl)
def XC_1551 (tI : xTab) (P Dr : Nat) (B67 : Int32 → Int32 → Int32 → Int64 → Int32 → xMem → xLon → Option Int32) (x4 : Int32) (x5 : Int32) (x6 : Int32) (x7 : Int64) (x9 : Int32) (x10 : Int32) (x11 : Int32) (x12 : Int32) (x13 : Int32) (x14 : Int32) (x15 : Int32) (x23 : Int32) (x24 : Int32) (x28 : Int32) (x29 : Int32) (x30 : Int32) (x31 : Int32) (I : xMem) (L : xLon) : Option Int32 := if x4 ≤ x30 then (some (0 : Int32)) else ((L_told P I x29 (4 : Int32)).bind fun q2 => if ((q2.1 >>> (x30 &&& 31)) &&& (1 : Int32)) = (1 : Int32) then (XC_1579 tI P Dr B67 bigF x4 x5 x6 x7 x9 x10 x11 x12 x13 x14 x15 x23 x24 x28 x29 x30 x31 (0 : Int32) q2.2 L) else (some (0 : Int32)))
set_option maxHeartbeats 4000000 in
set_option maxRecDepth 100000 in
theorem kc_1551 (C0 : LC p l e s m args below meth c Q D cy ad tI) {P Dr : Nat} (hX : cOk ad P Dr) {B67 : Int32 → Int32 → Int32 → Int64 → Int32 → xMem → xLon → Option Int32} (hB67 : ∀ (y4 : Int32) (y5 : Int32) (y6 : Int32) (y7 : Int64) (y9 : Int32) (I : xMem) (L : xLon) (H : Heap) (locs : List Loc) (ls : Array Slot), B67 y4 y5 y6 y7 y9 I L = some 1 → cG D cy ad P Dr I L H → va_S (fun q : Nat => s.heap.size ≤ q) s.heap H locs → lv_has ls 43 [(0, .ref tI.2.1), (1, .ref (ad 0)), (2, .ref (ad 62)), (3, .ref (ad 63)), (4, .int y4), (5, .int y5), (6, .int y6), (7, .long y7), (9, .int y9)] → W p l e room_1 s m args below meth c H locs 600000 7302250 Q (F0 m 67 ls [])) (x4 : Int32) (x5 : Int32) (x6 : Int32) (x7 : Int64) (x9 : Int32) (x10 : Int32) (x11 : Int32) (x12 : Int32) (x13 : Int32) (x14 : Int32) (x15 : Int32) (x23 : Int32) (x24 : Int32) (x28 : Int32) (x29 : Int32) (x30 : Int32) (x31 : Int32) (I : xMem) (L : xLon) (H : Heap) (locs : List Loc) (ls : Array Slot) (h : XC_1551 tI P Dr B67 x4 x5 x6 x7 x9 x10 x11 x12 x13 x14 x15 x23 x24 x28 x29 x30 x31 I L = some 1) : cG D cy ad P Dr I L H → va_S (fun q : Nat => s.heap.size ≤ q) s.heap H locs → lv_has ls 43 [(0, .ref tI.2.1), (1, .ref (ad 0)), (2, .ref (ad 62)), (3, .ref (ad 63)), (4, .int x4), (5, .int x5), (6, .int x6), (7, .long x7), (9, .int x9), (10, .int x10), (11, .int x11), (12, .int x12), (13, .int x13), (14, .int x14), (15, .int x15), (23, .int x23), (24, .int x24), (28, .int x28), (29, .int x29), (30, .int x30), (31, .int x31)] → W p l e room_1 s m args below meth c H locs 600000 7302250 Q (F0 m 1551 ls []) := by
  obtain ⟨⟨hx, hb, hml, hown, hts⟩, ⟨hK, hZ⟩, hi, hA, kr⟩ := id C0
  intro hG hS hl
  unfold XC_1551 at h
  refine lv_iload hx hb dL_law_1551 (lv_at hl 19 rfl) ?_
  refine lv_iload hx hb dL_law_1553 (lv_at hl 4 rfl) ?_
  refine lv_icmp_ge (tgt := 1574) hx hb dL_law_1555 (by decide) (fun c1 => ?_) (fun c1 => ?_)
  · have h := ite_t h c1
    refine lv_iconst (v := (0 : Int32)) hx hb dL_law_1574 (by decide) ?_
    have h := Option.some.inj h
    exact absurd h (by decide)
  · have h := ite_f h c1
    refine lv_aload_n hx hb dL_law_1558 rfl (lv_at hl 1 rfl) ?_
    refine lv_iload hx hb dL_law_1559 (lv_at hl 18 rfl) ?_
    refine lv_iconst (v := (4 : Int32)) hx hb dL_law_1561 (by decide) ?_
    obtain ⟨q2, eq2, h⟩ := obind h
    refine lw_ci (va_runS (As := [.ref (ad 0), .int x29, .int (4 : Int32)]) (rest := []) ⟨hx, hb, hml, hown, hts⟩ (k_L_told l D cy ad P Dr tI hX I L x29 (4 : Int32) q2 eq2) (va_cwS 3 hts (goodIn_up gL_law_L_told) rfl rfl rfl cd_L_told.2 ⟨Nat.le_of_ble_eq_true rfl, Nat.le_of_ble_eq_true rfl⟩) ⟨g_blind cZm, g_pre cZm hK hG hZ (law_S0 hS)⟩ rfl rfl hl.1 rfl (lv_room (Nat.le_of_ble_eq_true rfl)) dL_law_1562 ⟨Nat.le_of_ble_eq_true rfl, Nat.le_of_ble_eq_true rfl⟩) hS hA (fun H locs hG hS => ?_)
    refine lv_iload hx hb dL_law_1565 (lv_at hl 19 rfl) ?_
    refine lv_ishr hx hb dL_law_1567 ?_
    refine lv_iconst (v := (1 : Int32)) hx hb dL_law_1568 (by decide) ?_
    refine lv_iand hx hb dL_law_1569 ?_
    refine lv_iconst (v := (1 : Int32)) hx hb dL_law_1570 (by decide) ?_
    refine lv_icmp_eq (tgt := 1576) hx hb dL_law_1571 (by decide) (fun c3 => ?_) (fun c3 => ?_)
    · have h := ite_t h c3
      refine lv_iconst (v := (0 : Int32)) hx hb dL_law_1576 (by decide) ?_
      refine lv_istore (lv' := [(32, .int (0 : Int32)), (0, .ref tI.2.1), (1, .ref (ad 0)), (2, .ref (ad 62)), (3, .ref (ad 63)), (4, .int x4), (5, .int x5), (6, .int x6), (7, .long x7), (9, .int x9), (10, .int x10), (11, .int x11), (12, .int x12), (13, .int x13), (14, .int x14), (15, .int x15), (23, .int x23), (24, .int x24), (28, .int x28), (29, .int x29), (30, .int x30), (31, .int x31)]) hx hb dL_law_1577 hl (by decide) rfl (fun ls hl => ?_)
      exact kc_1579 C0 hX hB67 bigF _ _ _ _ _ _ _ _ _ _ _ _ _ _ _ _ _ _ _ _ _ _ _ h hG hS (lv_sub hl [1, 2, 3, 4, 5, 6, 7, 8, 9, 10, 11, 12, 13, 14, 15, 16, 17, 18, 19, 20, 21, 0] rfl)
    · have h := ite_f h c3
      refine lv_iconst (v := (0 : Int32)) hx hb dL_law_1574 (by decide) ?_
      have h := Option.some.inj h
      exact absurd h (by decide)
def XC_1477 (tI : xTab) (P Dr : Nat) (B67 : Int32 → Int32 → Int32 → Int64 → Int32 → xMem → xLon → Option Int32) (x4 : Int32) (x5 : Int32) (x6 : Int32) (x7 : Int64) (x9 : Int32) (x10 : Int32) (x11 : Int32) (x12 : Int32) (x13 : Int32) (x14 : Int32) (x15 : Int32) (x17 : Int32) (x23 : Int32) (x24 : Int32) (x25 : Int32) (x28 : Int32) (I : xMem) (L : xLon) : Option Int32 := if x28 < (0 : Int32) then (some (0 : Int32)) else (if ((1 : Int32) <<< (x4 &&& 31)) ≤ x28 then (some (0 : Int32)) else ((if x28 = (0 : Int32) then (some (1 : Int32)) else (some (0 : Int32))).bind fun q3 => (if x17 = (0 : Int32) then (some (1 : Int32)) else (some (0 : Int32))).bind fun q5 => if q3 = q5 then (if x24 ≤ (0 : Int32) then (XC_1718 tI P Dr B67 x4 x5 x6 x7 x9 x10 x11 x12 x13 x14 x15 x28 I L) else (if x25 < (0 : Int32) then (some (0 : Int32)) else (if (x25 - x25 / (6 : Int32) * (6 : Int32)) ≤ (x25 / (6 : Int32)) then (some (0 : Int32)) else (XC_1551 tI P Dr B67 x4 x5 x6 x7 x9 x10 x11 x12 x13 x14 x15 x23 x24 x28 (x25 / (6 : Int32)) (x25 - x25 / (6 : Int32) * (6 : Int32)) (99 : Int32) I L)))) else (some (0 : Int32))))
set_option maxHeartbeats 4000000 in
set_option maxRecDepth 100000 in
theorem kc_1477 (C0 : LC p l e s m args below meth c Q D cy ad tI) {P Dr : Nat} (hX : cOk ad P Dr) {B67 : Int32 → Int32 → Int32 → Int64 → Int32 → xMem → xLon → Option Int32} (hB67 : ∀ (y4 : Int32) (y5 : Int32) (y6 : Int32) (y7 : Int64) (y9 : Int32) (I : xMem) (L : xLon) (H : Heap) (locs : List Loc) (ls : Array Slot), B67 y4 y5 y6 y7 y9 I L = some 1 → cG D cy ad P Dr I L H → va_S (fun q : Nat => s.heap.size ≤ q) s.heap H locs → lv_has ls 43 [(0, .ref tI.2.1), (1, .ref (ad 0)), (2, .ref (ad 62)), (3, .ref (ad 63)), (4, .int y4), (5, .int y5), (6, .int y6), (7, .long y7), (9, .int y9)] → W p l e room_1 s m args below meth c H locs 600000 7302250 Q (F0 m 67 ls [])) (x4 : Int32) (x5 : Int32) (x6 : Int32) (x7 : Int64) (x9 : Int32) (x10 : Int32) (x11 : Int32) (x12 : Int32) (x13 : Int32) (x14 : Int32) (x15 : Int32) (x17 : Int32) (x23 : Int32) (x24 : Int32) (x25 : Int32) (x28 : Int32) (I : xMem) (L : xLon) (H : Heap) (locs : List Loc) (ls : Array Slot) (h : XC_1477 tI P Dr B67 x4 x5 x6 x7 x9 x10 x11 x12 x13 x14 x15 x17 x23 x24 x25 x28 I L = some 1) : cG D cy ad P Dr I L H → va_S (fun q : Nat => s.heap.size ≤ q) s.heap H locs → lv_has ls 43 [(0, .ref tI.2.1), (1, .ref (ad 0)), (2, .ref (ad 62)), (3, .ref (ad 63)), (4, .int x4), (5, .int x5), (6, .int x6), (7, .long x7), (9, .int x9), (10, .int x10), (11, .int x11), (12, .int x12), (13, .int x13), (14, .int x14), (15, .int x15), (17, .int x17), (23, .int x23), (24, .int x24), (25, .int x25), (28, .int x28)] → W p l e room_1 s m args below meth c H locs 600000 7302250 Q (F0 m 1477 ls []) := by
  obtain ⟨⟨hx, hb, hml, hown, hts⟩, ⟨hK, hZ⟩, hi, hA, kr⟩ := id C0
  intro hG hS hl
  unfold XC_1477 at h
  refine lv_iload hx hb dL_law_1477 (lv_at hl 19 rfl) ?_
  refine lv_if_lt (tgt := 1514) hx hb dL_law_1479 (by decide) (fun c1 => ?_) (fun c1 => ?_)
  · have h := ite_t h c1
    refine lv_iconst (v := (0 : Int32)) hx hb dL_law_1514 (by decide) ?_
    have h := Option.some.inj h
    exact absurd h (by decide)
  · have h := ite_f h c1
    refine lv_iload hx hb dL_law_1482 (lv_at hl 19 rfl) ?_
    refine lv_iconst (v := (1 : Int32)) hx hb dL_law_1484 (by decide) ?_
    refine lv_iload hx hb dL_law_1485 (lv_at hl 4 rfl) ?_
    refine lv_ishl hx hb dL_law_1487 ?_
    refine lv_icmp_ge (tgt := 1514) hx hb dL_law_1488 (by decide) (fun c2 => ?_) (fun c2 => ?_)
    · have h := ite_t h c2
      refine lv_iconst (v := (0 : Int32)) hx hb dL_law_1514 (by decide) ?_
      have h := Option.some.inj h
      exact absurd h (by decide)
    · have h := ite_f h c2
      refine lv_iload hx hb dL_law_1491 (lv_at hl 19 rfl) ?_
      obtain ⟨q3, h9, h⟩ := obind h
      have hk_q3 : ∀ (H : Heap) (locs : List Loc) (ls : Array Slot), cG D cy ad P Dr I L H → va_S (fun q : Nat => s.heap.size ≤ q) s.heap H locs → lv_has ls 43 [(0, .ref tI.2.1), (1, .ref (ad 0)), (2, .ref (ad 62)), (3, .ref (ad 63)), (4, .int x4), (5, .int x5), (6, .int x6), (7, .long x7), (9, .int x9), (10, .int x10), (11, .int x11), (12, .int x12), (13, .int x13), (14, .int x14), (15, .int x15), (17, .int x17), (23, .int x23), (24, .int x24), (25, .int x25), (28, .int x28)] → W p l e room_1 s m args below meth c H locs 600000 7302250 Q (F0 m 1501 ls [.int q3]) := by
        intro H locs ls hG hS hl
        refine lv_iload hx hb dL_law_1501 (lv_at hl 15 rfl) ?_
        obtain ⟨q5, h9, h⟩ := obind h
        have hk_q5 : ∀ (H : Heap) (locs : List Loc) (ls : Array Slot), cG D cy ad P Dr I L H → va_S (fun q : Nat => s.heap.size ≤ q) s.heap H locs → lv_has ls 43 [(0, .ref tI.2.1), (1, .ref (ad 0)), (2, .ref (ad 62)), (3, .ref (ad 63)), (4, .int x4), (5, .int x5), (6, .int x6), (7, .long x7), (9, .int x9), (10, .int x10), (11, .int x11), (12, .int x12), (13, .int x13), (14, .int x14), (15, .int x15), (23, .int x23), (24, .int x24), (25, .int x25), (28, .int x28)] → W p l e room_1 s m args below meth c H locs 600000 7302250 Q (F0 m 1511 ls [.int q5, .int q3]) := by
          intro H locs ls hG hS hl
          refine lv_icmp_eq (tgt := 1516) hx hb dL_law_1511 (by decide) (fun c7 => ?_) (fun c7 => ?_)
          · have h := ite_t h c7
            refine lv_iload hx hb dL_law_1516 (lv_at hl 16 rfl) ?_
            refine lv_if_le (tgt := 1718) hx hb dL_law_1518 (by decide) (fun c8 => ?_) (fun c8 => ?_)
            · have h := ite_t h c8
              exact kc_1718 C0 hX hB67 _ _ _ _ _ _ _ _ _ _ _ _ _ _ _ _ _ h hG hS (lv_sub hl [0, 1, 2, 3, 4, 5, 6, 7, 8, 9, 10, 11, 12, 13, 14, 18] rfl)
            · have h := ite_f h c8
              refine lv_iload hx hb dL_law_1521 (lv_at hl 17 rfl) ?_
              refine lv_bipush (v := (6 : Int32)) hx hb dL_law_1523 (by decide) ?_
              refine lv_idiv hx hb dL_law_1525 (by decide) ?_
              refine lv_istore (lv' := [(29, .int (x25 / (6 : Int32))), (0, .ref tI.2.1), (1, .ref (ad 0)), (2, .ref (ad 62)), (3, .ref (ad 63)), (4, .int x4), (5, .int x5), (6, .int x6), (7, .long x7), (9, .int x9), (10, .int x10), (11, .int x11), (12, .int x12), (13, .int x13), (14, .int x14), (15, .int x15), (23, .int x23), (24, .int x24), (25, .int x25), (28, .int x28)]) hx hb dL_law_1526 hl (by decide) rfl (fun ls hl => ?_)
              refine lv_iload hx hb dL_law_1528 (lv_at hl 18 rfl) ?_
              refine lv_bipush (v := (6 : Int32)) hx hb dL_law_1530 (by decide) ?_
              refine lv_irem hx hb dL_law_1532 (by decide) ?_
              refine lv_istore (lv' := [(30, .int (x25 - x25 / (6 : Int32) * (6 : Int32))), (29, .int (x25 / (6 : Int32))), (0, .ref tI.2.1), (1, .ref (ad 0)), (2, .ref (ad 62)), (3, .ref (ad 63)), (4, .int x4), (5, .int x5), (6, .int x6), (7, .long x7), (9, .int x9), (10, .int x10), (11, .int x11), (12, .int x12), (13, .int x13), (14, .int x14), (15, .int x15), (23, .int x23), (24, .int x24), (25, .int x25), (28, .int x28)]) hx hb dL_law_1533 hl (by decide) rfl (fun ls hl => ?_)
              refine lv_bipush (v := (99 : Int32)) hx hb dL_law_1535 (by decide) ?_
              refine lv_istore (lv' := [(31, .int (99 : Int32)), (30, .int (x25 - x25 / (6 : Int32) * (6 : Int32))), (29, .int (x25 / (6 : Int32))), (0, .ref tI.2.1), (1, .ref (ad 0)), (2, .ref (ad 62)), (3, .ref (ad 63)), (4, .int x4), (5, .int x5), (6, .int x6), (7, .long x7), (9, .int x9), (10, .int x10), (11, .int x11), (12, .int x12), (13, .int x13), (14, .int x14), (15, .int x15), (23, .int x23), (24, .int x24), (25, .int x25), (28, .int x28)]) hx hb dL_law_1537 hl (by decide) rfl (fun ls hl => ?_)
              refine lv_iload hx hb dL_law_1539 (lv_at hl 20 rfl) ?_
              refine lv_if_lt (tgt := 1574) hx hb dL_law_1541 (by decide) (fun c9 => ?_) (fun c9 => ?_)
              · have h := ite_t h c9
                refine lv_iconst (v := (0 : Int32)) hx hb dL_law_1574 (by decide) ?_
                have h := Option.some.inj h
                exact absurd h (by decide)
              · have h := ite_f h c9
                refine lv_iload hx hb dL_law_1544 (lv_at hl 2 rfl) ?_
                refine lv_iload hx hb dL_law_1546 (lv_at hl 1 rfl) ?_
                refine lv_icmp_ge (tgt := 1574) hx hb dL_law_1548 (by decide) (fun c10 => ?_) (fun c10 => ?_)
                · have h := ite_t h c10
                  refine lv_iconst (v := (0 : Int32)) hx hb dL_law_1574 (by decide) ?_
                  have h := Option.some.inj h
                  exact absurd h (by decide)
                · have h := ite_f h c10
                  exact kc_1551 C0 hX hB67 _ _ _ _ _ _ _ _ _ _ _ _ _ _ _ _ _ _ _ _ _ _ h hG hS (lv_sub hl [3, 4, 5, 6, 7, 8, 9, 10, 11, 12, 13, 14, 15, 16, 17, 18, 19, 21, 2, 1, 0] rfl)
          · have h := ite_f h c7
            refine lv_iconst (v := (0 : Int32)) hx hb dL_law_1514 (by decide) ?_
            have h := Option.some.inj h
            exact absurd h (by decide)
        clear h
        have h := h9
        clear h9
        refine lv_if_ne (tgt := 1510) hx hb dL_law_1503 (by decide) (fun c6 => ?_) (fun c6 => ?_)
        · have h := ite_f h c6
          refine lv_iconst (v := (0 : Int32)) hx hb dL_law_1510 (by decide) ?_
          have h := Option.some.inj h
          subst h
          exact hk_q5 _ _ _ hG hS (lv_sub hl [0, 1, 2, 3, 4, 5, 6, 7, 8, 9, 10, 11, 12, 13, 14, 16, 17, 18, 19] rfl)
        · have h := ite_t h c6
          refine lv_iconst (v := (1 : Int32)) hx hb dL_law_1506 (by decide) ?_
          refine lv_goto (tgt := 1511) hx hb dL_law_1507 (by decide) ?_
          have h := Option.some.inj h
          subst h
          exact hk_q5 _ _ _ hG hS (lv_sub hl [0, 1, 2, 3, 4, 5, 6, 7, 8, 9, 10, 11, 12, 13, 14, 16, 17, 18, 19] rfl)
      clear h
      have h := h9
      clear h9
      refine lv_if_ne (tgt := 1500) hx hb dL_law_1493 (by decide) (fun c4 => ?_) (fun c4 => ?_)
      · have h := ite_f h c4
        refine lv_iconst (v := (0 : Int32)) hx hb dL_law_1500 (by decide) ?_
        have h := Option.some.inj h
        subst h
        exact hk_q3 _ _ _ hG hS (lv_sub hl [0, 1, 2, 3, 4, 5, 6, 7, 8, 9, 10, 11, 12, 13, 14, 15, 16, 17, 18, 19] rfl)
      · have h := ite_t h c4
        refine lv_iconst (v := (1 : Int32)) hx hb dL_law_1496 (by decide) ?_
        refine lv_goto (tgt := 1501) hx hb dL_law_1497 (by decide) ?_
        have h := Option.some.inj h
        subst h
        exact hk_q3 _ _ _ hG hS (lv_sub hl [0, 1, 2, 3, 4, 5, 6, 7, 8, 9, 10, 11, 12, 13, 14, 15, 16, 17, 18, 19] rfl)
def XC_1459 (tI : xTab) (P Dr : Nat) (B67 : Int32 → Int32 → Int32 → Int64 → Int32 → xMem → xLon → Option Int32) (x4 : Int32) (x5 : Int32) (x6 : Int32) (x7 : Int64) (x9 : Int32) (x10 : Int32) (x11 : Int32) (x12 : Int32) (x13 : Int32) (x14 : Int32) (x15 : Int32) (x17 : Int32) (x23 : Int32) (x24 : Int32) (x25 : Int32) (x26 : Int32) (x28 : Int32) (I : xMem) (L : xLon) : Option Int32 := if x26 < (0 : Int32) then (XC_1477 tI P Dr B67 x4 x5 x6 x7 x9 x10 x11 x12 x13 x14 x15 x17 x23 x24 x25 x28 I L) else (if ((x23 &&& x13) &&& (x28 ^^^ (-1 : Int32))) = (0 : Int32) then (XC_1477 tI P Dr B67 x4 x5 x6 x7 x9 x10 x11 x12 x13 x14 x15 x17 x23 x24 x25 x28 I L) else (some (0 : Int32)))
set_option maxHeartbeats 4000000 in
set_option maxRecDepth 100000 in
theorem kc_1459 (C0 : LC p l e s m args below meth c Q D cy ad tI) {P Dr : Nat} (hX : cOk ad P Dr) {B67 : Int32 → Int32 → Int32 → Int64 → Int32 → xMem → xLon → Option Int32} (hB67 : ∀ (y4 : Int32) (y5 : Int32) (y6 : Int32) (y7 : Int64) (y9 : Int32) (I : xMem) (L : xLon) (H : Heap) (locs : List Loc) (ls : Array Slot), B67 y4 y5 y6 y7 y9 I L = some 1 → cG D cy ad P Dr I L H → va_S (fun q : Nat => s.heap.size ≤ q) s.heap H locs → lv_has ls 43 [(0, .ref tI.2.1), (1, .ref (ad 0)), (2, .ref (ad 62)), (3, .ref (ad 63)), (4, .int y4), (5, .int y5), (6, .int y6), (7, .long y7), (9, .int y9)] → W p l e room_1 s m args below meth c H locs 600000 7302250 Q (F0 m 67 ls [])) (x4 : Int32) (x5 : Int32) (x6 : Int32) (x7 : Int64) (x9 : Int32) (x10 : Int32) (x11 : Int32) (x12 : Int32) (x13 : Int32) (x14 : Int32) (x15 : Int32) (x17 : Int32) (x23 : Int32) (x24 : Int32) (x25 : Int32) (x26 : Int32) (x28 : Int32) (I : xMem) (L : xLon) (H : Heap) (locs : List Loc) (ls : Array Slot) (h : XC_1459 tI P Dr B67 x4 x5 x6 x7 x9 x10 x11 x12 x13 x14 x15 x17 x23 x24 x25 x26 x28 I L = some 1) : cG D cy ad P Dr I L H → va_S (fun q : Nat => s.heap.size ≤ q) s.heap H locs → lv_has ls 43 [(0, .ref tI.2.1), (1, .ref (ad 0)), (2, .ref (ad 62)), (3, .ref (ad 63)), (4, .int x4), (5, .int x5), (6, .int x6), (7, .long x7), (9, .int x9), (10, .int x10), (11, .int x11), (12, .int x12), (13, .int x13), (14, .int x14), (15, .int x15), (17, .int x17), (23, .int x23), (24, .int x24), (25, .int x25), (26, .int x26), (28, .int x28)] → W p l e room_1 s m args below meth c H locs 600000 7302250 Q (F0 m 1459 ls []) := by
  obtain ⟨⟨hx, hb, hml, hown, hts⟩, ⟨hK, hZ⟩, hi, hA, kr⟩ := id C0
  intro hG hS hl
  unfold XC_1459 at h
  refine lv_iload hx hb dL_law_1459 (lv_at hl 19 rfl) ?_
  refine lv_if_lt (tgt := 1477) hx hb dL_law_1461 (by decide) (fun c1 => ?_) (fun c1 => ?_)
  · have h := ite_t h c1
    exact kc_1477 C0 hX hB67 _ _ _ _ _ _ _ _ _ _ _ _ _ _ _ _ _ _ _ _ _ h hG hS (lv_sub hl [0, 1, 2, 3, 4, 5, 6, 7, 8, 9, 10, 11, 12, 13, 14, 15, 16, 17, 18, 20] rfl)
  · have h := ite_f h c1
    refine lv_iload hx hb dL_law_1464 (lv_at hl 16 rfl) ?_
    refine lv_iload hx hb dL_law_1466 (lv_at hl 12 rfl) ?_
    refine lv_iand hx hb dL_law_1468 ?_
    refine lv_iload hx hb dL_law_1469 (lv_at hl 20 rfl) ?_
    refine lv_iconst (v := (-1 : Int32)) hx hb dL_law_1471 (by decide) ?_
    refine lv_ixor hx hb dL_law_1472 ?_
    refine lv_iand hx hb dL_law_1473 ?_
    refine lv_if_ne (tgt := 1514) hx hb dL_law_1474 (by decide) (fun c2 => ?_) (fun c2 => ?_)
    · have h := ite_f h c2
      refine lv_iconst (v := (0 : Int32)) hx hb dL_law_1514 (by decide) ?_
      have h := Option.some.inj h
      exact absurd h (by decide)
    · have h := ite_t h c2
      exact kc_1477 C0 hX hB67 _ _ _ _ _ _ _ _ _ _ _ _ _ _ _ _ _ _ _ _ _ h hG hS (lv_sub hl [0, 1, 2, 3, 4, 5, 6, 7, 8, 9, 10, 11, 12, 13, 14, 15, 16, 17, 18, 20] rfl)
def XC_1439 (tI : xTab) (P Dr : Nat) (B67 : Int32 → Int32 → Int32 → Int64 → Int32 → xMem → xLon → Option Int32) (x4 : Int32) (x5 : Int32) (x6 : Int32) (x7 : Int64) (x9 : Int32) (x10 : Int32) (x11 : Int32) (x12 : Int32) (x13 : Int32) (x14 : Int32) (x15 : Int32) (x17 : Int32) (x23 : Int32) (x24 : Int32) (x25 : Int32) (x26 : Int32) (x28 : Int32) (I : xMem) (L : xLon) : Option Int32 := if x24 < (0 : Int32) then (XC_1459 tI P Dr B67 x4 x5 x6 x7 x9 x10 x11 x12 x13 x14 x15 x17 x23 x24 x25 x26 x28 I L) else (if ((x23 &&& (x13 ^^^ (-1 : Int32))) &&& (x28 ^^^ (-1 : Int32))) = (0 : Int32) then (XC_1459 tI P Dr B67 x4 x5 x6 x7 x9 x10 x11 x12 x13 x14 x15 x17 x23 x24 x25 x26 x28 I L) else (some (0 : Int32)))
set_option maxHeartbeats 4000000 in
set_option maxRecDepth 100000 in
theorem kc_1439 (C0 : LC p l e s m args below meth c Q D cy ad tI) {P Dr : Nat} (hX : cOk ad P Dr) {B67 : Int32 → Int32 → Int32 → Int64 → Int32 → xMem → xLon → Option Int32} (hB67 : ∀ (y4 : Int32) (y5 : Int32) (y6 : Int32) (y7 : Int64) (y9 : Int32) (I : xMem) (L : xLon) (H : Heap) (locs : List Loc) (ls : Array Slot), B67 y4 y5 y6 y7 y9 I L = some 1 → cG D cy ad P Dr I L H → va_S (fun q : Nat => s.heap.size ≤ q) s.heap H locs → lv_has ls 43 [(0, .ref tI.2.1), (1, .ref (ad 0)), (2, .ref (ad 62)), (3, .ref (ad 63)), (4, .int y4), (5, .int y5), (6, .int y6), (7, .long y7), (9, .int y9)] → W p l e room_1 s m args below meth c H locs 600000 7302250 Q (F0 m 67 ls [])) (x4 : Int32) (x5 : Int32) (x6 : Int32) (x7 : Int64) (x9 : Int32) (x10 : Int32) (x11 : Int32) (x12 : Int32) (x13 : Int32) (x14 : Int32) (x15 : Int32) (x17 : Int32) (x23 : Int32) (x24 : Int32) (x25 : Int32) (x26 : Int32) (x28 : Int32) (I : xMem) (L : xLon) (H : Heap) (locs : List Loc) (ls : Array Slot) (h : XC_1439 tI P Dr B67 x4 x5 x6 x7 x9 x10 x11 x12 x13 x14 x15 x17 x23 x24 x25 x26 x28 I L = some 1) : cG D cy ad P Dr I L H → va_S (fun q : Nat => s.heap.size ≤ q) s.heap H locs → lv_has ls 43 [(0, .ref tI.2.1), (1, .ref (ad 0)), (2, .ref (ad 62)), (3, .ref (ad 63)), (4, .int x4), (5, .int x5), (6, .int x6), (7, .long x7), (9, .int x9), (10, .int x10), (11, .int x11), (12, .int x12), (13, .int x13), (14, .int x14), (15, .int x15), (17, .int x17), (23, .int x23), (24, .int x24), (25, .int x25), (26, .int x26), (28, .int x28)] → W p l e room_1 s m args below meth c H locs 600000 7302250 Q (F0 m 1439 ls []) := by
  obtain ⟨⟨hx, hb, hml, hown, hts⟩, ⟨hK, hZ⟩, hi, hA, kr⟩ := id C0
  intro hG hS hl
  unfold XC_1439 at h
  refine lv_iload hx hb dL_law_1439 (lv_at hl 17 rfl) ?_
  refine lv_if_lt (tgt := 1459) hx hb dL_law_1441 (by decide) (fun c1 => ?_) (fun c1 => ?_)
  · have h := ite_t h c1
    exact kc_1459 C0 hX hB67 _ _ _ _ _ _ _ _ _ _ _ _ _ _ _ _ _ _ _ _ _ _ h hG hS (lv_sub hl [0, 1, 2, 3, 4, 5, 6, 7, 8, 9, 10, 11, 12, 13, 14, 15, 16, 17, 18, 19, 20] rfl)
  · have h := ite_f h c1
    refine lv_iload hx hb dL_law_1444 (lv_at hl 16 rfl) ?_
    refine lv_iload hx hb dL_law_1446 (lv_at hl 12 rfl) ?_
    refine lv_iconst (v := (-1 : Int32)) hx hb dL_law_1448 (by decide) ?_
    refine lv_ixor hx hb dL_law_1449 ?_
    refine lv_iand hx hb dL_law_1450 ?_
    refine lv_iload hx hb dL_law_1451 (lv_at hl 20 rfl) ?_
    refine lv_iconst (v := (-1 : Int32)) hx hb dL_law_1453 (by decide) ?_
    refine lv_ixor hx hb dL_law_1454 ?_
    refine lv_iand hx hb dL_law_1455 ?_
    refine lv_if_ne (tgt := 1514) hx hb dL_law_1456 (by decide) (fun c2 => ?_) (fun c2 => ?_)
    · have h := ite_f h c2
      refine lv_iconst (v := (0 : Int32)) hx hb dL_law_1514 (by decide) ?_
      have h := Option.some.inj h
      exact absurd h (by decide)
    · have h := ite_t h c2
      exact kc_1459 C0 hX hB67 _ _ _ _ _ _ _ _ _ _ _ _ _ _ _ _ _ _ _ _ _ _ h hG hS (lv_sub hl [0, 1, 2, 3, 4, 5, 6, 7, 8, 9, 10, 11, 12, 13, 14, 15, 16, 17, 18, 19, 20] rfl)
def XC_1427 (tI : xTab) (P Dr : Nat) (B67 : Int32 → Int32 → Int32 → Int64 → Int32 → xMem → xLon → Option Int32) (x4 : Int32) (x5 : Int32) (x6 : Int32) (x7 : Int64) (x9 : Int32) (x10 : Int32) (x11 : Int32) (x12 : Int32) (x13 : Int32) (x14 : Int32) (x15 : Int32) (x17 : Int32) (x23 : Int32) (x24 : Int32) (x25 : Int32) (x26 : Int32) (x27 : Int32) (x28 : Int32) (I : xMem) (L : xLon) : Option Int32 := if x26 = (0 : Int32) then (if x27 = (-9 : Int32) then (XC_1439 tI P Dr B67 x4 x5 x6 x7 x9 x10 x11 x12 x13 x14 x15 x17 x23 x24 x25 x26 x28 I L) else (some (0 : Int32))) else (XC_1439 tI P Dr B67 x4 x5 x6 x7 x9 x10 x11 x12 x13 x14 x15 x17 x23 x24 x25 x26 x28 I L)
set_option maxHeartbeats 4000000 in
set_option maxRecDepth 100000 in
theorem kc_1427 (C0 : LC p l e s m args below meth c Q D cy ad tI) {P Dr : Nat} (hX : cOk ad P Dr) {B67 : Int32 → Int32 → Int32 → Int64 → Int32 → xMem → xLon → Option Int32} (hB67 : ∀ (y4 : Int32) (y5 : Int32) (y6 : Int32) (y7 : Int64) (y9 : Int32) (I : xMem) (L : xLon) (H : Heap) (locs : List Loc) (ls : Array Slot), B67 y4 y5 y6 y7 y9 I L = some 1 → cG D cy ad P Dr I L H → va_S (fun q : Nat => s.heap.size ≤ q) s.heap H locs → lv_has ls 43 [(0, .ref tI.2.1), (1, .ref (ad 0)), (2, .ref (ad 62)), (3, .ref (ad 63)), (4, .int y4), (5, .int y5), (6, .int y6), (7, .long y7), (9, .int y9)] → W p l e room_1 s m args below meth c H locs 600000 7302250 Q (F0 m 67 ls [])) (x4 : Int32) (x5 : Int32) (x6 : Int32) (x7 : Int64) (x9 : Int32) (x10 : Int32) (x11 : Int32) (x12 : Int32) (x13 : Int32) (x14 : Int32) (x15 : Int32) (x17 : Int32) (x23 : Int32) (x24 : Int32) (x25 : Int32) (x26 : Int32) (x27 : Int32) (x28 : Int32) (I : xMem) (L : xLon) (H : Heap) (locs : List Loc) (ls : Array Slot) (h : XC_1427 tI P Dr B67 x4 x5 x6 x7 x9 x10 x11 x12 x13 x14 x15 x17 x23 x24 x25 x26 x27 x28 I L = some 1) : cG D cy ad P Dr I L H → va_S (fun q : Nat => s.heap.size ≤ q) s.heap H locs → lv_has ls 43 [(0, .ref tI.2.1), (1, .ref (ad 0)), (2, .ref (ad 62)), (3, .ref (ad 63)), (4, .int x4), (5, .int x5), (6, .int x6), (7, .long x7), (9, .int x9), (10, .int x10), (11, .int x11), (12, .int x12), (13, .int x13), (14, .int x14), (15, .int x15), (17, .int x17), (23, .int x23), (24, .int x24), (25, .int x25), (26, .int x26), (27, .int x27), (28, .int x28)] → W p l e room_1 s m args below meth c H locs 600000 7302250 Q (F0 m 1427 ls []) := by
  obtain ⟨⟨hx, hb, hml, hown, hts⟩, ⟨hK, hZ⟩, hi, hA, kr⟩ := id C0
  intro hG hS hl
  unfold XC_1427 at h
  refine lv_iload hx hb dL_law_1427 (lv_at hl 19 rfl) ?_
  refine lv_if_ne (tgt := 1439) hx hb dL_law_1429 (by decide) (fun c1 => ?_) (fun c1 => ?_)
  · have h := ite_f h c1
    exact kc_1439 C0 hX hB67 _ _ _ _ _ _ _ _ _ _ _ _ _ _ _ _ _ _ _ _ _ _ h hG hS (lv_sub hl [0, 1, 2, 3, 4, 5, 6, 7, 8, 9, 10, 11, 12, 13, 14, 15, 16, 17, 18, 19, 21] rfl)
  · have h := ite_t h c1
    refine lv_iload hx hb dL_law_1432 (lv_at hl 20 rfl) ?_
    refine lv_bipush (v := (-9 : Int32)) hx hb dL_law_1434 (by decide) ?_
    refine lv_icmp_ne (tgt := 1514) hx hb dL_law_1436 (by decide) (fun c2 => ?_) (fun c2 => ?_)
    · have h := ite_f h c2
      refine lv_iconst (v := (0 : Int32)) hx hb dL_law_1514 (by decide) ?_
      have h := Option.some.inj h
      exact absurd h (by decide)
    · have h := ite_t h c2
      exact kc_1439 C0 hX hB67 _ _ _ _ _ _ _ _ _ _ _ _ _ _ _ _ _ _ _ _ _ _ h hG hS (lv_sub hl [0, 1, 2, 3, 4, 5, 6, 7, 8, 9, 10, 11, 12, 13, 14, 15, 16, 17, 18, 19, 21] rfl)
def XC_1415 (tI : xTab) (P Dr : Nat) (B67 : Int32 → Int32 → Int32 → Int64 → Int32 → xMem → xLon → Option Int32) (x4 : Int32) (x5 : Int32) (x6 : Int32) (x7 : Int64) (x9 : Int32) (x10 : Int32) (x11 : Int32) (x12 : Int32) (x13 : Int32) (x14 : Int32) (x15 : Int32) (x17 : Int32) (x23 : Int32) (x24 : Int32) (x25 : Int32) (x26 : Int32) (x27 : Int32) (x28 : Int32) (I : xMem) (L : xLon) : Option Int32 := if x24 = (0 : Int32) then (if x25 = (-9 : Int32) then (XC_1427 tI P Dr B67 x4 x5 x6 x7 x9 x10 x11 x12 x13 x14 x15 x17 x23 x24 x25 x26 x27 x28 I L) else (some (0 : Int32))) else (XC_1427 tI P Dr B67 x4 x5 x6 x7 x9 x10 x11 x12 x13 x14 x15 x17 x23 x24 x25 x26 x27 x28 I L)
set_option maxHeartbeats 4000000 in
set_option maxRecDepth 100000 in
theorem kc_1415 (C0 : LC p l e s m args below meth c Q D cy ad tI) {P Dr : Nat} (hX : cOk ad P Dr) {B67 : Int32 → Int32 → Int32 → Int64 → Int32 → xMem → xLon → Option Int32} (hB67 : ∀ (y4 : Int32) (y5 : Int32) (y6 : Int32) (y7 : Int64) (y9 : Int32) (I : xMem) (L : xLon) (H : Heap) (locs : List Loc) (ls : Array Slot), B67 y4 y5 y6 y7 y9 I L = some 1 → cG D cy ad P Dr I L H → va_S (fun q : Nat => s.heap.size ≤ q) s.heap H locs → lv_has ls 43 [(0, .ref tI.2.1), (1, .ref (ad 0)), (2, .ref (ad 62)), (3, .ref (ad 63)), (4, .int y4), (5, .int y5), (6, .int y6), (7, .long y7), (9, .int y9)] → W p l e room_1 s m args below meth c H locs 600000 7302250 Q (F0 m 67 ls [])) (x4 : Int32) (x5 : Int32) (x6 : Int32) (x7 : Int64) (x9 : Int32) (x10 : Int32) (x11 : Int32) (x12 : Int32) (x13 : Int32) (x14 : Int32) (x15 : Int32) (x17 : Int32) (x23 : Int32) (x24 : Int32) (x25 : Int32) (x26 : Int32) (x27 : Int32) (x28 : Int32) (I : xMem) (L : xLon) (H : Heap) (locs : List Loc) (ls : Array Slot) (h : XC_1415 tI P Dr B67 x4 x5 x6 x7 x9 x10 x11 x12 x13 x14 x15 x17 x23 x24 x25 x26 x27 x28 I L = some 1) : cG D cy ad P Dr I L H → va_S (fun q : Nat => s.heap.size ≤ q) s.heap H locs → lv_has ls 43 [(0, .ref tI.2.1), (1, .ref (ad 0)), (2, .ref (ad 62)), (3, .ref (ad 63)), (4, .int x4), (5, .int x5), (6, .int x6), (7, .long x7), (9, .int x9), (10, .int x10), (11, .int x11), (12, .int x12), (13, .int x13), (14, .int x14), (15, .int x15), (17, .int x17), (23, .int x23), (24, .int x24), (25, .int x25), (26, .int x26), (27, .int x27), (28, .int x28)] → W p l e room_1 s m args below meth c H locs 600000 7302250 Q (F0 m 1415 ls []) := by
  obtain ⟨⟨hx, hb, hml, hown, hts⟩, ⟨hK, hZ⟩, hi, hA, kr⟩ := id C0
  intro hG hS hl
  unfold XC_1415 at h
  refine lv_iload hx hb dL_law_1415 (lv_at hl 17 rfl) ?_
  refine lv_if_ne (tgt := 1427) hx hb dL_law_1417 (by decide) (fun c1 => ?_) (fun c1 => ?_)
  · have h := ite_f h c1
    exact kc_1427 C0 hX hB67 _ _ _ _ _ _ _ _ _ _ _ _ _ _ _ _ _ _ _ _ _ _ _ h hG hS (lv_sub hl [0, 1, 2, 3, 4, 5, 6, 7, 8, 9, 10, 11, 12, 13, 14, 15, 16, 17, 18, 19, 20, 21] rfl)
  · have h := ite_t h c1
    refine lv_iload hx hb dL_law_1420 (lv_at hl 18 rfl) ?_
    refine lv_bipush (v := (-9 : Int32)) hx hb dL_law_1422 (by decide) ?_
    refine lv_icmp_ne (tgt := 1514) hx hb dL_law_1424 (by decide) (fun c2 => ?_) (fun c2 => ?_)
    · have h := ite_f h c2
      refine lv_iconst (v := (0 : Int32)) hx hb dL_law_1514 (by decide) ?_
      have h := Option.some.inj h
      exact absurd h (by decide)
    · have h := ite_t h c2
      exact kc_1427 C0 hX hB67 _ _ _ _ _ _ _ _ _ _ _ _ _ _ _ _ _ _ _ _ _ _ _ h hG hS (lv_sub hl [0, 1, 2, 3, 4, 5, 6, 7, 8, 9, 10, 11, 12, 13, 14, 15, 16, 17, 18, 19, 20, 21] rfl)
def XC_1377 (tI : xTab) (P Dr : Nat) (B67 : Int32 → Int32 → Int32 → Int64 → Int32 → xMem → xLon → Option Int32) (x4 : Int32) (x5 : Int32) (x6 : Int32) (x7 : Int64) (x9 : Int32) (x10 : Int32) (x11 : Int32) (x12 : Int32) (x13 : Int32) (x14 : Int32) (x15 : Int32) (x17 : Int32) (x23 : Int32) (x24 : Int32) (x25 : Int32) (x26 : Int32) (x27 : Int32) (x28 : Int32) (I : xMem) (L : xLon) : Option Int32 := (if x26 = (0 : Int32) then (some (1 : Int32)) else (some (0 : Int32))).bind fun q1 => (if (x23 &&& x13) = (0 : Int32) then (some (1 : Int32)) else (some (0 : Int32))).bind fun q3 => if q1 = q3 then (if x24 ≤ (-9 : Int32) then (XC_1415 tI P Dr B67 x4 x5 x6 x7 x9 x10 x11 x12 x13 x14 x15 x17 x23 x24 x25 x26 x27 x28 I L) else (if x24 < (0 : Int32) then (some (0 : Int32)) else (XC_1415 tI P Dr B67 x4 x5 x6 x7 x9 x10 x11 x12 x13 x14 x15 x17 x23 x24 x25 x26 x27 x28 I L))) else (some (0 : Int32))
set_option maxHeartbeats 4000000 in
set_option maxRecDepth 100000 in
theorem kc_1377 (C0 : LC p l e s m args below meth c Q D cy ad tI) {P Dr : Nat} (hX : cOk ad P Dr) {B67 : Int32 → Int32 → Int32 → Int64 → Int32 → xMem → xLon → Option Int32} (hB67 : ∀ (y4 : Int32) (y5 : Int32) (y6 : Int32) (y7 : Int64) (y9 : Int32) (I : xMem) (L : xLon) (H : Heap) (locs : List Loc) (ls : Array Slot), B67 y4 y5 y6 y7 y9 I L = some 1 → cG D cy ad P Dr I L H → va_S (fun q : Nat => s.heap.size ≤ q) s.heap H locs → lv_has ls 43 [(0, .ref tI.2.1), (1, .ref (ad 0)), (2, .ref (ad 62)), (3, .ref (ad 63)), (4, .int y4), (5, .int y5), (6, .int y6), (7, .long y7), (9, .int y9)] → W p l e room_1 s m args below meth c H locs 600000 7302250 Q (F0 m 67 ls [])) (x4 : Int32) (x5 : Int32) (x6 : Int32) (x7 : Int64) (x9 : Int32) (x10 : Int32) (x11 : Int32) (x12 : Int32) (x13 : Int32) (x14 : Int32) (x15 : Int32) (x17 : Int32) (x23 : Int32) (x24 : Int32) (x25 : Int32) (x26 : Int32) (x27 : Int32) (x28 : Int32) (I : xMem) (L : xLon) (H : Heap) (locs : List Loc) (ls : Array Slot) (h : XC_1377 tI P Dr B67 x4 x5 x6 x7 x9 x10 x11 x12 x13 x14 x15 x17 x23 x24 x25 x26 x27 x28 I L = some 1) : cG D cy ad P Dr I L H → va_S (fun q : Nat => s.heap.size ≤ q) s.heap H locs → lv_has ls 43 [(0, .ref tI.2.1), (1, .ref (ad 0)), (2, .ref (ad 62)), (3, .ref (ad 63)), (4, .int x4), (5, .int x5), (6, .int x6), (7, .long x7), (9, .int x9), (10, .int x10), (11, .int x11), (12, .int x12), (13, .int x13), (14, .int x14), (15, .int x15), (17, .int x17), (23, .int x23), (24, .int x24), (25, .int x25), (26, .int x26), (27, .int x27), (28, .int x28)] → W p l e room_1 s m args below meth c H locs 600000 7302250 Q (F0 m 1377 ls []) := by
  obtain ⟨⟨hx, hb, hml, hown, hts⟩, ⟨hK, hZ⟩, hi, hA, kr⟩ := id C0
  intro hG hS hl
  unfold XC_1377 at h
  refine lv_iload hx hb dL_law_1377 (lv_at hl 19 rfl) ?_
  obtain ⟨q1, h9, h⟩ := obind h
  have hk_q1 : ∀ (H : Heap) (locs : List Loc) (ls : Array Slot), cG D cy ad P Dr I L H → va_S (fun q : Nat => s.heap.size ≤ q) s.heap H locs → lv_has ls 43 [(0, .ref tI.2.1), (1, .ref (ad 0)), (2, .ref (ad 62)), (3, .ref (ad 63)), (4, .int x4), (5, .int x5), (6, .int x6), (7, .long x7), (9, .int x9), (10, .int x10), (11, .int x11), (12, .int x12), (13, .int x13), (14, .int x14), (15, .int x15), (17, .int x17), (23, .int x23), (24, .int x24), (25, .int x25), (26, .int x26), (27, .int x27), (28, .int x28)] → W p l e room_1 s m args below meth c H locs 600000 7302250 Q (F0 m 1387 ls [.int q1]) := by
    intro H locs ls hG hS hl
    refine lv_iload hx hb dL_law_1387 (lv_at hl 16 rfl) ?_
    refine lv_iload hx hb dL_law_1389 (lv_at hl 12 rfl) ?_
    refine lv_iand hx hb dL_law_1391 ?_
    obtain ⟨q3, h9, h⟩ := obind h
    have hk_q3 : ∀ (H : Heap) (locs : List Loc) (ls : Array Slot), cG D cy ad P Dr I L H → va_S (fun q : Nat => s.heap.size ≤ q) s.heap H locs → lv_has ls 43 [(0, .ref tI.2.1), (1, .ref (ad 0)), (2, .ref (ad 62)), (3, .ref (ad 63)), (4, .int x4), (5, .int x5), (6, .int x6), (7, .long x7), (9, .int x9), (10, .int x10), (11, .int x11), (12, .int x12), (13, .int x13), (14, .int x14), (15, .int x15), (17, .int x17), (23, .int x23), (24, .int x24), (25, .int x25), (26, .int x26), (27, .int x27), (28, .int x28)] → W p l e room_1 s m args below meth c H locs 600000 7302250 Q (F0 m 1400 ls [.int q3, .int q1]) := by
      intro H locs ls hG hS hl
      refine lv_icmp_ne (tgt := 1514) hx hb dL_law_1400 (by decide) (fun c5 => ?_) (fun c5 => ?_)
      · have h := ite_f h c5
        refine lv_iconst (v := (0 : Int32)) hx hb dL_law_1514 (by decide) ?_
        have h := Option.some.inj h
        exact absurd h (by decide)
      · have h := ite_t h c5
        refine lv_iload hx hb dL_law_1403 (lv_at hl 17 rfl) ?_
        refine lv_bipush (v := (-9 : Int32)) hx hb dL_law_1405 (by decide) ?_
        refine lv_icmp_le (tgt := 1415) hx hb dL_law_1407 (by decide) (fun c6 => ?_) (fun c6 => ?_)
        · have h := ite_t h c6
          exact kc_1415 C0 hX hB67 _ _ _ _ _ _ _ _ _ _ _ _ _ _ _ _ _ _ _ _ _ _ _ h hG hS (lv_sub hl [0, 1, 2, 3, 4, 5, 6, 7, 8, 9, 10, 11, 12, 13, 14, 15, 16, 17, 18, 19, 20, 21] rfl)
        · have h := ite_f h c6
          refine lv_iload hx hb dL_law_1410 (lv_at hl 17 rfl) ?_
          refine lv_if_lt (tgt := 1514) hx hb dL_law_1412 (by decide) (fun c7 => ?_) (fun c7 => ?_)
          · have h := ite_t h c7
            refine lv_iconst (v := (0 : Int32)) hx hb dL_law_1514 (by decide) ?_
            have h := Option.some.inj h
            exact absurd h (by decide)
          · have h := ite_f h c7
            exact kc_1415 C0 hX hB67 _ _ _ _ _ _ _ _ _ _ _ _ _ _ _ _ _ _ _ _ _ _ _ h hG hS (lv_sub hl [0, 1, 2, 3, 4, 5, 6, 7, 8, 9, 10, 11, 12, 13, 14, 15, 16, 17, 18, 19, 20, 21] rfl)
    clear h
    have h := h9
    clear h9
    refine lv_if_ne (tgt := 1399) hx hb dL_law_1392 (by decide) (fun c4 => ?_) (fun c4 => ?_)
    · have h := ite_f h c4
      refine lv_iconst (v := (0 : Int32)) hx hb dL_law_1399 (by decide) ?_
      have h := Option.some.inj h
      subst h
      exact hk_q3 _ _ _ hG hS (lv_sub hl [0, 1, 2, 3, 4, 5, 6, 7, 8, 9, 10, 11, 12, 13, 14, 15, 16, 17, 18, 19, 20, 21] rfl)
    · have h := ite_t h c4
      refine lv_iconst (v := (1 : Int32)) hx hb dL_law_1395 (by decide) ?_
      refine lv_goto (tgt := 1400) hx hb dL_law_1396 (by decide) ?_
      have h := Option.some.inj h
      subst h
      exact hk_q3 _ _ _ hG hS (lv_sub hl [0, 1, 2, 3, 4, 5, 6, 7, 8, 9, 10, 11, 12, 13, 14, 15, 16, 17, 18, 19, 20, 21] rfl)
  clear h
  have h := h9
  clear h9
  refine lv_if_ne (tgt := 1386) hx hb dL_law_1379 (by decide) (fun c2 => ?_) (fun c2 => ?_)
  · have h := ite_f h c2
    refine lv_iconst (v := (0 : Int32)) hx hb dL_law_1386 (by decide) ?_
    have h := Option.some.inj h
    subst h
    exact hk_q1 _ _ _ hG hS (lv_sub hl [0, 1, 2, 3, 4, 5, 6, 7, 8, 9, 10, 11, 12, 13, 14, 15, 16, 17, 18, 19, 20, 21] rfl)
  · have h := ite_t h c2
    refine lv_iconst (v := (1 : Int32)) hx hb dL_law_1382 (by decide) ?_
    refine lv_goto (tgt := 1387) hx hb dL_law_1383 (by decide) ?_
    have h := Option.some.inj h
    subst h
    exact hk_q1 _ _ _ hG hS (lv_sub hl [0, 1, 2, 3, 4, 5, 6, 7, 8, 9, 10, 11, 12, 13, 14, 15, 16, 17, 18, 19, 20, 21] rfl)
def XC_1288 (tI : xTab) (P Dr : Nat) (B67 : Int32 → Int32 → Int32 → Int64 → Int32 → xMem → xLon → Option Int32) (x4 : Int32) (x5 : Int32) (x6 : Int32) (x7 : Int64) (x9 : Int32) (x10 : Int32) (x11 : Int32) (x12 : Int32) (x13 : Int32) (x14 : Int32) (x15 : Int32) (x17 : Int32) (I : xMem) (L : xLon) : Option Int32 := (L_low (x10 >>> ((5 : Int32) &&& 31)) ((1 : Int32) <<< (x4 &&& 31))).bind fun v1 => (X4_up P I v1).bind fun q2 => (X4_down P q2.2 v1).bind fun q3 => (X4_ever P q3.2).bind fun q4 => if q2.1 < (-9 : Int32) then (some (0 : Int32)) else (if q3.1 < (-9 : Int32) then (some (0 : Int32)) else ((if q2.1 = (0 : Int32) then (some (1 : Int32)) else (some (0 : Int32))).bind fun q7 => (if (v1 &&& (x13 ^^^ (-1 : Int32))) = (0 : Int32) then (some (1 : Int32)) else (some (0 : Int32))).bind fun q9 => if q7 = q9 then (XC_1377 tI P Dr B67 x4 x5 x6 x7 x9 x10 x11 x12 x13 x14 x15 x17 v1 q2.1 (X4_asked q2.2) q3.1 (X4_asked q3.2) q4.1 q4.2 L) else (some (0 : Int32))))
set_option maxHeartbeats 4000000 in
set_option maxRecDepth 100000 in
theorem kc_1288 (C0 : LC p l e s m args below meth c Q D cy ad tI) {P Dr : Nat} (hX : cOk ad P Dr) {B67 : Int32 → Int32 → Int32 → Int64 → Int32 → xMem → xLon → Option Int32} (hB67 : ∀ (y4 : Int32) (y5 : Int32) (y6 : Int32) (y7 : Int64) (y9 : Int32) (I : xMem) (L : xLon) (H : Heap) (locs : List Loc) (ls : Array Slot), B67 y4 y5 y6 y7 y9 I L = some 1 → cG D cy ad P Dr I L H → va_S (fun q : Nat => s.heap.size ≤ q) s.heap H locs → lv_has ls 43 [(0, .ref tI.2.1), (1, .ref (ad 0)), (2, .ref (ad 62)), (3, .ref (ad 63)), (4, .int y4), (5, .int y5), (6, .int y6), (7, .long y7), (9, .int y9)] → W p l e room_1 s m args below meth c H locs 600000 7302250 Q (F0 m 67 ls [])) (x4 : Int32) (x5 : Int32) (x6 : Int32) (x7 : Int64) (x9 : Int32) (x10 : Int32) (x11 : Int32) (x12 : Int32) (x13 : Int32) (x14 : Int32) (x15 : Int32) (x17 : Int32) (I : xMem) (L : xLon) (H : Heap) (locs : List Loc) (ls : Array Slot) (h : XC_1288 tI P Dr B67 x4 x5 x6 x7 x9 x10 x11 x12 x13 x14 x15 x17 I L = some 1) : cG D cy ad P Dr I L H → va_S (fun q : Nat => s.heap.size ≤ q) s.heap H locs → lv_has ls 43 [(0, .ref tI.2.1), (1, .ref (ad 0)), (2, .ref (ad 62)), (3, .ref (ad 63)), (4, .int x4), (5, .int x5), (6, .int x6), (7, .long x7), (9, .int x9), (10, .int x10), (11, .int x11), (12, .int x12), (13, .int x13), (14, .int x14), (15, .int x15), (17, .int x17)] → W p l e room_1 s m args below meth c H locs 600000 7302250 Q (F0 m 1288 ls []) := by
  obtain ⟨⟨hx, hb, hml, hown, hts⟩, ⟨hK, hZ⟩, hi, hA, kr⟩ := id C0
  intro hG hS hl
  unfold XC_1288 at h
  refine lv_iload hx hb dL_law_1288 (lv_at hl 9 rfl) ?_
  refine lv_iconst (v := (5 : Int32)) hx hb dL_law_1290 (by decide) ?_
  refine lv_ishr hx hb dL_law_1291 ?_
  refine lv_iconst (v := (1 : Int32)) hx hb dL_law_1292 (by decide) ?_
  refine lv_iload hx hb dL_law_1293 (lv_at hl 4 rfl) ?_
  refine lv_ishl hx hb dL_law_1295 ?_
  obtain ⟨v1, ev1, h⟩ := obind h
  refine lw_ci (va_runS (As := [.int (x10 >>> ((5 : Int32) &&& 31)), .int ((1 : Int32) <<< (x4 &&& 31))]) (rest := []) ⟨hx, hb, hml, hown, hts⟩ (k_L_low l D cy ad P Dr tI hX I L (x10 >>> ((5 : Int32) &&& 31)) ((1 : Int32) <<< (x4 &&& 31)) v1 ev1) (va_cwS 2 hts (goodIn_up gL_law_L_low) rfl rfl rfl cd_L_low.2 ⟨Nat.le_of_ble_eq_true rfl, Nat.le_of_ble_eq_true rfl⟩) ⟨g_blind cZm, g_pre cZm hK hG hZ (law_S0 hS)⟩ rfl rfl hl.1 rfl (lv_room (Nat.le_of_ble_eq_true rfl)) dL_law_1296 ⟨Nat.le_of_ble_eq_true rfl, Nat.le_of_ble_eq_true rfl⟩) hS hA (fun H locs hG hS => ?_)
  refine lv_istore (lv' := [(23, .int v1), (0, .ref tI.2.1), (1, .ref (ad 0)), (2, .ref (ad 62)), (3, .ref (ad 63)), (4, .int x4), (5, .int x5), (6, .int x6), (7, .long x7), (9, .int x9), (10, .int x10), (11, .int x11), (12, .int x12), (13, .int x13), (14, .int x14), (15, .int x15), (17, .int x17)]) hx hb dL_law_1299 hl (by decide) rfl (fun ls hl => ?_)
  refine lv_aload_n hx hb dL_law_1301 rfl (lv_at hl 2 rfl) ?_
  refine lv_iload hx hb dL_law_1302 (lv_at hl 0 rfl) ?_
  obtain ⟨q2, eq2, h⟩ := obind h
  refine lw_ci (va_runV (As := [.int v1]) (rest := []) ⟨hx, hb, hml, hown, hts⟩ (k_X4_up l D cy ad P Dr tI hX I L v1 q2 eq2) (cwV 1 hts (goodIn_up gL_law_X4_up) rfl rfl rfl cd_X4_up ⟨Nat.le_of_ble_eq_true rfl, Nat.le_of_ble_eq_true rfl⟩) ⟨g_blind cZm, g_recv hK hG (k := 0) (by decide) (cE_4 _ _) vwCl_4, g_pre cZm hK hG hZ (law_S0 hS)⟩ rfl rfl hl.1 rfl (lv_room (Nat.le_of_ble_eq_true rfl)) dL_law_1304 ⟨Nat.le_of_ble_eq_true rfl, Nat.le_of_ble_eq_true rfl⟩) hS hA (fun H locs hG hS => ?_)
  refine lv_istore (lv' := [(24, .int q2.1), (23, .int v1), (0, .ref tI.2.1), (1, .ref (ad 0)), (2, .ref (ad 62)), (3, .ref (ad 63)), (4, .int x4), (5, .int x5), (6, .int x6), (7, .long x7), (9, .int x9), (10, .int x10), (11, .int x11), (12, .int x12), (13, .int x13), (14, .int x14), (15, .int x15), (17, .int x17)]) hx hb dL_law_1307 hl (by decide) rfl (fun ls hl => ?_)
  refine lv_aload_n hx hb dL_law_1309 rfl (lv_at hl 3 rfl) ?_
  refine lw_ci (va_runV (As := []) (rest := []) ⟨hx, hb, hml, hown, hts⟩ (k_X4_asked l D cy ad P Dr tI hX q2.2 L _ rfl) (cwV 0 hts (goodIn_up gL_law_X4_asked) rfl rfl rfl cd_X4_asked ⟨Nat.le_of_ble_eq_true rfl, Nat.le_of_ble_eq_true rfl⟩) ⟨g_blind cZm, g_recv hK hG (k := 0) (by decide) (cE_4 _ _) vwCl_4, g_pre cZm hK hG hZ (law_S0 hS)⟩ rfl rfl hl.1 rfl (lv_room (Nat.le_of_ble_eq_true rfl)) dL_law_1310 ⟨Nat.le_of_ble_eq_true rfl, Nat.le_of_ble_eq_true rfl⟩) hS hA (fun H locs hG hS => ?_)
  refine lv_istore (lv' := [(25, .int (X4_asked q2.2)), (24, .int q2.1), (23, .int v1), (0, .ref tI.2.1), (1, .ref (ad 0)), (2, .ref (ad 62)), (3, .ref (ad 63)), (4, .int x4), (5, .int x5), (6, .int x6), (7, .long x7), (9, .int x9), (10, .int x10), (11, .int x11), (12, .int x12), (13, .int x13), (14, .int x14), (15, .int x15), (17, .int x17)]) hx hb dL_law_1313 hl (by decide) rfl (fun ls hl => ?_)
  refine lv_aload_n hx hb dL_law_1315 rfl (lv_at hl 4 rfl) ?_
  refine lv_iload hx hb dL_law_1316 (lv_at hl 2 rfl) ?_
  obtain ⟨q3, eq3, h⟩ := obind h
  refine lw_ci (va_runV (As := [.int v1]) (rest := []) ⟨hx, hb, hml, hown, hts⟩ (k_X4_down l D cy ad P Dr tI hX q2.2 L v1 q3 eq3) (cwV 1 hts (goodIn_up gL_law_X4_down) rfl rfl rfl cd_X4_down ⟨Nat.le_of_ble_eq_true rfl, Nat.le_of_ble_eq_true rfl⟩) ⟨g_blind cZm, g_recv hK hG (k := 0) (by decide) (cE_4 _ _) vwCl_4, g_pre cZm hK hG hZ (law_S0 hS)⟩ rfl rfl hl.1 rfl (lv_room (Nat.le_of_ble_eq_true rfl)) dL_law_1318 ⟨Nat.le_of_ble_eq_true rfl, Nat.le_of_ble_eq_true rfl⟩) hS hA (fun H locs hG hS => ?_)
  refine lv_istore (lv' := [(26, .int q3.1), (25, .int (X4_asked q2.2)), (24, .int q2.1), (23, .int v1), (0, .ref tI.2.1), (1, .ref (ad 0)), (2, .ref (ad 62)), (3, .ref (ad 63)), (4, .int x4), (5, .int x5), (6, .int x6), (7, .long x7), (9, .int x9), (10, .int x10), (11, .int x11), (12, .int x12), (13, .int x13), (14, .int x14), (15, .int x15), (17, .int x17)]) hx hb dL_law_1321 hl (by decide) rfl (fun ls hl => ?_)
  refine lv_aload_n hx hb dL_law_1323 rfl (lv_at hl 5 rfl) ?_
  refine lw_ci (va_runV (As := []) (rest := []) ⟨hx, hb, hml, hown, hts⟩ (k_X4_asked l D cy ad P Dr tI hX q3.2 L _ rfl) (cwV 0 hts (goodIn_up gL_law_X4_asked) rfl rfl rfl cd_X4_asked ⟨Nat.le_of_ble_eq_true rfl, Nat.le_of_ble_eq_true rfl⟩) ⟨g_blind cZm, g_recv hK hG (k := 0) (by decide) (cE_4 _ _) vwCl_4, g_pre cZm hK hG hZ (law_S0 hS)⟩ rfl rfl hl.1 rfl (lv_room (Nat.le_of_ble_eq_true rfl)) dL_law_1324 ⟨Nat.le_of_ble_eq_true rfl, Nat.le_of_ble_eq_true rfl⟩) hS hA (fun H locs hG hS => ?_)
  refine lv_istore (lv' := [(27, .int (X4_asked q3.2)), (26, .int q3.1), (25, .int (X4_asked q2.2)), (24, .int q2.1), (23, .int v1), (0, .ref tI.2.1), (1, .ref (ad 0)), (2, .ref (ad 62)), (3, .ref (ad 63)), (4, .int x4), (5, .int x5), (6, .int x6), (7, .long x7), (9, .int x9), (10, .int x10), (11, .int x11), (12, .int x12), (13, .int x13), (14, .int x14), (15, .int x15), (17, .int x17)]) hx hb dL_law_1327 hl (by decide) rfl (fun ls hl => ?_)
  refine lv_aload_n hx hb dL_law_1329 rfl (lv_at hl 6 rfl) ?_
  obtain ⟨q4, eq4, h⟩ := obind h
  refine lw_ci (va_runV (As := []) (rest := []) ⟨hx, hb, hml, hown, hts⟩ (k_X4_ever l D cy ad P Dr tI hX q3.2 L q4 eq4) (cwV 0 hts (goodIn_up gL_law_X4_ever) rfl rfl rfl cd_X4_ever ⟨Nat.le_of_ble_eq_true rfl, Nat.le_of_ble_eq_true rfl⟩) ⟨g_blind cZm, g_recv hK hG (k := 0) (by decide) (cE_4 _ _) vwCl_4, g_pre cZm hK hG hZ (law_S0 hS)⟩ rfl rfl hl.1 rfl (lv_room (Nat.le_of_ble_eq_true rfl)) dL_law_1330 ⟨Nat.le_of_ble_eq_true rfl, Nat.le_of_ble_eq_true rfl⟩) hS hA (fun H locs hG hS => ?_)
  refine lv_istore (lv' := [(28, .int q4.1), (27, .int (X4_asked q3.2)), (26, .int q3.1), (25, .int (X4_asked q2.2)), (24, .int q2.1), (23, .int v1), (0, .ref tI.2.1), (1, .ref (ad 0)), (2, .ref (ad 62)), (3, .ref (ad 63)), (4, .int x4), (5, .int x5), (6, .int x6), (7, .long x7), (9, .int x9), (10, .int x10), (11, .int x11), (12, .int x12), (13, .int x13), (14, .int x14), (15, .int x15), (17, .int x17)]) hx hb dL_law_1333 hl (by decide) rfl (fun ls hl => ?_)
  refine lv_iload hx hb dL_law_1335 (lv_at hl 4 rfl) ?_
  refine lv_bipush (v := (-9 : Int32)) hx hb dL_law_1337 (by decide) ?_
  refine lv_icmp_lt (tgt := 1514) hx hb dL_law_1339 (by decide) (fun c5 => ?_) (fun c5 => ?_)
  · have h := ite_t h c5
    refine lv_iconst (v := (0 : Int32)) hx hb dL_law_1514 (by decide) ?_
    have h := Option.some.inj h
    exact absurd h (by decide)
  · have h := ite_f h c5
    refine lv_iload hx hb dL_law_1342 (lv_at hl 2 rfl) ?_
    refine lv_bipush (v := (-9 : Int32)) hx hb dL_law_1344 (by decide) ?_
    refine lv_icmp_lt (tgt := 1514) hx hb dL_law_1346 (by decide) (fun c6 => ?_) (fun c6 => ?_)
    · have h := ite_t h c6
      refine lv_iconst (v := (0 : Int32)) hx hb dL_law_1514 (by decide) ?_
      have h := Option.some.inj h
      exact absurd h (by decide)
    · have h := ite_f h c6
      refine lv_iload hx hb dL_law_1349 (lv_at hl 4 rfl) ?_
      obtain ⟨q7, h9, h⟩ := obind h
      have hk_q7 : ∀ (H : Heap) (locs : List Loc) (ls : Array Slot), cG D cy ad P Dr q4.2 L H → va_S (fun q : Nat => s.heap.size ≤ q) s.heap H locs → lv_has ls 43 [(0, .ref tI.2.1), (1, .ref (ad 0)), (2, .ref (ad 62)), (3, .ref (ad 63)), (4, .int x4), (5, .int x5), (6, .int x6), (7, .long x7), (9, .int x9), (10, .int x10), (11, .int x11), (12, .int x12), (13, .int x13), (14, .int x14), (15, .int x15), (17, .int x17), (23, .int v1), (24, .int q2.1), (25, .int (X4_asked q2.2)), (26, .int q3.1), (27, .int (X4_asked q3.2)), (28, .int q4.1)] → W p l e room_1 s m args below meth c H locs 600000 7302250 Q (F0 m 1359 ls [.int q7]) := by
        intro H locs ls hG hS hl
        refine lv_iload hx hb dL_law_1359 (lv_at hl 16 rfl) ?_
        refine lv_iload hx hb dL_law_1361 (lv_at hl 12 rfl) ?_
        refine lv_iconst (v := (-1 : Int32)) hx hb dL_law_1363 (by decide) ?_
        refine lv_ixor hx hb dL_law_1364 ?_
        refine lv_iand hx hb dL_law_1365 ?_
        obtain ⟨q9, h9, h⟩ := obind h
        have hk_q9 : ∀ (H : Heap) (locs : List Loc) (ls : Array Slot), cG D cy ad P Dr q4.2 L H → va_S (fun q : Nat => s.heap.size ≤ q) s.heap H locs → lv_has ls 43 [(0, .ref tI.2.1), (1, .ref (ad 0)), (2, .ref (ad 62)), (3, .ref (ad 63)), (4, .int x4), (5, .int x5), (6, .int x6), (7, .long x7), (9, .int x9), (10, .int x10), (11, .int x11), (12, .int x12), (13, .int x13), (14, .int x14), (15, .int x15), (17, .int x17), (23, .int v1), (24, .int q2.1), (25, .int (X4_asked q2.2)), (26, .int q3.1), (27, .int (X4_asked q3.2)), (28, .int q4.1)] → W p l e room_1 s m args below meth c H locs 600000 7302250 Q (F0 m 1374 ls [.int q9, .int q7]) := by
          intro H locs ls hG hS hl
          refine lv_icmp_ne (tgt := 1514) hx hb dL_law_1374 (by decide) (fun c11 => ?_) (fun c11 => ?_)
          · have h := ite_f h c11
            refine lv_iconst (v := (0 : Int32)) hx hb dL_law_1514 (by decide) ?_
            have h := Option.some.inj h
            exact absurd h (by decide)
          · have h := ite_t h c11
            exact kc_1377 C0 hX hB67 _ _ _ _ _ _ _ _ _ _ _ _ _ _ _ _ _ _ _ _ _ _ _ h hG hS (lv_sub hl [0, 1, 2, 3, 4, 5, 6, 7, 8, 9, 10, 11, 12, 13, 14, 15, 16, 17, 18, 19, 20, 21] rfl)
        clear h
        have h := h9
        clear h9
        refine lv_if_ne (tgt := 1373) hx hb dL_law_1366 (by decide) (fun c10 => ?_) (fun c10 => ?_)
        · have h := ite_f h c10
          refine lv_iconst (v := (0 : Int32)) hx hb dL_law_1373 (by decide) ?_
          have h := Option.some.inj h
          subst h
          exact hk_q9 _ _ _ hG hS (lv_sub hl [0, 1, 2, 3, 4, 5, 6, 7, 8, 9, 10, 11, 12, 13, 14, 15, 16, 17, 18, 19, 20, 21] rfl)
        · have h := ite_t h c10
          refine lv_iconst (v := (1 : Int32)) hx hb dL_law_1369 (by decide) ?_
          refine lv_goto (tgt := 1374) hx hb dL_law_1370 (by decide) ?_
          have h := Option.some.inj h
          subst h
          exact hk_q9 _ _ _ hG hS (lv_sub hl [0, 1, 2, 3, 4, 5, 6, 7, 8, 9, 10, 11, 12, 13, 14, 15, 16, 17, 18, 19, 20, 21] rfl)
      clear h
      have h := h9
      clear h9
      refine lv_if_ne (tgt := 1358) hx hb dL_law_1351 (by decide) (fun c8 => ?_) (fun c8 => ?_)
      · have h := ite_f h c8
        refine lv_iconst (v := (0 : Int32)) hx hb dL_law_1358 (by decide) ?_
        have h := Option.some.inj h
        subst h
        exact hk_q7 _ _ _ hG hS (lv_sub hl [6, 7, 8, 9, 10, 11, 12, 13, 14, 15, 16, 17, 18, 19, 20, 21, 5, 4, 3, 2, 1, 0] rfl)
      · have h := ite_t h c8
        refine lv_iconst (v := (1 : Int32)) hx hb dL_law_1354 (by decide) ?_
        refine lv_goto (tgt := 1359) hx hb dL_law_1355 (by decide) ?_
        have h := Option.some.inj h
        subst h
        exact hk_q7 _ _ _ hG hS (lv_sub hl [6, 7, 8, 9, 10, 11, 12, 13, 14, 15, 16, 17, 18, 19, 20, 21, 5, 4, 3, 2, 1, 0] rfl)
def XC_1233 (tI : xTab) (P Dr : Nat) (B67 : Int32 → Int32 → Int32 → Int64 → Int32 → xMem → xLon → Option Int32) (x4 : Int32) (x5 : Int32) (x6 : Int32) (x7 : Int64) (x9 : Int32) (x10 : Int32) (x11 : Int32) (x12 : Int32) (x13 : Int32) (x14 : Int32) (x15 : Int32) (x17 : Int32) (I : xMem) (L : xLon) : Option Int32 := (X4_worth P I).bind fun q1 => (rdI q1.2 62 19 (1 : Int32)).bind fun v2 => if v2 = (0 : Int32) then (if q1.1 = (-9 : Int32) then (XC_1288 tI P Dr B67 x4 x5 x6 x7 x9 x10 x11 x12 x13 x14 x15 x17 q1.2 L) else (some (0 : Int32))) else (if q1.1 < (0 : Int32) then (some (0 : Int32)) else ((rdI q1.2 62 19 (1 : Int32)).bind fun v5 => if v5 ≤ q1.1 then (some (0 : Int32)) else (if (X4_asked q1.2) < (0 : Int32) then (some (0 : Int32)) else (if (X4_asked q1.2) ≤ x17 then (XC_1288 tI P Dr B67 x4 x5 x6 x7 x9 x10 x11 x12 x13 x14 x15 x17 q1.2 L) else (some (0 : Int32))))))
set_option maxHeartbeats 4000000 in
set_option maxRecDepth 100000 in
theorem kc_1233 (C0 : LC p l e s m args below meth c Q D cy ad tI) {P Dr : Nat} (hX : cOk ad P Dr) {B67 : Int32 → Int32 → Int32 → Int64 → Int32 → xMem → xLon → Option Int32} (hB67 : ∀ (y4 : Int32) (y5 : Int32) (y6 : Int32) (y7 : Int64) (y9 : Int32) (I : xMem) (L : xLon) (H : Heap) (locs : List Loc) (ls : Array Slot), B67 y4 y5 y6 y7 y9 I L = some 1 → cG D cy ad P Dr I L H → va_S (fun q : Nat => s.heap.size ≤ q) s.heap H locs → lv_has ls 43 [(0, .ref tI.2.1), (1, .ref (ad 0)), (2, .ref (ad 62)), (3, .ref (ad 63)), (4, .int y4), (5, .int y5), (6, .int y6), (7, .long y7), (9, .int y9)] → W p l e room_1 s m args below meth c H locs 600000 7302250 Q (F0 m 67 ls [])) (x4 : Int32) (x5 : Int32) (x6 : Int32) (x7 : Int64) (x9 : Int32) (x10 : Int32) (x11 : Int32) (x12 : Int32) (x13 : Int32) (x14 : Int32) (x15 : Int32) (x17 : Int32) (I : xMem) (L : xLon) (H : Heap) (locs : List Loc) (ls : Array Slot) (h : XC_1233 tI P Dr B67 x4 x5 x6 x7 x9 x10 x11 x12 x13 x14 x15 x17 I L = some 1) : cG D cy ad P Dr I L H → va_S (fun q : Nat => s.heap.size ≤ q) s.heap H locs → lv_has ls 43 [(0, .ref tI.2.1), (1, .ref (ad 0)), (2, .ref (ad 62)), (3, .ref (ad 63)), (4, .int x4), (5, .int x5), (6, .int x6), (7, .long x7), (9, .int x9), (10, .int x10), (11, .int x11), (12, .int x12), (13, .int x13), (14, .int x14), (15, .int x15), (17, .int x17)] → W p l e room_1 s m args below meth c H locs 600000 7302250 Q (F0 m 1233 ls []) := by
  obtain ⟨⟨hx, hb, hml, hown, hts⟩, ⟨hK, hZ⟩, hi, hA, kr⟩ := id C0
  intro hG hS hl
  unfold XC_1233 at h
  refine lv_aload_n hx hb dL_law_1233 rfl (lv_at hl 1 rfl) ?_
  obtain ⟨q1, eq1, h⟩ := obind h
  refine lw_ci (va_runV (As := []) (rest := []) ⟨hx, hb, hml, hown, hts⟩ (k_X4_worth l D cy ad P Dr tI hX I L q1 eq1) (cwV 0 hts (goodIn_up gL_law_X4_worth) rfl rfl rfl cd_X4_worth ⟨Nat.le_of_ble_eq_true rfl, Nat.le_of_ble_eq_true rfl⟩) ⟨g_blind cZm, g_recv hK hG (k := 0) (by decide) (cE_4 _ _) vwCl_4, g_pre cZm hK hG hZ (law_S0 hS)⟩ rfl rfl hl.1 rfl (lv_room (Nat.le_of_ble_eq_true rfl)) dL_law_1234 ⟨Nat.le_of_ble_eq_true rfl, Nat.le_of_ble_eq_true rfl⟩) hS hA (fun H locs hG hS => ?_)
  refine lv_istore (lv' := [(21, .int q1.1), (0, .ref tI.2.1), (1, .ref (ad 0)), (2, .ref (ad 62)), (3, .ref (ad 63)), (4, .int x4), (5, .int x5), (6, .int x6), (7, .long x7), (9, .int x9), (10, .int x10), (11, .int x11), (12, .int x12), (13, .int x13), (14, .int x14), (15, .int x15), (17, .int x17)]) hx hb dL_law_1237 hl (by decide) rfl (fun ls hl => ?_)
  refine lv_aload_n hx hb dL_law_1239 rfl (lv_at hl 2 rfl) ?_
  refine lw_ci (va_runV (As := []) (rest := []) ⟨hx, hb, hml, hown, hts⟩ (k_X4_asked l D cy ad P Dr tI hX q1.2 L _ rfl) (cwV 0 hts (goodIn_up gL_law_X4_asked) rfl rfl rfl cd_X4_asked ⟨Nat.le_of_ble_eq_true rfl, Nat.le_of_ble_eq_true rfl⟩) ⟨g_blind cZm, g_recv hK hG (k := 0) (by decide) (cE_4 _ _) vwCl_4, g_pre cZm hK hG hZ (law_S0 hS)⟩ rfl rfl hl.1 rfl (lv_room (Nat.le_of_ble_eq_true rfl)) dL_law_1240 ⟨Nat.le_of_ble_eq_true rfl, Nat.le_of_ble_eq_true rfl⟩) hS hA (fun H locs hG hS => ?_)
  refine lv_istore (lv' := [(22, .int (X4_asked q1.2)), (21, .int q1.1), (0, .ref tI.2.1), (1, .ref (ad 0)), (2, .ref (ad 62)), (3, .ref (ad 63)), (4, .int x4), (5, .int x5), (6, .int x6), (7, .long x7), (9, .int x9), (10, .int x10), (11, .int x11), (12, .int x12), (13, .int x13), (14, .int x14), (15, .int x15), (17, .int x17)]) hx hb dL_law_1243 hl (by decide) rfl (fun ls hl => ?_)
  refine lv_aload_n hx hb dL_law_1245 rfl (lv_at hl 4 rfl) ?_
  refine lv_iconst (v := (1 : Int32)) hx hb dL_law_1246 (by decide) ?_
  refine g_ald hx hb hK hG (k := 62) (n := 19) (show cIA 62 19 from by decide +kernel).1.1 (cIA_e (show cIA 62 19 from by decide +kernel) _ _) 0 rfl h dL_law_1247 (fun v2 h => ?_)
  refine lv_if_ne (tgt := 1261) hx hb dL_law_1248 (by decide) (fun c3 => ?_) (fun c3 => ?_)
  · have h := ite_f h c3
    refine lv_iload hx hb dL_law_1261 (lv_at hl 1 rfl) ?_
    refine lv_if_lt (tgt := 1286) hx hb dL_law_1263 (by decide) (fun c4 => ?_) (fun c4 => ?_)
    · have h := ite_t h c4
      refine lv_iconst (v := (0 : Int32)) hx hb dL_law_1286 (by decide) ?_
      have h := Option.some.inj h
      exact absurd h (by decide)
    · have h := ite_f h c4
      refine lv_iload hx hb dL_law_1266 (lv_at hl 1 rfl) ?_
      refine lv_aload_n hx hb dL_law_1268 rfl (lv_at hl 4 rfl) ?_
      refine lv_iconst (v := (1 : Int32)) hx hb dL_law_1269 (by decide) ?_
      refine g_ald hx hb hK hG (k := 62) (n := 19) (show cIA 62 19 from by decide +kernel).1.1 (cIA_e (show cIA 62 19 from by decide +kernel) _ _) 0 rfl h dL_law_1270 (fun v5 h => ?_)
      refine lv_icmp_ge (tgt := 1286) hx hb dL_law_1271 (by decide) (fun c6 => ?_) (fun c6 => ?_)
      · have h := ite_t h c6
        refine lv_iconst (v := (0 : Int32)) hx hb dL_law_1286 (by decide) ?_
        have h := Option.some.inj h
        exact absurd h (by decide)
      · have h := ite_f h c6
        refine lv_iload hx hb dL_law_1274 (lv_at hl 0 rfl) ?_
        refine lv_if_lt (tgt := 1286) hx hb dL_law_1276 (by decide) (fun c7 => ?_) (fun c7 => ?_)
        · have h := ite_t h c7
          refine lv_iconst (v := (0 : Int32)) hx hb dL_law_1286 (by decide) ?_
          have h := Option.some.inj h
          exact absurd h (by decide)
        · have h := ite_f h c7
          refine lv_iload hx hb dL_law_1279 (lv_at hl 0 rfl) ?_
          refine lv_iload hx hb dL_law_1281 (lv_at hl 17 rfl) ?_
          refine lv_icmp_le (tgt := 1288) hx hb dL_law_1283 (by decide) (fun c8 => ?_) (fun c8 => ?_)
          · have h := ite_t h c8
            exact kc_1288 C0 hX hB67 _ _ _ _ _ _ _ _ _ _ _ _ _ _ _ _ _ h hG hS (lv_sub hl [2, 3, 4, 5, 6, 7, 8, 9, 10, 11, 12, 13, 14, 15, 16, 17] rfl)
          · have h := ite_f h c8
            refine lv_iconst (v := (0 : Int32)) hx hb dL_law_1286 (by decide) ?_
            have h := Option.some.inj h
            exact absurd h (by decide)
  · have h := ite_t h c3
    refine lv_iload hx hb dL_law_1251 (lv_at hl 1 rfl) ?_
    refine lv_bipush (v := (-9 : Int32)) hx hb dL_law_1253 (by decide) ?_
    refine lv_icmp_eq (tgt := 1288) hx hb dL_law_1255 (by decide) (fun c9 => ?_) (fun c9 => ?_)
    · have h := ite_t h c9
      exact kc_1288 C0 hX hB67 _ _ _ _ _ _ _ _ _ _ _ _ _ _ _ _ _ h hG hS (lv_sub hl [2, 3, 4, 5, 6, 7, 8, 9, 10, 11, 12, 13, 14, 15, 16, 17] rfl)
    · have h := ite_f h c9
      refine lv_goto (tgt := 1286) hx hb dL_law_1258 (by decide) ?_
      refine lv_iconst (v := (0 : Int32)) hx hb dL_law_1286 (by decide) ?_
      have h := Option.some.inj h
      exact absurd h (by decide)
def XC_1227 (tI : xTab) (P Dr : Nat) (B67 : Int32 → Int32 → Int32 → Int64 → Int32 → xMem → xLon → Option Int32) (B1194 : Int32 → Int32 → Int32 → Int64 → Int32 → Int32 → Int32 → Int32 → Int32 → Int32 → Int32 → Int32 → Int32 → Int32 → xMem → xLon → Option Int32) (x4 : Int32) (x5 : Int32) (x6 : Int32) (x7 : Int64) (x9 : Int32) (x10 : Int32) (x11 : Int32) (x12 : Int32) (x13 : Int32) (x14 : Int32) (x15 : Int32) (x17 : Int32) (x20 : Int32) (x21 : Int32) (I : xMem) (L : xLon) : Option Int32 := B1194 x4 x5 x6 x7 x9 x10 x11 x12 x13 x14 x15 x17 x20 (x21 + (1 : Int32)) I L
set_option maxHeartbeats 4000000 in
set_option maxRecDepth 100000 in
theorem kc_1227 (C0 : LC p l e s m args below meth c Q D cy ad tI) {P Dr : Nat} (hX : cOk ad P Dr) {B67 : Int32 → Int32 → Int32 → Int64 → Int32 → xMem → xLon → Option Int32} {B1194 : Int32 → Int32 → Int32 → Int64 → Int32 → Int32 → Int32 → Int32 → Int32 → Int32 → Int32 → Int32 → Int32 → Int32 → xMem → xLon → Option Int32} (hB67 : ∀ (y4 : Int32) (y5 : Int32) (y6 : Int32) (y7 : Int64) (y9 : Int32) (I : xMem) (L : xLon) (H : Heap) (locs : List Loc) (ls : Array Slot), B67 y4 y5 y6 y7 y9 I L = some 1 → cG D cy ad P Dr I L H → va_S (fun q : Nat => s.heap.size ≤ q) s.heap H locs → lv_has ls 43 [(0, .ref tI.2.1), (1, .ref (ad 0)), (2, .ref (ad 62)), (3, .ref (ad 63)), (4, .int y4), (5, .int y5), (6, .int y6), (7, .long y7), (9, .int y9)] → W p l e room_1 s m args below meth c H locs 600000 7302250 Q (F0 m 67 ls [])) (hB1194 : ∀ (y4 : Int32) (y5 : Int32) (y6 : Int32) (y7 : Int64) (y9 : Int32) (y10 : Int32) (y11 : Int32) (y12 : Int32) (y13 : Int32) (y14 : Int32) (y15 : Int32) (y17 : Int32) (y20 : Int32) (y21 : Int32) (I : xMem) (L : xLon) (H : Heap) (locs : List Loc) (ls : Array Slot), B1194 y4 y5 y6 y7 y9 y10 y11 y12 y13 y14 y15 y17 y20 y21 I L = some 1 → cG D cy ad P Dr I L H → va_S (fun q : Nat => s.heap.size ≤ q) s.heap H locs → lv_has ls 43 [(0, .ref tI.2.1), (1, .ref (ad 0)), (2, .ref (ad 62)), (3, .ref (ad 63)), (4, .int y4), (5, .int y5), (6, .int y6), (7, .long y7), (9, .int y9), (10, .int y10), (11, .int y11), (12, .int y12), (13, .int y13), (14, .int y14), (15, .int y15), (17, .int y17), (20, .int y20), (21, .int y21)] → W p l e room_1 s m args below meth c H locs 600000 7302250 Q (F0 m 1194 ls [])) (x4 : Int32) (x5 : Int32) (x6 : Int32) (x7 : Int64) (x9 : Int32) (x10 : Int32) (x11 : Int32) (x12 : Int32) (x13 : Int32) (x14 : Int32) (x15 : Int32) (x17 : Int32) (x20 : Int32) (x21 : Int32) (I : xMem) (L : xLon) (H : Heap) (locs : List Loc) (ls : Array Slot) (h : XC_1227 tI P Dr B67 B1194 x4 x5 x6 x7 x9 x10 x11 x12 x13 x14 x15 x17 x20 x21 I L = some 1) : cG D cy ad P Dr I L H → va_S (fun q : Nat => s.heap.size ≤ q) s.heap H locs → lv_has ls 43 [(0, .ref tI.2.1), (1, .ref (ad 0)), (2, .ref (ad 62)), (3, .ref (ad 63)), (4, .int x4), (5, .int x5), (6, .int x6), (7, .long x7), (9, .int x9), (10, .int x10), (11, .int x11), (12, .int x12), (13, .int x13), (14, .int x14), (15, .int x15), (17, .int x17), (20, .int x20), (21, .int x21)] → W p l e room_1 s m args below meth c H locs 600000 7302250 Q (F0 m 1227 ls []) := by
  obtain ⟨⟨hx, hb, hml, hown, hts⟩, ⟨hK, hZ⟩, hi, hA, kr⟩ := id C0
  intro hG hS hl
  unfold XC_1227 at h
  refine lv_iinc (v := (x21 + (1 : Int32))) (lv' := [(21, .int (x21 + (1 : Int32))), (0, .ref tI.2.1), (1, .ref (ad 0)), (2, .ref (ad 62)), (3, .ref (ad 63)), (4, .int x4), (5, .int x5), (6, .int x6), (7, .long x7), (9, .int x9), (10, .int x10), (11, .int x11), (12, .int x12), (13, .int x13), (14, .int x14), (15, .int x15), (17, .int x17), (20, .int x20)]) hx hb dL_law_1227 hl (k := 17) rfl rfl (by decide) rfl (fun ls hl => ?_)
  refine lv_goto (tgt := 1194) hx hb dL_law_1230 (by decide) ?_
  exact hB1194 _ _ _ _ _ _ _ _ _ _ _ _ _ _ _ _ _ _ _ h hG hS (lv_sub hl [1, 2, 3, 4, 5, 6, 7, 8, 9, 10, 11, 12, 13, 14, 15, 16, 17, 0] rfl)
def XC_1194 (tI : xTab) (P Dr : Nat) (B67 : Int32 → Int32 → Int32 → Int64 → Int32 → xMem → xLon → Option Int32) : Nat → Int32 → Int32 → Int32 → Int64 → Int32 → Int32 → Int32 → Int32 → Int32 → Int32 → Int32 → Int32 → Int32 → Int32 → xMem → xLon → Option Int32
  | 0, _, _, _, _, _, _, _, _, _, _, _, _, _, _, _, _ => none
  | n + 1, x4, x5, x6, x7, x9, x10, x11, x12, x13, x14, x15, x17, x20, x21, I, L => if x4 ≤ x21 then (XC_1233 tI P Dr B67 x4 x5 x6 x7 x9 x10 x11 x12 x13 x14 x15 x17 I L) else (if ((x20 >>> (x21 &&& 31)) &&& (1 : Int32)) = (1 : Int32) then ((L_told P I x21 (4 : Int32)).bind fun q3 => if (q3.1 &&& x20) = (0 : Int32) then (some (0 : Int32)) else (XC_1227 tI P Dr B67 (XC_1194 tI P Dr B67 n) x4 x5 x6 x7 x9 x10 x11 x12 x13 x14 x15 x17 x20 x21 q3.2 L)) else (XC_1227 tI P Dr B67 (XC_1194 tI P Dr B67 n) x4 x5 x6 x7 x9 x10 x11 x12 x13 x14 x15 x17 x20 x21 I L))
set_option maxHeartbeats 4000000 in
set_option maxRecDepth 100000 in
theorem kc_1194 (C0 : LC p l e s m args below meth c Q D cy ad tI) {P Dr : Nat} (hX : cOk ad P Dr) {B67 : Int32 → Int32 → Int32 → Int64 → Int32 → xMem → xLon → Option Int32} (hB67 : ∀ (y4 : Int32) (y5 : Int32) (y6 : Int32) (y7 : Int64) (y9 : Int32) (I : xMem) (L : xLon) (H : Heap) (locs : List Loc) (ls : Array Slot), B67 y4 y5 y6 y7 y9 I L = some 1 → cG D cy ad P Dr I L H → va_S (fun q : Nat => s.heap.size ≤ q) s.heap H locs → lv_has ls 43 [(0, .ref tI.2.1), (1, .ref (ad 0)), (2, .ref (ad 62)), (3, .ref (ad 63)), (4, .int y4), (5, .int y5), (6, .int y6), (7, .long y7), (9, .int y9)] → W p l e room_1 s m args below meth c H locs 600000 7302250 Q (F0 m 67 ls [])) : ∀ (n : Nat) (x4 : Int32) (x5 : Int32) (x6 : Int32) (x7 : Int64) (x9 : Int32) (x10 : Int32) (x11 : Int32) (x12 : Int32) (x13 : Int32) (x14 : Int32) (x15 : Int32) (x17 : Int32) (x20 : Int32) (x21 : Int32) (I : xMem) (L : xLon) (H : Heap) (locs : List Loc) (ls : Array Slot), XC_1194 tI P Dr B67 n x4 x5 x6 x7 x9 x10 x11 x12 x13 x14 x15 x17 x20 x21 I L = some 1 → cG D cy ad P Dr I L H → va_S (fun q : Nat => s.heap.size ≤ q) s.heap H locs → lv_has ls 43 [(0, .ref tI.2.1), (1, .ref (ad 0)), (2, .ref (ad 62)), (3, .ref (ad 63)), (4, .int x4), (5, .int x5), (6, .int x6), (7, .long x7), (9, .int x9), (10, .int x10), (11, .int x11), (12, .int x12), (13, .int x13), (14, .int x14), (15, .int x15), (17, .int x17), (20, .int x20), (21, .int x21)] → W p l e room_1 s m args below meth c H locs 600000 7302250 Q (F0 m 1194 ls []) := by
  obtain ⟨⟨hx, hb, hml, hown, hts⟩, ⟨hK, hZ⟩, hi, hA, kr⟩ := id C0
  intro n
  induction n with
  | zero =>
    intro x4 x5 x6 x7 x9 x10 x11 x12 x13 x14 x15 x17 x20 x21 I L H locs ls h
    exact ono h
  | succ n ih =>
    intro x4 x5 x6 x7 x9 x10 x11 x12 x13 x14 x15 x17 x20 x21 I L H locs ls h hG hS hl
    rw [XC_1194] at h
    refine lv_iload hx hb dL_law_1194 (lv_at hl 17 rfl) ?_
    refine lv_iload hx hb dL_law_1196 (lv_at hl 4 rfl) ?_
    refine lv_icmp_ge (tgt := 1233) hx hb dL_law_1198 (by decide) (fun c1 => ?_) (fun c1 => ?_)
    · have h := ite_t h c1
      exact kc_1233 C0 hX hB67 _ _ _ _ _ _ _ _ _ _ _ _ _ _ _ _ _ h hG hS (lv_sub hl [0, 1, 2, 3, 4, 5, 6, 7, 8, 9, 10, 11, 12, 13, 14, 15] rfl)
    · have h := ite_f h c1
      refine lv_iload hx hb dL_law_1201 (lv_at hl 16 rfl) ?_
      refine lv_iload hx hb dL_law_1203 (lv_at hl 17 rfl) ?_
      refine lv_ishr hx hb dL_law_1205 ?_
      refine lv_iconst (v := (1 : Int32)) hx hb dL_law_1206 (by decide) ?_
      refine lv_iand hx hb dL_law_1207 ?_
      refine lv_iconst (v := (1 : Int32)) hx hb dL_law_1208 (by decide) ?_
      refine lv_icmp_ne (tgt := 1227) hx hb dL_law_1209 (by decide) (fun c2 => ?_) (fun c2 => ?_)
      · have h := ite_f h c2
        exact kc_1227 C0 hX hB67 ih _ _ _ _ _ _ _ _ _ _ _ _ _ _ _ _ _ _ _ h hG hS (lv_sub hl [0, 1, 2, 3, 4, 5, 6, 7, 8, 9, 10, 11, 12, 13, 14, 15, 16, 17] rfl)
      · have h := ite_t h c2
        refine lv_aload_n hx hb dL_law_1212 rfl (lv_at hl 1 rfl) ?_
        refine lv_iload hx hb dL_law_1213 (lv_at hl 17 rfl) ?_
        refine lv_iconst (v := (4 : Int32)) hx hb dL_law_1215 (by decide) ?_
        obtain ⟨q3, eq3, h⟩ := obind h
        refine lw_ci (va_runS (As := [.ref (ad 0), .int x21, .int (4 : Int32)]) (rest := []) ⟨hx, hb, hml, hown, hts⟩ (k_L_told l D cy ad P Dr tI hX I L x21 (4 : Int32) q3 eq3) (va_cwS 3 hts (goodIn_up gL_law_L_told) rfl rfl rfl cd_L_told.2 ⟨Nat.le_of_ble_eq_true rfl, Nat.le_of_ble_eq_true rfl⟩) ⟨g_blind cZm, g_pre cZm hK hG hZ (law_S0 hS)⟩ rfl rfl hl.1 rfl (lv_room (Nat.le_of_ble_eq_true rfl)) dL_law_1216 ⟨Nat.le_of_ble_eq_true rfl, Nat.le_of_ble_eq_true rfl⟩) hS hA (fun H locs hG hS => ?_)
        refine lv_iload hx hb dL_law_1219 (lv_at hl 16 rfl) ?_
        refine lv_iand hx hb dL_law_1221 ?_
        refine lv_if_ne (tgt := 1227) hx hb dL_law_1222 (by decide) (fun c4 => ?_) (fun c4 => ?_)
        · have h := ite_f h c4
          exact kc_1227 C0 hX hB67 ih _ _ _ _ _ _ _ _ _ _ _ _ _ _ _ _ _ _ _ h hG hS (lv_sub hl [0, 1, 2, 3, 4, 5, 6, 7, 8, 9, 10, 11, 12, 13, 14, 15, 16, 17] rfl)
        · have h := ite_t h c4
          refine lv_iconst (v := (0 : Int32)) hx hb dL_law_1225 (by decide) ?_
          have h := Option.some.inj h
          exact absurd h (by decide)
def XC_1182 (tI : xTab) (P Dr : Nat) (B67 : Int32 → Int32 → Int32 → Int64 → Int32 → xMem → xLon → Option Int32) (x4 : Int32) (x5 : Int32) (x6 : Int32) (x7 : Int64) (x9 : Int32) (x10 : Int32) (x11 : Int32) (x12 : Int32) (x13 : Int32) (x14 : Int32) (x15 : Int32) (x17 : Int32) (x19 : Int32) (x20 : Int32) (I : xMem) (L : xLon) : Option Int32 := if x19 ≤ x17 then (XC_1194 tI P Dr B67 bigF x4 x5 x6 x7 x9 x10 x11 x12 x13 x14 x15 x17 x20 (0 : Int32) I L) else (some (0 : Int32))
set_option maxHeartbeats 4000000 in
set_option maxRecDepth 100000 in
theorem kc_1182 (C0 : LC p l e s m args below meth c Q D cy ad tI) {P Dr : Nat} (hX : cOk ad P Dr) {B67 : Int32 → Int32 → Int32 → Int64 → Int32 → xMem → xLon → Option Int32} (hB67 : ∀ (y4 : Int32) (y5 : Int32) (y6 : Int32) (y7 : Int64) (y9 : Int32) (I : xMem) (L : xLon) (H : Heap) (locs : List Loc) (ls : Array Slot), B67 y4 y5 y6 y7 y9 I L = some 1 → cG D cy ad P Dr I L H → va_S (fun q : Nat => s.heap.size ≤ q) s.heap H locs → lv_has ls 43 [(0, .ref tI.2.1), (1, .ref (ad 0)), (2, .ref (ad 62)), (3, .ref (ad 63)), (4, .int y4), (5, .int y5), (6, .int y6), (7, .long y7), (9, .int y9)] → W p l e room_1 s m args below meth c H locs 600000 7302250 Q (F0 m 67 ls [])) (x4 : Int32) (x5 : Int32) (x6 : Int32) (x7 : Int64) (x9 : Int32) (x10 : Int32) (x11 : Int32) (x12 : Int32) (x13 : Int32) (x14 : Int32) (x15 : Int32) (x17 : Int32) (x19 : Int32) (x20 : Int32) (I : xMem) (L : xLon) (H : Heap) (locs : List Loc) (ls : Array Slot) (h : XC_1182 tI P Dr B67 x4 x5 x6 x7 x9 x10 x11 x12 x13 x14 x15 x17 x19 x20 I L = some 1) : cG D cy ad P Dr I L H → va_S (fun q : Nat => s.heap.size ≤ q) s.heap H locs → lv_has ls 43 [(0, .ref tI.2.1), (1, .ref (ad 0)), (2, .ref (ad 62)), (3, .ref (ad 63)), (4, .int x4), (5, .int x5), (6, .int x6), (7, .long x7), (9, .int x9), (10, .int x10), (11, .int x11), (12, .int x12), (13, .int x13), (14, .int x14), (15, .int x15), (17, .int x17), (19, .int x19), (20, .int x20)] → W p l e room_1 s m args below meth c H locs 600000 7302250 Q (F0 m 1182 ls []) := by
  obtain ⟨⟨hx, hb, hml, hown, hts⟩, ⟨hK, hZ⟩, hi, hA, kr⟩ := id C0
  intro hG hS hl
  unfold XC_1182 at h
  refine lv_iload hx hb dL_law_1182 (lv_at hl 16 rfl) ?_
  refine lv_iload hx hb dL_law_1184 (lv_at hl 15 rfl) ?_
  refine lv_icmp_le (tgt := 1191) hx hb dL_law_1186 (by decide) (fun c1 => ?_) (fun c1 => ?_)
  · have h := ite_t h c1
    refine lv_iconst (v := (0 : Int32)) hx hb dL_law_1191 (by decide) ?_
    refine lv_istore (lv' := [(21, .int (0 : Int32)), (0, .ref tI.2.1), (1, .ref (ad 0)), (2, .ref (ad 62)), (3, .ref (ad 63)), (4, .int x4), (5, .int x5), (6, .int x6), (7, .long x7), (9, .int x9), (10, .int x10), (11, .int x11), (12, .int x12), (13, .int x13), (14, .int x14), (15, .int x15), (17, .int x17), (19, .int x19), (20, .int x20)]) hx hb dL_law_1192 hl (by decide) rfl (fun ls hl => ?_)
    exact kc_1194 C0 hX hB67 bigF _ _ _ _ _ _ _ _ _ _ _ _ _ _ _ _ _ _ _ h hG hS (lv_sub hl [1, 2, 3, 4, 5, 6, 7, 8, 9, 10, 11, 12, 13, 14, 15, 16, 18, 0] rfl)
  · have h := ite_f h c1
    refine lv_iconst (v := (0 : Int32)) hx hb dL_law_1189 (by decide) ?_
    have h := Option.some.inj h
    exact absurd h (by decide)
def XC_1108 (tI : xTab) (P Dr : Nat) (B67 : Int32 → Int32 → Int32 → Int64 → Int32 → xMem → xLon → Option Int32) (x4 : Int32) (x5 : Int32) (x6 : Int32) (x7 : Int64) (x9 : Int32) (x10 : Int32) (x11 : Int32) (x12 : Int32) (x13 : Int32) (x14 : Int32) (x15 : Int32) (x17 : Int32) (I : xMem) (L : xLon) : Option Int32 := (X4_match P I).bind fun q1 => if q1.1 < (0 : Int32) then (some (0 : Int32)) else (if (x4 / (2 : Int32)) < q1.1 then (some (0 : Int32)) else ((L_bits (X4_asked q1.2)).bind fun v4 => if v4 = ((2 : Int32) * q1.1) then ((if q1.1 = (0 : Int32) then (some (1 : Int32)) else (some (0 : Int32))).bind fun q6 => (if x17 = (0 : Int32) then (some (1 : Int32)) else (some (0 : Int32))).bind fun q8 => if q6 = q8 then ((L_bits ((X4_asked q1.2) &&& x13)).bind fun v11 => if (v11 - v11 / (2 : Int32) * (2 : Int32)) = (0 : Int32) then (XC_1182 tI P Dr B67 x4 x5 x6 x7 x9 x10 x11 x12 x13 x14 x15 x17 q1.1 (X4_asked q1.2) q1.2 L) else (some (0 : Int32))) else (some (0 : Int32))) else (some (0 : Int32))))
set_option maxHeartbeats 4000000 in
set_option maxRecDepth 100000 in
theorem kc_1108 (C0 : LC p l e s m args below meth c Q D cy ad tI) {P Dr : Nat} (hX : cOk ad P Dr) {B67 : Int32 → Int32 → Int32 → Int64 → Int32 → xMem → xLon → Option Int32} (hB67 : ∀ (y4 : Int32) (y5 : Int32) (y6 : Int32) (y7 : Int64) (y9 : Int32) (I : xMem) (L : xLon) (H : Heap) (locs : List Loc) (ls : Array Slot), B67 y4 y5 y6 y7 y9 I L = some 1 → cG D cy ad P Dr I L H → va_S (fun q : Nat => s.heap.size ≤ q) s.heap H locs → lv_has ls 43 [(0, .ref tI.2.1), (1, .ref (ad 0)), (2, .ref (ad 62)), (3, .ref (ad 63)), (4, .int y4), (5, .int y5), (6, .int y6), (7, .long y7), (9, .int y9)] → W p l e room_1 s m args below meth c H locs 600000 7302250 Q (F0 m 67 ls [])) (x4 : Int32) (x5 : Int32) (x6 : Int32) (x7 : Int64) (x9 : Int32) (x10 : Int32) (x11 : Int32) (x12 : Int32) (x13 : Int32) (x14 : Int32) (x15 : Int32) (x17 : Int32) (I : xMem) (L : xLon) (H : Heap) (locs : List Loc) (ls : Array Slot) (h : XC_1108 tI P Dr B67 x4 x5 x6 x7 x9 x10 x11 x12 x13 x14 x15 x17 I L = some 1) : cG D cy ad P Dr I L H → va_S (fun q : Nat => s.heap.size ≤ q) s.heap H locs → lv_has ls 43 [(0, .ref tI.2.1), (1, .ref (ad 0)), (2, .ref (ad 62)), (3, .ref (ad 63)), (4, .int x4), (5, .int x5), (6, .int x6), (7, .long x7), (9, .int x9), (10, .int x10), (11, .int x11), (12, .int x12), (13, .int x13), (14, .int x14), (15, .int x15), (17, .int x17)] → W p l e room_1 s m args below meth c H locs 600000 7302250 Q (F0 m 1108 ls []) := by
  obtain ⟨⟨hx, hb, hml, hown, hts⟩, ⟨hK, hZ⟩, hi, hA, kr⟩ := id C0
  intro hG hS hl
  unfold XC_1108 at h
  refine lv_aload_n hx hb dL_law_1108 rfl (lv_at hl 1 rfl) ?_
  obtain ⟨q1, eq1, h⟩ := obind h
  refine lw_ci (va_runV (As := []) (rest := []) ⟨hx, hb, hml, hown, hts⟩ (k_X4_match l D cy ad P Dr tI hX I L q1 eq1) (cwV 0 hts (goodIn_up gL_law_X4_match) rfl rfl rfl cd_X4_match ⟨Nat.le_of_ble_eq_true rfl, Nat.le_of_ble_eq_true rfl⟩) ⟨g_blind cZm, g_recv hK hG (k := 0) (by decide) (cE_4 _ _) vwCl_4, g_pre cZm hK hG hZ (law_S0 hS)⟩ rfl rfl hl.1 rfl (lv_room (Nat.le_of_ble_eq_true rfl)) dL_law_1109 ⟨Nat.le_of_ble_eq_true rfl, Nat.le_of_ble_eq_true rfl⟩) hS hA (fun H locs hG hS => ?_)
  refine lv_istore (lv' := [(19, .int q1.1), (0, .ref tI.2.1), (1, .ref (ad 0)), (2, .ref (ad 62)), (3, .ref (ad 63)), (4, .int x4), (5, .int x5), (6, .int x6), (7, .long x7), (9, .int x9), (10, .int x10), (11, .int x11), (12, .int x12), (13, .int x13), (14, .int x14), (15, .int x15), (17, .int x17)]) hx hb dL_law_1112 hl (by decide) rfl (fun ls hl => ?_)
  refine lv_aload_n hx hb dL_law_1114 rfl (lv_at hl 2 rfl) ?_
  refine lw_ci (va_runV (As := []) (rest := []) ⟨hx, hb, hml, hown, hts⟩ (k_X4_asked l D cy ad P Dr tI hX q1.2 L _ rfl) (cwV 0 hts (goodIn_up gL_law_X4_asked) rfl rfl rfl cd_X4_asked ⟨Nat.le_of_ble_eq_true rfl, Nat.le_of_ble_eq_true rfl⟩) ⟨g_blind cZm, g_recv hK hG (k := 0) (by decide) (cE_4 _ _) vwCl_4, g_pre cZm hK hG hZ (law_S0 hS)⟩ rfl rfl hl.1 rfl (lv_room (Nat.le_of_ble_eq_true rfl)) dL_law_1115 ⟨Nat.le_of_ble_eq_true rfl, Nat.le_of_ble_eq_true rfl⟩) hS hA (fun H locs hG hS => ?_)
  refine lv_istore (lv' := [(20, .int (X4_asked q1.2)), (19, .int q1.1), (0, .ref tI.2.1), (1, .ref (ad 0)), (2, .ref (ad 62)), (3, .ref (ad 63)), (4, .int x4), (5, .int x5), (6, .int x6), (7, .long x7), (9, .int x9), (10, .int x10), (11, .int x11), (12, .int x12), (13, .int x13), (14, .int x14), (15, .int x15), (17, .int x17)]) hx hb dL_law_1118 hl (by decide) rfl (fun ls hl => ?_)
  refine lv_iload hx hb dL_law_1120 (lv_at hl 1 rfl) ?_
  refine lv_if_lt (tgt := 1189) hx hb dL_law_1122 (by decide) (fun c2 => ?_) (fun c2 => ?_)
  · have h := ite_t h c2
    refine lv_iconst (v := (0 : Int32)) hx hb dL_law_1189 (by decide) ?_
    have h := Option.some.inj h
    exact absurd h (by decide)
  · have h := ite_f h c2
    refine lv_iload hx hb dL_law_1125 (lv_at hl 1 rfl) ?_
    refine lv_iload hx hb dL_law_1127 (lv_at hl 6 rfl) ?_
    refine lv_iconst (v := (2 : Int32)) hx hb dL_law_1129 (by decide) ?_
    refine lv_idiv hx hb dL_law_1130 (by decide) ?_
    refine lv_icmp_gt (tgt := 1189) hx hb dL_law_1131 (by decide) (fun c3 => ?_) (fun c3 => ?_)
    · have h := ite_t h c3
      refine lv_iconst (v := (0 : Int32)) hx hb dL_law_1189 (by decide) ?_
      have h := Option.some.inj h
      exact absurd h (by decide)
    · have h := ite_f h c3
      refine lv_iload hx hb dL_law_1134 (lv_at hl 0 rfl) ?_
      obtain ⟨v4, ev4, h⟩ := obind h
      refine lw_ci (va_runS (As := [.int (X4_asked q1.2)]) (rest := []) ⟨hx, hb, hml, hown, hts⟩ (k_L_bits l D cy ad P Dr tI hX q1.2 L (X4_asked q1.2) v4 ev4) (va_cwS 1 hts (goodIn_up gL_law_L_bits) rfl rfl rfl cd_L_bits.2 ⟨Nat.le_of_ble_eq_true rfl, Nat.le_of_ble_eq_true rfl⟩) ⟨g_blind cZm, g_pre cZm hK hG hZ (law_S0 hS)⟩ rfl rfl hl.1 rfl (lv_room (Nat.le_of_ble_eq_true rfl)) dL_law_1136 ⟨Nat.le_of_ble_eq_true rfl, Nat.le_of_ble_eq_true rfl⟩) hS hA (fun H locs hG hS => ?_)
      refine lv_iconst (v := (2 : Int32)) hx hb dL_law_1139 (by decide) ?_
      refine lv_iload hx hb dL_law_1140 (lv_at hl 1 rfl) ?_
      refine lv_imul hx hb dL_law_1142 ?_
      refine lv_icmp_ne (tgt := 1189) hx hb dL_law_1143 (by decide) (fun c5 => ?_) (fun c5 => ?_)
      · have h := ite_f h c5
        refine lv_iconst (v := (0 : Int32)) hx hb dL_law_1189 (by decide) ?_
        have h := Option.some.inj h
        exact absurd h (by decide)
      · have h := ite_t h c5
        refine lv_iload hx hb dL_law_1146 (lv_at hl 1 rfl) ?_
        obtain ⟨q6, h9, h⟩ := obind h
        have hk_q6 : ∀ (H : Heap) (locs : List Loc) (ls : Array Slot), cG D cy ad P Dr q1.2 L H → va_S (fun q : Nat => s.heap.size ≤ q) s.heap H locs → lv_has ls 43 [(0, .ref tI.2.1), (1, .ref (ad 0)), (2, .ref (ad 62)), (3, .ref (ad 63)), (4, .int x4), (5, .int x5), (6, .int x6), (7, .long x7), (9, .int x9), (10, .int x10), (11, .int x11), (12, .int x12), (13, .int x13), (14, .int x14), (15, .int x15), (17, .int x17), (19, .int q1.1), (20, .int (X4_asked q1.2))] → W p l e room_1 s m args below meth c H locs 600000 7302250 Q (F0 m 1156 ls [.int q6]) := by
          intro H locs ls hG hS hl
          refine lv_iload hx hb dL_law_1156 (lv_at hl 15 rfl) ?_
          obtain ⟨q8, h9, h⟩ := obind h
          have hk_q8 : ∀ (H : Heap) (locs : List Loc) (ls : Array Slot), cG D cy ad P Dr q1.2 L H → va_S (fun q : Nat => s.heap.size ≤ q) s.heap H locs → lv_has ls 43 [(0, .ref tI.2.1), (1, .ref (ad 0)), (2, .ref (ad 62)), (3, .ref (ad 63)), (4, .int x4), (5, .int x5), (6, .int x6), (7, .long x7), (9, .int x9), (10, .int x10), (11, .int x11), (12, .int x12), (13, .int x13), (14, .int x14), (15, .int x15), (17, .int x17), (19, .int q1.1), (20, .int (X4_asked q1.2))] → W p l e room_1 s m args below meth c H locs 600000 7302250 Q (F0 m 1166 ls [.int q8, .int q6]) := by
            intro H locs ls hG hS hl
            refine lv_icmp_ne (tgt := 1189) hx hb dL_law_1166 (by decide) (fun c10 => ?_) (fun c10 => ?_)
            · have h := ite_f h c10
              refine lv_iconst (v := (0 : Int32)) hx hb dL_law_1189 (by decide) ?_
              have h := Option.some.inj h
              exact absurd h (by decide)
            · have h := ite_t h c10
              refine lv_iload hx hb dL_law_1169 (lv_at hl 17 rfl) ?_
              refine lv_iload hx hb dL_law_1171 (lv_at hl 12 rfl) ?_
              refine lv_iand hx hb dL_law_1173 ?_
              obtain ⟨v11, ev11, h⟩ := obind h
              refine lw_ci (va_runS (As := [.int ((X4_asked q1.2) &&& x13)]) (rest := []) ⟨hx, hb, hml, hown, hts⟩ (k_L_bits l D cy ad P Dr tI hX q1.2 L ((X4_asked q1.2) &&& x13) v11 ev11) (va_cwS 1 hts (goodIn_up gL_law_L_bits) rfl rfl rfl cd_L_bits.2 ⟨Nat.le_of_ble_eq_true rfl, Nat.le_of_ble_eq_true rfl⟩) ⟨g_blind cZm, g_pre cZm hK hG hZ (law_S0 hS)⟩ rfl rfl hl.1 rfl (lv_room (Nat.le_of_ble_eq_true rfl)) dL_law_1174 ⟨Nat.le_of_ble_eq_true rfl, Nat.le_of_ble_eq_true rfl⟩) hS hA (fun H locs hG hS => ?_)
              refine lv_iconst (v := (2 : Int32)) hx hb dL_law_1177 (by decide) ?_
              refine lv_irem hx hb dL_law_1178 (by decide) ?_
              refine lv_if_ne (tgt := 1189) hx hb dL_law_1179 (by decide) (fun c12 => ?_) (fun c12 => ?_)
              · have h := ite_f h c12
                refine lv_iconst (v := (0 : Int32)) hx hb dL_law_1189 (by decide) ?_
                have h := Option.some.inj h
                exact absurd h (by decide)
              · have h := ite_t h c12
                exact kc_1182 C0 hX hB67 _ _ _ _ _ _ _ _ _ _ _ _ _ _ _ _ _ _ _ h hG hS (lv_sub hl [0, 1, 2, 3, 4, 5, 6, 7, 8, 9, 10, 11, 12, 13, 14, 15, 16, 17] rfl)
          clear h
          have h := h9
          clear h9
          refine lv_if_ne (tgt := 1165) hx hb dL_law_1158 (by decide) (fun c9 => ?_) (fun c9 => ?_)
          · have h := ite_f h c9
            refine lv_iconst (v := (0 : Int32)) hx hb dL_law_1165 (by decide) ?_
            have h := Option.some.inj h
            subst h
            exact hk_q8 _ _ _ hG hS (lv_sub hl [0, 1, 2, 3, 4, 5, 6, 7, 8, 9, 10, 11, 12, 13, 14, 15, 16, 17] rfl)
          · have h := ite_t h c9
            refine lv_iconst (v := (1 : Int32)) hx hb dL_law_1161 (by decide) ?_
            refine lv_goto (tgt := 1166) hx hb dL_law_1162 (by decide) ?_
            have h := Option.some.inj h
            subst h
            exact hk_q8 _ _ _ hG hS (lv_sub hl [0, 1, 2, 3, 4, 5, 6, 7, 8, 9, 10, 11, 12, 13, 14, 15, 16, 17] rfl)
        clear h
        have h := h9
        clear h9
        refine lv_if_ne (tgt := 1155) hx hb dL_law_1148 (by decide) (fun c7 => ?_) (fun c7 => ?_)
        · have h := ite_f h c7
          refine lv_iconst (v := (0 : Int32)) hx hb dL_law_1155 (by decide) ?_
          have h := Option.some.inj h
          subst h
          exact hk_q6 _ _ _ hG hS (lv_sub hl [2, 3, 4, 5, 6, 7, 8, 9, 10, 11, 12, 13, 14, 15, 16, 17, 1, 0] rfl)
        · have h := ite_t h c7
          refine lv_iconst (v := (1 : Int32)) hx hb dL_law_1151 (by decide) ?_
          refine lv_goto (tgt := 1156) hx hb dL_law_1152 (by decide) ?_
          have h := Option.some.inj h
          subst h
          exact hk_q6 _ _ _ hG hS (lv_sub hl [2, 3, 4, 5, 6, 7, 8, 9, 10, 11, 12, 13, 14, 15, 16, 17, 1, 0] rfl)
def XC_1022 (tI : xTab) (P Dr : Nat) (B67 : Int32 → Int32 → Int32 → Int64 → Int32 → xMem → xLon → Option Int32) (x4 : Int32) (x5 : Int32) (x6 : Int32) (x7 : Int64) (x9 : Int32) (x10 : Int32) (x11 : Int32) (x12 : Int32) (x13 : Int32) (x14 : Int32) (x15 : Int32) (x16 : Int32) (I : xMem) (L : xLon) : Option Int32 := (X4_pairs P I).bind fun q1 => if q1.1 = x16 then ((if (X4_asked q1.2) = (-9 : Int32) then (some (1 : Int32)) else (some (0 : Int32))).bind fun q3 => (if q1.1 = (0 : Int32) then (some (1 : Int32)) else (some (0 : Int32))).bind fun q5 => if q3 = q5 then (if (X4_asked q1.2) < (0 : Int32) then (XC_1108 tI P Dr B67 x4 x5 x6 x7 x9 x10 x11 x12 x13 x14 x15 q1.1 q1.2 L) else (if ((X4_asked q1.2) - (X4_asked q1.2) / (6 : Int32) * (6 : Int32)) ≤ ((X4_asked q1.2) / (6 : Int32)) then (some (0 : Int32)) else ((L_told P q1.2 ((X4_asked q1.2) / (6 : Int32)) (4 : Int32)).bind fun q10 => if ((q10.1 >>> (((X4_asked q1.2) - (X4_asked q1.2) / (6 : Int32) * (6 : Int32)) &&& 31)) &&& (1 : Int32)) = (1 : Int32) then (XC_1108 tI P Dr B67 x4 x5 x6 x7 x9 x10 x11 x12 x13 x14 x15 q1.1 q10.2 L) else (some (0 : Int32))))) else (some (0 : Int32))) else (some (0 : Int32))
set_option maxHeartbeats 4000000 in
set_option maxRecDepth 100000 in
theorem kc_1022 (C0 : LC p l e s m args below meth c Q D cy ad tI) {P Dr : Nat} (hX : cOk ad P Dr) {B67 : Int32 → Int32 → Int32 → Int64 → Int32 → xMem → xLon → Option Int32} (hB67 : ∀ (y4 : Int32) (y5 : Int32) (y6 : Int32) (y7 : Int64) (y9 : Int32) (I : xMem) (L : xLon) (H : Heap) (locs : List Loc) (ls : Array Slot), B67 y4 y5 y6 y7 y9 I L = some 1 → cG D cy ad P Dr I L H → va_S (fun q : Nat => s.heap.size ≤ q) s.heap H locs → lv_has ls 43 [(0, .ref tI.2.1), (1, .ref (ad 0)), (2, .ref (ad 62)), (3, .ref (ad 63)), (4, .int y4), (5, .int y5), (6, .int y6), (7, .long y7), (9, .int y9)] → W p l e room_1 s m args below meth c H locs 600000 7302250 Q (F0 m 67 ls [])) (x4 : Int32) (x5 : Int32) (x6 : Int32) (x7 : Int64) (x9 : Int32) (x10 : Int32) (x11 : Int32) (x12 : Int32) (x13 : Int32) (x14 : Int32) (x15 : Int32) (x16 : Int32) (I : xMem) (L : xLon) (H : Heap) (locs : List Loc) (ls : Array Slot) (h : XC_1022 tI P Dr B67 x4 x5 x6 x7 x9 x10 x11 x12 x13 x14 x15 x16 I L = some 1) : cG D cy ad P Dr I L H → va_S (fun q : Nat => s.heap.size ≤ q) s.heap H locs → lv_has ls 43 [(0, .ref tI.2.1), (1, .ref (ad 0)), (2, .ref (ad 62)), (3, .ref (ad 63)), (4, .int x4), (5, .int x5), (6, .int x6), (7, .long x7), (9, .int x9), (10, .int x10), (11, .int x11), (12, .int x12), (13, .int x13), (14, .int x14), (15, .int x15), (16, .int x16)] → W p l e room_1 s m args below meth c H locs 600000 7302250 Q (F0 m 1022 ls []) := by
  obtain ⟨⟨hx, hb, hml, hown, hts⟩, ⟨hK, hZ⟩, hi, hA, kr⟩ := id C0
  intro hG hS hl
  unfold XC_1022 at h
  refine lv_aload_n hx hb dL_law_1022 rfl (lv_at hl 1 rfl) ?_
  obtain ⟨q1, eq1, h⟩ := obind h
  refine lw_ci (va_runV (As := []) (rest := []) ⟨hx, hb, hml, hown, hts⟩ (k_X4_pairs l D cy ad P Dr tI hX I L q1 eq1) (cwV 0 hts (goodIn_up gL_law_X4_pairs) rfl rfl rfl cd_X4_pairs ⟨Nat.le_of_ble_eq_true rfl, Nat.le_of_ble_eq_true rfl⟩) ⟨g_blind cZm, g_recv hK hG (k := 0) (by decide) (cE_4 _ _) vwCl_4, g_pre cZm hK hG hZ (law_S0 hS)⟩ rfl rfl hl.1 rfl (lv_room (Nat.le_of_ble_eq_true rfl)) dL_law_1023 ⟨Nat.le_of_ble_eq_true rfl, Nat.le_of_ble_eq_true rfl⟩) hS hA (fun H locs hG hS => ?_)
  refine lv_istore (lv' := [(17, .int q1.1), (0, .ref tI.2.1), (1, .ref (ad 0)), (2, .ref (ad 62)), (3, .ref (ad 63)), (4, .int x4), (5, .int x5), (6, .int x6), (7, .long x7), (9, .int x9), (10, .int x10), (11, .int x11), (12, .int x12), (13, .int x13), (14, .int x14), (15, .int x15), (16, .int x16)]) hx hb dL_law_1026 hl (by decide) rfl (fun ls hl => ?_)
  refine lv_aload_n hx hb dL_law_1028 rfl (lv_at hl 2 rfl) ?_
  refine lw_ci (va_runV (As := []) (rest := []) ⟨hx, hb, hml, hown, hts⟩ (k_X4_asked l D cy ad P Dr tI hX q1.2 L _ rfl) (cwV 0 hts (goodIn_up gL_law_X4_asked) rfl rfl rfl cd_X4_asked ⟨Nat.le_of_ble_eq_true rfl, Nat.le_of_ble_eq_true rfl⟩) ⟨g_blind cZm, g_recv hK hG (k := 0) (by decide) (cE_4 _ _) vwCl_4, g_pre cZm hK hG hZ (law_S0 hS)⟩ rfl rfl hl.1 rfl (lv_room (Nat.le_of_ble_eq_true rfl)) dL_law_1029 ⟨Nat.le_of_ble_eq_true rfl, Nat.le_of_ble_eq_true rfl⟩) hS hA (fun H locs hG hS => ?_)
  refine lv_istore (lv' := [(18, .int (X4_asked q1.2)), (17, .int q1.1), (0, .ref tI.2.1), (1, .ref (ad 0)), (2, .ref (ad 62)), (3, .ref (ad 63)), (4, .int x4), (5, .int x5), (6, .int x6), (7, .long x7), (9, .int x9), (10, .int x10), (11, .int x11), (12, .int x12), (13, .int x13), (14, .int x14), (15, .int x15), (16, .int x16)]) hx hb dL_law_1032 hl (by decide) rfl (fun ls hl => ?_)
  refine lv_iload hx hb dL_law_1034 (lv_at hl 1 rfl) ?_
  refine lv_iload hx hb dL_law_1036 (lv_at hl 17 rfl) ?_
  refine lv_icmp_ne (tgt := 1106) hx hb dL_law_1038 (by decide) (fun c2 => ?_) (fun c2 => ?_)
  · have h := ite_f h c2
    refine lv_iconst (v := (0 : Int32)) hx hb dL_law_1106 (by decide) ?_
    have h := Option.some.inj h
    exact absurd h (by decide)
  · have h := ite_t h c2
    refine lv_iload hx hb dL_law_1041 (lv_at hl 0 rfl) ?_
    refine lv_bipush (v := (-9 : Int32)) hx hb dL_law_1043 (by decide) ?_
    obtain ⟨q3, h9, h⟩ := obind h
    have hk_q3 : ∀ (H : Heap) (locs : List Loc) (ls : Array Slot), cG D cy ad P Dr q1.2 L H → va_S (fun q : Nat => s.heap.size ≤ q) s.heap H locs → lv_has ls 43 [(0, .ref tI.2.1), (1, .ref (ad 0)), (2, .ref (ad 62)), (3, .ref (ad 63)), (4, .int x4), (5, .int x5), (6, .int x6), (7, .long x7), (9, .int x9), (10, .int x10), (11, .int x11), (12, .int x12), (13, .int x13), (14, .int x14), (15, .int x15), (17, .int q1.1), (18, .int (X4_asked q1.2))] → W p l e room_1 s m args below meth c H locs 600000 7302250 Q (F0 m 1053 ls [.int q3]) := by
      intro H locs ls hG hS hl
      refine lv_iload hx hb dL_law_1053 (lv_at hl 15 rfl) ?_
      obtain ⟨q5, h9, h⟩ := obind h
      have hk_q5 : ∀ (H : Heap) (locs : List Loc) (ls : Array Slot), cG D cy ad P Dr q1.2 L H → va_S (fun q : Nat => s.heap.size ≤ q) s.heap H locs → lv_has ls 43 [(0, .ref tI.2.1), (1, .ref (ad 0)), (2, .ref (ad 62)), (3, .ref (ad 63)), (4, .int x4), (5, .int x5), (6, .int x6), (7, .long x7), (9, .int x9), (10, .int x10), (11, .int x11), (12, .int x12), (13, .int x13), (14, .int x14), (15, .int x15), (17, .int q1.1), (18, .int (X4_asked q1.2))] → W p l e room_1 s m args below meth c H locs 600000 7302250 Q (F0 m 1063 ls [.int q5, .int q3]) := by
        intro H locs ls hG hS hl
        refine lv_icmp_ne (tgt := 1106) hx hb dL_law_1063 (by decide) (fun c7 => ?_) (fun c7 => ?_)
        · have h := ite_f h c7
          refine lv_iconst (v := (0 : Int32)) hx hb dL_law_1106 (by decide) ?_
          have h := Option.some.inj h
          exact absurd h (by decide)
        · have h := ite_t h c7
          refine lv_iload hx hb dL_law_1066 (lv_at hl 16 rfl) ?_
          refine lv_if_lt (tgt := 1108) hx hb dL_law_1068 (by decide) (fun c8 => ?_) (fun c8 => ?_)
          · have h := ite_t h c8
            exact kc_1108 C0 hX hB67 _ _ _ _ _ _ _ _ _ _ _ _ _ _ _ _ _ h hG hS (lv_sub hl [0, 1, 2, 3, 4, 5, 6, 7, 8, 9, 10, 11, 12, 13, 14, 15] rfl)
          · have h := ite_f h c8
            refine lv_iload hx hb dL_law_1071 (lv_at hl 16 rfl) ?_
            refine lv_bipush (v := (6 : Int32)) hx hb dL_law_1073 (by decide) ?_
            refine lv_idiv hx hb dL_law_1075 (by decide) ?_
            refine lv_iload hx hb dL_law_1076 (lv_at hl 16 rfl) ?_
            refine lv_bipush (v := (6 : Int32)) hx hb dL_law_1078 (by decide) ?_
            refine lv_irem hx hb dL_law_1080 (by decide) ?_
            refine lv_icmp_ge (tgt := 1106) hx hb dL_law_1081 (by decide) (fun c9 => ?_) (fun c9 => ?_)
            · have h := ite_t h c9
              refine lv_iconst (v := (0 : Int32)) hx hb dL_law_1106 (by decide) ?_
              have h := Option.some.inj h
              exact absurd h (by decide)
            · have h := ite_f h c9
              refine lv_aload_n hx hb dL_law_1084 rfl (lv_at hl 1 rfl) ?_
              refine lv_iload hx hb dL_law_1085 (lv_at hl 16 rfl) ?_
              refine lv_bipush (v := (6 : Int32)) hx hb dL_law_1087 (by decide) ?_
              refine lv_idiv hx hb dL_law_1089 (by decide) ?_
              refine lv_iconst (v := (4 : Int32)) hx hb dL_law_1090 (by decide) ?_
              obtain ⟨q10, eq10, h⟩ := obind h
              refine lw_ci (va_runS (As := [.ref (ad 0), .int ((X4_asked q1.2) / (6 : Int32)), .int (4 : Int32)]) (rest := []) ⟨hx, hb, hml, hown, hts⟩ (k_L_told l D cy ad P Dr tI hX q1.2 L ((X4_asked q1.2) / (6 : Int32)) (4 : Int32) q10 eq10) (va_cwS 3 hts (goodIn_up gL_law_L_told) rfl rfl rfl cd_L_told.2 ⟨Nat.le_of_ble_eq_true rfl, Nat.le_of_ble_eq_true rfl⟩) ⟨g_blind cZm, g_pre cZm hK hG hZ (law_S0 hS)⟩ rfl rfl hl.1 rfl (lv_room (Nat.le_of_ble_eq_true rfl)) dL_law_1091 ⟨Nat.le_of_ble_eq_true rfl, Nat.le_of_ble_eq_true rfl⟩) hS hA (fun H locs hG hS => ?_)
              refine lv_iload hx hb dL_law_1094 (lv_at hl 16 rfl) ?_
              refine lv_bipush (v := (6 : Int32)) hx hb dL_law_1096 (by decide) ?_
              refine lv_irem hx hb dL_law_1098 (by decide) ?_
              refine lv_ishr hx hb dL_law_1099 ?_
              refine lv_iconst (v := (1 : Int32)) hx hb dL_law_1100 (by decide) ?_
              refine lv_iand hx hb dL_law_1101 ?_
              refine lv_iconst (v := (1 : Int32)) hx hb dL_law_1102 (by decide) ?_
              refine lv_icmp_eq (tgt := 1108) hx hb dL_law_1103 (by decide) (fun c11 => ?_) (fun c11 => ?_)
              · have h := ite_t h c11
                exact kc_1108 C0 hX hB67 _ _ _ _ _ _ _ _ _ _ _ _ _ _ _ _ _ h hG hS (lv_sub hl [0, 1, 2, 3, 4, 5, 6, 7, 8, 9, 10, 11, 12, 13, 14, 15] rfl)
              · have h := ite_f h c11
                refine lv_iconst (v := (0 : Int32)) hx hb dL_law_1106 (by decide) ?_
                have h := Option.some.inj h
                exact absurd h (by decide)
      clear h
      have h := h9
      clear h9
      refine lv_if_ne (tgt := 1062) hx hb dL_law_1055 (by decide) (fun c6 => ?_) (fun c6 => ?_)
      · have h := ite_f h c6
        refine lv_iconst (v := (0 : Int32)) hx hb dL_law_1062 (by decide) ?_
        have h := Option.some.inj h
        subst h
        exact hk_q5 _ _ _ hG hS (lv_sub hl [0, 1, 2, 3, 4, 5, 6, 7, 8, 9, 10, 11, 12, 13, 14, 15, 16] rfl)
      · have h := ite_t h c6
        refine lv_iconst (v := (1 : Int32)) hx hb dL_law_1058 (by decide) ?_
        refine lv_goto (tgt := 1063) hx hb dL_law_1059 (by decide) ?_
        have h := Option.some.inj h
        subst h
        exact hk_q5 _ _ _ hG hS (lv_sub hl [0, 1, 2, 3, 4, 5, 6, 7, 8, 9, 10, 11, 12, 13, 14, 15, 16] rfl)
    clear h
    have h := h9
    clear h9
    refine lv_icmp_ne (tgt := 1052) hx hb dL_law_1045 (by decide) (fun c4 => ?_) (fun c4 => ?_)
    · have h := ite_f h c4
      refine lv_iconst (v := (0 : Int32)) hx hb dL_law_1052 (by decide) ?_
      have h := Option.some.inj h
      subst h
      exact hk_q3 _ _ _ hG hS (lv_sub hl [2, 3, 4, 5, 6, 7, 8, 9, 10, 11, 12, 13, 14, 15, 16, 1, 0] rfl)
    · have h := ite_t h c4
      refine lv_iconst (v := (1 : Int32)) hx hb dL_law_1048 (by decide) ?_
      refine lv_goto (tgt := 1053) hx hb dL_law_1049 (by decide) ?_
      have h := Option.some.inj h
      subst h
      exact hk_q3 _ _ _ hG hS (lv_sub hl [2, 3, 4, 5, 6, 7, 8, 9, 10, 11, 12, 13, 14, 15, 16, 1, 0] rfl)
def XC_1016 (tI : xTab) (P Dr : Nat) (B67 : Int32 → Int32 → Int32 → Int64 → Int32 → xMem → xLon → Option Int32) (B202 : Int32 → Int32 → Int32 → Int64 → Int32 → Int32 → Int32 → Int32 → Int32 → Int32 → Int32 → Int32 → Int32 → xMem → xLon → Option Int32) (x4 : Int32) (x5 : Int32) (x6 : Int32) (x7 : Int64) (x9 : Int32) (x10 : Int32) (x11 : Int32) (x12 : Int32) (x13 : Int32) (x14 : Int32) (x15 : Int32) (x16 : Int32) (x17 : Int32) (I : xMem) (L : xLon) : Option Int32 := B202 x4 x5 x6 x7 x9 x10 x11 x12 x13 x14 x15 x16 (x17 + (1 : Int32)) I L
set_option maxHeartbeats 4000000 in
set_option maxRecDepth 100000 in
theorem kc_1016 (C0 : LC p l e s m args below meth c Q D cy ad tI) {P Dr : Nat} (hX : cOk ad P Dr) {B67 : Int32 → Int32 → Int32 → Int64 → Int32 → xMem → xLon → Option Int32} {B202 : Int32 → Int32 → Int32 → Int64 → Int32 → Int32 → Int32 → Int32 → Int32 → Int32 → Int32 → Int32 → Int32 → xMem → xLon → Option Int32} (hB67 : ∀ (y4 : Int32) (y5 : Int32) (y6 : Int32) (y7 : Int64) (y9 : Int32) (I : xMem) (L : xLon) (H : Heap) (locs : List Loc) (ls : Array Slot), B67 y4 y5 y6 y7 y9 I L = some 1 → cG D cy ad P Dr I L H → va_S (fun q : Nat => s.heap.size ≤ q) s.heap H locs → lv_has ls 43 [(0, .ref tI.2.1), (1, .ref (ad 0)), (2, .ref (ad 62)), (3, .ref (ad 63)), (4, .int y4), (5, .int y5), (6, .int y6), (7, .long y7), (9, .int y9)] → W p l e room_1 s m args below meth c H locs 600000 7302250 Q (F0 m 67 ls [])) (hB202 : ∀ (y4 : Int32) (y5 : Int32) (y6 : Int32) (y7 : Int64) (y9 : Int32) (y10 : Int32) (y11 : Int32) (y12 : Int32) (y13 : Int32) (y14 : Int32) (y15 : Int32) (y16 : Int32) (y17 : Int32) (I : xMem) (L : xLon) (H : Heap) (locs : List Loc) (ls : Array Slot), B202 y4 y5 y6 y7 y9 y10 y11 y12 y13 y14 y15 y16 y17 I L = some 1 → cG D cy ad P Dr I L H → va_S (fun q : Nat => s.heap.size ≤ q) s.heap H locs → lv_has ls 43 [(0, .ref tI.2.1), (1, .ref (ad 0)), (2, .ref (ad 62)), (3, .ref (ad 63)), (4, .int y4), (5, .int y5), (6, .int y6), (7, .long y7), (9, .int y9), (10, .int y10), (11, .int y11), (12, .int y12), (13, .int y13), (14, .int y14), (15, .int y15), (16, .int y16), (17, .int y17)] → W p l e room_1 s m args below meth c H locs 600000 7302250 Q (F0 m 202 ls [])) (x4 : Int32) (x5 : Int32) (x6 : Int32) (x7 : Int64) (x9 : Int32) (x10 : Int32) (x11 : Int32) (x12 : Int32) (x13 : Int32) (x14 : Int32) (x15 : Int32) (x16 : Int32) (x17 : Int32) (I : xMem) (L : xLon) (H : Heap) (locs : List Loc) (ls : Array Slot) (h : XC_1016 tI P Dr B67 B202 x4 x5 x6 x7 x9 x10 x11 x12 x13 x14 x15 x16 x17 I L = some 1) : cG D cy ad P Dr I L H → va_S (fun q : Nat => s.heap.size ≤ q) s.heap H locs → lv_has ls 43 [(0, .ref tI.2.1), (1, .ref (ad 0)), (2, .ref (ad 62)), (3, .ref (ad 63)), (4, .int x4), (5, .int x5), (6, .int x6), (7, .long x7), (9, .int x9), (10, .int x10), (11, .int x11), (12, .int x12), (13, .int x13), (14, .int x14), (15, .int x15), (16, .int x16), (17, .int x17)] → W p l e room_1 s m args below meth c H locs 600000 7302250 Q (F0 m 1016 ls []) := by
  obtain ⟨⟨hx, hb, hml, hown, hts⟩, ⟨hK, hZ⟩, hi, hA, kr⟩ := id C0
  intro hG hS hl
  unfold XC_1016 at h
  refine lv_iinc (v := (x17 + (1 : Int32))) (lv' := [(17, .int (x17 + (1 : Int32))), (0, .ref tI.2.1), (1, .ref (ad 0)), (2, .ref (ad 62)), (3, .ref (ad 63)), (4, .int x4), (5, .int x5), (6, .int x6), (7, .long x7), (9, .int x9), (10, .int x10), (11, .int x11), (12, .int x12), (13, .int x13), (14, .int x14), (15, .int x15), (16, .int x16)]) hx hb dL_law_1016 hl (k := 16) rfl rfl (by decide) rfl (fun ls hl => ?_)
  refine lv_goto (tgt := 202) hx hb dL_law_1019 (by decide) ?_
  exact hB202 _ _ _ _ _ _ _ _ _ _ _ _ _ _ _ _ _ _ h hG hS (lv_sub hl [1, 2, 3, 4, 5, 6, 7, 8, 9, 10, 11, 12, 13, 14, 15, 16, 0] rfl)
def XC_1010 (tI : xTab) (P Dr : Nat) (B67 : Int32 → Int32 → Int32 → Int64 → Int32 → xMem → xLon → Option Int32) (B202 : Int32 → Int32 → Int32 → Int64 → Int32 → Int32 → Int32 → Int32 → Int32 → Int32 → Int32 → Int32 → Int32 → xMem → xLon → Option Int32) (B963 : Int32 → Int32 → Int32 → Int64 → Int32 → Int32 → Int32 → Int32 → Int32 → Int32 → Int32 → Int32 → Int32 → Int32 → Int32 → Int32 → xMem → xLon → Option Int32) (x4 : Int32) (x5 : Int32) (x6 : Int32) (x7 : Int64) (x9 : Int32) (x10 : Int32) (x11 : Int32) (x12 : Int32) (x13 : Int32) (x14 : Int32) (x15 : Int32) (x16 : Int32) (x17 : Int32) (x18 : Int32) (x21 : Int32) (x22 : Int32) (I : xMem) (L : xLon) : Option Int32 := B963 x4 x5 x6 x7 x9 x10 x11 x12 x13 x14 x15 x16 x17 x18 x21 (x22 + (1 : Int32)) I L
set_option maxHeartbeats 4000000 in
set_option maxRecDepth 100000 in
theorem kc_1010 (C0 : LC p l e s m args below meth c Q D cy ad tI) {P Dr : Nat} (hX : cOk ad P Dr) {B67 : Int32 → Int32 → Int32 → Int64 → Int32 → xMem → xLon → Option Int32} {B202 : Int32 → Int32 → Int32 → Int64 → Int32 → Int32 → Int32 → Int32 → Int32 → Int32 → Int32 → Int32 → Int32 → xMem → xLon → Option Int32} {B963 : Int32 → Int32 → Int32 → Int64 → Int32 → Int32 → Int32 → Int32 → Int32 → Int32 → Int32 → Int32 → Int32 → Int32 → Int32 → Int32 → xMem → xLon → Option Int32} (hB67 : ∀ (y4 : Int32) (y5 : Int32) (y6 : Int32) (y7 : Int64) (y9 : Int32) (I : xMem) (L : xLon) (H : Heap) (locs : List Loc) (ls : Array Slot), B67 y4 y5 y6 y7 y9 I L = some 1 → cG D cy ad P Dr I L H → va_S (fun q : Nat => s.heap.size ≤ q) s.heap H locs → lv_has ls 43 [(0, .ref tI.2.1), (1, .ref (ad 0)), (2, .ref (ad 62)), (3, .ref (ad 63)), (4, .int y4), (5, .int y5), (6, .int y6), (7, .long y7), (9, .int y9)] → W p l e room_1 s m args below meth c H locs 600000 7302250 Q (F0 m 67 ls [])) (hB202 : ∀ (y4 : Int32) (y5 : Int32) (y6 : Int32) (y7 : Int64) (y9 : Int32) (y10 : Int32) (y11 : Int32) (y12 : Int32) (y13 : Int32) (y14 : Int32) (y15 : Int32) (y16 : Int32) (y17 : Int32) (I : xMem) (L : xLon) (H : Heap) (locs : List Loc) (ls : Array Slot), B202 y4 y5 y6 y7 y9 y10 y11 y12 y13 y14 y15 y16 y17 I L = some 1 → cG D cy ad P Dr I L H → va_S (fun q : Nat => s.heap.size ≤ q) s.heap H locs → lv_has ls 43 [(0, .ref tI.2.1), (1, .ref (ad 0)), (2, .ref (ad 62)), (3, .ref (ad 63)), (4, .int y4), (5, .int y5), (6, .int y6), (7, .long y7), (9, .int y9), (10, .int y10), (11, .int y11), (12, .int y12), (13, .int y13), (14, .int y14), (15, .int y15), (16, .int y16), (17, .int y17)] → W p l e room_1 s m args below meth c H locs 600000 7302250 Q (F0 m 202 ls [])) (hB963 : ∀ (y4 : Int32) (y5 : Int32) (y6 : Int32) (y7 : Int64) (y9 : Int32) (y10 : Int32) (y11 : Int32) (y12 : Int32) (y13 : Int32) (y14 : Int32) (y15 : Int32) (y16 : Int32) (y17 : Int32) (y18 : Int32) (y21 : Int32) (y22 : Int32) (I : xMem) (L : xLon) (H : Heap) (locs : List Loc) (ls : Array Slot), B963 y4 y5 y6 y7 y9 y10 y11 y12 y13 y14 y15 y16 y17 y18 y21 y22 I L = some 1 → cG D cy ad P Dr I L H → va_S (fun q : Nat => s.heap.size ≤ q) s.heap H locs → lv_has ls 43 [(0, .ref tI.2.1), (1, .ref (ad 0)), (2, .ref (ad 62)), (3, .ref (ad 63)), (4, .int y4), (5, .int y5), (6, .int y6), (7, .long y7), (9, .int y9), (10, .int y10), (11, .int y11), (12, .int y12), (13, .int y13), (14, .int y14), (15, .int y15), (16, .int y16), (17, .int y17), (18, .int y18), (21, .int y21), (22, .int y22)] → W p l e room_1 s m args below meth c H locs 600000 7302250 Q (F0 m 963 ls [])) (x4 : Int32) (x5 : Int32) (x6 : Int32) (x7 : Int64) (x9 : Int32) (x10 : Int32) (x11 : Int32) (x12 : Int32) (x13 : Int32) (x14 : Int32) (x15 : Int32) (x16 : Int32) (x17 : Int32) (x18 : Int32) (x21 : Int32) (x22 : Int32) (I : xMem) (L : xLon) (H : Heap) (locs : List Loc) (ls : Array Slot) (h : XC_1010 tI P Dr B67 B202 B963 x4 x5 x6 x7 x9 x10 x11 x12 x13 x14 x15 x16 x17 x18 x21 x22 I L = some 1) : cG D cy ad P Dr I L H → va_S (fun q : Nat => s.heap.size ≤ q) s.heap H locs → lv_has ls 43 [(0, .ref tI.2.1), (1, .ref (ad 0)), (2, .ref (ad 62)), (3, .ref (ad 63)), (4, .int x4), (5, .int x5), (6, .int x6), (7, .long x7), (9, .int x9), (10, .int x10), (11, .int x11), (12, .int x12), (13, .int x13), (14, .int x14), (15, .int x15), (16, .int x16), (17, .int x17), (18, .int x18), (21, .int x21), (22, .int x22)] → W p l e room_1 s m args below meth c H locs 600000 7302250 Q (F0 m 1010 ls []) := by
  obtain ⟨⟨hx, hb, hml, hown, hts⟩, ⟨hK, hZ⟩, hi, hA, kr⟩ := id C0
  intro hG hS hl
  unfold XC_1010 at h
  refine lv_iinc (v := (x22 + (1 : Int32))) (lv' := [(22, .int (x22 + (1 : Int32))), (0, .ref tI.2.1), (1, .ref (ad 0)), (2, .ref (ad 62)), (3, .ref (ad 63)), (4, .int x4), (5, .int x5), (6, .int x6), (7, .long x7), (9, .int x9), (10, .int x10), (11, .int x11), (12, .int x12), (13, .int x13), (14, .int x14), (15, .int x15), (16, .int x16), (17, .int x17), (18, .int x18), (21, .int x21)]) hx hb dL_law_1010 hl (k := 19) rfl rfl (by decide) rfl (fun ls hl => ?_)
  refine lv_goto (tgt := 963) hx hb dL_law_1013 (by decide) ?_
  exact hB963 _ _ _ _ _ _ _ _ _ _ _ _ _ _ _ _ _ _ _ _ _ h hG hS (lv_sub hl [1, 2, 3, 4, 5, 6, 7, 8, 9, 10, 11, 12, 13, 14, 15, 16, 17, 18, 19, 0] rfl)
end LAWC1
