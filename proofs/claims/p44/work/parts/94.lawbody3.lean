section LAWC2
variable {p : Program} {l : Launch} {e : Env} {s : State} {m : MethodId} {args : Array Value} {below : List Frame} {meth : Method} {c : Code} {Q : State → Prop} {D : va_G} {cy : Nat → ClassId} {ad : Nat → Nat} {tI : xTab}
def XC_963 (tI : xTab) (P Dr : Nat) (B67 : Int32 → Int32 → Int32 → Int64 → Int32 → xMem → xLon → Option Int32) (B202 : Int32 → Int32 → Int32 → Int64 → Int32 → Int32 → Int32 → Int32 → Int32 → Int32 → Int32 → Int32 → Int32 → xMem → xLon → Option Int32) : Nat → Int32 → Int32 → Int32 → Int64 → Int32 → Int32 → Int32 → Int32 → Int32 → Int32 → Int32 → Int32 → Int32 → Int32 → Int32 → Int32 → xMem → xLon → Option Int32
  | 0, _, _, _, _, _, _, _, _, _, _, _, _, _, _, _, _, _, _ => none
  | n + 1, x4, x5, x6, x7, x9, x10, x11, x12, x13, x14, x15, x16, x17, x18, x21, x22, I, L => if x4 ≤ x22 then (XC_1016 tI P Dr B67 B202 x4 x5 x6 x7 x9 x10 x11 x12 x13 x14 x15 x16 x17 I L) else (if ((x18 >>> (x22 &&& 31)) &&& (1 : Int32)) = (1 : Int32) then ((L_told P I x22 (0 : Int32)).bind fun q3 => if q3.1 = (0 : Int32) then (if x21 < (0 : Int32) then (some (0 : Int32)) else ((L_told P q3.2 x22 (1 : Int32)).bind fun q6 => if x21 ≤ q6.1 then (XC_1010 tI P Dr B67 B202 (XC_963 tI P Dr B67 B202 n) x4 x5 x6 x7 x9 x10 x11 x12 x13 x14 x15 x16 x17 x18 x21 x22 q6.2 L) else (some (0 : Int32)))) else (XC_1010 tI P Dr B67 B202 (XC_963 tI P Dr B67 B202 n) x4 x5 x6 x7 x9 x10 x11 x12 x13 x14 x15 x16 x17 x18 x21 x22 q3.2 L)) else (XC_1010 tI P Dr B67 B202 (XC_963 tI P Dr B67 B202 n) x4 x5 x6 x7 x9 x10 x11 x12 x13 x14 x15 x16 x17 x18 x21 x22 I L))
set_option maxHeartbeats 4000000 in
set_option maxRecDepth 100000 in
theorem kc_963 (C0 : LC p l e s m args below meth c Q D cy ad tI) {P Dr : Nat} (hX : cOk ad P Dr) {B67 : Int32 → Int32 → Int32 → Int64 → Int32 → xMem → xLon → Option Int32} {B202 : Int32 → Int32 → Int32 → Int64 → Int32 → Int32 → Int32 → Int32 → Int32 → Int32 → Int32 → Int32 → Int32 → xMem → xLon → Option Int32} (hB67 : ∀ (y4 : Int32) (y5 : Int32) (y6 : Int32) (y7 : Int64) (y9 : Int32) (I : xMem) (L : xLon) (H : Heap) (locs : List Loc) (ls : Array Slot), B67 y4 y5 y6 y7 y9 I L = some 1 → cG D cy ad P Dr I L H → va_S (fun q : Nat => s.heap.size ≤ q) s.heap H locs → lv_has ls 43 [(0, .ref tI.2.1), (1, .ref (ad 0)), (2, .ref (ad 62)), (3, .ref (ad 63)), (4, .int y4), (5, .int y5), (6, .int y6), (7, .long y7), (9, .int y9)] → W p l e room_1 s m args below meth c H locs 600000 7302250 Q (F0 m 67 ls [])) (hB202 : ∀ (y4 : Int32) (y5 : Int32) (y6 : Int32) (y7 : Int64) (y9 : Int32) (y10 : Int32) (y11 : Int32) (y12 : Int32) (y13 : Int32) (y14 : Int32) (y15 : Int32) (y16 : Int32) (y17 : Int32) (I : xMem) (L : xLon) (H : Heap) (locs : List Loc) (ls : Array Slot), B202 y4 y5 y6 y7 y9 y10 y11 y12 y13 y14 y15 y16 y17 I L = some 1 → cG D cy ad P Dr I L H → va_S (fun q : Nat => s.heap.size ≤ q) s.heap H locs → lv_has ls 43 [(0, .ref tI.2.1), (1, .ref (ad 0)), (2, .ref (ad 62)), (3, .ref (ad 63)), (4, .int y4), (5, .int y5), (6, .int y6), (7, .long y7), (9, .int y9), (10, .int y10), (11, .int y11), (12, .int y12), (13, .int y13), (14, .int y14), (15, .int y15), (16, .int y16), (17, .int y17)] → W p l e room_1 s m args below meth c H locs 600000 7302250 Q (F0 m 202 ls [])) : ∀ (n : Nat) (x4 : Int32) (x5 : Int32) (x6 : Int32) (x7 : Int64) (x9 : Int32) (x10 : Int32) (x11 : Int32) (x12 : Int32) (x13 : Int32) (x14 : Int32) (x15 : Int32) (x16 : Int32) (x17 : Int32) (x18 : Int32) (x21 : Int32) (x22 : Int32) (I : xMem) (L : xLon) (H : Heap) (locs : List Loc) (ls : Array Slot), XC_963 tI P Dr B67 B202 n x4 x5 x6 x7 x9 x10 x11 x12 x13 x14 x15 x16 x17 x18 x21 x22 I L = some 1 → cG D cy ad P Dr I L H → va_S (fun q : Nat => s.heap.size ≤ q) s.heap H locs → lv_has ls 43 [(0, .ref tI.2.1), (1, .ref (ad 0)), (2, .ref (ad 62)), (3, .ref (ad 63)), (4, .int x4), (5, .int x5), (6, .int x6), (7, .long x7), (9, .int x9), (10, .int x10), (11, .int x11), (12, .int x12), (13, .int x13), (14, .int x14), (15, .int x15), (16, .int x16), (17, .int x17), (18, .int x18), (21, .int x21), (22, .int x22)] → W p l e room_1 s m args below meth c H locs 600000 7302250 Q (F0 m 963 ls []) := by
  obtain ⟨⟨hx, hb, hml, hown, hts⟩, ⟨hK, hZ⟩, hi, hA, kr⟩ := id C0
  intro n
  induction n with
  | zero =>
    intro x4 x5 x6 x7 x9 x10 x11 x12 x13 x14 x15 x16 x17 x18 x21 x22 I L H locs ls h
    exact ono h
  | succ n ih =>
    intro x4 x5 x6 x7 x9 x10 x11 x12 x13 x14 x15 x16 x17 x18 x21 x22 I L H locs ls h hG hS hl
    rw [XC_963] at h
    refine lv_iload hx hb dL_law_963 (lv_at hl 19 rfl) ?_
    refine lv_iload hx hb dL_law_965 (lv_at hl 4 rfl) ?_
    refine lv_icmp_ge (tgt := 1016) hx hb dL_law_967 (by decide) (fun c1 => ?_) (fun c1 => ?_)
    · have h := ite_t h c1
      exact kc_1016 C0 hX hB67 hB202 _ _ _ _ _ _ _ _ _ _ _ _ _ _ _ _ _ _ h hG hS (lv_sub hl [0, 1, 2, 3, 4, 5, 6, 7, 8, 9, 10, 11, 12, 13, 14, 15, 16] rfl)
    · have h := ite_f h c1
      refine lv_iload hx hb dL_law_970 (lv_at hl 17 rfl) ?_
      refine lv_iload hx hb dL_law_972 (lv_at hl 19 rfl) ?_
      refine lv_ishr hx hb dL_law_974 ?_
      refine lv_iconst (v := (1 : Int32)) hx hb dL_law_975 (by decide) ?_
      refine lv_iand hx hb dL_law_976 ?_
      refine lv_iconst (v := (1 : Int32)) hx hb dL_law_977 (by decide) ?_
      refine lv_icmp_ne (tgt := 1010) hx hb dL_law_978 (by decide) (fun c2 => ?_) (fun c2 => ?_)
      · have h := ite_f h c2
        exact kc_1010 C0 hX hB67 hB202 ih _ _ _ _ _ _ _ _ _ _ _ _ _ _ _ _ _ _ _ _ _ h hG hS (lv_sub hl [0, 1, 2, 3, 4, 5, 6, 7, 8, 9, 10, 11, 12, 13, 14, 15, 16, 17, 18, 19] rfl)
      · have h := ite_t h c2
        refine lv_aload_n hx hb dL_law_981 rfl (lv_at hl 1 rfl) ?_
        refine lv_iload hx hb dL_law_982 (lv_at hl 19 rfl) ?_
        refine lv_iconst (v := (0 : Int32)) hx hb dL_law_984 (by decide) ?_
        obtain ⟨q3, eq3, h⟩ := obind h
        refine lw_ci (va_runS (As := [.ref (ad 0), .int x22, .int (0 : Int32)]) (rest := []) ⟨hx, hb, hml, hown, hts⟩ (k_L_told l D cy ad P Dr tI hX I L x22 (0 : Int32) q3 eq3) (va_cwS 3 hts (goodIn_up gL_law_L_told) rfl rfl rfl cd_L_told.2 ⟨Nat.le_of_ble_eq_true rfl, Nat.le_of_ble_eq_true rfl⟩) ⟨g_blind cZm, g_pre cZm hK hG hZ (law_S0 hS)⟩ rfl rfl hl.1 rfl (lv_room (Nat.le_of_ble_eq_true rfl)) dL_law_985 ⟨Nat.le_of_ble_eq_true rfl, Nat.le_of_ble_eq_true rfl⟩) hS hA (fun H locs hG hS => ?_)
        refine lv_if_ne (tgt := 1010) hx hb dL_law_988 (by decide) (fun c4 => ?_) (fun c4 => ?_)
        · have h := ite_f h c4
          exact kc_1010 C0 hX hB67 hB202 ih _ _ _ _ _ _ _ _ _ _ _ _ _ _ _ _ _ _ _ _ _ h hG hS (lv_sub hl [0, 1, 2, 3, 4, 5, 6, 7, 8, 9, 10, 11, 12, 13, 14, 15, 16, 17, 18, 19] rfl)
        · have h := ite_t h c4
          refine lv_iload hx hb dL_law_991 (lv_at hl 18 rfl) ?_
          refine lv_if_lt (tgt := 1008) hx hb dL_law_993 (by decide) (fun c5 => ?_) (fun c5 => ?_)
          · have h := ite_t h c5
            refine lv_iconst (v := (0 : Int32)) hx hb dL_law_1008 (by decide) ?_
            have h := Option.some.inj h
            exact absurd h (by decide)
          · have h := ite_f h c5
            refine lv_iload hx hb dL_law_996 (lv_at hl 18 rfl) ?_
            refine lv_aload_n hx hb dL_law_998 rfl (lv_at hl 1 rfl) ?_
            refine lv_iload hx hb dL_law_999 (lv_at hl 19 rfl) ?_
            refine lv_iconst (v := (1 : Int32)) hx hb dL_law_1001 (by decide) ?_
            obtain ⟨q6, eq6, h⟩ := obind h
            refine lw_ci (va_runS (As := [.ref (ad 0), .int x22, .int (1 : Int32)]) (rest := [.int x21]) ⟨hx, hb, hml, hown, hts⟩ (k_L_told l D cy ad P Dr tI hX q3.2 L x22 (1 : Int32) q6 eq6) (va_cwS 3 hts (goodIn_up gL_law_L_told) rfl rfl rfl cd_L_told.2 ⟨Nat.le_of_ble_eq_true rfl, Nat.le_of_ble_eq_true rfl⟩) ⟨g_blind cZm, g_pre cZm hK hG hZ (law_S0 hS)⟩ rfl rfl hl.1 rfl (lv_room (Nat.le_of_ble_eq_true rfl)) dL_law_1002 ⟨Nat.le_of_ble_eq_true rfl, Nat.le_of_ble_eq_true rfl⟩) hS hA (fun H locs hG hS => ?_)
            refine lv_icmp_le (tgt := 1010) hx hb dL_law_1005 (by decide) (fun c7 => ?_) (fun c7 => ?_)
            · have h := ite_t h c7
              exact kc_1010 C0 hX hB67 hB202 ih _ _ _ _ _ _ _ _ _ _ _ _ _ _ _ _ _ _ _ _ _ h hG hS (lv_sub hl [0, 1, 2, 3, 4, 5, 6, 7, 8, 9, 10, 11, 12, 13, 14, 15, 16, 17, 18, 19] rfl)
            · have h := ite_f h c7
              refine lv_iconst (v := (0 : Int32)) hx hb dL_law_1008 (by decide) ?_
              have h := Option.some.inj h
              exact absurd h (by decide)
def XC_960 (tI : xTab) (P Dr : Nat) (B67 : Int32 → Int32 → Int32 → Int64 → Int32 → xMem → xLon → Option Int32) (B202 : Int32 → Int32 → Int32 → Int64 → Int32 → Int32 → Int32 → Int32 → Int32 → Int32 → Int32 → Int32 → Int32 → xMem → xLon → Option Int32) (x4 : Int32) (x5 : Int32) (x6 : Int32) (x7 : Int64) (x9 : Int32) (x10 : Int32) (x11 : Int32) (x12 : Int32) (x13 : Int32) (x14 : Int32) (x15 : Int32) (x16 : Int32) (x17 : Int32) (x18 : Int32) (x21 : Int32) (I : xMem) (L : xLon) : Option Int32 := XC_963 tI P Dr B67 B202 bigF x4 x5 x6 x7 x9 x10 x11 x12 x13 x14 x15 x16 x17 x18 x21 (0 : Int32) I L
set_option maxHeartbeats 4000000 in
set_option maxRecDepth 100000 in
theorem kc_960 (C0 : LC p l e s m args below meth c Q D cy ad tI) {P Dr : Nat} (hX : cOk ad P Dr) {B67 : Int32 → Int32 → Int32 → Int64 → Int32 → xMem → xLon → Option Int32} {B202 : Int32 → Int32 → Int32 → Int64 → Int32 → Int32 → Int32 → Int32 → Int32 → Int32 → Int32 → Int32 → Int32 → xMem → xLon → Option Int32} (hB67 : ∀ (y4 : Int32) (y5 : Int32) (y6 : Int32) (y7 : Int64) (y9 : Int32) (I : xMem) (L : xLon) (H : Heap) (locs : List Loc) (ls : Array Slot), B67 y4 y5 y6 y7 y9 I L = some 1 → cG D cy ad P Dr I L H → va_S (fun q : Nat => s.heap.size ≤ q) s.heap H locs → lv_has ls 43 [(0, .ref tI.2.1), (1, .ref (ad 0)), (2, .ref (ad 62)), (3, .ref (ad 63)), (4, .int y4), (5, .int y5), (6, .int y6), (7, .long y7), (9, .int y9)] → W p l e room_1 s m args below meth c H locs 600000 7302250 Q (F0 m 67 ls [])) (hB202 : ∀ (y4 : Int32) (y5 : Int32) (y6 : Int32) (y7 : Int64) (y9 : Int32) (y10 : Int32) (y11 : Int32) (y12 : Int32) (y13 : Int32) (y14 : Int32) (y15 : Int32) (y16 : Int32) (y17 : Int32) (I : xMem) (L : xLon) (H : Heap) (locs : List Loc) (ls : Array Slot), B202 y4 y5 y6 y7 y9 y10 y11 y12 y13 y14 y15 y16 y17 I L = some 1 → cG D cy ad P Dr I L H → va_S (fun q : Nat => s.heap.size ≤ q) s.heap H locs → lv_has ls 43 [(0, .ref tI.2.1), (1, .ref (ad 0)), (2, .ref (ad 62)), (3, .ref (ad 63)), (4, .int y4), (5, .int y5), (6, .int y6), (7, .long y7), (9, .int y9), (10, .int y10), (11, .int y11), (12, .int y12), (13, .int y13), (14, .int y14), (15, .int y15), (16, .int y16), (17, .int y17)] → W p l e room_1 s m args below meth c H locs 600000 7302250 Q (F0 m 202 ls [])) (x4 : Int32) (x5 : Int32) (x6 : Int32) (x7 : Int64) (x9 : Int32) (x10 : Int32) (x11 : Int32) (x12 : Int32) (x13 : Int32) (x14 : Int32) (x15 : Int32) (x16 : Int32) (x17 : Int32) (x18 : Int32) (x21 : Int32) (I : xMem) (L : xLon) (H : Heap) (locs : List Loc) (ls : Array Slot) (h : XC_960 tI P Dr B67 B202 x4 x5 x6 x7 x9 x10 x11 x12 x13 x14 x15 x16 x17 x18 x21 I L = some 1) : cG D cy ad P Dr I L H → va_S (fun q : Nat => s.heap.size ≤ q) s.heap H locs → lv_has ls 43 [(0, .ref tI.2.1), (1, .ref (ad 0)), (2, .ref (ad 62)), (3, .ref (ad 63)), (4, .int x4), (5, .int x5), (6, .int x6), (7, .long x7), (9, .int x9), (10, .int x10), (11, .int x11), (12, .int x12), (13, .int x13), (14, .int x14), (15, .int x15), (16, .int x16), (17, .int x17), (18, .int x18), (21, .int x21)] → W p l e room_1 s m args below meth c H locs 600000 7302250 Q (F0 m 960 ls []) := by
  obtain ⟨⟨hx, hb, hml, hown, hts⟩, ⟨hK, hZ⟩, hi, hA, kr⟩ := id C0
  intro hG hS hl
  unfold XC_960 at h
  refine lv_iconst (v := (0 : Int32)) hx hb dL_law_960 (by decide) ?_
  refine lv_istore (lv' := [(22, .int (0 : Int32)), (0, .ref tI.2.1), (1, .ref (ad 0)), (2, .ref (ad 62)), (3, .ref (ad 63)), (4, .int x4), (5, .int x5), (6, .int x6), (7, .long x7), (9, .int x9), (10, .int x10), (11, .int x11), (12, .int x12), (13, .int x13), (14, .int x14), (15, .int x15), (16, .int x16), (17, .int x17), (18, .int x18), (21, .int x21)]) hx hb dL_law_961 hl (by decide) rfl (fun ls hl => ?_)
  exact kc_963 C0 hX hB67 hB202 bigF _ _ _ _ _ _ _ _ _ _ _ _ _ _ _ _ _ _ _ _ _ h hG hS (lv_sub hl [1, 2, 3, 4, 5, 6, 7, 8, 9, 10, 11, 12, 13, 14, 15, 16, 17, 18, 19, 0] rfl)
def XC_923 (tI : xTab) (P Dr : Nat) (B67 : Int32 → Int32 → Int32 → Int64 → Int32 → xMem → xLon → Option Int32) (B202 : Int32 → Int32 → Int32 → Int64 → Int32 → Int32 → Int32 → Int32 → Int32 → Int32 → Int32 → Int32 → Int32 → xMem → xLon → Option Int32) (x4 : Int32) (x5 : Int32) (x6 : Int32) (x7 : Int64) (x9 : Int32) (x10 : Int32) (x11 : Int32) (x12 : Int32) (x13 : Int32) (x14 : Int32) (x15 : Int32) (x16 : Int32) (x17 : Int32) (x18 : Int32) (I : xMem) (L : xLon) : Option Int32 := (X4_waits P I x17).bind fun v1 => if v1 < (-9 : Int32) then (some (0 : Int32)) else (if (99 : Int32) < v1 then (some (0 : Int32)) else (if v1 ≤ (-9 : Int32) then (XC_960 tI P Dr B67 B202 x4 x5 x6 x7 x9 x10 x11 x12 x13 x14 x15 x16 x17 x18 v1 I L) else (if (1 : Int32) ≤ v1 then (XC_960 tI P Dr B67 B202 x4 x5 x6 x7 x9 x10 x11 x12 x13 x14 x15 x16 x17 x18 v1 I L) else (some (0 : Int32)))))
set_option maxHeartbeats 4000000 in
set_option maxRecDepth 100000 in
theorem kc_923 (C0 : LC p l e s m args below meth c Q D cy ad tI) {P Dr : Nat} (hX : cOk ad P Dr) {B67 : Int32 → Int32 → Int32 → Int64 → Int32 → xMem → xLon → Option Int32} {B202 : Int32 → Int32 → Int32 → Int64 → Int32 → Int32 → Int32 → Int32 → Int32 → Int32 → Int32 → Int32 → Int32 → xMem → xLon → Option Int32} (hB67 : ∀ (y4 : Int32) (y5 : Int32) (y6 : Int32) (y7 : Int64) (y9 : Int32) (I : xMem) (L : xLon) (H : Heap) (locs : List Loc) (ls : Array Slot), B67 y4 y5 y6 y7 y9 I L = some 1 → cG D cy ad P Dr I L H → va_S (fun q : Nat => s.heap.size ≤ q) s.heap H locs → lv_has ls 43 [(0, .ref tI.2.1), (1, .ref (ad 0)), (2, .ref (ad 62)), (3, .ref (ad 63)), (4, .int y4), (5, .int y5), (6, .int y6), (7, .long y7), (9, .int y9)] → W p l e room_1 s m args below meth c H locs 600000 7302250 Q (F0 m 67 ls [])) (hB202 : ∀ (y4 : Int32) (y5 : Int32) (y6 : Int32) (y7 : Int64) (y9 : Int32) (y10 : Int32) (y11 : Int32) (y12 : Int32) (y13 : Int32) (y14 : Int32) (y15 : Int32) (y16 : Int32) (y17 : Int32) (I : xMem) (L : xLon) (H : Heap) (locs : List Loc) (ls : Array Slot), B202 y4 y5 y6 y7 y9 y10 y11 y12 y13 y14 y15 y16 y17 I L = some 1 → cG D cy ad P Dr I L H → va_S (fun q : Nat => s.heap.size ≤ q) s.heap H locs → lv_has ls 43 [(0, .ref tI.2.1), (1, .ref (ad 0)), (2, .ref (ad 62)), (3, .ref (ad 63)), (4, .int y4), (5, .int y5), (6, .int y6), (7, .long y7), (9, .int y9), (10, .int y10), (11, .int y11), (12, .int y12), (13, .int y13), (14, .int y14), (15, .int y15), (16, .int y16), (17, .int y17)] → W p l e room_1 s m args below meth c H locs 600000 7302250 Q (F0 m 202 ls [])) (x4 : Int32) (x5 : Int32) (x6 : Int32) (x7 : Int64) (x9 : Int32) (x10 : Int32) (x11 : Int32) (x12 : Int32) (x13 : Int32) (x14 : Int32) (x15 : Int32) (x16 : Int32) (x17 : Int32) (x18 : Int32) (I : xMem) (L : xLon) (H : Heap) (locs : List Loc) (ls : Array Slot) (h : XC_923 tI P Dr B67 B202 x4 x5 x6 x7 x9 x10 x11 x12 x13 x14 x15 x16 x17 x18 I L = some 1) : cG D cy ad P Dr I L H → va_S (fun q : Nat => s.heap.size ≤ q) s.heap H locs → lv_has ls 43 [(0, .ref tI.2.1), (1, .ref (ad 0)), (2, .ref (ad 62)), (3, .ref (ad 63)), (4, .int x4), (5, .int x5), (6, .int x6), (7, .long x7), (9, .int x9), (10, .int x10), (11, .int x11), (12, .int x12), (13, .int x13), (14, .int x14), (15, .int x15), (16, .int x16), (17, .int x17), (18, .int x18)] → W p l e room_1 s m args below meth c H locs 600000 7302250 Q (F0 m 923 ls []) := by
  obtain ⟨⟨hx, hb, hml, hown, hts⟩, ⟨hK, hZ⟩, hi, hA, kr⟩ := id C0
  intro hG hS hl
  unfold XC_923 at h
  refine lv_aload_n hx hb dL_law_923 rfl (lv_at hl 1 rfl) ?_
  refine lv_iload hx hb dL_law_924 (lv_at hl 16 rfl) ?_
  obtain ⟨v1, ev1, h⟩ := obind h
  refine lw_ci (va_runV (As := [.int x17]) (rest := []) ⟨hx, hb, hml, hown, hts⟩ (k_X4_waits l D cy ad P Dr tI hX I L x17 v1 ev1) (cwV 1 hts (goodIn_up gL_law_X4_waits) rfl rfl rfl cd_X4_waits ⟨Nat.le_of_ble_eq_true rfl, Nat.le_of_ble_eq_true rfl⟩) ⟨g_blind cZm, g_recv hK hG (k := 0) (by decide) (cE_4 _ _) vwCl_4, g_pre cZm hK hG hZ (law_S0 hS)⟩ rfl rfl hl.1 rfl (lv_room (Nat.le_of_ble_eq_true rfl)) dL_law_926 ⟨Nat.le_of_ble_eq_true rfl, Nat.le_of_ble_eq_true rfl⟩) hS hA (fun H locs hG hS => ?_)
  refine lv_istore (lv' := [(21, .int v1), (0, .ref tI.2.1), (1, .ref (ad 0)), (2, .ref (ad 62)), (3, .ref (ad 63)), (4, .int x4), (5, .int x5), (6, .int x6), (7, .long x7), (9, .int x9), (10, .int x10), (11, .int x11), (12, .int x12), (13, .int x13), (14, .int x14), (15, .int x15), (16, .int x16), (17, .int x17), (18, .int x18)]) hx hb dL_law_929 hl (by decide) rfl (fun ls hl => ?_)
  refine lv_iload hx hb dL_law_931 (lv_at hl 0 rfl) ?_
  refine lv_bipush (v := (-9 : Int32)) hx hb dL_law_933 (by decide) ?_
  refine lv_icmp_lt (tgt := 958) hx hb dL_law_935 (by decide) (fun c2 => ?_) (fun c2 => ?_)
  · have h := ite_t h c2
    refine lv_iconst (v := (0 : Int32)) hx hb dL_law_958 (by decide) ?_
    have h := Option.some.inj h
    exact absurd h (by decide)
  · have h := ite_f h c2
    refine lv_iload hx hb dL_law_938 (lv_at hl 0 rfl) ?_
    refine lv_bipush (v := (99 : Int32)) hx hb dL_law_940 (by decide) ?_
    refine lv_icmp_gt (tgt := 958) hx hb dL_law_942 (by decide) (fun c3 => ?_) (fun c3 => ?_)
    · have h := ite_t h c3
      refine lv_iconst (v := (0 : Int32)) hx hb dL_law_958 (by decide) ?_
      have h := Option.some.inj h
      exact absurd h (by decide)
    · have h := ite_f h c3
      refine lv_iload hx hb dL_law_945 (lv_at hl 0 rfl) ?_
      refine lv_bipush (v := (-9 : Int32)) hx hb dL_law_947 (by decide) ?_
      refine lv_icmp_le (tgt := 960) hx hb dL_law_949 (by decide) (fun c4 => ?_) (fun c4 => ?_)
      · have h := ite_t h c4
        exact kc_960 C0 hX hB67 hB202 _ _ _ _ _ _ _ _ _ _ _ _ _ _ _ _ _ _ _ _ h hG hS (lv_sub hl [1, 2, 3, 4, 5, 6, 7, 8, 9, 10, 11, 12, 13, 14, 15, 16, 17, 18, 0] rfl)
      · have h := ite_f h c4
        refine lv_iload hx hb dL_law_952 (lv_at hl 0 rfl) ?_
        refine lv_iconst (v := (1 : Int32)) hx hb dL_law_954 (by decide) ?_
        refine lv_icmp_ge (tgt := 960) hx hb dL_law_955 (by decide) (fun c5 => ?_) (fun c5 => ?_)
        · have h := ite_t h c5
          exact kc_960 C0 hX hB67 hB202 _ _ _ _ _ _ _ _ _ _ _ _ _ _ _ _ _ _ _ _ h hG hS (lv_sub hl [1, 2, 3, 4, 5, 6, 7, 8, 9, 10, 11, 12, 13, 14, 15, 16, 17, 18, 0] rfl)
        · have h := ite_f h c5
          refine lv_iconst (v := (0 : Int32)) hx hb dL_law_958 (by decide) ?_
          have h := Option.some.inj h
          exact absurd h (by decide)
def XC_917 (tI : xTab) (P Dr : Nat) (B67 : Int32 → Int32 → Int32 → Int64 → Int32 → xMem → xLon → Option Int32) (B202 : Int32 → Int32 → Int32 → Int64 → Int32 → Int32 → Int32 → Int32 → Int32 → Int32 → Int32 → Int32 → Int32 → xMem → xLon → Option Int32) (B319 : Int32 → Int32 → Int32 → Int64 → Int32 → Int32 → Int32 → Int32 → Int32 → Int32 → Int32 → Int32 → Int32 → Int32 → Int32 → Int32 → xMem → xLon → Option Int32) (x4 : Int32) (x5 : Int32) (x6 : Int32) (x7 : Int64) (x9 : Int32) (x10 : Int32) (x11 : Int32) (x12 : Int32) (x13 : Int32) (x14 : Int32) (x15 : Int32) (x16 : Int32) (x17 : Int32) (x18 : Int32) (x20 : Int32) (x21 : Int32) (I : xMem) (L : xLon) : Option Int32 := B319 x4 x5 x6 x7 x9 x10 x11 x12 x13 x14 x15 x16 x17 x18 x20 (x21 + (1 : Int32)) I L
set_option maxHeartbeats 4000000 in
set_option maxRecDepth 100000 in
theorem kc_917 (C0 : LC p l e s m args below meth c Q D cy ad tI) {P Dr : Nat} (hX : cOk ad P Dr) {B67 : Int32 → Int32 → Int32 → Int64 → Int32 → xMem → xLon → Option Int32} {B202 : Int32 → Int32 → Int32 → Int64 → Int32 → Int32 → Int32 → Int32 → Int32 → Int32 → Int32 → Int32 → Int32 → xMem → xLon → Option Int32} {B319 : Int32 → Int32 → Int32 → Int64 → Int32 → Int32 → Int32 → Int32 → Int32 → Int32 → Int32 → Int32 → Int32 → Int32 → Int32 → Int32 → xMem → xLon → Option Int32} (hB67 : ∀ (y4 : Int32) (y5 : Int32) (y6 : Int32) (y7 : Int64) (y9 : Int32) (I : xMem) (L : xLon) (H : Heap) (locs : List Loc) (ls : Array Slot), B67 y4 y5 y6 y7 y9 I L = some 1 → cG D cy ad P Dr I L H → va_S (fun q : Nat => s.heap.size ≤ q) s.heap H locs → lv_has ls 43 [(0, .ref tI.2.1), (1, .ref (ad 0)), (2, .ref (ad 62)), (3, .ref (ad 63)), (4, .int y4), (5, .int y5), (6, .int y6), (7, .long y7), (9, .int y9)] → W p l e room_1 s m args below meth c H locs 600000 7302250 Q (F0 m 67 ls [])) (hB202 : ∀ (y4 : Int32) (y5 : Int32) (y6 : Int32) (y7 : Int64) (y9 : Int32) (y10 : Int32) (y11 : Int32) (y12 : Int32) (y13 : Int32) (y14 : Int32) (y15 : Int32) (y16 : Int32) (y17 : Int32) (I : xMem) (L : xLon) (H : Heap) (locs : List Loc) (ls : Array Slot), B202 y4 y5 y6 y7 y9 y10 y11 y12 y13 y14 y15 y16 y17 I L = some 1 → cG D cy ad P Dr I L H → va_S (fun q : Nat => s.heap.size ≤ q) s.heap H locs → lv_has ls 43 [(0, .ref tI.2.1), (1, .ref (ad 0)), (2, .ref (ad 62)), (3, .ref (ad 63)), (4, .int y4), (5, .int y5), (6, .int y6), (7, .long y7), (9, .int y9), (10, .int y10), (11, .int y11), (12, .int y12), (13, .int y13), (14, .int y14), (15, .int y15), (16, .int y16), (17, .int y17)] → W p l e room_1 s m args below meth c H locs 600000 7302250 Q (F0 m 202 ls [])) (hB319 : ∀ (y4 : Int32) (y5 : Int32) (y6 : Int32) (y7 : Int64) (y9 : Int32) (y10 : Int32) (y11 : Int32) (y12 : Int32) (y13 : Int32) (y14 : Int32) (y15 : Int32) (y16 : Int32) (y17 : Int32) (y18 : Int32) (y20 : Int32) (y21 : Int32) (I : xMem) (L : xLon) (H : Heap) (locs : List Loc) (ls : Array Slot), B319 y4 y5 y6 y7 y9 y10 y11 y12 y13 y14 y15 y16 y17 y18 y20 y21 I L = some 1 → cG D cy ad P Dr I L H → va_S (fun q : Nat => s.heap.size ≤ q) s.heap H locs → lv_has ls 43 [(0, .ref tI.2.1), (1, .ref (ad 0)), (2, .ref (ad 62)), (3, .ref (ad 63)), (4, .int y4), (5, .int y5), (6, .int y6), (7, .long y7), (9, .int y9), (10, .int y10), (11, .int y11), (12, .int y12), (13, .int y13), (14, .int y14), (15, .int y15), (16, .int y16), (17, .int y17), (18, .int y18), (20, .int y20), (21, .int y21)] → W p l e room_1 s m args below meth c H locs 600000 7302250 Q (F0 m 319 ls [])) (x4 : Int32) (x5 : Int32) (x6 : Int32) (x7 : Int64) (x9 : Int32) (x10 : Int32) (x11 : Int32) (x12 : Int32) (x13 : Int32) (x14 : Int32) (x15 : Int32) (x16 : Int32) (x17 : Int32) (x18 : Int32) (x20 : Int32) (x21 : Int32) (I : xMem) (L : xLon) (H : Heap) (locs : List Loc) (ls : Array Slot) (h : XC_917 tI P Dr B67 B202 B319 x4 x5 x6 x7 x9 x10 x11 x12 x13 x14 x15 x16 x17 x18 x20 x21 I L = some 1) : cG D cy ad P Dr I L H → va_S (fun q : Nat => s.heap.size ≤ q) s.heap H locs → lv_has ls 43 [(0, .ref tI.2.1), (1, .ref (ad 0)), (2, .ref (ad 62)), (3, .ref (ad 63)), (4, .int x4), (5, .int x5), (6, .int x6), (7, .long x7), (9, .int x9), (10, .int x10), (11, .int x11), (12, .int x12), (13, .int x13), (14, .int x14), (15, .int x15), (16, .int x16), (17, .int x17), (18, .int x18), (20, .int x20), (21, .int x21)] → W p l e room_1 s m args below meth c H locs 600000 7302250 Q (F0 m 917 ls []) := by
  obtain ⟨⟨hx, hb, hml, hown, hts⟩, ⟨hK, hZ⟩, hi, hA, kr⟩ := id C0
  intro hG hS hl
  unfold XC_917 at h
  refine lv_iinc (v := (x21 + (1 : Int32))) (lv' := [(21, .int (x21 + (1 : Int32))), (0, .ref tI.2.1), (1, .ref (ad 0)), (2, .ref (ad 62)), (3, .ref (ad 63)), (4, .int x4), (5, .int x5), (6, .int x6), (7, .long x7), (9, .int x9), (10, .int x10), (11, .int x11), (12, .int x12), (13, .int x13), (14, .int x14), (15, .int x15), (16, .int x16), (17, .int x17), (18, .int x18), (20, .int x20)]) hx hb dL_law_917 hl (k := 19) rfl rfl (by decide) rfl (fun ls hl => ?_)
  refine lv_goto (tgt := 319) hx hb dL_law_920 (by decide) ?_
  exact hB319 _ _ _ _ _ _ _ _ _ _ _ _ _ _ _ _ _ _ _ _ _ h hG hS (lv_sub hl [1, 2, 3, 4, 5, 6, 7, 8, 9, 10, 11, 12, 13, 14, 15, 16, 17, 18, 19, 0] rfl)
def XC_882 (tI : xTab) (P Dr : Nat) (B67 : Int32 → Int32 → Int32 → Int64 → Int32 → xMem → xLon → Option Int32) (B202 : Int32 → Int32 → Int32 → Int64 → Int32 → Int32 → Int32 → Int32 → Int32 → Int32 → Int32 → Int32 → Int32 → xMem → xLon → Option Int32) (B319 : Int32 → Int32 → Int32 → Int64 → Int32 → Int32 → Int32 → Int32 → Int32 → Int32 → Int32 → Int32 → Int32 → Int32 → Int32 → Int32 → xMem → xLon → Option Int32) (x4 : Int32) (x5 : Int32) (x6 : Int32) (x7 : Int64) (x9 : Int32) (x10 : Int32) (x11 : Int32) (x12 : Int32) (x13 : Int32) (x14 : Int32) (x15 : Int32) (x16 : Int32) (x17 : Int32) (x18 : Int32) (x20 : Int32) (x21 : Int32) (x31 : Int32) (I : xMem) (L : xLon) : Option Int32 := (if x31 = (0 : Int32) then (some (1 : Int32)) else (some (0 : Int32))).bind fun q1 => (X4_sink P I x17 x21 (0 : Int32) (0 : Int32)).bind fun v3 => (if x5 < v3 then (some (0 : Int32)) else (some (1 : Int32))).bind fun q4 => if q1 = q4 then (XC_917 tI P Dr B67 B202 B319 x4 x5 x6 x7 x9 x10 x11 x12 x13 x14 x15 x16 x17 x18 x20 x21 I L) else (some (0 : Int32))
set_option maxHeartbeats 4000000 in
set_option maxRecDepth 100000 in
theorem kc_882 (C0 : LC p l e s m args below meth c Q D cy ad tI) {P Dr : Nat} (hX : cOk ad P Dr) {B67 : Int32 → Int32 → Int32 → Int64 → Int32 → xMem → xLon → Option Int32} {B202 : Int32 → Int32 → Int32 → Int64 → Int32 → Int32 → Int32 → Int32 → Int32 → Int32 → Int32 → Int32 → Int32 → xMem → xLon → Option Int32} {B319 : Int32 → Int32 → Int32 → Int64 → Int32 → Int32 → Int32 → Int32 → Int32 → Int32 → Int32 → Int32 → Int32 → Int32 → Int32 → Int32 → xMem → xLon → Option Int32} (hB67 : ∀ (y4 : Int32) (y5 : Int32) (y6 : Int32) (y7 : Int64) (y9 : Int32) (I : xMem) (L : xLon) (H : Heap) (locs : List Loc) (ls : Array Slot), B67 y4 y5 y6 y7 y9 I L = some 1 → cG D cy ad P Dr I L H → va_S (fun q : Nat => s.heap.size ≤ q) s.heap H locs → lv_has ls 43 [(0, .ref tI.2.1), (1, .ref (ad 0)), (2, .ref (ad 62)), (3, .ref (ad 63)), (4, .int y4), (5, .int y5), (6, .int y6), (7, .long y7), (9, .int y9)] → W p l e room_1 s m args below meth c H locs 600000 7302250 Q (F0 m 67 ls [])) (hB202 : ∀ (y4 : Int32) (y5 : Int32) (y6 : Int32) (y7 : Int64) (y9 : Int32) (y10 : Int32) (y11 : Int32) (y12 : Int32) (y13 : Int32) (y14 : Int32) (y15 : Int32) (y16 : Int32) (y17 : Int32) (I : xMem) (L : xLon) (H : Heap) (locs : List Loc) (ls : Array Slot), B202 y4 y5 y6 y7 y9 y10 y11 y12 y13 y14 y15 y16 y17 I L = some 1 → cG D cy ad P Dr I L H → va_S (fun q : Nat => s.heap.size ≤ q) s.heap H locs → lv_has ls 43 [(0, .ref tI.2.1), (1, .ref (ad 0)), (2, .ref (ad 62)), (3, .ref (ad 63)), (4, .int y4), (5, .int y5), (6, .int y6), (7, .long y7), (9, .int y9), (10, .int y10), (11, .int y11), (12, .int y12), (13, .int y13), (14, .int y14), (15, .int y15), (16, .int y16), (17, .int y17)] → W p l e room_1 s m args below meth c H locs 600000 7302250 Q (F0 m 202 ls [])) (hB319 : ∀ (y4 : Int32) (y5 : Int32) (y6 : Int32) (y7 : Int64) (y9 : Int32) (y10 : Int32) (y11 : Int32) (y12 : Int32) (y13 : Int32) (y14 : Int32) (y15 : Int32) (y16 : Int32) (y17 : Int32) (y18 : Int32) (y20 : Int32) (y21 : Int32) (I : xMem) (L : xLon) (H : Heap) (locs : List Loc) (ls : Array Slot), B319 y4 y5 y6 y7 y9 y10 y11 y12 y13 y14 y15 y16 y17 y18 y20 y21 I L = some 1 → cG D cy ad P Dr I L H → va_S (fun q : Nat => s.heap.size ≤ q) s.heap H locs → lv_has ls 43 [(0, .ref tI.2.1), (1, .ref (ad 0)), (2, .ref (ad 62)), (3, .ref (ad 63)), (4, .int y4), (5, .int y5), (6, .int y6), (7, .long y7), (9, .int y9), (10, .int y10), (11, .int y11), (12, .int y12), (13, .int y13), (14, .int y14), (15, .int y15), (16, .int y16), (17, .int y17), (18, .int y18), (20, .int y20), (21, .int y21)] → W p l e room_1 s m args below meth c H locs 600000 7302250 Q (F0 m 319 ls [])) (x4 : Int32) (x5 : Int32) (x6 : Int32) (x7 : Int64) (x9 : Int32) (x10 : Int32) (x11 : Int32) (x12 : Int32) (x13 : Int32) (x14 : Int32) (x15 : Int32) (x16 : Int32) (x17 : Int32) (x18 : Int32) (x20 : Int32) (x21 : Int32) (x31 : Int32) (I : xMem) (L : xLon) (H : Heap) (locs : List Loc) (ls : Array Slot) (h : XC_882 tI P Dr B67 B202 B319 x4 x5 x6 x7 x9 x10 x11 x12 x13 x14 x15 x16 x17 x18 x20 x21 x31 I L = some 1) : cG D cy ad P Dr I L H → va_S (fun q : Nat => s.heap.size ≤ q) s.heap H locs → lv_has ls 43 [(0, .ref tI.2.1), (1, .ref (ad 0)), (2, .ref (ad 62)), (3, .ref (ad 63)), (4, .int x4), (5, .int x5), (6, .int x6), (7, .long x7), (9, .int x9), (10, .int x10), (11, .int x11), (12, .int x12), (13, .int x13), (14, .int x14), (15, .int x15), (16, .int x16), (17, .int x17), (18, .int x18), (20, .int x20), (21, .int x21), (31, .int x31)] → W p l e room_1 s m args below meth c H locs 600000 7302250 Q (F0 m 882 ls []) := by
  obtain ⟨⟨hx, hb, hml, hown, hts⟩, ⟨hK, hZ⟩, hi, hA, kr⟩ := id C0
  intro hG hS hl
  unfold XC_882 at h
  refine lv_iload hx hb dL_law_882 (lv_at hl 20 rfl) ?_
  obtain ⟨q1, h9, h⟩ := obind h
  have hk_q1 : ∀ (H : Heap) (locs : List Loc) (ls : Array Slot), cG D cy ad P Dr I L H → va_S (fun q : Nat => s.heap.size ≤ q) s.heap H locs → lv_has ls 43 [(0, .ref tI.2.1), (1, .ref (ad 0)), (2, .ref (ad 62)), (3, .ref (ad 63)), (4, .int x4), (5, .int x5), (6, .int x6), (7, .long x7), (9, .int x9), (10, .int x10), (11, .int x11), (12, .int x12), (13, .int x13), (14, .int x14), (15, .int x15), (16, .int x16), (17, .int x17), (18, .int x18), (20, .int x20), (21, .int x21)] → W p l e room_1 s m args below meth c H locs 600000 7302250 Q (F0 m 892 ls [.int q1]) := by
    intro H locs ls hG hS hl
    refine lv_aload_n hx hb dL_law_892 rfl (lv_at hl 1 rfl) ?_
    refine lv_iload hx hb dL_law_893 (lv_at hl 16 rfl) ?_
    refine lv_iload hx hb dL_law_895 (lv_at hl 19 rfl) ?_
    refine lv_iconst (v := (0 : Int32)) hx hb dL_law_897 (by decide) ?_
    refine lv_iconst (v := (0 : Int32)) hx hb dL_law_898 (by decide) ?_
    obtain ⟨v3, ev3, h⟩ := obind h
    refine lw_ci (va_runV (As := [.int x17, .int x21, .int (0 : Int32), .int (0 : Int32)]) (rest := [.int q1]) ⟨hx, hb, hml, hown, hts⟩ (k_X4_sink l D cy ad P Dr tI hX I L x17 x21 (0 : Int32) (0 : Int32) v3 ev3) (cwV 4 hts (goodIn_up gL_law_X4_sink) rfl rfl rfl cd_X4_sink ⟨Nat.le_of_ble_eq_true rfl, Nat.le_of_ble_eq_true rfl⟩) ⟨g_blind cZm, g_recv hK hG (k := 0) (by decide) (cE_4 _ _) vwCl_4, g_pre cZm hK hG hZ (law_S0 hS)⟩ rfl rfl hl.1 rfl (lv_room (Nat.le_of_ble_eq_true rfl)) dL_law_899 ⟨Nat.le_of_ble_eq_true rfl, Nat.le_of_ble_eq_true rfl⟩) hS hA (fun H locs hG hS => ?_)
    refine lv_iload hx hb dL_law_902 (lv_at hl 5 rfl) ?_
    obtain ⟨q4, h9, h⟩ := obind h
    have hk_q4 : ∀ (H : Heap) (locs : List Loc) (ls : Array Slot), cG D cy ad P Dr I L H → va_S (fun q : Nat => s.heap.size ≤ q) s.heap H locs → lv_has ls 43 [(0, .ref tI.2.1), (1, .ref (ad 0)), (2, .ref (ad 62)), (3, .ref (ad 63)), (4, .int x4), (5, .int x5), (6, .int x6), (7, .long x7), (9, .int x9), (10, .int x10), (11, .int x11), (12, .int x12), (13, .int x13), (14, .int x14), (15, .int x15), (16, .int x16), (17, .int x17), (18, .int x18), (20, .int x20), (21, .int x21)] → W p l e room_1 s m args below meth c H locs 600000 7302250 Q (F0 m 912 ls [.int q4, .int q1]) := by
      intro H locs ls hG hS hl
      refine lv_icmp_eq (tgt := 917) hx hb dL_law_912 (by decide) (fun c6 => ?_) (fun c6 => ?_)
      · have h := ite_t h c6
        exact kc_917 C0 hX hB67 hB202 hB319 _ _ _ _ _ _ _ _ _ _ _ _ _ _ _ _ _ _ _ _ _ h hG hS (lv_sub hl [0, 1, 2, 3, 4, 5, 6, 7, 8, 9, 10, 11, 12, 13, 14, 15, 16, 17, 18, 19] rfl)
      · have h := ite_f h c6
        refine lv_iconst (v := (0 : Int32)) hx hb dL_law_915 (by decide) ?_
        have h := Option.some.inj h
        exact absurd h (by decide)
    clear h
    have h := h9
    clear h9
    refine lv_icmp_gt (tgt := 911) hx hb dL_law_904 (by decide) (fun c5 => ?_) (fun c5 => ?_)
    · have h := ite_t h c5
      refine lv_iconst (v := (0 : Int32)) hx hb dL_law_911 (by decide) ?_
      have h := Option.some.inj h
      subst h
      exact hk_q4 _ _ _ hG hS (lv_sub hl [0, 1, 2, 3, 4, 5, 6, 7, 8, 9, 10, 11, 12, 13, 14, 15, 16, 17, 18, 19] rfl)
    · have h := ite_f h c5
      refine lv_iconst (v := (1 : Int32)) hx hb dL_law_907 (by decide) ?_
      refine lv_goto (tgt := 912) hx hb dL_law_908 (by decide) ?_
      have h := Option.some.inj h
      subst h
      exact hk_q4 _ _ _ hG hS (lv_sub hl [0, 1, 2, 3, 4, 5, 6, 7, 8, 9, 10, 11, 12, 13, 14, 15, 16, 17, 18, 19] rfl)
  clear h
  have h := h9
  clear h9
  refine lv_if_ne (tgt := 891) hx hb dL_law_884 (by decide) (fun c2 => ?_) (fun c2 => ?_)
  · have h := ite_f h c2
    refine lv_iconst (v := (0 : Int32)) hx hb dL_law_891 (by decide) ?_
    have h := Option.some.inj h
    subst h
    exact hk_q1 _ _ _ hG hS (lv_sub hl [0, 1, 2, 3, 4, 5, 6, 7, 8, 9, 10, 11, 12, 13, 14, 15, 16, 17, 18, 19] rfl)
  · have h := ite_t h c2
    refine lv_iconst (v := (1 : Int32)) hx hb dL_law_887 (by decide) ?_
    refine lv_goto (tgt := 892) hx hb dL_law_888 (by decide) ?_
    have h := Option.some.inj h
    subst h
    exact hk_q1 _ _ _ hG hS (lv_sub hl [0, 1, 2, 3, 4, 5, 6, 7, 8, 9, 10, 11, 12, 13, 14, 15, 16, 17, 18, 19] rfl)
def XC_828 (tI : xTab) (P Dr : Nat) (B67 : Int32 → Int32 → Int32 → Int64 → Int32 → xMem → xLon → Option Int32) (B202 : Int32 → Int32 → Int32 → Int64 → Int32 → Int32 → Int32 → Int32 → Int32 → Int32 → Int32 → Int32 → Int32 → xMem → xLon → Option Int32) (B319 : Int32 → Int32 → Int32 → Int64 → Int32 → Int32 → Int32 → Int32 → Int32 → Int32 → Int32 → Int32 → Int32 → Int32 → Int32 → Int32 → xMem → xLon → Option Int32) (x4 : Int32) (x5 : Int32) (x6 : Int32) (x7 : Int64) (x9 : Int32) (x10 : Int32) (x11 : Int32) (x12 : Int32) (x13 : Int32) (x14 : Int32) (x15 : Int32) (x16 : Int32) (x17 : Int32) (x18 : Int32) (x20 : Int32) (x21 : Int32) (x22 : Int32) (I : xMem) (L : xLon) : Option Int32 := (X4_loaves P I x17 x21).bind fun v1 => if x22 = (0 : Int32) then (if v1 = (-4 : Int32) then (XC_917 tI P Dr B67 B202 B319 x4 x5 x6 x7 x9 x10 x11 x12 x13 x14 x15 x16 x17 x18 x20 x21 I L) else (some (0 : Int32))) else (if v1 < (-9 : Int32) then (some (0 : Int32)) else (if ((9 : Int32) - x12) < v1 then (some (0 : Int32)) else (if v1 ≤ (-9 : Int32) then (XC_882 tI P Dr B67 B202 B319 x4 x5 x6 x7 x9 x10 x11 x12 x13 x14 x15 x16 x17 x18 x20 x21 v1 I L) else (if v1 < (0 : Int32) then (some (0 : Int32)) else (XC_882 tI P Dr B67 B202 B319 x4 x5 x6 x7 x9 x10 x11 x12 x13 x14 x15 x16 x17 x18 x20 x21 v1 I L)))))
set_option maxHeartbeats 4000000 in
set_option maxRecDepth 100000 in
theorem kc_828 (C0 : LC p l e s m args below meth c Q D cy ad tI) {P Dr : Nat} (hX : cOk ad P Dr) {B67 : Int32 → Int32 → Int32 → Int64 → Int32 → xMem → xLon → Option Int32} {B202 : Int32 → Int32 → Int32 → Int64 → Int32 → Int32 → Int32 → Int32 → Int32 → Int32 → Int32 → Int32 → Int32 → xMem → xLon → Option Int32} {B319 : Int32 → Int32 → Int32 → Int64 → Int32 → Int32 → Int32 → Int32 → Int32 → Int32 → Int32 → Int32 → Int32 → Int32 → Int32 → Int32 → xMem → xLon → Option Int32} (hB67 : ∀ (y4 : Int32) (y5 : Int32) (y6 : Int32) (y7 : Int64) (y9 : Int32) (I : xMem) (L : xLon) (H : Heap) (locs : List Loc) (ls : Array Slot), B67 y4 y5 y6 y7 y9 I L = some 1 → cG D cy ad P Dr I L H → va_S (fun q : Nat => s.heap.size ≤ q) s.heap H locs → lv_has ls 43 [(0, .ref tI.2.1), (1, .ref (ad 0)), (2, .ref (ad 62)), (3, .ref (ad 63)), (4, .int y4), (5, .int y5), (6, .int y6), (7, .long y7), (9, .int y9)] → W p l e room_1 s m args below meth c H locs 600000 7302250 Q (F0 m 67 ls [])) (hB202 : ∀ (y4 : Int32) (y5 : Int32) (y6 : Int32) (y7 : Int64) (y9 : Int32) (y10 : Int32) (y11 : Int32) (y12 : Int32) (y13 : Int32) (y14 : Int32) (y15 : Int32) (y16 : Int32) (y17 : Int32) (I : xMem) (L : xLon) (H : Heap) (locs : List Loc) (ls : Array Slot), B202 y4 y5 y6 y7 y9 y10 y11 y12 y13 y14 y15 y16 y17 I L = some 1 → cG D cy ad P Dr I L H → va_S (fun q : Nat => s.heap.size ≤ q) s.heap H locs → lv_has ls 43 [(0, .ref tI.2.1), (1, .ref (ad 0)), (2, .ref (ad 62)), (3, .ref (ad 63)), (4, .int y4), (5, .int y5), (6, .int y6), (7, .long y7), (9, .int y9), (10, .int y10), (11, .int y11), (12, .int y12), (13, .int y13), (14, .int y14), (15, .int y15), (16, .int y16), (17, .int y17)] → W p l e room_1 s m args below meth c H locs 600000 7302250 Q (F0 m 202 ls [])) (hB319 : ∀ (y4 : Int32) (y5 : Int32) (y6 : Int32) (y7 : Int64) (y9 : Int32) (y10 : Int32) (y11 : Int32) (y12 : Int32) (y13 : Int32) (y14 : Int32) (y15 : Int32) (y16 : Int32) (y17 : Int32) (y18 : Int32) (y20 : Int32) (y21 : Int32) (I : xMem) (L : xLon) (H : Heap) (locs : List Loc) (ls : Array Slot), B319 y4 y5 y6 y7 y9 y10 y11 y12 y13 y14 y15 y16 y17 y18 y20 y21 I L = some 1 → cG D cy ad P Dr I L H → va_S (fun q : Nat => s.heap.size ≤ q) s.heap H locs → lv_has ls 43 [(0, .ref tI.2.1), (1, .ref (ad 0)), (2, .ref (ad 62)), (3, .ref (ad 63)), (4, .int y4), (5, .int y5), (6, .int y6), (7, .long y7), (9, .int y9), (10, .int y10), (11, .int y11), (12, .int y12), (13, .int y13), (14, .int y14), (15, .int y15), (16, .int y16), (17, .int y17), (18, .int y18), (20, .int y20), (21, .int y21)] → W p l e room_1 s m args below meth c H locs 600000 7302250 Q (F0 m 319 ls [])) (x4 : Int32) (x5 : Int32) (x6 : Int32) (x7 : Int64) (x9 : Int32) (x10 : Int32) (x11 : Int32) (x12 : Int32) (x13 : Int32) (x14 : Int32) (x15 : Int32) (x16 : Int32) (x17 : Int32) (x18 : Int32) (x20 : Int32) (x21 : Int32) (x22 : Int32) (I : xMem) (L : xLon) (H : Heap) (locs : List Loc) (ls : Array Slot) (h : XC_828 tI P Dr B67 B202 B319 x4 x5 x6 x7 x9 x10 x11 x12 x13 x14 x15 x16 x17 x18 x20 x21 x22 I L = some 1) : cG D cy ad P Dr I L H → va_S (fun q : Nat => s.heap.size ≤ q) s.heap H locs → lv_has ls 43 [(0, .ref tI.2.1), (1, .ref (ad 0)), (2, .ref (ad 62)), (3, .ref (ad 63)), (4, .int x4), (5, .int x5), (6, .int x6), (7, .long x7), (9, .int x9), (10, .int x10), (11, .int x11), (12, .int x12), (13, .int x13), (14, .int x14), (15, .int x15), (16, .int x16), (17, .int x17), (18, .int x18), (20, .int x20), (21, .int x21), (22, .int x22)] → W p l e room_1 s m args below meth c H locs 600000 7302250 Q (F0 m 828 ls []) := by
  obtain ⟨⟨hx, hb, hml, hown, hts⟩, ⟨hK, hZ⟩, hi, hA, kr⟩ := id C0
  intro hG hS hl
  unfold XC_828 at h
  refine lv_aload_n hx hb dL_law_828 rfl (lv_at hl 1 rfl) ?_
  refine lv_iload hx hb dL_law_829 (lv_at hl 16 rfl) ?_
  refine lv_iload hx hb dL_law_831 (lv_at hl 19 rfl) ?_
  obtain ⟨v1, ev1, h⟩ := obind h
  refine lw_ci (va_runV (As := [.int x17, .int x21]) (rest := []) ⟨hx, hb, hml, hown, hts⟩ (k_X4_loaves l D cy ad P Dr tI hX I L x17 x21 v1 ev1) (cwV 2 hts (goodIn_up gL_law_X4_loaves) rfl rfl rfl cd_X4_loaves ⟨Nat.le_of_ble_eq_true rfl, Nat.le_of_ble_eq_true rfl⟩) ⟨g_blind cZm, g_recv hK hG (k := 0) (by decide) (cE_4 _ _) vwCl_4, g_pre cZm hK hG hZ (law_S0 hS)⟩ rfl rfl hl.1 rfl (lv_room (Nat.le_of_ble_eq_true rfl)) dL_law_833 ⟨Nat.le_of_ble_eq_true rfl, Nat.le_of_ble_eq_true rfl⟩) hS hA (fun H locs hG hS => ?_)
  refine lv_istore (lv' := [(31, .int v1), (0, .ref tI.2.1), (1, .ref (ad 0)), (2, .ref (ad 62)), (3, .ref (ad 63)), (4, .int x4), (5, .int x5), (6, .int x6), (7, .long x7), (9, .int x9), (10, .int x10), (11, .int x11), (12, .int x12), (13, .int x13), (14, .int x14), (15, .int x15), (16, .int x16), (17, .int x17), (18, .int x18), (20, .int x20), (21, .int x21), (22, .int x22)]) hx hb dL_law_836 hl (by decide) rfl (fun ls hl => ?_)
  refine lv_iload hx hb dL_law_838 (lv_at hl 21 rfl) ?_
  refine lv_if_ne (tgt := 853) hx hb dL_law_840 (by decide) (fun c2 => ?_) (fun c2 => ?_)
  · have h := ite_f h c2
    refine lv_iload hx hb dL_law_853 (lv_at hl 0 rfl) ?_
    refine lv_bipush (v := (-9 : Int32)) hx hb dL_law_855 (by decide) ?_
    refine lv_icmp_lt (tgt := 915) hx hb dL_law_857 (by decide) (fun c3 => ?_) (fun c3 => ?_)
    · have h := ite_t h c3
      refine lv_iconst (v := (0 : Int32)) hx hb dL_law_915 (by decide) ?_
      have h := Option.some.inj h
      exact absurd h (by decide)
    · have h := ite_f h c3
      refine lv_iload hx hb dL_law_860 (lv_at hl 0 rfl) ?_
      refine lv_bipush (v := (9 : Int32)) hx hb dL_law_862 (by decide) ?_
      refine lv_iload hx hb dL_law_864 (lv_at hl 12 rfl) ?_
      refine lv_isub hx hb dL_law_866 ?_
      refine lv_icmp_gt (tgt := 915) hx hb dL_law_867 (by decide) (fun c4 => ?_) (fun c4 => ?_)
      · have h := ite_t h c4
        refine lv_iconst (v := (0 : Int32)) hx hb dL_law_915 (by decide) ?_
        have h := Option.some.inj h
        exact absurd h (by decide)
      · have h := ite_f h c4
        refine lv_iload hx hb dL_law_870 (lv_at hl 0 rfl) ?_
        refine lv_bipush (v := (-9 : Int32)) hx hb dL_law_872 (by decide) ?_
        refine lv_icmp_le (tgt := 882) hx hb dL_law_874 (by decide) (fun c5 => ?_) (fun c5 => ?_)
        · have h := ite_t h c5
          exact kc_882 C0 hX hB67 hB202 hB319 _ _ _ _ _ _ _ _ _ _ _ _ _ _ _ _ _ _ _ _ _ _ h hG hS (lv_sub hl [1, 2, 3, 4, 5, 6, 7, 8, 9, 10, 11, 12, 13, 14, 15, 16, 17, 18, 19, 20, 0] rfl)
        · have h := ite_f h c5
          refine lv_iload hx hb dL_law_877 (lv_at hl 0 rfl) ?_
          refine lv_if_lt (tgt := 915) hx hb dL_law_879 (by decide) (fun c6 => ?_) (fun c6 => ?_)
          · have h := ite_t h c6
            refine lv_iconst (v := (0 : Int32)) hx hb dL_law_915 (by decide) ?_
            have h := Option.some.inj h
            exact absurd h (by decide)
          · have h := ite_f h c6
            exact kc_882 C0 hX hB67 hB202 hB319 _ _ _ _ _ _ _ _ _ _ _ _ _ _ _ _ _ _ _ _ _ _ h hG hS (lv_sub hl [1, 2, 3, 4, 5, 6, 7, 8, 9, 10, 11, 12, 13, 14, 15, 16, 17, 18, 19, 20, 0] rfl)
  · have h := ite_t h c2
    refine lv_iload hx hb dL_law_843 (lv_at hl 0 rfl) ?_
    refine lv_bipush (v := (-4 : Int32)) hx hb dL_law_845 (by decide) ?_
    refine lv_icmp_eq (tgt := 917) hx hb dL_law_847 (by decide) (fun c7 => ?_) (fun c7 => ?_)
    · have h := ite_t h c7
      exact kc_917 C0 hX hB67 hB202 hB319 _ _ _ _ _ _ _ _ _ _ _ _ _ _ _ _ _ _ _ _ _ h hG hS (lv_sub hl [1, 2, 3, 4, 5, 6, 7, 8, 9, 10, 11, 12, 13, 14, 15, 16, 17, 18, 19, 20] rfl)
    · have h := ite_f h c7
      refine lv_goto (tgt := 915) hx hb dL_law_850 (by decide) ?_
      refine lv_iconst (v := (0 : Int32)) hx hb dL_law_915 (by decide) ?_
      have h := Option.some.inj h
      exact absurd h (by decide)
def XC_816 (tI : xTab) (P Dr : Nat) (B67 : Int32 → Int32 → Int32 → Int64 → Int32 → xMem → xLon → Option Int32) (B202 : Int32 → Int32 → Int32 → Int64 → Int32 → Int32 → Int32 → Int32 → Int32 → Int32 → Int32 → Int32 → Int32 → xMem → xLon → Option Int32) (B319 : Int32 → Int32 → Int32 → Int64 → Int32 → Int32 → Int32 → Int32 → Int32 → Int32 → Int32 → Int32 → Int32 → Int32 → Int32 → Int32 → xMem → xLon → Option Int32) (x4 : Int32) (x5 : Int32) (x6 : Int32) (x7 : Int64) (x9 : Int32) (x10 : Int32) (x11 : Int32) (x12 : Int32) (x13 : Int32) (x14 : Int32) (x15 : Int32) (x16 : Int32) (x17 : Int32) (x18 : Int32) (x20 : Int32) (x21 : Int32) (x22 : Int32) (I : xMem) (L : xLon) : Option Int32 := (X4_count P I (5 : Int32)).bind fun v1 => if v1 = x14 then (XC_828 tI P Dr B67 B202 B319 x4 x5 x6 x7 x9 x10 x11 x12 x13 x14 x15 x16 x17 x18 x20 x21 x22 I L) else (some (0 : Int32))
set_option maxHeartbeats 4000000 in
set_option maxRecDepth 100000 in
theorem kc_816 (C0 : LC p l e s m args below meth c Q D cy ad tI) {P Dr : Nat} (hX : cOk ad P Dr) {B67 : Int32 → Int32 → Int32 → Int64 → Int32 → xMem → xLon → Option Int32} {B202 : Int32 → Int32 → Int32 → Int64 → Int32 → Int32 → Int32 → Int32 → Int32 → Int32 → Int32 → Int32 → Int32 → xMem → xLon → Option Int32} {B319 : Int32 → Int32 → Int32 → Int64 → Int32 → Int32 → Int32 → Int32 → Int32 → Int32 → Int32 → Int32 → Int32 → Int32 → Int32 → Int32 → xMem → xLon → Option Int32} (hB67 : ∀ (y4 : Int32) (y5 : Int32) (y6 : Int32) (y7 : Int64) (y9 : Int32) (I : xMem) (L : xLon) (H : Heap) (locs : List Loc) (ls : Array Slot), B67 y4 y5 y6 y7 y9 I L = some 1 → cG D cy ad P Dr I L H → va_S (fun q : Nat => s.heap.size ≤ q) s.heap H locs → lv_has ls 43 [(0, .ref tI.2.1), (1, .ref (ad 0)), (2, .ref (ad 62)), (3, .ref (ad 63)), (4, .int y4), (5, .int y5), (6, .int y6), (7, .long y7), (9, .int y9)] → W p l e room_1 s m args below meth c H locs 600000 7302250 Q (F0 m 67 ls [])) (hB202 : ∀ (y4 : Int32) (y5 : Int32) (y6 : Int32) (y7 : Int64) (y9 : Int32) (y10 : Int32) (y11 : Int32) (y12 : Int32) (y13 : Int32) (y14 : Int32) (y15 : Int32) (y16 : Int32) (y17 : Int32) (I : xMem) (L : xLon) (H : Heap) (locs : List Loc) (ls : Array Slot), B202 y4 y5 y6 y7 y9 y10 y11 y12 y13 y14 y15 y16 y17 I L = some 1 → cG D cy ad P Dr I L H → va_S (fun q : Nat => s.heap.size ≤ q) s.heap H locs → lv_has ls 43 [(0, .ref tI.2.1), (1, .ref (ad 0)), (2, .ref (ad 62)), (3, .ref (ad 63)), (4, .int y4), (5, .int y5), (6, .int y6), (7, .long y7), (9, .int y9), (10, .int y10), (11, .int y11), (12, .int y12), (13, .int y13), (14, .int y14), (15, .int y15), (16, .int y16), (17, .int y17)] → W p l e room_1 s m args below meth c H locs 600000 7302250 Q (F0 m 202 ls [])) (hB319 : ∀ (y4 : Int32) (y5 : Int32) (y6 : Int32) (y7 : Int64) (y9 : Int32) (y10 : Int32) (y11 : Int32) (y12 : Int32) (y13 : Int32) (y14 : Int32) (y15 : Int32) (y16 : Int32) (y17 : Int32) (y18 : Int32) (y20 : Int32) (y21 : Int32) (I : xMem) (L : xLon) (H : Heap) (locs : List Loc) (ls : Array Slot), B319 y4 y5 y6 y7 y9 y10 y11 y12 y13 y14 y15 y16 y17 y18 y20 y21 I L = some 1 → cG D cy ad P Dr I L H → va_S (fun q : Nat => s.heap.size ≤ q) s.heap H locs → lv_has ls 43 [(0, .ref tI.2.1), (1, .ref (ad 0)), (2, .ref (ad 62)), (3, .ref (ad 63)), (4, .int y4), (5, .int y5), (6, .int y6), (7, .long y7), (9, .int y9), (10, .int y10), (11, .int y11), (12, .int y12), (13, .int y13), (14, .int y14), (15, .int y15), (16, .int y16), (17, .int y17), (18, .int y18), (20, .int y20), (21, .int y21)] → W p l e room_1 s m args below meth c H locs 600000 7302250 Q (F0 m 319 ls [])) (x4 : Int32) (x5 : Int32) (x6 : Int32) (x7 : Int64) (x9 : Int32) (x10 : Int32) (x11 : Int32) (x12 : Int32) (x13 : Int32) (x14 : Int32) (x15 : Int32) (x16 : Int32) (x17 : Int32) (x18 : Int32) (x20 : Int32) (x21 : Int32) (x22 : Int32) (I : xMem) (L : xLon) (H : Heap) (locs : List Loc) (ls : Array Slot) (h : XC_816 tI P Dr B67 B202 B319 x4 x5 x6 x7 x9 x10 x11 x12 x13 x14 x15 x16 x17 x18 x20 x21 x22 I L = some 1) : cG D cy ad P Dr I L H → va_S (fun q : Nat => s.heap.size ≤ q) s.heap H locs → lv_has ls 43 [(0, .ref tI.2.1), (1, .ref (ad 0)), (2, .ref (ad 62)), (3, .ref (ad 63)), (4, .int x4), (5, .int x5), (6, .int x6), (7, .long x7), (9, .int x9), (10, .int x10), (11, .int x11), (12, .int x12), (13, .int x13), (14, .int x14), (15, .int x15), (16, .int x16), (17, .int x17), (18, .int x18), (20, .int x20), (21, .int x21), (22, .int x22)] → W p l e room_1 s m args below meth c H locs 600000 7302250 Q (F0 m 816 ls []) := by
  obtain ⟨⟨hx, hb, hml, hown, hts⟩, ⟨hK, hZ⟩, hi, hA, kr⟩ := id C0
  intro hG hS hl
  unfold XC_816 at h
  refine lv_aload_n hx hb dL_law_816 rfl (lv_at hl 1 rfl) ?_
  refine lv_iconst (v := (5 : Int32)) hx hb dL_law_817 (by decide) ?_
  obtain ⟨v1, ev1, h⟩ := obind h
  refine lw_ci (va_runV (As := [.int (5 : Int32)]) (rest := []) ⟨hx, hb, hml, hown, hts⟩ (k_X4_count l D cy ad P Dr tI hX I L (5 : Int32) v1 ev1) (cwV 1 hts (goodIn_up gL_law_X4_count) rfl rfl rfl cd_X4_count ⟨Nat.le_of_ble_eq_true rfl, Nat.le_of_ble_eq_true rfl⟩) ⟨g_blind cZm, g_recv hK hG (k := 0) (by decide) (cE_4 _ _) vwCl_4, g_pre cZm hK hG hZ (law_S0 hS)⟩ rfl rfl hl.1 rfl (lv_room (Nat.le_of_ble_eq_true rfl)) dL_law_818 ⟨Nat.le_of_ble_eq_true rfl, Nat.le_of_ble_eq_true rfl⟩) hS hA (fun H locs hG hS => ?_)
  refine lv_iload hx hb dL_law_821 (lv_at hl 13 rfl) ?_
  refine lv_icmp_eq (tgt := 828) hx hb dL_law_823 (by decide) (fun c2 => ?_) (fun c2 => ?_)
  · have h := ite_t h c2
    exact kc_828 C0 hX hB67 hB202 hB319 _ _ _ _ _ _ _ _ _ _ _ _ _ _ _ _ _ _ _ _ _ _ h hG hS (lv_sub hl [0, 1, 2, 3, 4, 5, 6, 7, 8, 9, 10, 11, 12, 13, 14, 15, 16, 17, 18, 19, 20] rfl)
  · have h := ite_f h c2
    refine lv_iconst (v := (0 : Int32)) hx hb dL_law_826 (by decide) ?_
    have h := Option.some.inj h
    exact absurd h (by decide)
def XC_747 (tI : xTab) (P Dr : Nat) (B67 : Int32 → Int32 → Int32 → Int64 → Int32 → xMem → xLon → Option Int32) (B202 : Int32 → Int32 → Int32 → Int64 → Int32 → Int32 → Int32 → Int32 → Int32 → Int32 → Int32 → Int32 → Int32 → xMem → xLon → Option Int32) (B319 : Int32 → Int32 → Int32 → Int64 → Int32 → Int32 → Int32 → Int32 → Int32 → Int32 → Int32 → Int32 → Int32 → Int32 → Int32 → Int32 → xMem → xLon → Option Int32) (x4 : Int32) (x5 : Int32) (x6 : Int32) (x7 : Int64) (x9 : Int32) (x10 : Int32) (x11 : Int32) (x12 : Int32) (x13 : Int32) (x14 : Int32) (x15 : Int32) (x16 : Int32) (x17 : Int32) (x18 : Int32) (x20 : Int32) (x21 : Int32) (x22 : Int32) (x23 : Int32) (x29 : Int32) (x30 : Int32) (I : xMem) (L : xLon) : Option Int32 := (if x23 = (0 : Int32) then (some (0 : Int32)) else (if x21 ≤ x17 then (some (0 : Int32)) else (some (1 : Int32)))).bind fun q1 => if x23 = (0 : Int32) then (XC_828 tI P Dr B67 B202 B319 x4 x5 x6 x7 x9 x10 x11 x12 x13 x14 x15 (x16 + q1) x17 x18 x20 x21 x22 I L) else ((X4_go P I x17 x21 (x30 >>> ((4 : Int32) &&& 31)) (x30 &&& (15 : Int32))).bind fun q5 => if q5.1 = x29 then ((X4_undo q5.2 x11).bind fun q7 => if q7.1 = (1 : Int32) then ((X4_count P q7.2 (4 : Int32)).bind fun v9 => if v9 = x13 then (XC_816 tI P Dr B67 B202 B319 x4 x5 x6 x7 x9 x10 x11 x12 x13 x14 x15 (x16 + q1) x17 x18 x20 x21 x22 q7.2 L) else (some (0 : Int32))) else (some (0 : Int32))) else (some (0 : Int32)))
set_option maxHeartbeats 4000000 in
set_option maxRecDepth 100000 in
theorem kc_747 (C0 : LC p l e s m args below meth c Q D cy ad tI) {P Dr : Nat} (hX : cOk ad P Dr) {B67 : Int32 → Int32 → Int32 → Int64 → Int32 → xMem → xLon → Option Int32} {B202 : Int32 → Int32 → Int32 → Int64 → Int32 → Int32 → Int32 → Int32 → Int32 → Int32 → Int32 → Int32 → Int32 → xMem → xLon → Option Int32} {B319 : Int32 → Int32 → Int32 → Int64 → Int32 → Int32 → Int32 → Int32 → Int32 → Int32 → Int32 → Int32 → Int32 → Int32 → Int32 → Int32 → xMem → xLon → Option Int32} (hB67 : ∀ (y4 : Int32) (y5 : Int32) (y6 : Int32) (y7 : Int64) (y9 : Int32) (I : xMem) (L : xLon) (H : Heap) (locs : List Loc) (ls : Array Slot), B67 y4 y5 y6 y7 y9 I L = some 1 → cG D cy ad P Dr I L H → va_S (fun q : Nat => s.heap.size ≤ q) s.heap H locs → lv_has ls 43 [(0, .ref tI.2.1), (1, .ref (ad 0)), (2, .ref (ad 62)), (3, .ref (ad 63)), (4, .int y4), (5, .int y5), (6, .int y6), (7, .long y7), (9, .int y9)] → W p l e room_1 s m args below meth c H locs 600000 7302250 Q (F0 m 67 ls [])) (hB202 : ∀ (y4 : Int32) (y5 : Int32) (y6 : Int32) (y7 : Int64) (y9 : Int32) (y10 : Int32) (y11 : Int32) (y12 : Int32) (y13 : Int32) (y14 : Int32) (y15 : Int32) (y16 : Int32) (y17 : Int32) (I : xMem) (L : xLon) (H : Heap) (locs : List Loc) (ls : Array Slot), B202 y4 y5 y6 y7 y9 y10 y11 y12 y13 y14 y15 y16 y17 I L = some 1 → cG D cy ad P Dr I L H → va_S (fun q : Nat => s.heap.size ≤ q) s.heap H locs → lv_has ls 43 [(0, .ref tI.2.1), (1, .ref (ad 0)), (2, .ref (ad 62)), (3, .ref (ad 63)), (4, .int y4), (5, .int y5), (6, .int y6), (7, .long y7), (9, .int y9), (10, .int y10), (11, .int y11), (12, .int y12), (13, .int y13), (14, .int y14), (15, .int y15), (16, .int y16), (17, .int y17)] → W p l e room_1 s m args below meth c H locs 600000 7302250 Q (F0 m 202 ls [])) (hB319 : ∀ (y4 : Int32) (y5 : Int32) (y6 : Int32) (y7 : Int64) (y9 : Int32) (y10 : Int32) (y11 : Int32) (y12 : Int32) (y13 : Int32) (y14 : Int32) (y15 : Int32) (y16 : Int32) (y17 : Int32) (y18 : Int32) (y20 : Int32) (y21 : Int32) (I : xMem) (L : xLon) (H : Heap) (locs : List Loc) (ls : Array Slot), B319 y4 y5 y6 y7 y9 y10 y11 y12 y13 y14 y15 y16 y17 y18 y20 y21 I L = some 1 → cG D cy ad P Dr I L H → va_S (fun q : Nat => s.heap.size ≤ q) s.heap H locs → lv_has ls 43 [(0, .ref tI.2.1), (1, .ref (ad 0)), (2, .ref (ad 62)), (3, .ref (ad 63)), (4, .int y4), (5, .int y5), (6, .int y6), (7, .long y7), (9, .int y9), (10, .int y10), (11, .int y11), (12, .int y12), (13, .int y13), (14, .int y14), (15, .int y15), (16, .int y16), (17, .int y17), (18, .int y18), (20, .int y20), (21, .int y21)] → W p l e room_1 s m args below meth c H locs 600000 7302250 Q (F0 m 319 ls [])) (x4 : Int32) (x5 : Int32) (x6 : Int32) (x7 : Int64) (x9 : Int32) (x10 : Int32) (x11 : Int32) (x12 : Int32) (x13 : Int32) (x14 : Int32) (x15 : Int32) (x16 : Int32) (x17 : Int32) (x18 : Int32) (x20 : Int32) (x21 : Int32) (x22 : Int32) (x23 : Int32) (x29 : Int32) (x30 : Int32) (I : xMem) (L : xLon) (H : Heap) (locs : List Loc) (ls : Array Slot) (h : XC_747 tI P Dr B67 B202 B319 x4 x5 x6 x7 x9 x10 x11 x12 x13 x14 x15 x16 x17 x18 x20 x21 x22 x23 x29 x30 I L = some 1) : cG D cy ad P Dr I L H → va_S (fun q : Nat => s.heap.size ≤ q) s.heap H locs → lv_has ls 43 [(0, .ref tI.2.1), (1, .ref (ad 0)), (2, .ref (ad 62)), (3, .ref (ad 63)), (4, .int x4), (5, .int x5), (6, .int x6), (7, .long x7), (9, .int x9), (10, .int x10), (11, .int x11), (12, .int x12), (13, .int x13), (14, .int x14), (15, .int x15), (16, .int x16), (17, .int x17), (18, .int x18), (20, .int x20), (21, .int x21), (22, .int x22), (23, .int x23), (29, .int x29), (30, .int x30)] → W p l e room_1 s m args below meth c H locs 600000 7302250 Q (F0 m 747 ls []) := by
  obtain ⟨⟨hx, hb, hml, hown, hts⟩, ⟨hK, hZ⟩, hi, hA, kr⟩ := id C0
  intro hG hS hl
  unfold XC_747 at h
  refine lv_iload hx hb dL_law_747 (lv_at hl 15 rfl) ?_
  refine lv_iload hx hb dL_law_749 (lv_at hl 21 rfl) ?_
  obtain ⟨q1, h9, h⟩ := obind h
  have hk_q1 : ∀ (H : Heap) (locs : List Loc) (ls : Array Slot), cG D cy ad P Dr I L H → va_S (fun q : Nat => s.heap.size ≤ q) s.heap H locs → lv_has ls 43 [(0, .ref tI.2.1), (1, .ref (ad 0)), (2, .ref (ad 62)), (3, .ref (ad 63)), (4, .int x4), (5, .int x5), (6, .int x6), (7, .long x7), (9, .int x9), (10, .int x10), (11, .int x11), (12, .int x12), (13, .int x13), (14, .int x14), (15, .int x15), (17, .int x17), (18, .int x18), (20, .int x20), (21, .int x21), (22, .int x22), (23, .int x23), (29, .int x29), (30, .int x30)] → W p l e room_1 s m args below meth c H locs 600000 7302250 Q (F0 m 766 ls [.int q1, .int x16]) := by
    intro H locs ls hG hS hl
    refine lv_iadd hx hb dL_law_766 ?_
    refine lv_istore (lv' := [(16, .int (x16 + q1)), (0, .ref tI.2.1), (1, .ref (ad 0)), (2, .ref (ad 62)), (3, .ref (ad 63)), (4, .int x4), (5, .int x5), (6, .int x6), (7, .long x7), (9, .int x9), (10, .int x10), (11, .int x11), (12, .int x12), (13, .int x13), (14, .int x14), (15, .int x15), (17, .int x17), (18, .int x18), (20, .int x20), (21, .int x21), (22, .int x22), (23, .int x23), (29, .int x29), (30, .int x30)]) hx hb dL_law_767 hl (by decide) rfl (fun ls hl => ?_)
    refine lv_iload hx hb dL_law_769 (lv_at hl 21 rfl) ?_
    refine lv_if_eq (tgt := 828) hx hb dL_law_771 (by decide) (fun c4 => ?_) (fun c4 => ?_)
    · have h := ite_t h c4
      exact kc_828 C0 hX hB67 hB202 hB319 _ _ _ _ _ _ _ _ _ _ _ _ _ _ _ _ _ _ _ _ _ _ h hG hS (lv_sub hl [1, 2, 3, 4, 5, 6, 7, 8, 9, 10, 11, 12, 13, 14, 15, 0, 16, 17, 18, 19, 20] rfl)
    · have h := ite_f h c4
      refine lv_aload_n hx hb dL_law_774 rfl (lv_at hl 2 rfl) ?_
      refine lv_iload hx hb dL_law_775 (lv_at hl 16 rfl) ?_
      refine lv_iload hx hb dL_law_777 (lv_at hl 19 rfl) ?_
      refine lv_iload hx hb dL_law_779 (lv_at hl 23 rfl) ?_
      refine lv_iconst (v := (4 : Int32)) hx hb dL_law_781 (by decide) ?_
      refine lv_ishr hx hb dL_law_782 ?_
      refine lv_iload hx hb dL_law_783 (lv_at hl 23 rfl) ?_
      refine lv_bipush (v := (15 : Int32)) hx hb dL_law_785 (by decide) ?_
      refine lv_iand hx hb dL_law_787 ?_
      obtain ⟨q5, eq5, h⟩ := obind h
      refine lw_ci (va_runV (As := [.int x17, .int x21, .int (x30 >>> ((4 : Int32) &&& 31)), .int (x30 &&& (15 : Int32))]) (rest := []) ⟨hx, hb, hml, hown, hts⟩ (k_X4_go l D cy ad P Dr tI hX I L x17 x21 (x30 >>> ((4 : Int32) &&& 31)) (x30 &&& (15 : Int32)) q5 eq5) (cwV 4 hts (goodIn_up gL_law_X4_go) rfl rfl rfl cd_X4_go ⟨Nat.le_of_ble_eq_true rfl, Nat.le_of_ble_eq_true rfl⟩) ⟨g_blind cZm, g_recv hK hG (k := 0) (by decide) (cE_4 _ _) vwCl_4, g_pre cZm hK hG hZ (law_S0 hS)⟩ rfl rfl hl.1 rfl (lv_room (Nat.le_of_ble_eq_true rfl)) dL_law_788 ⟨Nat.le_of_ble_eq_true rfl, Nat.le_of_ble_eq_true rfl⟩) hS hA (fun H locs hG hS => ?_)
      refine lv_iload hx hb dL_law_791 (lv_at hl 22 rfl) ?_
      refine lv_icmp_ne (tgt := 826) hx hb dL_law_793 (by decide) (fun c6 => ?_) (fun c6 => ?_)
      · have h := ite_f h c6
        refine lv_iconst (v := (0 : Int32)) hx hb dL_law_826 (by decide) ?_
        have h := Option.some.inj h
        exact absurd h (by decide)
      · have h := ite_t h c6
        refine lv_aload_n hx hb dL_law_796 rfl (lv_at hl 2 rfl) ?_
        refine lv_iload hx hb dL_law_797 (lv_at hl 11 rfl) ?_
        obtain ⟨q7, eq7, h⟩ := obind h
        refine lw_ci (va_runV (As := [.int x11]) (rest := []) ⟨hx, hb, hml, hown, hts⟩ (k_X4_undo l D cy ad P Dr tI hX q5.2 L x11 q7 eq7) (cwV 1 hts (goodIn_up gL_law_X4_undo) rfl rfl rfl cd_X4_undo ⟨Nat.le_of_ble_eq_true rfl, Nat.le_of_ble_eq_true rfl⟩) ⟨g_blind cZm, g_recv hK hG (k := 0) (by decide) (cE_4 _ _) vwCl_4, g_pre cZm hK hG hZ (law_S0 hS)⟩ rfl rfl hl.1 rfl (lv_room (Nat.le_of_ble_eq_true rfl)) dL_law_799 ⟨Nat.le_of_ble_eq_true rfl, Nat.le_of_ble_eq_true rfl⟩) hS hA (fun H locs hG hS => ?_)
        refine lv_iconst (v := (1 : Int32)) hx hb dL_law_802 (by decide) ?_
        refine lv_icmp_ne (tgt := 826) hx hb dL_law_803 (by decide) (fun c8 => ?_) (fun c8 => ?_)
        · have h := ite_f h c8
          refine lv_iconst (v := (0 : Int32)) hx hb dL_law_826 (by decide) ?_
          have h := Option.some.inj h
          exact absurd h (by decide)
        · have h := ite_t h c8
          refine lv_aload_n hx hb dL_law_806 rfl (lv_at hl 2 rfl) ?_
          refine lv_iconst (v := (4 : Int32)) hx hb dL_law_807 (by decide) ?_
          obtain ⟨v9, ev9, h⟩ := obind h
          refine lw_ci (va_runV (As := [.int (4 : Int32)]) (rest := []) ⟨hx, hb, hml, hown, hts⟩ (k_X4_count l D cy ad P Dr tI hX q7.2 L (4 : Int32) v9 ev9) (cwV 1 hts (goodIn_up gL_law_X4_count) rfl rfl rfl cd_X4_count ⟨Nat.le_of_ble_eq_true rfl, Nat.le_of_ble_eq_true rfl⟩) ⟨g_blind cZm, g_recv hK hG (k := 0) (by decide) (cE_4 _ _) vwCl_4, g_pre cZm hK hG hZ (law_S0 hS)⟩ rfl rfl hl.1 rfl (lv_room (Nat.le_of_ble_eq_true rfl)) dL_law_808 ⟨Nat.le_of_ble_eq_true rfl, Nat.le_of_ble_eq_true rfl⟩) hS hA (fun H locs hG hS => ?_)
          refine lv_iload hx hb dL_law_811 (lv_at hl 13 rfl) ?_
          refine lv_icmp_ne (tgt := 826) hx hb dL_law_813 (by decide) (fun c10 => ?_) (fun c10 => ?_)
          · have h := ite_f h c10
            refine lv_iconst (v := (0 : Int32)) hx hb dL_law_826 (by decide) ?_
            have h := Option.some.inj h
            exact absurd h (by decide)
          · have h := ite_t h c10
            exact kc_816 C0 hX hB67 hB202 hB319 _ _ _ _ _ _ _ _ _ _ _ _ _ _ _ _ _ _ _ _ _ _ h hG hS (lv_sub hl [1, 2, 3, 4, 5, 6, 7, 8, 9, 10, 11, 12, 13, 14, 15, 0, 16, 17, 18, 19, 20] rfl)
  clear h
  have h := h9
  clear h9
  refine lv_if_eq (tgt := 765) hx hb dL_law_751 (by decide) (fun c2 => ?_) (fun c2 => ?_)
  · have h := ite_t h c2
    refine lv_iconst (v := (0 : Int32)) hx hb dL_law_765 (by decide) ?_
    have h := Option.some.inj h
    subst h
    exact hk_q1 _ _ _ hG hS (lv_sub hl [0, 1, 2, 3, 4, 5, 6, 7, 8, 9, 10, 11, 12, 13, 14, 16, 17, 18, 19, 20, 21, 22, 23] rfl)
  · have h := ite_f h c2
    refine lv_iload hx hb dL_law_754 (lv_at hl 16 rfl) ?_
    refine lv_iload hx hb dL_law_756 (lv_at hl 19 rfl) ?_
    refine lv_icmp_ge (tgt := 765) hx hb dL_law_758 (by decide) (fun c3 => ?_) (fun c3 => ?_)
    · have h := ite_t h c3
      refine lv_iconst (v := (0 : Int32)) hx hb dL_law_765 (by decide) ?_
      have h := Option.some.inj h
      subst h
      exact hk_q1 _ _ _ hG hS (lv_sub hl [0, 1, 2, 3, 4, 5, 6, 7, 8, 9, 10, 11, 12, 13, 14, 16, 17, 18, 19, 20, 21, 22, 23] rfl)
    · have h := ite_f h c3
      refine lv_iconst (v := (1 : Int32)) hx hb dL_law_761 (by decide) ?_
      refine lv_goto (tgt := 766) hx hb dL_law_762 (by decide) ?_
      have h := Option.some.inj h
      subst h
      exact hk_q1 _ _ _ hG hS (lv_sub hl [0, 1, 2, 3, 4, 5, 6, 7, 8, 9, 10, 11, 12, 13, 14, 16, 17, 18, 19, 20, 21, 22, 23] rfl)
def XC_675 (tI : xTab) (P Dr : Nat) (B67 : Int32 → Int32 → Int32 → Int64 → Int32 → xMem → xLon → Option Int32) (B202 : Int32 → Int32 → Int32 → Int64 → Int32 → Int32 → Int32 → Int32 → Int32 → Int32 → Int32 → Int32 → Int32 → xMem → xLon → Option Int32) (B319 : Int32 → Int32 → Int32 → Int64 → Int32 → Int32 → Int32 → Int32 → Int32 → Int32 → Int32 → Int32 → Int32 → Int32 → Int32 → Int32 → xMem → xLon → Option Int32) (x4 : Int32) (x5 : Int32) (x6 : Int32) (x7 : Int64) (x9 : Int32) (x10 : Int32) (x11 : Int32) (x12 : Int32) (x13 : Int32) (x14 : Int32) (x15 : Int32) (x16 : Int32) (x17 : Int32) (x18 : Int32) (x20 : Int32) (x21 : Int32) (x22 : Int32) (x23 : Int32) (x29 : Int32) (x30 : Int32) (I : xMem) (L : xLon) : Option Int32 := if (((x30 >>> ((4 : Int32) &&& 31)) &&& x30) &&& (15 : Int32)) = (0 : Int32) then (if (((x30 >>> ((4 : Int32) &&& 31)) ||| (x30 &&& (15 : Int32))) &&& (x20 ^^^ (-1 : Int32))) = (0 : Int32) then ((X4_sink P I x17 x21 (x30 >>> ((4 : Int32) &&& 31)) (x30 &&& (15 : Int32))).bind fun v3 => if v3 = x29 then ((if x5 < x29 then (some (0 : Int32)) else (some (1 : Int32))).bind fun q5 => if x23 = q5 then (XC_747 tI P Dr B67 B202 B319 x4 x5 x6 x7 x9 x10 x11 x12 x13 x14 x15 x16 x17 x18 x20 x21 x22 x23 x29 x30 I L) else (some (0 : Int32))) else (some (0 : Int32))) else (some (0 : Int32))) else (some (0 : Int32))
set_option maxHeartbeats 4000000 in
set_option maxRecDepth 100000 in
theorem kc_675 (C0 : LC p l e s m args below meth c Q D cy ad tI) {P Dr : Nat} (hX : cOk ad P Dr) {B67 : Int32 → Int32 → Int32 → Int64 → Int32 → xMem → xLon → Option Int32} {B202 : Int32 → Int32 → Int32 → Int64 → Int32 → Int32 → Int32 → Int32 → Int32 → Int32 → Int32 → Int32 → Int32 → xMem → xLon → Option Int32} {B319 : Int32 → Int32 → Int32 → Int64 → Int32 → Int32 → Int32 → Int32 → Int32 → Int32 → Int32 → Int32 → Int32 → Int32 → Int32 → Int32 → xMem → xLon → Option Int32} (hB67 : ∀ (y4 : Int32) (y5 : Int32) (y6 : Int32) (y7 : Int64) (y9 : Int32) (I : xMem) (L : xLon) (H : Heap) (locs : List Loc) (ls : Array Slot), B67 y4 y5 y6 y7 y9 I L = some 1 → cG D cy ad P Dr I L H → va_S (fun q : Nat => s.heap.size ≤ q) s.heap H locs → lv_has ls 43 [(0, .ref tI.2.1), (1, .ref (ad 0)), (2, .ref (ad 62)), (3, .ref (ad 63)), (4, .int y4), (5, .int y5), (6, .int y6), (7, .long y7), (9, .int y9)] → W p l e room_1 s m args below meth c H locs 600000 7302250 Q (F0 m 67 ls [])) (hB202 : ∀ (y4 : Int32) (y5 : Int32) (y6 : Int32) (y7 : Int64) (y9 : Int32) (y10 : Int32) (y11 : Int32) (y12 : Int32) (y13 : Int32) (y14 : Int32) (y15 : Int32) (y16 : Int32) (y17 : Int32) (I : xMem) (L : xLon) (H : Heap) (locs : List Loc) (ls : Array Slot), B202 y4 y5 y6 y7 y9 y10 y11 y12 y13 y14 y15 y16 y17 I L = some 1 → cG D cy ad P Dr I L H → va_S (fun q : Nat => s.heap.size ≤ q) s.heap H locs → lv_has ls 43 [(0, .ref tI.2.1), (1, .ref (ad 0)), (2, .ref (ad 62)), (3, .ref (ad 63)), (4, .int y4), (5, .int y5), (6, .int y6), (7, .long y7), (9, .int y9), (10, .int y10), (11, .int y11), (12, .int y12), (13, .int y13), (14, .int y14), (15, .int y15), (16, .int y16), (17, .int y17)] → W p l e room_1 s m args below meth c H locs 600000 7302250 Q (F0 m 202 ls [])) (hB319 : ∀ (y4 : Int32) (y5 : Int32) (y6 : Int32) (y7 : Int64) (y9 : Int32) (y10 : Int32) (y11 : Int32) (y12 : Int32) (y13 : Int32) (y14 : Int32) (y15 : Int32) (y16 : Int32) (y17 : Int32) (y18 : Int32) (y20 : Int32) (y21 : Int32) (I : xMem) (L : xLon) (H : Heap) (locs : List Loc) (ls : Array Slot), B319 y4 y5 y6 y7 y9 y10 y11 y12 y13 y14 y15 y16 y17 y18 y20 y21 I L = some 1 → cG D cy ad P Dr I L H → va_S (fun q : Nat => s.heap.size ≤ q) s.heap H locs → lv_has ls 43 [(0, .ref tI.2.1), (1, .ref (ad 0)), (2, .ref (ad 62)), (3, .ref (ad 63)), (4, .int y4), (5, .int y5), (6, .int y6), (7, .long y7), (9, .int y9), (10, .int y10), (11, .int y11), (12, .int y12), (13, .int y13), (14, .int y14), (15, .int y15), (16, .int y16), (17, .int y17), (18, .int y18), (20, .int y20), (21, .int y21)] → W p l e room_1 s m args below meth c H locs 600000 7302250 Q (F0 m 319 ls [])) (x4 : Int32) (x5 : Int32) (x6 : Int32) (x7 : Int64) (x9 : Int32) (x10 : Int32) (x11 : Int32) (x12 : Int32) (x13 : Int32) (x14 : Int32) (x15 : Int32) (x16 : Int32) (x17 : Int32) (x18 : Int32) (x20 : Int32) (x21 : Int32) (x22 : Int32) (x23 : Int32) (x29 : Int32) (x30 : Int32) (I : xMem) (L : xLon) (H : Heap) (locs : List Loc) (ls : Array Slot) (h : XC_675 tI P Dr B67 B202 B319 x4 x5 x6 x7 x9 x10 x11 x12 x13 x14 x15 x16 x17 x18 x20 x21 x22 x23 x29 x30 I L = some 1) : cG D cy ad P Dr I L H → va_S (fun q : Nat => s.heap.size ≤ q) s.heap H locs → lv_has ls 43 [(0, .ref tI.2.1), (1, .ref (ad 0)), (2, .ref (ad 62)), (3, .ref (ad 63)), (4, .int x4), (5, .int x5), (6, .int x6), (7, .long x7), (9, .int x9), (10, .int x10), (11, .int x11), (12, .int x12), (13, .int x13), (14, .int x14), (15, .int x15), (16, .int x16), (17, .int x17), (18, .int x18), (20, .int x20), (21, .int x21), (22, .int x22), (23, .int x23), (29, .int x29), (30, .int x30)] → W p l e room_1 s m args below meth c H locs 600000 7302250 Q (F0 m 675 ls []) := by
  obtain ⟨⟨hx, hb, hml, hown, hts⟩, ⟨hK, hZ⟩, hi, hA, kr⟩ := id C0
  intro hG hS hl
  unfold XC_675 at h
  refine lv_iload hx hb dL_law_675 (lv_at hl 23 rfl) ?_
  refine lv_iconst (v := (4 : Int32)) hx hb dL_law_677 (by decide) ?_
  refine lv_ishr hx hb dL_law_678 ?_
  refine lv_iload hx hb dL_law_679 (lv_at hl 23 rfl) ?_
  refine lv_iand hx hb dL_law_681 ?_
  refine lv_bipush (v := (15 : Int32)) hx hb dL_law_682 (by decide) ?_
  refine lv_iand hx hb dL_law_684 ?_
  refine lv_if_ne (tgt := 745) hx hb dL_law_685 (by decide) (fun c1 => ?_) (fun c1 => ?_)
  · have h := ite_f h c1
    refine lv_iconst (v := (0 : Int32)) hx hb dL_law_745 (by decide) ?_
    have h := Option.some.inj h
    exact absurd h (by decide)
  · have h := ite_t h c1
    refine lv_iload hx hb dL_law_688 (lv_at hl 23 rfl) ?_
    refine lv_iconst (v := (4 : Int32)) hx hb dL_law_690 (by decide) ?_
    refine lv_ishr hx hb dL_law_691 ?_
    refine lv_iload hx hb dL_law_692 (lv_at hl 23 rfl) ?_
    refine lv_bipush (v := (15 : Int32)) hx hb dL_law_694 (by decide) ?_
    refine lv_iand hx hb dL_law_696 ?_
    refine lv_ior hx hb dL_law_697 ?_
    refine lv_iload hx hb dL_law_698 (lv_at hl 18 rfl) ?_
    refine lv_iconst (v := (-1 : Int32)) hx hb dL_law_700 (by decide) ?_
    refine lv_ixor hx hb dL_law_701 ?_
    refine lv_iand hx hb dL_law_702 ?_
    refine lv_if_ne (tgt := 745) hx hb dL_law_703 (by decide) (fun c2 => ?_) (fun c2 => ?_)
    · have h := ite_f h c2
      refine lv_iconst (v := (0 : Int32)) hx hb dL_law_745 (by decide) ?_
      have h := Option.some.inj h
      exact absurd h (by decide)
    · have h := ite_t h c2
      refine lv_aload_n hx hb dL_law_706 rfl (lv_at hl 1 rfl) ?_
      refine lv_iload hx hb dL_law_707 (lv_at hl 16 rfl) ?_
      refine lv_iload hx hb dL_law_709 (lv_at hl 19 rfl) ?_
      refine lv_iload hx hb dL_law_711 (lv_at hl 23 rfl) ?_
      refine lv_iconst (v := (4 : Int32)) hx hb dL_law_713 (by decide) ?_
      refine lv_ishr hx hb dL_law_714 ?_
      refine lv_iload hx hb dL_law_715 (lv_at hl 23 rfl) ?_
      refine lv_bipush (v := (15 : Int32)) hx hb dL_law_717 (by decide) ?_
      refine lv_iand hx hb dL_law_719 ?_
      obtain ⟨v3, ev3, h⟩ := obind h
      refine lw_ci (va_runV (As := [.int x17, .int x21, .int (x30 >>> ((4 : Int32) &&& 31)), .int (x30 &&& (15 : Int32))]) (rest := []) ⟨hx, hb, hml, hown, hts⟩ (k_X4_sink l D cy ad P Dr tI hX I L x17 x21 (x30 >>> ((4 : Int32) &&& 31)) (x30 &&& (15 : Int32)) v3 ev3) (cwV 4 hts (goodIn_up gL_law_X4_sink) rfl rfl rfl cd_X4_sink ⟨Nat.le_of_ble_eq_true rfl, Nat.le_of_ble_eq_true rfl⟩) ⟨g_blind cZm, g_recv hK hG (k := 0) (by decide) (cE_4 _ _) vwCl_4, g_pre cZm hK hG hZ (law_S0 hS)⟩ rfl rfl hl.1 rfl (lv_room (Nat.le_of_ble_eq_true rfl)) dL_law_720 ⟨Nat.le_of_ble_eq_true rfl, Nat.le_of_ble_eq_true rfl⟩) hS hA (fun H locs hG hS => ?_)
      refine lv_iload hx hb dL_law_723 (lv_at hl 22 rfl) ?_
      refine lv_icmp_ne (tgt := 745) hx hb dL_law_725 (by decide) (fun c4 => ?_) (fun c4 => ?_)
      · have h := ite_f h c4
        refine lv_iconst (v := (0 : Int32)) hx hb dL_law_745 (by decide) ?_
        have h := Option.some.inj h
        exact absurd h (by decide)
      · have h := ite_t h c4
        refine lv_iload hx hb dL_law_728 (lv_at hl 21 rfl) ?_
        refine lv_iload hx hb dL_law_730 (lv_at hl 22 rfl) ?_
        refine lv_iload hx hb dL_law_732 (lv_at hl 5 rfl) ?_
        obtain ⟨q5, h9, h⟩ := obind h
        have hk_q5 : ∀ (H : Heap) (locs : List Loc) (ls : Array Slot), cG D cy ad P Dr I L H → va_S (fun q : Nat => s.heap.size ≤ q) s.heap H locs → lv_has ls 43 [(0, .ref tI.2.1), (1, .ref (ad 0)), (2, .ref (ad 62)), (3, .ref (ad 63)), (4, .int x4), (5, .int x5), (6, .int x6), (7, .long x7), (9, .int x9), (10, .int x10), (11, .int x11), (12, .int x12), (13, .int x13), (14, .int x14), (15, .int x15), (16, .int x16), (17, .int x17), (18, .int x18), (20, .int x20), (21, .int x21), (22, .int x22), (23, .int x23), (29, .int x29), (30, .int x30)] → W p l e room_1 s m args below meth c H locs 600000 7302250 Q (F0 m 742 ls [.int q5, .int x23]) := by
          intro H locs ls hG hS hl
          refine lv_icmp_eq (tgt := 747) hx hb dL_law_742 (by decide) (fun c7 => ?_) (fun c7 => ?_)
          · have h := ite_t h c7
            exact kc_747 C0 hX hB67 hB202 hB319 _ _ _ _ _ _ _ _ _ _ _ _ _ _ _ _ _ _ _ _ _ _ _ _ _ h hG hS (lv_sub hl [0, 1, 2, 3, 4, 5, 6, 7, 8, 9, 10, 11, 12, 13, 14, 15, 16, 17, 18, 19, 20, 21, 22, 23] rfl)
          · have h := ite_f h c7
            refine lv_iconst (v := (0 : Int32)) hx hb dL_law_745 (by decide) ?_
            have h := Option.some.inj h
            exact absurd h (by decide)
        clear h
        have h := h9
        clear h9
        refine lv_icmp_gt (tgt := 741) hx hb dL_law_734 (by decide) (fun c6 => ?_) (fun c6 => ?_)
        · have h := ite_t h c6
          refine lv_iconst (v := (0 : Int32)) hx hb dL_law_741 (by decide) ?_
          have h := Option.some.inj h
          subst h
          exact hk_q5 _ _ _ hG hS (lv_sub hl [0, 1, 2, 3, 4, 5, 6, 7, 8, 9, 10, 11, 12, 13, 14, 15, 16, 17, 18, 19, 20, 21, 22, 23] rfl)
        · have h := ite_f h c6
          refine lv_iconst (v := (1 : Int32)) hx hb dL_law_737 (by decide) ?_
          refine lv_goto (tgt := 742) hx hb dL_law_738 (by decide) ?_
          have h := Option.some.inj h
          subst h
          exact hk_q5 _ _ _ hG hS (lv_sub hl [0, 1, 2, 3, 4, 5, 6, 7, 8, 9, 10, 11, 12, 13, 14, 15, 16, 17, 18, 19, 20, 21, 22, 23] rfl)
def XC_612 (tI : xTab) (P Dr : Nat) (B67 : Int32 → Int32 → Int32 → Int64 → Int32 → xMem → xLon → Option Int32) (B202 : Int32 → Int32 → Int32 → Int64 → Int32 → Int32 → Int32 → Int32 → Int32 → Int32 → Int32 → Int32 → Int32 → xMem → xLon → Option Int32) (B319 : Int32 → Int32 → Int32 → Int64 → Int32 → Int32 → Int32 → Int32 → Int32 → Int32 → Int32 → Int32 → Int32 → Int32 → Int32 → Int32 → xMem → xLon → Option Int32) (x4 : Int32) (x5 : Int32) (x6 : Int32) (x7 : Int64) (x9 : Int32) (x10 : Int32) (x11 : Int32) (x12 : Int32) (x13 : Int32) (x14 : Int32) (x15 : Int32) (x16 : Int32) (x17 : Int32) (x18 : Int32) (x20 : Int32) (x21 : Int32) (x22 : Int32) (x23 : Int32) (x26 : Int32) (x28 : Int32) (I : xMem) (L : xLon) : Option Int32 := (X4_best P I x17 x21).bind fun q1 => if x22 = (0 : Int32) then (if q1.1 = (-4 : Int32) then (XC_747 tI P Dr B67 B202 B319 x4 x5 x6 x7 x9 x10 x11 x12 x13 x14 x15 x16 x17 x18 x20 x21 x22 x23 q1.1 (X4_asked q1.2) q1.2 L) else (some (0 : Int32))) else (if q1.1 < (0 : Int32) then (some (0 : Int32)) else ((X4_sink P q1.2 x17 x21 (0 : Int32) (0 : Int32)).bind fun v4 => if v4 < q1.1 then (some (0 : Int32)) else (if x28 = (0 : Int32) then (XC_675 tI P Dr B67 B202 B319 x4 x5 x6 x7 x9 x10 x11 x12 x13 x14 x15 x16 x17 x18 x20 x21 x22 x23 q1.1 (X4_asked q1.2) q1.2 L) else (if x26 < q1.1 then (some (0 : Int32)) else (XC_675 tI P Dr B67 B202 B319 x4 x5 x6 x7 x9 x10 x11 x12 x13 x14 x15 x16 x17 x18 x20 x21 x22 x23 q1.1 (X4_asked q1.2) q1.2 L)))))
set_option maxHeartbeats 4000000 in
set_option maxRecDepth 100000 in
theorem kc_612 (C0 : LC p l e s m args below meth c Q D cy ad tI) {P Dr : Nat} (hX : cOk ad P Dr) {B67 : Int32 → Int32 → Int32 → Int64 → Int32 → xMem → xLon → Option Int32} {B202 : Int32 → Int32 → Int32 → Int64 → Int32 → Int32 → Int32 → Int32 → Int32 → Int32 → Int32 → Int32 → Int32 → xMem → xLon → Option Int32} {B319 : Int32 → Int32 → Int32 → Int64 → Int32 → Int32 → Int32 → Int32 → Int32 → Int32 → Int32 → Int32 → Int32 → Int32 → Int32 → Int32 → xMem → xLon → Option Int32} (hB67 : ∀ (y4 : Int32) (y5 : Int32) (y6 : Int32) (y7 : Int64) (y9 : Int32) (I : xMem) (L : xLon) (H : Heap) (locs : List Loc) (ls : Array Slot), B67 y4 y5 y6 y7 y9 I L = some 1 → cG D cy ad P Dr I L H → va_S (fun q : Nat => s.heap.size ≤ q) s.heap H locs → lv_has ls 43 [(0, .ref tI.2.1), (1, .ref (ad 0)), (2, .ref (ad 62)), (3, .ref (ad 63)), (4, .int y4), (5, .int y5), (6, .int y6), (7, .long y7), (9, .int y9)] → W p l e room_1 s m args below meth c H locs 600000 7302250 Q (F0 m 67 ls [])) (hB202 : ∀ (y4 : Int32) (y5 : Int32) (y6 : Int32) (y7 : Int64) (y9 : Int32) (y10 : Int32) (y11 : Int32) (y12 : Int32) (y13 : Int32) (y14 : Int32) (y15 : Int32) (y16 : Int32) (y17 : Int32) (I : xMem) (L : xLon) (H : Heap) (locs : List Loc) (ls : Array Slot), B202 y4 y5 y6 y7 y9 y10 y11 y12 y13 y14 y15 y16 y17 I L = some 1 → cG D cy ad P Dr I L H → va_S (fun q : Nat => s.heap.size ≤ q) s.heap H locs → lv_has ls 43 [(0, .ref tI.2.1), (1, .ref (ad 0)), (2, .ref (ad 62)), (3, .ref (ad 63)), (4, .int y4), (5, .int y5), (6, .int y6), (7, .long y7), (9, .int y9), (10, .int y10), (11, .int y11), (12, .int y12), (13, .int y13), (14, .int y14), (15, .int y15), (16, .int y16), (17, .int y17)] → W p l e room_1 s m args below meth c H locs 600000 7302250 Q (F0 m 202 ls [])) (hB319 : ∀ (y4 : Int32) (y5 : Int32) (y6 : Int32) (y7 : Int64) (y9 : Int32) (y10 : Int32) (y11 : Int32) (y12 : Int32) (y13 : Int32) (y14 : Int32) (y15 : Int32) (y16 : Int32) (y17 : Int32) (y18 : Int32) (y20 : Int32) (y21 : Int32) (I : xMem) (L : xLon) (H : Heap) (locs : List Loc) (ls : Array Slot), B319 y4 y5 y6 y7 y9 y10 y11 y12 y13 y14 y15 y16 y17 y18 y20 y21 I L = some 1 → cG D cy ad P Dr I L H → va_S (fun q : Nat => s.heap.size ≤ q) s.heap H locs → lv_has ls 43 [(0, .ref tI.2.1), (1, .ref (ad 0)), (2, .ref (ad 62)), (3, .ref (ad 63)), (4, .int y4), (5, .int y5), (6, .int y6), (7, .long y7), (9, .int y9), (10, .int y10), (11, .int y11), (12, .int y12), (13, .int y13), (14, .int y14), (15, .int y15), (16, .int y16), (17, .int y17), (18, .int y18), (20, .int y20), (21, .int y21)] → W p l e room_1 s m args below meth c H locs 600000 7302250 Q (F0 m 319 ls [])) (x4 : Int32) (x5 : Int32) (x6 : Int32) (x7 : Int64) (x9 : Int32) (x10 : Int32) (x11 : Int32) (x12 : Int32) (x13 : Int32) (x14 : Int32) (x15 : Int32) (x16 : Int32) (x17 : Int32) (x18 : Int32) (x20 : Int32) (x21 : Int32) (x22 : Int32) (x23 : Int32) (x26 : Int32) (x28 : Int32) (I : xMem) (L : xLon) (H : Heap) (locs : List Loc) (ls : Array Slot) (h : XC_612 tI P Dr B67 B202 B319 x4 x5 x6 x7 x9 x10 x11 x12 x13 x14 x15 x16 x17 x18 x20 x21 x22 x23 x26 x28 I L = some 1) : cG D cy ad P Dr I L H → va_S (fun q : Nat => s.heap.size ≤ q) s.heap H locs → lv_has ls 43 [(0, .ref tI.2.1), (1, .ref (ad 0)), (2, .ref (ad 62)), (3, .ref (ad 63)), (4, .int x4), (5, .int x5), (6, .int x6), (7, .long x7), (9, .int x9), (10, .int x10), (11, .int x11), (12, .int x12), (13, .int x13), (14, .int x14), (15, .int x15), (16, .int x16), (17, .int x17), (18, .int x18), (20, .int x20), (21, .int x21), (22, .int x22), (23, .int x23), (26, .int x26), (28, .int x28)] → W p l e room_1 s m args below meth c H locs 600000 7302250 Q (F0 m 612 ls []) := by
  obtain ⟨⟨hx, hb, hml, hown, hts⟩, ⟨hK, hZ⟩, hi, hA, kr⟩ := id C0
  intro hG hS hl
  unfold XC_612 at h
  refine lv_aload_n hx hb dL_law_612 rfl (lv_at hl 1 rfl) ?_
  refine lv_iload hx hb dL_law_613 (lv_at hl 16 rfl) ?_
  refine lv_iload hx hb dL_law_615 (lv_at hl 19 rfl) ?_
  obtain ⟨q1, eq1, h⟩ := obind h
  refine lw_ci (va_runV (As := [.int x17, .int x21]) (rest := []) ⟨hx, hb, hml, hown, hts⟩ (k_X4_best l D cy ad P Dr tI hX I L x17 x21 q1 eq1) (cwV 2 hts (goodIn_up gL_law_X4_best) rfl rfl rfl cd_X4_best ⟨Nat.le_of_ble_eq_true rfl, Nat.le_of_ble_eq_true rfl⟩) ⟨g_blind cZm, g_recv hK hG (k := 0) (by decide) (cE_4 _ _) vwCl_4, g_pre cZm hK hG hZ (law_S0 hS)⟩ rfl rfl hl.1 rfl (lv_room (Nat.le_of_ble_eq_true rfl)) dL_law_617 ⟨Nat.le_of_ble_eq_true rfl, Nat.le_of_ble_eq_true rfl⟩) hS hA (fun H locs hG hS => ?_)
  refine lv_istore (lv' := [(29, .int q1.1), (0, .ref tI.2.1), (1, .ref (ad 0)), (2, .ref (ad 62)), (3, .ref (ad 63)), (4, .int x4), (5, .int x5), (6, .int x6), (7, .long x7), (9, .int x9), (10, .int x10), (11, .int x11), (12, .int x12), (13, .int x13), (14, .int x14), (15, .int x15), (16, .int x16), (17, .int x17), (18, .int x18), (20, .int x20), (21, .int x21), (22, .int x22), (23, .int x23), (26, .int x26), (28, .int x28)]) hx hb dL_law_620 hl (by decide) rfl (fun ls hl => ?_)
  refine lv_aload_n hx hb dL_law_622 rfl (lv_at hl 2 rfl) ?_
  refine lw_ci (va_runV (As := []) (rest := []) ⟨hx, hb, hml, hown, hts⟩ (k_X4_asked l D cy ad P Dr tI hX q1.2 L _ rfl) (cwV 0 hts (goodIn_up gL_law_X4_asked) rfl rfl rfl cd_X4_asked ⟨Nat.le_of_ble_eq_true rfl, Nat.le_of_ble_eq_true rfl⟩) ⟨g_blind cZm, g_recv hK hG (k := 0) (by decide) (cE_4 _ _) vwCl_4, g_pre cZm hK hG hZ (law_S0 hS)⟩ rfl rfl hl.1 rfl (lv_room (Nat.le_of_ble_eq_true rfl)) dL_law_623 ⟨Nat.le_of_ble_eq_true rfl, Nat.le_of_ble_eq_true rfl⟩) hS hA (fun H locs hG hS => ?_)
  refine lv_istore (lv' := [(30, .int (X4_asked q1.2)), (29, .int q1.1), (0, .ref tI.2.1), (1, .ref (ad 0)), (2, .ref (ad 62)), (3, .ref (ad 63)), (4, .int x4), (5, .int x5), (6, .int x6), (7, .long x7), (9, .int x9), (10, .int x10), (11, .int x11), (12, .int x12), (13, .int x13), (14, .int x14), (15, .int x15), (16, .int x16), (17, .int x17), (18, .int x18), (20, .int x20), (21, .int x21), (22, .int x22), (23, .int x23), (26, .int x26), (28, .int x28)]) hx hb dL_law_626 hl (by decide) rfl (fun ls hl => ?_)
  refine lv_iload hx hb dL_law_628 (lv_at hl 22 rfl) ?_
  refine lv_if_ne (tgt := 643) hx hb dL_law_630 (by decide) (fun c2 => ?_) (fun c2 => ?_)
  · have h := ite_f h c2
    refine lv_iload hx hb dL_law_643 (lv_at hl 1 rfl) ?_
    refine lv_if_lt (tgt := 745) hx hb dL_law_645 (by decide) (fun c3 => ?_) (fun c3 => ?_)
    · have h := ite_t h c3
      refine lv_iconst (v := (0 : Int32)) hx hb dL_law_745 (by decide) ?_
      have h := Option.some.inj h
      exact absurd h (by decide)
    · have h := ite_f h c3
      refine lv_iload hx hb dL_law_648 (lv_at hl 1 rfl) ?_
      refine lv_aload_n hx hb dL_law_650 rfl (lv_at hl 3 rfl) ?_
      refine lv_iload hx hb dL_law_651 (lv_at hl 18 rfl) ?_
      refine lv_iload hx hb dL_law_653 (lv_at hl 21 rfl) ?_
      refine lv_iconst (v := (0 : Int32)) hx hb dL_law_655 (by decide) ?_
      refine lv_iconst (v := (0 : Int32)) hx hb dL_law_656 (by decide) ?_
      obtain ⟨v4, ev4, h⟩ := obind h
      refine lw_ci (va_runV (As := [.int x17, .int x21, .int (0 : Int32), .int (0 : Int32)]) (rest := [.int q1.1]) ⟨hx, hb, hml, hown, hts⟩ (k_X4_sink l D cy ad P Dr tI hX q1.2 L x17 x21 (0 : Int32) (0 : Int32) v4 ev4) (cwV 4 hts (goodIn_up gL_law_X4_sink) rfl rfl rfl cd_X4_sink ⟨Nat.le_of_ble_eq_true rfl, Nat.le_of_ble_eq_true rfl⟩) ⟨g_blind cZm, g_recv hK hG (k := 0) (by decide) (cE_4 _ _) vwCl_4, g_pre cZm hK hG hZ (law_S0 hS)⟩ rfl rfl hl.1 rfl (lv_room (Nat.le_of_ble_eq_true rfl)) dL_law_657 ⟨Nat.le_of_ble_eq_true rfl, Nat.le_of_ble_eq_true rfl⟩) hS hA (fun H locs hG hS => ?_)
      refine lv_icmp_gt (tgt := 745) hx hb dL_law_660 (by decide) (fun c5 => ?_) (fun c5 => ?_)
      · have h := ite_t h c5
        refine lv_iconst (v := (0 : Int32)) hx hb dL_law_745 (by decide) ?_
        have h := Option.some.inj h
        exact absurd h (by decide)
      · have h := ite_f h c5
        refine lv_iload hx hb dL_law_663 (lv_at hl 25 rfl) ?_
        refine lv_if_eq (tgt := 675) hx hb dL_law_665 (by decide) (fun c6 => ?_) (fun c6 => ?_)
        · have h := ite_t h c6
          exact kc_675 C0 hX hB67 hB202 hB319 _ _ _ _ _ _ _ _ _ _ _ _ _ _ _ _ _ _ _ _ _ _ _ _ _ h hG hS (lv_sub hl [2, 3, 4, 5, 6, 7, 8, 9, 10, 11, 12, 13, 14, 15, 16, 17, 18, 19, 20, 21, 22, 23, 1, 0] rfl)
        · have h := ite_f h c6
          refine lv_iload hx hb dL_law_668 (lv_at hl 1 rfl) ?_
          refine lv_iload hx hb dL_law_670 (lv_at hl 24 rfl) ?_
          refine lv_icmp_gt (tgt := 745) hx hb dL_law_672 (by decide) (fun c7 => ?_) (fun c7 => ?_)
          · have h := ite_t h c7
            refine lv_iconst (v := (0 : Int32)) hx hb dL_law_745 (by decide) ?_
            have h := Option.some.inj h
            exact absurd h (by decide)
          · have h := ite_f h c7
            exact kc_675 C0 hX hB67 hB202 hB319 _ _ _ _ _ _ _ _ _ _ _ _ _ _ _ _ _ _ _ _ _ _ _ _ _ h hG hS (lv_sub hl [2, 3, 4, 5, 6, 7, 8, 9, 10, 11, 12, 13, 14, 15, 16, 17, 18, 19, 20, 21, 22, 23, 1, 0] rfl)
  · have h := ite_t h c2
    refine lv_iload hx hb dL_law_633 (lv_at hl 1 rfl) ?_
    refine lv_bipush (v := (-4 : Int32)) hx hb dL_law_635 (by decide) ?_
    refine lv_icmp_eq (tgt := 747) hx hb dL_law_637 (by decide) (fun c8 => ?_) (fun c8 => ?_)
    · have h := ite_t h c8
      exact kc_747 C0 hX hB67 hB202 hB319 _ _ _ _ _ _ _ _ _ _ _ _ _ _ _ _ _ _ _ _ _ _ _ _ _ h hG hS (lv_sub hl [2, 3, 4, 5, 6, 7, 8, 9, 10, 11, 12, 13, 14, 15, 16, 17, 18, 19, 20, 21, 22, 23, 1, 0] rfl)
    · have h := ite_f h c8
      refine lv_goto (tgt := 745) hx hb dL_law_640 (by decide) ?_
      refine lv_iconst (v := (0 : Int32)) hx hb dL_law_745 (by decide) ?_
      have h := Option.some.inj h
      exact absurd h (by decide)
def XC_545 (tI : xTab) (P Dr : Nat) (B67 : Int32 → Int32 → Int32 → Int64 → Int32 → xMem → xLon → Option Int32) (B202 : Int32 → Int32 → Int32 → Int64 → Int32 → Int32 → Int32 → Int32 → Int32 → Int32 → Int32 → Int32 → Int32 → xMem → xLon → Option Int32) (B319 : Int32 → Int32 → Int32 → Int64 → Int32 → Int32 → Int32 → Int32 → Int32 → Int32 → Int32 → Int32 → Int32 → Int32 → Int32 → Int32 → xMem → xLon → Option Int32) (x4 : Int32) (x5 : Int32) (x6 : Int32) (x7 : Int64) (x9 : Int32) (x10 : Int32) (x11 : Int32) (x12 : Int32) (x13 : Int32) (x14 : Int32) (x15 : Int32) (x16 : Int32) (x17 : Int32) (x18 : Int32) (x20 : Int32) (x21 : Int32) (x22 : Int32) (x23 : Int32) (x24 : Int32) (x25 : Int32) (x26 : Int32) (x28 : Int32) (I : xMem) (L : xLon) : Option Int32 := if x23 = (0 : Int32) then (some (0 : Int32)) else ((X4_count P I (4 : Int32)).bind fun v2 => if v2 = ((x13 ^^^ ((1 : Int32) <<< (x17 &&& 31))) ^^^ ((1 : Int32) <<< (x21 &&& 31))) then ((X4_count P I (5 : Int32)).bind fun v4 => if v4 = (x14 ^^^ (x24 ||| x25)) then ((X4_count P I (7 : Int32)).bind fun v6 => if v6 = (x15 + x26) then ((X4_undo I x11).bind fun q8 => if q8.1 = (1 : Int32) then (XC_612 tI P Dr B67 B202 B319 x4 x5 x6 x7 x9 x10 x11 x12 x13 x14 x15 x16 x17 x18 x20 x21 x22 x23 x26 x28 q8.2 L) else (some (0 : Int32))) else (some (0 : Int32))) else (some (0 : Int32))) else (some (0 : Int32)))
set_option maxHeartbeats 4000000 in
set_option maxRecDepth 100000 in
theorem kc_545 (C0 : LC p l e s m args below meth c Q D cy ad tI) {P Dr : Nat} (hX : cOk ad P Dr) {B67 : Int32 → Int32 → Int32 → Int64 → Int32 → xMem → xLon → Option Int32} {B202 : Int32 → Int32 → Int32 → Int64 → Int32 → Int32 → Int32 → Int32 → Int32 → Int32 → Int32 → Int32 → Int32 → xMem → xLon → Option Int32} {B319 : Int32 → Int32 → Int32 → Int64 → Int32 → Int32 → Int32 → Int32 → Int32 → Int32 → Int32 → Int32 → Int32 → Int32 → Int32 → Int32 → xMem → xLon → Option Int32} (hB67 : ∀ (y4 : Int32) (y5 : Int32) (y6 : Int32) (y7 : Int64) (y9 : Int32) (I : xMem) (L : xLon) (H : Heap) (locs : List Loc) (ls : Array Slot), B67 y4 y5 y6 y7 y9 I L = some 1 → cG D cy ad P Dr I L H → va_S (fun q : Nat => s.heap.size ≤ q) s.heap H locs → lv_has ls 43 [(0, .ref tI.2.1), (1, .ref (ad 0)), (2, .ref (ad 62)), (3, .ref (ad 63)), (4, .int y4), (5, .int y5), (6, .int y6), (7, .long y7), (9, .int y9)] → W p l e room_1 s m args below meth c H locs 600000 7302250 Q (F0 m 67 ls [])) (hB202 : ∀ (y4 : Int32) (y5 : Int32) (y6 : Int32) (y7 : Int64) (y9 : Int32) (y10 : Int32) (y11 : Int32) (y12 : Int32) (y13 : Int32) (y14 : Int32) (y15 : Int32) (y16 : Int32) (y17 : Int32) (I : xMem) (L : xLon) (H : Heap) (locs : List Loc) (ls : Array Slot), B202 y4 y5 y6 y7 y9 y10 y11 y12 y13 y14 y15 y16 y17 I L = some 1 → cG D cy ad P Dr I L H → va_S (fun q : Nat => s.heap.size ≤ q) s.heap H locs → lv_has ls 43 [(0, .ref tI.2.1), (1, .ref (ad 0)), (2, .ref (ad 62)), (3, .ref (ad 63)), (4, .int y4), (5, .int y5), (6, .int y6), (7, .long y7), (9, .int y9), (10, .int y10), (11, .int y11), (12, .int y12), (13, .int y13), (14, .int y14), (15, .int y15), (16, .int y16), (17, .int y17)] → W p l e room_1 s m args below meth c H locs 600000 7302250 Q (F0 m 202 ls [])) (hB319 : ∀ (y4 : Int32) (y5 : Int32) (y6 : Int32) (y7 : Int64) (y9 : Int32) (y10 : Int32) (y11 : Int32) (y12 : Int32) (y13 : Int32) (y14 : Int32) (y15 : Int32) (y16 : Int32) (y17 : Int32) (y18 : Int32) (y20 : Int32) (y21 : Int32) (I : xMem) (L : xLon) (H : Heap) (locs : List Loc) (ls : Array Slot), B319 y4 y5 y6 y7 y9 y10 y11 y12 y13 y14 y15 y16 y17 y18 y20 y21 I L = some 1 → cG D cy ad P Dr I L H → va_S (fun q : Nat => s.heap.size ≤ q) s.heap H locs → lv_has ls 43 [(0, .ref tI.2.1), (1, .ref (ad 0)), (2, .ref (ad 62)), (3, .ref (ad 63)), (4, .int y4), (5, .int y5), (6, .int y6), (7, .long y7), (9, .int y9), (10, .int y10), (11, .int y11), (12, .int y12), (13, .int y13), (14, .int y14), (15, .int y15), (16, .int y16), (17, .int y17), (18, .int y18), (20, .int y20), (21, .int y21)] → W p l e room_1 s m args below meth c H locs 600000 7302250 Q (F0 m 319 ls [])) (x4 : Int32) (x5 : Int32) (x6 : Int32) (x7 : Int64) (x9 : Int32) (x10 : Int32) (x11 : Int32) (x12 : Int32) (x13 : Int32) (x14 : Int32) (x15 : Int32) (x16 : Int32) (x17 : Int32) (x18 : Int32) (x20 : Int32) (x21 : Int32) (x22 : Int32) (x23 : Int32) (x24 : Int32) (x25 : Int32) (x26 : Int32) (x28 : Int32) (I : xMem) (L : xLon) (H : Heap) (locs : List Loc) (ls : Array Slot) (h : XC_545 tI P Dr B67 B202 B319 x4 x5 x6 x7 x9 x10 x11 x12 x13 x14 x15 x16 x17 x18 x20 x21 x22 x23 x24 x25 x26 x28 I L = some 1) : cG D cy ad P Dr I L H → va_S (fun q : Nat => s.heap.size ≤ q) s.heap H locs → lv_has ls 43 [(0, .ref tI.2.1), (1, .ref (ad 0)), (2, .ref (ad 62)), (3, .ref (ad 63)), (4, .int x4), (5, .int x5), (6, .int x6), (7, .long x7), (9, .int x9), (10, .int x10), (11, .int x11), (12, .int x12), (13, .int x13), (14, .int x14), (15, .int x15), (16, .int x16), (17, .int x17), (18, .int x18), (20, .int x20), (21, .int x21), (22, .int x22), (23, .int x23), (24, .int x24), (25, .int x25), (26, .int x26), (28, .int x28)] → W p l e room_1 s m args below meth c H locs 600000 7302250 Q (F0 m 545 ls []) := by
  obtain ⟨⟨hx, hb, hml, hown, hts⟩, ⟨hK, hZ⟩, hi, hA, kr⟩ := id C0
  intro hG hS hl
  unfold XC_545 at h
  refine lv_iload hx hb dL_law_545 (lv_at hl 21 rfl) ?_
  refine lv_if_eq (tgt := 610) hx hb dL_law_547 (by decide) (fun c1 => ?_) (fun c1 => ?_)
  · have h := ite_t h c1
    refine lv_iconst (v := (0 : Int32)) hx hb dL_law_610 (by decide) ?_
    have h := Option.some.inj h
    exact absurd h (by decide)
  · have h := ite_f h c1
    refine lv_aload_n hx hb dL_law_550 rfl (lv_at hl 1 rfl) ?_
    refine lv_iconst (v := (4 : Int32)) hx hb dL_law_551 (by decide) ?_
    obtain ⟨v2, ev2, h⟩ := obind h
    refine lw_ci (va_runV (As := [.int (4 : Int32)]) (rest := []) ⟨hx, hb, hml, hown, hts⟩ (k_X4_count l D cy ad P Dr tI hX I L (4 : Int32) v2 ev2) (cwV 1 hts (goodIn_up gL_law_X4_count) rfl rfl rfl cd_X4_count ⟨Nat.le_of_ble_eq_true rfl, Nat.le_of_ble_eq_true rfl⟩) ⟨g_blind cZm, g_recv hK hG (k := 0) (by decide) (cE_4 _ _) vwCl_4, g_pre cZm hK hG hZ (law_S0 hS)⟩ rfl rfl hl.1 rfl (lv_room (Nat.le_of_ble_eq_true rfl)) dL_law_552 ⟨Nat.le_of_ble_eq_true rfl, Nat.le_of_ble_eq_true rfl⟩) hS hA (fun H locs hG hS => ?_)
    refine lv_iload hx hb dL_law_555 (lv_at hl 12 rfl) ?_
    refine lv_iconst (v := (1 : Int32)) hx hb dL_law_557 (by decide) ?_
    refine lv_iload hx hb dL_law_558 (lv_at hl 16 rfl) ?_
    refine lv_ishl hx hb dL_law_560 ?_
    refine lv_ixor hx hb dL_law_561 ?_
    refine lv_iconst (v := (1 : Int32)) hx hb dL_law_562 (by decide) ?_
    refine lv_iload hx hb dL_law_563 (lv_at hl 19 rfl) ?_
    refine lv_ishl hx hb dL_law_565 ?_
    refine lv_ixor hx hb dL_law_566 ?_
    refine lv_icmp_ne (tgt := 610) hx hb dL_law_567 (by decide) (fun c3 => ?_) (fun c3 => ?_)
    · have h := ite_f h c3
      refine lv_iconst (v := (0 : Int32)) hx hb dL_law_610 (by decide) ?_
      have h := Option.some.inj h
      exact absurd h (by decide)
    · have h := ite_t h c3
      refine lv_aload_n hx hb dL_law_570 rfl (lv_at hl 1 rfl) ?_
      refine lv_iconst (v := (5 : Int32)) hx hb dL_law_571 (by decide) ?_
      obtain ⟨v4, ev4, h⟩ := obind h
      refine lw_ci (va_runV (As := [.int (5 : Int32)]) (rest := []) ⟨hx, hb, hml, hown, hts⟩ (k_X4_count l D cy ad P Dr tI hX I L (5 : Int32) v4 ev4) (cwV 1 hts (goodIn_up gL_law_X4_count) rfl rfl rfl cd_X4_count ⟨Nat.le_of_ble_eq_true rfl, Nat.le_of_ble_eq_true rfl⟩) ⟨g_blind cZm, g_recv hK hG (k := 0) (by decide) (cE_4 _ _) vwCl_4, g_pre cZm hK hG hZ (law_S0 hS)⟩ rfl rfl hl.1 rfl (lv_room (Nat.le_of_ble_eq_true rfl)) dL_law_572 ⟨Nat.le_of_ble_eq_true rfl, Nat.le_of_ble_eq_true rfl⟩) hS hA (fun H locs hG hS => ?_)
      refine lv_iload hx hb dL_law_575 (lv_at hl 13 rfl) ?_
      refine lv_iload hx hb dL_law_577 (lv_at hl 22 rfl) ?_
      refine lv_iload hx hb dL_law_579 (lv_at hl 23 rfl) ?_
      refine lv_ior hx hb dL_law_581 ?_
      refine lv_ixor hx hb dL_law_582 ?_
      refine lv_icmp_ne (tgt := 610) hx hb dL_law_583 (by decide) (fun c5 => ?_) (fun c5 => ?_)
      · have h := ite_f h c5
        refine lv_iconst (v := (0 : Int32)) hx hb dL_law_610 (by decide) ?_
        have h := Option.some.inj h
        exact absurd h (by decide)
      · have h := ite_t h c5
        refine lv_aload_n hx hb dL_law_586 rfl (lv_at hl 1 rfl) ?_
        refine lv_bipush (v := (7 : Int32)) hx hb dL_law_587 (by decide) ?_
        obtain ⟨v6, ev6, h⟩ := obind h
        refine lw_ci (va_runV (As := [.int (7 : Int32)]) (rest := []) ⟨hx, hb, hml, hown, hts⟩ (k_X4_count l D cy ad P Dr tI hX I L (7 : Int32) v6 ev6) (cwV 1 hts (goodIn_up gL_law_X4_count) rfl rfl rfl cd_X4_count ⟨Nat.le_of_ble_eq_true rfl, Nat.le_of_ble_eq_true rfl⟩) ⟨g_blind cZm, g_recv hK hG (k := 0) (by decide) (cE_4 _ _) vwCl_4, g_pre cZm hK hG hZ (law_S0 hS)⟩ rfl rfl hl.1 rfl (lv_room (Nat.le_of_ble_eq_true rfl)) dL_law_589 ⟨Nat.le_of_ble_eq_true rfl, Nat.le_of_ble_eq_true rfl⟩) hS hA (fun H locs hG hS => ?_)
        refine lv_iload hx hb dL_law_592 (lv_at hl 14 rfl) ?_
        refine lv_iload hx hb dL_law_594 (lv_at hl 24 rfl) ?_
        refine lv_iadd hx hb dL_law_596 ?_
        refine lv_icmp_ne (tgt := 610) hx hb dL_law_597 (by decide) (fun c7 => ?_) (fun c7 => ?_)
        · have h := ite_f h c7
          refine lv_iconst (v := (0 : Int32)) hx hb dL_law_610 (by decide) ?_
          have h := Option.some.inj h
          exact absurd h (by decide)
        · have h := ite_t h c7
          refine lv_aload_n hx hb dL_law_600 rfl (lv_at hl 1 rfl) ?_
          refine lv_iload hx hb dL_law_601 (lv_at hl 10 rfl) ?_
          obtain ⟨q8, eq8, h⟩ := obind h
          refine lw_ci (va_runV (As := [.int x11]) (rest := []) ⟨hx, hb, hml, hown, hts⟩ (k_X4_undo l D cy ad P Dr tI hX I L x11 q8 eq8) (cwV 1 hts (goodIn_up gL_law_X4_undo) rfl rfl rfl cd_X4_undo ⟨Nat.le_of_ble_eq_true rfl, Nat.le_of_ble_eq_true rfl⟩) ⟨g_blind cZm, g_recv hK hG (k := 0) (by decide) (cE_4 _ _) vwCl_4, g_pre cZm hK hG hZ (law_S0 hS)⟩ rfl rfl hl.1 rfl (lv_room (Nat.le_of_ble_eq_true rfl)) dL_law_603 ⟨Nat.le_of_ble_eq_true rfl, Nat.le_of_ble_eq_true rfl⟩) hS hA (fun H locs hG hS => ?_)
          refine lv_iconst (v := (1 : Int32)) hx hb dL_law_606 (by decide) ?_
          refine lv_icmp_eq (tgt := 612) hx hb dL_law_607 (by decide) (fun c9 => ?_) (fun c9 => ?_)
          · have h := ite_t h c9
            exact kc_612 C0 hX hB67 hB202 hB319 _ _ _ _ _ _ _ _ _ _ _ _ _ _ _ _ _ _ _ _ _ _ _ _ _ h hG hS (lv_sub hl [0, 1, 2, 3, 4, 5, 6, 7, 8, 9, 10, 11, 12, 13, 14, 15, 16, 17, 18, 19, 20, 21, 24, 25] rfl)
          · have h := ite_f h c9
            refine lv_iconst (v := (0 : Int32)) hx hb dL_law_610 (by decide) ?_
            have h := Option.some.inj h
            exact absurd h (by decide)
def XC_472 (tI : xTab) (P Dr : Nat) (B67 : Int32 → Int32 → Int32 → Int64 → Int32 → xMem → xLon → Option Int32) (B202 : Int32 → Int32 → Int32 → Int64 → Int32 → Int32 → Int32 → Int32 → Int32 → Int32 → Int32 → Int32 → Int32 → xMem → xLon → Option Int32) (B319 : Int32 → Int32 → Int32 → Int64 → Int32 → Int32 → Int32 → Int32 → Int32 → Int32 → Int32 → Int32 → Int32 → Int32 → Int32 → Int32 → xMem → xLon → Option Int32) (x4 : Int32) (x5 : Int32) (x6 : Int32) (x7 : Int64) (x9 : Int32) (x10 : Int32) (x11 : Int32) (x12 : Int32) (x13 : Int32) (x14 : Int32) (x15 : Int32) (x16 : Int32) (x17 : Int32) (x18 : Int32) (x20 : Int32) (x21 : Int32) (x22 : Int32) (x23 : Int32) (x24 : Int32) (x25 : Int32) (x26 : Int32) (I : xMem) (L : xLon) : Option Int32 := (X4_go P I x17 x21 x24 x25).bind fun q1 => (if x22 = (0 : Int32) then (some (0 : Int32)) else (if ((x24 ||| x25) &&& (x20 ^^^ (-1 : Int32))) = (0 : Int32) then (some (1 : Int32)) else (some (0 : Int32)))).bind fun q2 => (if q2 = (0 : Int32) then (some (-4 : Int32)) else (if x5 < x26 then (some (-6 : Int32)) else (some x26))).bind fun q5 => if q1.1 = q5 then (if q1.1 < (0 : Int32) then (XC_612 tI P Dr B67 B202 B319 x4 x5 x6 x7 x9 x10 x11 x12 x13 x14 x15 x16 x17 x18 x20 x21 x22 x23 x26 q2 q1.2 L) else (XC_545 tI P Dr B67 B202 B319 x4 x5 x6 x7 x9 x10 x11 x12 x13 x14 x15 x16 x17 x18 x20 x21 x22 x23 x24 x25 x26 q2 q1.2 L)) else (some (0 : Int32))
set_option maxHeartbeats 4000000 in
set_option maxRecDepth 100000 in
theorem kc_472 (C0 : LC p l e s m args below meth c Q D cy ad tI) {P Dr : Nat} (hX : cOk ad P Dr) {B67 : Int32 → Int32 → Int32 → Int64 → Int32 → xMem → xLon → Option Int32} {B202 : Int32 → Int32 → Int32 → Int64 → Int32 → Int32 → Int32 → Int32 → Int32 → Int32 → Int32 → Int32 → Int32 → xMem → xLon → Option Int32} {B319 : Int32 → Int32 → Int32 → Int64 → Int32 → Int32 → Int32 → Int32 → Int32 → Int32 → Int32 → Int32 → Int32 → Int32 → Int32 → Int32 → xMem → xLon → Option Int32} (hB67 : ∀ (y4 : Int32) (y5 : Int32) (y6 : Int32) (y7 : Int64) (y9 : Int32) (I : xMem) (L : xLon) (H : Heap) (locs : List Loc) (ls : Array Slot), B67 y4 y5 y6 y7 y9 I L = some 1 → cG D cy ad P Dr I L H → va_S (fun q : Nat => s.heap.size ≤ q) s.heap H locs → lv_has ls 43 [(0, .ref tI.2.1), (1, .ref (ad 0)), (2, .ref (ad 62)), (3, .ref (ad 63)), (4, .int y4), (5, .int y5), (6, .int y6), (7, .long y7), (9, .int y9)] → W p l e room_1 s m args below meth c H locs 600000 7302250 Q (F0 m 67 ls [])) (hB202 : ∀ (y4 : Int32) (y5 : Int32) (y6 : Int32) (y7 : Int64) (y9 : Int32) (y10 : Int32) (y11 : Int32) (y12 : Int32) (y13 : Int32) (y14 : Int32) (y15 : Int32) (y16 : Int32) (y17 : Int32) (I : xMem) (L : xLon) (H : Heap) (locs : List Loc) (ls : Array Slot), B202 y4 y5 y6 y7 y9 y10 y11 y12 y13 y14 y15 y16 y17 I L = some 1 → cG D cy ad P Dr I L H → va_S (fun q : Nat => s.heap.size ≤ q) s.heap H locs → lv_has ls 43 [(0, .ref tI.2.1), (1, .ref (ad 0)), (2, .ref (ad 62)), (3, .ref (ad 63)), (4, .int y4), (5, .int y5), (6, .int y6), (7, .long y7), (9, .int y9), (10, .int y10), (11, .int y11), (12, .int y12), (13, .int y13), (14, .int y14), (15, .int y15), (16, .int y16), (17, .int y17)] → W p l e room_1 s m args below meth c H locs 600000 7302250 Q (F0 m 202 ls [])) (hB319 : ∀ (y4 : Int32) (y5 : Int32) (y6 : Int32) (y7 : Int64) (y9 : Int32) (y10 : Int32) (y11 : Int32) (y12 : Int32) (y13 : Int32) (y14 : Int32) (y15 : Int32) (y16 : Int32) (y17 : Int32) (y18 : Int32) (y20 : Int32) (y21 : Int32) (I : xMem) (L : xLon) (H : Heap) (locs : List Loc) (ls : Array Slot), B319 y4 y5 y6 y7 y9 y10 y11 y12 y13 y14 y15 y16 y17 y18 y20 y21 I L = some 1 → cG D cy ad P Dr I L H → va_S (fun q : Nat => s.heap.size ≤ q) s.heap H locs → lv_has ls 43 [(0, .ref tI.2.1), (1, .ref (ad 0)), (2, .ref (ad 62)), (3, .ref (ad 63)), (4, .int y4), (5, .int y5), (6, .int y6), (7, .long y7), (9, .int y9), (10, .int y10), (11, .int y11), (12, .int y12), (13, .int y13), (14, .int y14), (15, .int y15), (16, .int y16), (17, .int y17), (18, .int y18), (20, .int y20), (21, .int y21)] → W p l e room_1 s m args below meth c H locs 600000 7302250 Q (F0 m 319 ls [])) (x4 : Int32) (x5 : Int32) (x6 : Int32) (x7 : Int64) (x9 : Int32) (x10 : Int32) (x11 : Int32) (x12 : Int32) (x13 : Int32) (x14 : Int32) (x15 : Int32) (x16 : Int32) (x17 : Int32) (x18 : Int32) (x20 : Int32) (x21 : Int32) (x22 : Int32) (x23 : Int32) (x24 : Int32) (x25 : Int32) (x26 : Int32) (I : xMem) (L : xLon) (H : Heap) (locs : List Loc) (ls : Array Slot) (h : XC_472 tI P Dr B67 B202 B319 x4 x5 x6 x7 x9 x10 x11 x12 x13 x14 x15 x16 x17 x18 x20 x21 x22 x23 x24 x25 x26 I L = some 1) : cG D cy ad P Dr I L H → va_S (fun q : Nat => s.heap.size ≤ q) s.heap H locs → lv_has ls 43 [(0, .ref tI.2.1), (1, .ref (ad 0)), (2, .ref (ad 62)), (3, .ref (ad 63)), (4, .int x4), (5, .int x5), (6, .int x6), (7, .long x7), (9, .int x9), (10, .int x10), (11, .int x11), (12, .int x12), (13, .int x13), (14, .int x14), (15, .int x15), (16, .int x16), (17, .int x17), (18, .int x18), (20, .int x20), (21, .int x21), (22, .int x22), (23, .int x23), (24, .int x24), (25, .int x25), (26, .int x26)] → W p l e room_1 s m args below meth c H locs 600000 7302250 Q (F0 m 472 ls []) := by
  obtain ⟨⟨hx, hb, hml, hown, hts⟩, ⟨hK, hZ⟩, hi, hA, kr⟩ := id C0
  intro hG hS hl
  unfold XC_472 at h
  refine lv_aload_n hx hb dL_law_472 rfl (lv_at hl 1 rfl) ?_
  refine lv_iload hx hb dL_law_473 (lv_at hl 16 rfl) ?_
  refine lv_iload hx hb dL_law_475 (lv_at hl 19 rfl) ?_
  refine lv_iload hx hb dL_law_477 (lv_at hl 22 rfl) ?_
  refine lv_iload hx hb dL_law_479 (lv_at hl 23 rfl) ?_
  obtain ⟨q1, eq1, h⟩ := obind h
  refine lw_ci (va_runV (As := [.int x17, .int x21, .int x24, .int x25]) (rest := []) ⟨hx, hb, hml, hown, hts⟩ (k_X4_go l D cy ad P Dr tI hX I L x17 x21 x24 x25 q1 eq1) (cwV 4 hts (goodIn_up gL_law_X4_go) rfl rfl rfl cd_X4_go ⟨Nat.le_of_ble_eq_true rfl, Nat.le_of_ble_eq_true rfl⟩) ⟨g_blind cZm, g_recv hK hG (k := 0) (by decide) (cE_4 _ _) vwCl_4, g_pre cZm hK hG hZ (law_S0 hS)⟩ rfl rfl hl.1 rfl (lv_room (Nat.le_of_ble_eq_true rfl)) dL_law_481 ⟨Nat.le_of_ble_eq_true rfl, Nat.le_of_ble_eq_true rfl⟩) hS hA (fun H locs hG hS => ?_)
  refine lv_istore (lv' := [(27, .int q1.1), (0, .ref tI.2.1), (1, .ref (ad 0)), (2, .ref (ad 62)), (3, .ref (ad 63)), (4, .int x4), (5, .int x5), (6, .int x6), (7, .long x7), (9, .int x9), (10, .int x10), (11, .int x11), (12, .int x12), (13, .int x13), (14, .int x14), (15, .int x15), (16, .int x16), (17, .int x17), (18, .int x18), (20, .int x20), (21, .int x21), (22, .int x22), (23, .int x23), (24, .int x24), (25, .int x25), (26, .int x26)]) hx hb dL_law_484 hl (by decide) rfl (fun ls hl => ?_)
  refine lv_iload hx hb dL_law_486 (lv_at hl 21 rfl) ?_
  obtain ⟨q2, h9, h⟩ := obind h
  have hk_q2 : ∀ (H : Heap) (locs : List Loc) (ls : Array Slot), cG D cy ad P Dr q1.2 L H → va_S (fun q : Nat => s.heap.size ≤ q) s.heap H locs → lv_has ls 43 [(0, .ref tI.2.1), (1, .ref (ad 0)), (2, .ref (ad 62)), (3, .ref (ad 63)), (4, .int x4), (5, .int x5), (6, .int x6), (7, .long x7), (9, .int x9), (10, .int x10), (11, .int x11), (12, .int x12), (13, .int x13), (14, .int x14), (15, .int x15), (16, .int x16), (17, .int x17), (18, .int x18), (20, .int x20), (21, .int x21), (22, .int x22), (23, .int x23), (24, .int x24), (25, .int x25), (26, .int x26), (27, .int q1.1)] → W p l e room_1 s m args below meth c H locs 600000 7302250 Q (F0 m 509 ls [.int q2]) := by
    intro H locs ls hG hS hl
    refine lv_istore (lv' := [(28, .int q2), (0, .ref tI.2.1), (1, .ref (ad 0)), (2, .ref (ad 62)), (3, .ref (ad 63)), (4, .int x4), (5, .int x5), (6, .int x6), (7, .long x7), (9, .int x9), (10, .int x10), (11, .int x11), (12, .int x12), (13, .int x13), (14, .int x14), (15, .int x15), (16, .int x16), (17, .int x17), (18, .int x18), (20, .int x20), (21, .int x21), (22, .int x22), (23, .int x23), (24, .int x24), (25, .int x25), (26, .int x26), (27, .int q1.1)]) hx hb dL_law_509 hl (by decide) rfl (fun ls hl => ?_)
    refine lv_iload hx hb dL_law_511 (lv_at hl 26 rfl) ?_
    refine lv_iload hx hb dL_law_513 (lv_at hl 0 rfl) ?_
    obtain ⟨q5, h9, h⟩ := obind h
    have hk_q5 : ∀ (H : Heap) (locs : List Loc) (ls : Array Slot), cG D cy ad P Dr q1.2 L H → va_S (fun q : Nat => s.heap.size ≤ q) s.heap H locs → lv_has ls 43 [(0, .ref tI.2.1), (1, .ref (ad 0)), (2, .ref (ad 62)), (3, .ref (ad 63)), (4, .int x4), (5, .int x5), (6, .int x6), (7, .long x7), (9, .int x9), (10, .int x10), (11, .int x11), (12, .int x12), (13, .int x13), (14, .int x14), (15, .int x15), (16, .int x16), (17, .int x17), (18, .int x18), (20, .int x20), (21, .int x21), (22, .int x22), (23, .int x23), (24, .int x24), (25, .int x25), (26, .int x26), (27, .int q1.1), (28, .int q2)] → W p l e room_1 s m args below meth c H locs 600000 7302250 Q (F0 m 537 ls [.int q5, .int q1.1]) := by
      intro H locs ls hG hS hl
      refine lv_icmp_ne (tgt := 610) hx hb dL_law_537 (by decide) (fun c8 => ?_) (fun c8 => ?_)
      · have h := ite_f h c8
        refine lv_iconst (v := (0 : Int32)) hx hb dL_law_610 (by decide) ?_
        have h := Option.some.inj h
        exact absurd h (by decide)
      · have h := ite_t h c8
        refine lv_iload hx hb dL_law_540 (lv_at hl 25 rfl) ?_
        refine lv_if_lt (tgt := 612) hx hb dL_law_542 (by decide) (fun c9 => ?_) (fun c9 => ?_)
        · have h := ite_t h c9
          exact kc_612 C0 hX hB67 hB202 hB319 _ _ _ _ _ _ _ _ _ _ _ _ _ _ _ _ _ _ _ _ _ _ _ _ _ h hG hS (lv_sub hl [0, 1, 2, 3, 4, 5, 6, 7, 8, 9, 10, 11, 12, 13, 14, 15, 16, 17, 18, 19, 20, 21, 24, 26] rfl)
        · have h := ite_f h c9
          exact kc_545 C0 hX hB67 hB202 hB319 _ _ _ _ _ _ _ _ _ _ _ _ _ _ _ _ _ _ _ _ _ _ _ _ _ _ _ h hG hS (lv_sub hl [0, 1, 2, 3, 4, 5, 6, 7, 8, 9, 10, 11, 12, 13, 14, 15, 16, 17, 18, 19, 20, 21, 22, 23, 24, 26] rfl)
    clear h
    have h := h9
    clear h9
    refine lv_if_eq (tgt := 535) hx hb dL_law_515 (by decide) (fun c6 => ?_) (fun c6 => ?_)
    · have h := ite_t h c6
      refine lv_bipush (v := (-4 : Int32)) hx hb dL_law_535 (by decide) ?_
      have h := Option.some.inj h
      subst h
      exact hk_q5 _ _ _ hG hS (lv_sub hl [1, 2, 3, 4, 5, 6, 7, 8, 9, 10, 11, 12, 13, 14, 15, 16, 17, 18, 19, 20, 21, 22, 23, 24, 25, 26, 0] rfl)
    · have h := ite_f h c6
      refine lv_iload hx hb dL_law_518 (lv_at hl 25 rfl) ?_
      refine lv_iload hx hb dL_law_520 (lv_at hl 6 rfl) ?_
      refine lv_icmp_gt (tgt := 530) hx hb dL_law_522 (by decide) (fun c7 => ?_) (fun c7 => ?_)
      · have h := ite_t h c7
        refine lv_bipush (v := (-6 : Int32)) hx hb dL_law_530 (by decide) ?_
        refine lv_goto (tgt := 537) hx hb dL_law_532 (by decide) ?_
        have h := Option.some.inj h
        subst h
        exact hk_q5 _ _ _ hG hS (lv_sub hl [1, 2, 3, 4, 5, 6, 7, 8, 9, 10, 11, 12, 13, 14, 15, 16, 17, 18, 19, 20, 21, 22, 23, 24, 25, 26, 0] rfl)
      · have h := ite_f h c7
        refine lv_iload hx hb dL_law_525 (lv_at hl 25 rfl) ?_
        refine lv_goto (tgt := 537) hx hb dL_law_527 (by decide) ?_
        have h := Option.some.inj h
        subst h
        exact hk_q5 _ _ _ hG hS (lv_sub hl [1, 2, 3, 4, 5, 6, 7, 8, 9, 10, 11, 12, 13, 14, 15, 16, 17, 18, 19, 20, 21, 22, 23, 24, 25, 26, 0] rfl)
  clear h
  have h := h9
  clear h9
  refine lv_if_eq (tgt := 508) hx hb dL_law_488 (by decide) (fun c3 => ?_) (fun c3 => ?_)
  · have h := ite_t h c3
    refine lv_iconst (v := (0 : Int32)) hx hb dL_law_508 (by decide) ?_
    have h := Option.some.inj h
    subst h
    exact hk_q2 _ _ _ hG hS (lv_sub hl [1, 2, 3, 4, 5, 6, 7, 8, 9, 10, 11, 12, 13, 14, 15, 16, 17, 18, 19, 20, 21, 22, 23, 24, 25, 0] rfl)
  · have h := ite_f h c3
    refine lv_iload hx hb dL_law_491 (lv_at hl 23 rfl) ?_
    refine lv_iload hx hb dL_law_493 (lv_at hl 24 rfl) ?_
    refine lv_ior hx hb dL_law_495 ?_
    refine lv_iload hx hb dL_law_496 (lv_at hl 19 rfl) ?_
    refine lv_iconst (v := (-1 : Int32)) hx hb dL_law_498 (by decide) ?_
    refine lv_ixor hx hb dL_law_499 ?_
    refine lv_iand hx hb dL_law_500 ?_
    refine lv_if_ne (tgt := 508) hx hb dL_law_501 (by decide) (fun c4 => ?_) (fun c4 => ?_)
    · have h := ite_f h c4
      refine lv_iconst (v := (0 : Int32)) hx hb dL_law_508 (by decide) ?_
      have h := Option.some.inj h
      subst h
      exact hk_q2 _ _ _ hG hS (lv_sub hl [1, 2, 3, 4, 5, 6, 7, 8, 9, 10, 11, 12, 13, 14, 15, 16, 17, 18, 19, 20, 21, 22, 23, 24, 25, 0] rfl)
    · have h := ite_t h c4
      refine lv_iconst (v := (1 : Int32)) hx hb dL_law_504 (by decide) ?_
      refine lv_goto (tgt := 509) hx hb dL_law_505 (by decide) ?_
      have h := Option.some.inj h
      subst h
      exact hk_q2 _ _ _ hG hS (lv_sub hl [1, 2, 3, 4, 5, 6, 7, 8, 9, 10, 11, 12, 13, 14, 15, 16, 17, 18, 19, 20, 21, 22, 23, 24, 25, 0] rfl)
def XC_389 (tI : xTab) (P Dr : Nat) (B67 : Int32 → Int32 → Int32 → Int64 → Int32 → xMem → xLon → Option Int32) (B202 : Int32 → Int32 → Int32 → Int64 → Int32 → Int32 → Int32 → Int32 → Int32 → Int32 → Int32 → Int32 → Int32 → xMem → xLon → Option Int32) (B319 : Int32 → Int32 → Int32 → Int64 → Int32 → Int32 → Int32 → Int32 → Int32 → Int32 → Int32 → Int32 → Int32 → Int32 → Int32 → Int32 → xMem → xLon → Option Int32) (x4 : Int32) (x5 : Int32) (x6 : Int32) (x7 : Int64) (x9 : Int32) (x10 : Int32) (x11 : Int32) (x12 : Int32) (x13 : Int32) (x14 : Int32) (x15 : Int32) (x16 : Int32) (x17 : Int32) (x18 : Int32) (x20 : Int32) (x21 : Int32) (x22 : Int32) (x23 : Int32) (x24 : Int32) (I : xMem) (L : xLon) : Option Int32 := (L_low (x10 >>> (x21 &&& 31)) (x6 + (1 : Int32))).bind fun v1 => (X4_sink P I x17 x21 x24 (v1 &&& (x24 ^^^ (-1 : Int32)))).bind fun v2 => if v2 < (0 : Int32) then (some (0 : Int32)) else ((X4_sink P I x21 x17 (v1 &&& (x24 ^^^ (-1 : Int32))) x24).bind fun v4 => if v2 = v4 then ((L_told P I x21 (4 : Int32)).bind fun q6 => (if ((q6.1 >>> (x17 &&& 31)) &&& (1 : Int32)) = (1 : Int32) then (some (1 : Int32)) else (some (0 : Int32))).bind fun q7 => if x23 = q7 then (XC_472 tI P Dr B67 B202 B319 x4 x5 x6 x7 x9 x10 x11 x12 x13 x14 x15 x16 x17 x18 x20 x21 x22 x23 x24 (v1 &&& (x24 ^^^ (-1 : Int32))) v2 q6.2 L) else (some (0 : Int32))) else (some (0 : Int32)))
set_option maxHeartbeats 4000000 in
set_option maxRecDepth 100000 in
theorem kc_389 (C0 : LC p l e s m args below meth c Q D cy ad tI) {P Dr : Nat} (hX : cOk ad P Dr) {B67 : Int32 → Int32 → Int32 → Int64 → Int32 → xMem → xLon → Option Int32} {B202 : Int32 → Int32 → Int32 → Int64 → Int32 → Int32 → Int32 → Int32 → Int32 → Int32 → Int32 → Int32 → Int32 → xMem → xLon → Option Int32} {B319 : Int32 → Int32 → Int32 → Int64 → Int32 → Int32 → Int32 → Int32 → Int32 → Int32 → Int32 → Int32 → Int32 → Int32 → Int32 → Int32 → xMem → xLon → Option Int32} (hB67 : ∀ (y4 : Int32) (y5 : Int32) (y6 : Int32) (y7 : Int64) (y9 : Int32) (I : xMem) (L : xLon) (H : Heap) (locs : List Loc) (ls : Array Slot), B67 y4 y5 y6 y7 y9 I L = some 1 → cG D cy ad P Dr I L H → va_S (fun q : Nat => s.heap.size ≤ q) s.heap H locs → lv_has ls 43 [(0, .ref tI.2.1), (1, .ref (ad 0)), (2, .ref (ad 62)), (3, .ref (ad 63)), (4, .int y4), (5, .int y5), (6, .int y6), (7, .long y7), (9, .int y9)] → W p l e room_1 s m args below meth c H locs 600000 7302250 Q (F0 m 67 ls [])) (hB202 : ∀ (y4 : Int32) (y5 : Int32) (y6 : Int32) (y7 : Int64) (y9 : Int32) (y10 : Int32) (y11 : Int32) (y12 : Int32) (y13 : Int32) (y14 : Int32) (y15 : Int32) (y16 : Int32) (y17 : Int32) (I : xMem) (L : xLon) (H : Heap) (locs : List Loc) (ls : Array Slot), B202 y4 y5 y6 y7 y9 y10 y11 y12 y13 y14 y15 y16 y17 I L = some 1 → cG D cy ad P Dr I L H → va_S (fun q : Nat => s.heap.size ≤ q) s.heap H locs → lv_has ls 43 [(0, .ref tI.2.1), (1, .ref (ad 0)), (2, .ref (ad 62)), (3, .ref (ad 63)), (4, .int y4), (5, .int y5), (6, .int y6), (7, .long y7), (9, .int y9), (10, .int y10), (11, .int y11), (12, .int y12), (13, .int y13), (14, .int y14), (15, .int y15), (16, .int y16), (17, .int y17)] → W p l e room_1 s m args below meth c H locs 600000 7302250 Q (F0 m 202 ls [])) (hB319 : ∀ (y4 : Int32) (y5 : Int32) (y6 : Int32) (y7 : Int64) (y9 : Int32) (y10 : Int32) (y11 : Int32) (y12 : Int32) (y13 : Int32) (y14 : Int32) (y15 : Int32) (y16 : Int32) (y17 : Int32) (y18 : Int32) (y20 : Int32) (y21 : Int32) (I : xMem) (L : xLon) (H : Heap) (locs : List Loc) (ls : Array Slot), B319 y4 y5 y6 y7 y9 y10 y11 y12 y13 y14 y15 y16 y17 y18 y20 y21 I L = some 1 → cG D cy ad P Dr I L H → va_S (fun q : Nat => s.heap.size ≤ q) s.heap H locs → lv_has ls 43 [(0, .ref tI.2.1), (1, .ref (ad 0)), (2, .ref (ad 62)), (3, .ref (ad 63)), (4, .int y4), (5, .int y5), (6, .int y6), (7, .long y7), (9, .int y9), (10, .int y10), (11, .int y11), (12, .int y12), (13, .int y13), (14, .int y14), (15, .int y15), (16, .int y16), (17, .int y17), (18, .int y18), (20, .int y20), (21, .int y21)] → W p l e room_1 s m args below meth c H locs 600000 7302250 Q (F0 m 319 ls [])) (x4 : Int32) (x5 : Int32) (x6 : Int32) (x7 : Int64) (x9 : Int32) (x10 : Int32) (x11 : Int32) (x12 : Int32) (x13 : Int32) (x14 : Int32) (x15 : Int32) (x16 : Int32) (x17 : Int32) (x18 : Int32) (x20 : Int32) (x21 : Int32) (x22 : Int32) (x23 : Int32) (x24 : Int32) (I : xMem) (L : xLon) (H : Heap) (locs : List Loc) (ls : Array Slot) (h : XC_389 tI P Dr B67 B202 B319 x4 x5 x6 x7 x9 x10 x11 x12 x13 x14 x15 x16 x17 x18 x20 x21 x22 x23 x24 I L = some 1) : cG D cy ad P Dr I L H → va_S (fun q : Nat => s.heap.size ≤ q) s.heap H locs → lv_has ls 43 [(0, .ref tI.2.1), (1, .ref (ad 0)), (2, .ref (ad 62)), (3, .ref (ad 63)), (4, .int x4), (5, .int x5), (6, .int x6), (7, .long x7), (9, .int x9), (10, .int x10), (11, .int x11), (12, .int x12), (13, .int x13), (14, .int x14), (15, .int x15), (16, .int x16), (17, .int x17), (18, .int x18), (20, .int x20), (21, .int x21), (22, .int x22), (23, .int x23), (24, .int x24)] → W p l e room_1 s m args below meth c H locs 600000 7302250 Q (F0 m 389 ls []) := by
  obtain ⟨⟨hx, hb, hml, hown, hts⟩, ⟨hK, hZ⟩, hi, hA, kr⟩ := id C0
  intro hG hS hl
  unfold XC_389 at h
  refine lv_iload hx hb dL_law_389 (lv_at hl 9 rfl) ?_
  refine lv_iload hx hb dL_law_391 (lv_at hl 19 rfl) ?_
  refine lv_ishr hx hb dL_law_393 ?_
  refine lv_iload hx hb dL_law_394 (lv_at hl 6 rfl) ?_
  refine lv_iconst (v := (1 : Int32)) hx hb dL_law_396 (by decide) ?_
  refine lv_iadd hx hb dL_law_397 ?_
  obtain ⟨v1, ev1, h⟩ := obind h
  refine lw_ci (va_runS (As := [.int (x10 >>> (x21 &&& 31)), .int (x6 + (1 : Int32))]) (rest := []) ⟨hx, hb, hml, hown, hts⟩ (k_L_low l D cy ad P Dr tI hX I L (x10 >>> (x21 &&& 31)) (x6 + (1 : Int32)) v1 ev1) (va_cwS 2 hts (goodIn_up gL_law_L_low) rfl rfl rfl cd_L_low.2 ⟨Nat.le_of_ble_eq_true rfl, Nat.le_of_ble_eq_true rfl⟩) ⟨g_blind cZm, g_pre cZm hK hG hZ (law_S0 hS)⟩ rfl rfl hl.1 rfl (lv_room (Nat.le_of_ble_eq_true rfl)) dL_law_398 ⟨Nat.le_of_ble_eq_true rfl, Nat.le_of_ble_eq_true rfl⟩) hS hA (fun H locs hG hS => ?_)
  refine lv_iload hx hb dL_law_401 (lv_at hl 22 rfl) ?_
  refine lv_iconst (v := (-1 : Int32)) hx hb dL_law_403 (by decide) ?_
  refine lv_ixor hx hb dL_law_404 ?_
  refine lv_iand hx hb dL_law_405 ?_
  refine lv_istore (lv' := [(25, .int (v1 &&& (x24 ^^^ (-1 : Int32)))), (0, .ref tI.2.1), (1, .ref (ad 0)), (2, .ref (ad 62)), (3, .ref (ad 63)), (4, .int x4), (5, .int x5), (6, .int x6), (7, .long x7), (9, .int x9), (10, .int x10), (11, .int x11), (12, .int x12), (13, .int x13), (14, .int x14), (15, .int x15), (16, .int x16), (17, .int x17), (18, .int x18), (20, .int x20), (21, .int x21), (22, .int x22), (23, .int x23), (24, .int x24)]) hx hb dL_law_406 hl (by decide) rfl (fun ls hl => ?_)
  refine lv_aload_n hx hb dL_law_408 rfl (lv_at hl 2 rfl) ?_
  refine lv_iload hx hb dL_law_409 (lv_at hl 17 rfl) ?_
  refine lv_iload hx hb dL_law_411 (lv_at hl 20 rfl) ?_
  refine lv_iload hx hb dL_law_413 (lv_at hl 23 rfl) ?_
  refine lv_iload hx hb dL_law_415 (lv_at hl 0 rfl) ?_
  obtain ⟨v2, ev2, h⟩ := obind h
  refine lw_ci (va_runV (As := [.int x17, .int x21, .int x24, .int (v1 &&& (x24 ^^^ (-1 : Int32)))]) (rest := []) ⟨hx, hb, hml, hown, hts⟩ (k_X4_sink l D cy ad P Dr tI hX I L x17 x21 x24 (v1 &&& (x24 ^^^ (-1 : Int32))) v2 ev2) (cwV 4 hts (goodIn_up gL_law_X4_sink) rfl rfl rfl cd_X4_sink ⟨Nat.le_of_ble_eq_true rfl, Nat.le_of_ble_eq_true rfl⟩) ⟨g_blind cZm, g_recv hK hG (k := 0) (by decide) (cE_4 _ _) vwCl_4, g_pre cZm hK hG hZ (law_S0 hS)⟩ rfl rfl hl.1 rfl (lv_room (Nat.le_of_ble_eq_true rfl)) dL_law_417 ⟨Nat.le_of_ble_eq_true rfl, Nat.le_of_ble_eq_true rfl⟩) hS hA (fun H locs hG hS => ?_)
  refine lv_istore (lv' := [(26, .int v2), (25, .int (v1 &&& (x24 ^^^ (-1 : Int32)))), (0, .ref tI.2.1), (1, .ref (ad 0)), (2, .ref (ad 62)), (3, .ref (ad 63)), (4, .int x4), (5, .int x5), (6, .int x6), (7, .long x7), (9, .int x9), (10, .int x10), (11, .int x11), (12, .int x12), (13, .int x13), (14, .int x14), (15, .int x15), (16, .int x16), (17, .int x17), (18, .int x18), (20, .int x20), (21, .int x21), (22, .int x22), (23, .int x23), (24, .int x24)]) hx hb dL_law_420 hl (by decide) rfl (fun ls hl => ?_)
  refine lv_iload hx hb dL_law_422 (lv_at hl 0 rfl) ?_
  refine lv_if_lt (tgt := 470) hx hb dL_law_424 (by decide) (fun c3 => ?_) (fun c3 => ?_)
  · have h := ite_t h c3
    refine lv_iconst (v := (0 : Int32)) hx hb dL_law_470 (by decide) ?_
    have h := Option.some.inj h
    exact absurd h (by decide)
  · have h := ite_f h c3
    refine lv_iload hx hb dL_law_427 (lv_at hl 0 rfl) ?_
    refine lv_aload_n hx hb dL_law_429 rfl (lv_at hl 3 rfl) ?_
    refine lv_iload hx hb dL_law_430 (lv_at hl 21 rfl) ?_
    refine lv_iload hx hb dL_law_432 (lv_at hl 18 rfl) ?_
    refine lv_iload hx hb dL_law_434 (lv_at hl 1 rfl) ?_
    refine lv_iload hx hb dL_law_436 (lv_at hl 24 rfl) ?_
    obtain ⟨v4, ev4, h⟩ := obind h
    refine lw_ci (va_runV (As := [.int x21, .int x17, .int (v1 &&& (x24 ^^^ (-1 : Int32))), .int x24]) (rest := [.int v2]) ⟨hx, hb, hml, hown, hts⟩ (k_X4_sink l D cy ad P Dr tI hX I L x21 x17 (v1 &&& (x24 ^^^ (-1 : Int32))) x24 v4 ev4) (cwV 4 hts (goodIn_up gL_law_X4_sink) rfl rfl rfl cd_X4_sink ⟨Nat.le_of_ble_eq_true rfl, Nat.le_of_ble_eq_true rfl⟩) ⟨g_blind cZm, g_recv hK hG (k := 0) (by decide) (cE_4 _ _) vwCl_4, g_pre cZm hK hG hZ (law_S0 hS)⟩ rfl rfl hl.1 rfl (lv_room (Nat.le_of_ble_eq_true rfl)) dL_law_438 ⟨Nat.le_of_ble_eq_true rfl, Nat.le_of_ble_eq_true rfl⟩) hS hA (fun H locs hG hS => ?_)
    refine lv_icmp_ne (tgt := 470) hx hb dL_law_441 (by decide) (fun c5 => ?_) (fun c5 => ?_)
    · have h := ite_f h c5
      refine lv_iconst (v := (0 : Int32)) hx hb dL_law_470 (by decide) ?_
      have h := Option.some.inj h
      exact absurd h (by decide)
    · have h := ite_t h c5
      refine lv_iload hx hb dL_law_444 (lv_at hl 23 rfl) ?_
      refine lv_aload_n hx hb dL_law_446 rfl (lv_at hl 3 rfl) ?_
      refine lv_iload hx hb dL_law_447 (lv_at hl 21 rfl) ?_
      refine lv_iconst (v := (4 : Int32)) hx hb dL_law_449 (by decide) ?_
      obtain ⟨q6, eq6, h⟩ := obind h
      refine lw_ci (va_runS (As := [.ref (ad 0), .int x21, .int (4 : Int32)]) (rest := [.int x23]) ⟨hx, hb, hml, hown, hts⟩ (k_L_told l D cy ad P Dr tI hX I L x21 (4 : Int32) q6 eq6) (va_cwS 3 hts (goodIn_up gL_law_L_told) rfl rfl rfl cd_L_told.2 ⟨Nat.le_of_ble_eq_true rfl, Nat.le_of_ble_eq_true rfl⟩) ⟨g_blind cZm, g_pre cZm hK hG hZ (law_S0 hS)⟩ rfl rfl hl.1 rfl (lv_room (Nat.le_of_ble_eq_true rfl)) dL_law_450 ⟨Nat.le_of_ble_eq_true rfl, Nat.le_of_ble_eq_true rfl⟩) hS hA (fun H locs hG hS => ?_)
      refine lv_iload hx hb dL_law_453 (lv_at hl 18 rfl) ?_
      refine lv_ishr hx hb dL_law_455 ?_
      refine lv_iconst (v := (1 : Int32)) hx hb dL_law_456 (by decide) ?_
      refine lv_iand hx hb dL_law_457 ?_
      refine lv_iconst (v := (1 : Int32)) hx hb dL_law_458 (by decide) ?_
      obtain ⟨q7, h9, h⟩ := obind h
      have hk_q7 : ∀ (H : Heap) (locs : List Loc) (ls : Array Slot), cG D cy ad P Dr q6.2 L H → va_S (fun q : Nat => s.heap.size ≤ q) s.heap H locs → lv_has ls 43 [(0, .ref tI.2.1), (1, .ref (ad 0)), (2, .ref (ad 62)), (3, .ref (ad 63)), (4, .int x4), (5, .int x5), (6, .int x6), (7, .long x7), (9, .int x9), (10, .int x10), (11, .int x11), (12, .int x12), (13, .int x13), (14, .int x14), (15, .int x15), (16, .int x16), (17, .int x17), (18, .int x18), (20, .int x20), (21, .int x21), (22, .int x22), (23, .int x23), (24, .int x24), (25, .int (v1 &&& (x24 ^^^ (-1 : Int32)))), (26, .int v2)] → W p l e room_1 s m args below meth c H locs 600000 7302250 Q (F0 m 467 ls [.int q7, .int x23]) := by
        intro H locs ls hG hS hl
        refine lv_icmp_eq (tgt := 472) hx hb dL_law_467 (by decide) (fun c9 => ?_) (fun c9 => ?_)
        · have h := ite_t h c9
          exact kc_472 C0 hX hB67 hB202 hB319 _ _ _ _ _ _ _ _ _ _ _ _ _ _ _ _ _ _ _ _ _ _ _ _ _ _ h hG hS (lv_sub hl [0, 1, 2, 3, 4, 5, 6, 7, 8, 9, 10, 11, 12, 13, 14, 15, 16, 17, 18, 19, 20, 21, 22, 23, 24] rfl)
        · have h := ite_f h c9
          refine lv_iconst (v := (0 : Int32)) hx hb dL_law_470 (by decide) ?_
          have h := Option.some.inj h
          exact absurd h (by decide)
      clear h
      have h := h9
      clear h9
      refine lv_icmp_ne (tgt := 466) hx hb dL_law_459 (by decide) (fun c8 => ?_) (fun c8 => ?_)
      · have h := ite_f h c8
        refine lv_iconst (v := (0 : Int32)) hx hb dL_law_466 (by decide) ?_
        have h := Option.some.inj h
        subst h
        exact hk_q7 _ _ _ hG hS (lv_sub hl [2, 3, 4, 5, 6, 7, 8, 9, 10, 11, 12, 13, 14, 15, 16, 17, 18, 19, 20, 21, 22, 23, 24, 1, 0] rfl)
      · have h := ite_t h c8
        refine lv_iconst (v := (1 : Int32)) hx hb dL_law_462 (by decide) ?_
        refine lv_goto (tgt := 467) hx hb dL_law_463 (by decide) ?_
        have h := Option.some.inj h
        subst h
        exact hk_q7 _ _ _ hG hS (lv_sub hl [2, 3, 4, 5, 6, 7, 8, 9, 10, 11, 12, 13, 14, 15, 16, 17, 18, 19, 20, 21, 22, 23, 24, 1, 0] rfl)
def XC_319 (tI : xTab) (P Dr : Nat) (B67 : Int32 → Int32 → Int32 → Int64 → Int32 → xMem → xLon → Option Int32) (B202 : Int32 → Int32 → Int32 → Int64 → Int32 → Int32 → Int32 → Int32 → Int32 → Int32 → Int32 → Int32 → Int32 → xMem → xLon → Option Int32) : Nat → Int32 → Int32 → Int32 → Int64 → Int32 → Int32 → Int32 → Int32 → Int32 → Int32 → Int32 → Int32 → Int32 → Int32 → Int32 → Int32 → xMem → xLon → Option Int32
  | 0, _, _, _, _, _, _, _, _, _, _, _, _, _, _, _, _, _, _ => none
  | n + 1, x4, x5, x6, x7, x9, x10, x11, x12, x13, x14, x15, x16, x17, x18, x20, x21, I, L => if x4 ≤ x21 then (XC_923 tI P Dr B67 B202 x4 x5 x6 x7 x9 x10 x11 x12 x13 x14 x15 x16 x17 x18 I L) else (if x17 = x21 then (XC_917 tI P Dr B67 B202 (XC_319 tI P Dr B67 B202 n) x4 x5 x6 x7 x9 x10 x11 x12 x13 x14 x15 x16 x17 x18 x20 x21 I L) else ((if ((x13 >>> (x17 &&& 31)) &&& (1 : Int32)) = ((x13 >>> (x21 &&& 31)) &&& (1 : Int32)) then (some (1 : Int32)) else (some (0 : Int32))).bind fun q3 => (if ((x18 >>> (x21 &&& 31)) &&& (1 : Int32)) = (1 : Int32) then (some (1 : Int32)) else (some (0 : Int32))).bind fun q5 => (L_low (x10 >>> (x17 &&& 31)) (x6 + (1 : Int32))).bind fun v7 => XC_389 tI P Dr B67 B202 (XC_319 tI P Dr B67 B202 n) x4 x5 x6 x7 x9 x10 x11 x12 x13 x14 x15 x16 x17 x18 x20 x21 q3 q5 v7 I L))
set_option maxHeartbeats 4000000 in
set_option maxRecDepth 100000 in
theorem kc_319 (C0 : LC p l e s m args below meth c Q D cy ad tI) {P Dr : Nat} (hX : cOk ad P Dr) {B67 : Int32 → Int32 → Int32 → Int64 → Int32 → xMem → xLon → Option Int32} {B202 : Int32 → Int32 → Int32 → Int64 → Int32 → Int32 → Int32 → Int32 → Int32 → Int32 → Int32 → Int32 → Int32 → xMem → xLon → Option Int32} (hB67 : ∀ (y4 : Int32) (y5 : Int32) (y6 : Int32) (y7 : Int64) (y9 : Int32) (I : xMem) (L : xLon) (H : Heap) (locs : List Loc) (ls : Array Slot), B67 y4 y5 y6 y7 y9 I L = some 1 → cG D cy ad P Dr I L H → va_S (fun q : Nat => s.heap.size ≤ q) s.heap H locs → lv_has ls 43 [(0, .ref tI.2.1), (1, .ref (ad 0)), (2, .ref (ad 62)), (3, .ref (ad 63)), (4, .int y4), (5, .int y5), (6, .int y6), (7, .long y7), (9, .int y9)] → W p l e room_1 s m args below meth c H locs 600000 7302250 Q (F0 m 67 ls [])) (hB202 : ∀ (y4 : Int32) (y5 : Int32) (y6 : Int32) (y7 : Int64) (y9 : Int32) (y10 : Int32) (y11 : Int32) (y12 : Int32) (y13 : Int32) (y14 : Int32) (y15 : Int32) (y16 : Int32) (y17 : Int32) (I : xMem) (L : xLon) (H : Heap) (locs : List Loc) (ls : Array Slot), B202 y4 y5 y6 y7 y9 y10 y11 y12 y13 y14 y15 y16 y17 I L = some 1 → cG D cy ad P Dr I L H → va_S (fun q : Nat => s.heap.size ≤ q) s.heap H locs → lv_has ls 43 [(0, .ref tI.2.1), (1, .ref (ad 0)), (2, .ref (ad 62)), (3, .ref (ad 63)), (4, .int y4), (5, .int y5), (6, .int y6), (7, .long y7), (9, .int y9), (10, .int y10), (11, .int y11), (12, .int y12), (13, .int y13), (14, .int y14), (15, .int y15), (16, .int y16), (17, .int y17)] → W p l e room_1 s m args below meth c H locs 600000 7302250 Q (F0 m 202 ls [])) : ∀ (n : Nat) (x4 : Int32) (x5 : Int32) (x6 : Int32) (x7 : Int64) (x9 : Int32) (x10 : Int32) (x11 : Int32) (x12 : Int32) (x13 : Int32) (x14 : Int32) (x15 : Int32) (x16 : Int32) (x17 : Int32) (x18 : Int32) (x20 : Int32) (x21 : Int32) (I : xMem) (L : xLon) (H : Heap) (locs : List Loc) (ls : Array Slot), XC_319 tI P Dr B67 B202 n x4 x5 x6 x7 x9 x10 x11 x12 x13 x14 x15 x16 x17 x18 x20 x21 I L = some 1 → cG D cy ad P Dr I L H → va_S (fun q : Nat => s.heap.size ≤ q) s.heap H locs → lv_has ls 43 [(0, .ref tI.2.1), (1, .ref (ad 0)), (2, .ref (ad 62)), (3, .ref (ad 63)), (4, .int x4), (5, .int x5), (6, .int x6), (7, .long x7), (9, .int x9), (10, .int x10), (11, .int x11), (12, .int x12), (13, .int x13), (14, .int x14), (15, .int x15), (16, .int x16), (17, .int x17), (18, .int x18), (20, .int x20), (21, .int x21)] → W p l e room_1 s m args below meth c H locs 600000 7302250 Q (F0 m 319 ls []) := by
  obtain ⟨⟨hx, hb, hml, hown, hts⟩, ⟨hK, hZ⟩, hi, hA, kr⟩ := id C0
  intro n
  induction n with
  | zero =>
    intro x4 x5 x6 x7 x9 x10 x11 x12 x13 x14 x15 x16 x17 x18 x20 x21 I L H locs ls h
    exact ono h
  | succ n ih =>
    intro x4 x5 x6 x7 x9 x10 x11 x12 x13 x14 x15 x16 x17 x18 x20 x21 I L H locs ls h hG hS hl
    rw [XC_319] at h
    refine lv_iload hx hb dL_law_319 (lv_at hl 19 rfl) ?_
    refine lv_iload hx hb dL_law_321 (lv_at hl 4 rfl) ?_
    refine lv_icmp_ge (tgt := 923) hx hb dL_law_323 (by decide) (fun c1 => ?_) (fun c1 => ?_)
    · have h := ite_t h c1
      exact kc_923 C0 hX hB67 hB202 _ _ _ _ _ _ _ _ _ _ _ _ _ _ _ _ _ _ _ h hG hS (lv_sub hl [0, 1, 2, 3, 4, 5, 6, 7, 8, 9, 10, 11, 12, 13, 14, 15, 16, 17] rfl)
    · have h := ite_f h c1
      refine lv_iload hx hb dL_law_326 (lv_at hl 16 rfl) ?_
      refine lv_iload hx hb dL_law_328 (lv_at hl 19 rfl) ?_
      refine lv_icmp_eq (tgt := 917) hx hb dL_law_330 (by decide) (fun c2 => ?_) (fun c2 => ?_)
      · have h := ite_t h c2
        exact kc_917 C0 hX hB67 hB202 ih _ _ _ _ _ _ _ _ _ _ _ _ _ _ _ _ _ _ _ _ _ h hG hS (lv_sub hl [0, 1, 2, 3, 4, 5, 6, 7, 8, 9, 10, 11, 12, 13, 14, 15, 16, 17, 18, 19] rfl)
      · have h := ite_f h c2
        refine lv_iload hx hb dL_law_333 (lv_at hl 12 rfl) ?_
        refine lv_iload hx hb dL_law_335 (lv_at hl 16 rfl) ?_
        refine lv_ishr hx hb dL_law_337 ?_
        refine lv_iconst (v := (1 : Int32)) hx hb dL_law_338 (by decide) ?_
        refine lv_iand hx hb dL_law_339 ?_
        refine lv_iload hx hb dL_law_340 (lv_at hl 12 rfl) ?_
        refine lv_iload hx hb dL_law_342 (lv_at hl 19 rfl) ?_
        refine lv_ishr hx hb dL_law_344 ?_
        refine lv_iconst (v := (1 : Int32)) hx hb dL_law_345 (by decide) ?_
        refine lv_iand hx hb dL_law_346 ?_
        obtain ⟨q3, h9, h⟩ := obind h
        have hk_q3 : ∀ (H : Heap) (locs : List Loc) (ls : Array Slot), cG D cy ad P Dr I L H → va_S (fun q : Nat => s.heap.size ≤ q) s.heap H locs → lv_has ls 43 [(0, .ref tI.2.1), (1, .ref (ad 0)), (2, .ref (ad 62)), (3, .ref (ad 63)), (4, .int x4), (5, .int x5), (6, .int x6), (7, .long x7), (9, .int x9), (10, .int x10), (11, .int x11), (12, .int x12), (13, .int x13), (14, .int x14), (15, .int x15), (16, .int x16), (17, .int x17), (18, .int x18), (20, .int x20), (21, .int x21)] → W p l e room_1 s m args below meth c H locs 600000 7302250 Q (F0 m 355 ls [.int q3]) := by
          intro H locs ls hG hS hl
          refine lv_istore (lv' := [(22, .int q3), (0, .ref tI.2.1), (1, .ref (ad 0)), (2, .ref (ad 62)), (3, .ref (ad 63)), (4, .int x4), (5, .int x5), (6, .int x6), (7, .long x7), (9, .int x9), (10, .int x10), (11, .int x11), (12, .int x12), (13, .int x13), (14, .int x14), (15, .int x15), (16, .int x16), (17, .int x17), (18, .int x18), (20, .int x20), (21, .int x21)]) hx hb dL_law_355 hl (by decide) rfl (fun ls hl => ?_)
          refine lv_iload hx hb dL_law_357 (lv_at hl 18 rfl) ?_
          refine lv_iload hx hb dL_law_359 (lv_at hl 20 rfl) ?_
          refine lv_ishr hx hb dL_law_361 ?_
          refine lv_iconst (v := (1 : Int32)) hx hb dL_law_362 (by decide) ?_
          refine lv_iand hx hb dL_law_363 ?_
          refine lv_iconst (v := (1 : Int32)) hx hb dL_law_364 (by decide) ?_
          obtain ⟨q5, h9, h⟩ := obind h
          have hk_q5 : ∀ (H : Heap) (locs : List Loc) (ls : Array Slot), cG D cy ad P Dr I L H → va_S (fun q : Nat => s.heap.size ≤ q) s.heap H locs → lv_has ls 43 [(0, .ref tI.2.1), (1, .ref (ad 0)), (2, .ref (ad 62)), (3, .ref (ad 63)), (4, .int x4), (5, .int x5), (6, .int x6), (7, .long x7), (9, .int x9), (10, .int x10), (11, .int x11), (12, .int x12), (13, .int x13), (14, .int x14), (15, .int x15), (16, .int x16), (17, .int x17), (18, .int x18), (20, .int x20), (21, .int x21), (22, .int q3)] → W p l e room_1 s m args below meth c H locs 600000 7302250 Q (F0 m 373 ls [.int q5]) := by
            intro H locs ls hG hS hl
            refine lv_istore (lv' := [(23, .int q5), (0, .ref tI.2.1), (1, .ref (ad 0)), (2, .ref (ad 62)), (3, .ref (ad 63)), (4, .int x4), (5, .int x5), (6, .int x6), (7, .long x7), (9, .int x9), (10, .int x10), (11, .int x11), (12, .int x12), (13, .int x13), (14, .int x14), (15, .int x15), (16, .int x16), (17, .int x17), (18, .int x18), (20, .int x20), (21, .int x21), (22, .int q3)]) hx hb dL_law_373 hl (by decide) rfl (fun ls hl => ?_)
            refine lv_iload hx hb dL_law_375 (lv_at hl 10 rfl) ?_
            refine lv_iload hx hb dL_law_377 (lv_at hl 17 rfl) ?_
            refine lv_ishr hx hb dL_law_379 ?_
            refine lv_iload hx hb dL_law_380 (lv_at hl 7 rfl) ?_
            refine lv_iconst (v := (1 : Int32)) hx hb dL_law_382 (by decide) ?_
            refine lv_iadd hx hb dL_law_383 ?_
            obtain ⟨v7, ev7, h⟩ := obind h
            refine lw_ci (va_runS (As := [.int (x10 >>> (x17 &&& 31)), .int (x6 + (1 : Int32))]) (rest := []) ⟨hx, hb, hml, hown, hts⟩ (k_L_low l D cy ad P Dr tI hX I L (x10 >>> (x17 &&& 31)) (x6 + (1 : Int32)) v7 ev7) (va_cwS 2 hts (goodIn_up gL_law_L_low) rfl rfl rfl cd_L_low.2 ⟨Nat.le_of_ble_eq_true rfl, Nat.le_of_ble_eq_true rfl⟩) ⟨g_blind cZm, g_pre cZm hK hG hZ (law_S0 hS)⟩ rfl rfl hl.1 rfl (lv_room (Nat.le_of_ble_eq_true rfl)) dL_law_384 ⟨Nat.le_of_ble_eq_true rfl, Nat.le_of_ble_eq_true rfl⟩) hS hA (fun H locs hG hS => ?_)
            refine lv_istore (lv' := [(24, .int v7), (23, .int q5), (0, .ref tI.2.1), (1, .ref (ad 0)), (2, .ref (ad 62)), (3, .ref (ad 63)), (4, .int x4), (5, .int x5), (6, .int x6), (7, .long x7), (9, .int x9), (10, .int x10), (11, .int x11), (12, .int x12), (13, .int x13), (14, .int x14), (15, .int x15), (16, .int x16), (17, .int x17), (18, .int x18), (20, .int x20), (21, .int x21), (22, .int q3)]) hx hb dL_law_387 hl (by decide) rfl (fun ls hl => ?_)
            exact kc_389 C0 hX hB67 hB202 ih _ _ _ _ _ _ _ _ _ _ _ _ _ _ _ _ _ _ _ _ _ _ _ _ h hG hS (lv_sub hl [2, 3, 4, 5, 6, 7, 8, 9, 10, 11, 12, 13, 14, 15, 16, 17, 18, 19, 20, 21, 22, 1, 0] rfl)
          clear h
          have h := h9
          clear h9
          refine lv_icmp_ne (tgt := 372) hx hb dL_law_365 (by decide) (fun c6 => ?_) (fun c6 => ?_)
          · have h := ite_f h c6
            refine lv_iconst (v := (0 : Int32)) hx hb dL_law_372 (by decide) ?_
            have h := Option.some.inj h
            subst h
            exact hk_q5 _ _ _ hG hS (lv_sub hl [1, 2, 3, 4, 5, 6, 7, 8, 9, 10, 11, 12, 13, 14, 15, 16, 17, 18, 19, 20, 0] rfl)
          · have h := ite_t h c6
            refine lv_iconst (v := (1 : Int32)) hx hb dL_law_368 (by decide) ?_
            refine lv_goto (tgt := 373) hx hb dL_law_369 (by decide) ?_
            have h := Option.some.inj h
            subst h
            exact hk_q5 _ _ _ hG hS (lv_sub hl [1, 2, 3, 4, 5, 6, 7, 8, 9, 10, 11, 12, 13, 14, 15, 16, 17, 18, 19, 20, 0] rfl)
        clear h
        have h := h9
        clear h9
        refine lv_icmp_ne (tgt := 354) hx hb dL_law_347 (by decide) (fun c4 => ?_) (fun c4 => ?_)
        · have h := ite_f h c4
          refine lv_iconst (v := (0 : Int32)) hx hb dL_law_354 (by decide) ?_
          have h := Option.some.inj h
          subst h
          exact hk_q3 _ _ _ hG hS (lv_sub hl [0, 1, 2, 3, 4, 5, 6, 7, 8, 9, 10, 11, 12, 13, 14, 15, 16, 17, 18, 19] rfl)
        · have h := ite_t h c4
          refine lv_iconst (v := (1 : Int32)) hx hb dL_law_350 (by decide) ?_
          refine lv_goto (tgt := 355) hx hb dL_law_351 (by decide) ?_
          have h := Option.some.inj h
          subst h
          exact hk_q3 _ _ _ hG hS (lv_sub hl [0, 1, 2, 3, 4, 5, 6, 7, 8, 9, 10, 11, 12, 13, 14, 15, 16, 17, 18, 19] rfl)
def XC_275 (tI : xTab) (P Dr : Nat) (B67 : Int32 → Int32 → Int32 → Int64 → Int32 → xMem → xLon → Option Int32) (B202 : Int32 → Int32 → Int32 → Int64 → Int32 → Int32 → Int32 → Int32 → Int32 → Int32 → Int32 → Int32 → Int32 → xMem → xLon → Option Int32) (x4 : Int32) (x5 : Int32) (x6 : Int32) (x7 : Int64) (x9 : Int32) (x10 : Int32) (x11 : Int32) (x12 : Int32) (x13 : Int32) (x14 : Int32) (x15 : Int32) (x16 : Int32) (x17 : Int32) (x18 : Int32) (x19 : Int32) (x20 : Int32) (I : xMem) (L : xLon) : Option Int32 := if ((x18 >>> (x17 &&& 31)) &&& (1 : Int32)) = (0 : Int32) then ((if x19 = (0 : Int32) then (some ((((1 : Int32) <<< (x4 &&& 31)) - (1 : Int32)) &&& (x13 ^^^ (-1 : Int32)))) else (some x13)).bind fun q2 => if (x18 &&& (q2 ^^^ (-1 : Int32))) = (0 : Int32) then (XC_319 tI P Dr B67 B202 bigF x4 x5 x6 x7 x9 x10 x11 x12 x13 x14 x15 x16 x17 x18 x20 (0 : Int32) I L) else (some (0 : Int32))) else (some (0 : Int32))
set_option maxHeartbeats 4000000 in
set_option maxRecDepth 100000 in
theorem kc_275 (C0 : LC p l e s m args below meth c Q D cy ad tI) {P Dr : Nat} (hX : cOk ad P Dr) {B67 : Int32 → Int32 → Int32 → Int64 → Int32 → xMem → xLon → Option Int32} {B202 : Int32 → Int32 → Int32 → Int64 → Int32 → Int32 → Int32 → Int32 → Int32 → Int32 → Int32 → Int32 → Int32 → xMem → xLon → Option Int32} (hB67 : ∀ (y4 : Int32) (y5 : Int32) (y6 : Int32) (y7 : Int64) (y9 : Int32) (I : xMem) (L : xLon) (H : Heap) (locs : List Loc) (ls : Array Slot), B67 y4 y5 y6 y7 y9 I L = some 1 → cG D cy ad P Dr I L H → va_S (fun q : Nat => s.heap.size ≤ q) s.heap H locs → lv_has ls 43 [(0, .ref tI.2.1), (1, .ref (ad 0)), (2, .ref (ad 62)), (3, .ref (ad 63)), (4, .int y4), (5, .int y5), (6, .int y6), (7, .long y7), (9, .int y9)] → W p l e room_1 s m args below meth c H locs 600000 7302250 Q (F0 m 67 ls [])) (hB202 : ∀ (y4 : Int32) (y5 : Int32) (y6 : Int32) (y7 : Int64) (y9 : Int32) (y10 : Int32) (y11 : Int32) (y12 : Int32) (y13 : Int32) (y14 : Int32) (y15 : Int32) (y16 : Int32) (y17 : Int32) (I : xMem) (L : xLon) (H : Heap) (locs : List Loc) (ls : Array Slot), B202 y4 y5 y6 y7 y9 y10 y11 y12 y13 y14 y15 y16 y17 I L = some 1 → cG D cy ad P Dr I L H → va_S (fun q : Nat => s.heap.size ≤ q) s.heap H locs → lv_has ls 43 [(0, .ref tI.2.1), (1, .ref (ad 0)), (2, .ref (ad 62)), (3, .ref (ad 63)), (4, .int y4), (5, .int y5), (6, .int y6), (7, .long y7), (9, .int y9), (10, .int y10), (11, .int y11), (12, .int y12), (13, .int y13), (14, .int y14), (15, .int y15), (16, .int y16), (17, .int y17)] → W p l e room_1 s m args below meth c H locs 600000 7302250 Q (F0 m 202 ls [])) (x4 : Int32) (x5 : Int32) (x6 : Int32) (x7 : Int64) (x9 : Int32) (x10 : Int32) (x11 : Int32) (x12 : Int32) (x13 : Int32) (x14 : Int32) (x15 : Int32) (x16 : Int32) (x17 : Int32) (x18 : Int32) (x19 : Int32) (x20 : Int32) (I : xMem) (L : xLon) (H : Heap) (locs : List Loc) (ls : Array Slot) (h : XC_275 tI P Dr B67 B202 x4 x5 x6 x7 x9 x10 x11 x12 x13 x14 x15 x16 x17 x18 x19 x20 I L = some 1) : cG D cy ad P Dr I L H → va_S (fun q : Nat => s.heap.size ≤ q) s.heap H locs → lv_has ls 43 [(0, .ref tI.2.1), (1, .ref (ad 0)), (2, .ref (ad 62)), (3, .ref (ad 63)), (4, .int x4), (5, .int x5), (6, .int x6), (7, .long x7), (9, .int x9), (10, .int x10), (11, .int x11), (12, .int x12), (13, .int x13), (14, .int x14), (15, .int x15), (16, .int x16), (17, .int x17), (18, .int x18), (19, .int x19), (20, .int x20)] → W p l e room_1 s m args below meth c H locs 600000 7302250 Q (F0 m 275 ls []) := by
  obtain ⟨⟨hx, hb, hml, hown, hts⟩, ⟨hK, hZ⟩, hi, hA, kr⟩ := id C0
  intro hG hS hl
  unfold XC_275 at h
  refine lv_iload hx hb dL_law_275 (lv_at hl 17 rfl) ?_
  refine lv_iload hx hb dL_law_277 (lv_at hl 16 rfl) ?_
  refine lv_ishr hx hb dL_law_279 ?_
  refine lv_iconst (v := (1 : Int32)) hx hb dL_law_280 (by decide) ?_
  refine lv_iand hx hb dL_law_281 ?_
  refine lv_if_ne (tgt := 314) hx hb dL_law_282 (by decide) (fun c1 => ?_) (fun c1 => ?_)
  · have h := ite_f h c1
    refine lv_iconst (v := (0 : Int32)) hx hb dL_law_314 (by decide) ?_
    have h := Option.some.inj h
    exact absurd h (by decide)
  · have h := ite_t h c1
    refine lv_iload hx hb dL_law_285 (lv_at hl 17 rfl) ?_
    refine lv_iload hx hb dL_law_287 (lv_at hl 18 rfl) ?_
    obtain ⟨q2, h9, h⟩ := obind h
    have hk_q2 : ∀ (H : Heap) (locs : List Loc) (ls : Array Slot), cG D cy ad P Dr I L H → va_S (fun q : Nat => s.heap.size ≤ q) s.heap H locs → lv_has ls 43 [(0, .ref tI.2.1), (1, .ref (ad 0)), (2, .ref (ad 62)), (3, .ref (ad 63)), (4, .int x4), (5, .int x5), (6, .int x6), (7, .long x7), (9, .int x9), (10, .int x10), (11, .int x11), (12, .int x12), (13, .int x13), (14, .int x14), (15, .int x15), (16, .int x16), (17, .int x17), (18, .int x18), (20, .int x20)] → W p l e room_1 s m args below meth c H locs 600000 7302250 Q (F0 m 308 ls [.int q2, .int x18]) := by
      intro H locs ls hG hS hl
      refine lv_iconst (v := (-1 : Int32)) hx hb dL_law_308 (by decide) ?_
      refine lv_ixor hx hb dL_law_309 ?_
      refine lv_iand hx hb dL_law_310 ?_
      refine lv_if_eq (tgt := 316) hx hb dL_law_311 (by decide) (fun c4 => ?_) (fun c4 => ?_)
      · have h := ite_t h c4
        refine lv_iconst (v := (0 : Int32)) hx hb dL_law_316 (by decide) ?_
        refine lv_istore (lv' := [(21, .int (0 : Int32)), (0, .ref tI.2.1), (1, .ref (ad 0)), (2, .ref (ad 62)), (3, .ref (ad 63)), (4, .int x4), (5, .int x5), (6, .int x6), (7, .long x7), (9, .int x9), (10, .int x10), (11, .int x11), (12, .int x12), (13, .int x13), (14, .int x14), (15, .int x15), (16, .int x16), (17, .int x17), (18, .int x18), (20, .int x20)]) hx hb dL_law_317 hl (by decide) rfl (fun ls hl => ?_)
        exact kc_319 C0 hX hB67 hB202 bigF _ _ _ _ _ _ _ _ _ _ _ _ _ _ _ _ _ _ _ _ _ h hG hS (lv_sub hl [1, 2, 3, 4, 5, 6, 7, 8, 9, 10, 11, 12, 13, 14, 15, 16, 17, 18, 19, 0] rfl)
      · have h := ite_f h c4
        refine lv_iconst (v := (0 : Int32)) hx hb dL_law_314 (by decide) ?_
        have h := Option.some.inj h
        exact absurd h (by decide)
    clear h
    have h := h9
    clear h9
    refine lv_if_eq (tgt := 297) hx hb dL_law_289 (by decide) (fun c3 => ?_) (fun c3 => ?_)
    · have h := ite_t h c3
      refine lv_iconst (v := (1 : Int32)) hx hb dL_law_297 (by decide) ?_
      refine lv_iload hx hb dL_law_298 (lv_at hl 4 rfl) ?_
      refine lv_ishl hx hb dL_law_300 ?_
      refine lv_iconst (v := (1 : Int32)) hx hb dL_law_301 (by decide) ?_
      refine lv_isub hx hb dL_law_302 ?_
      refine lv_iload hx hb dL_law_303 (lv_at hl 12 rfl) ?_
      refine lv_iconst (v := (-1 : Int32)) hx hb dL_law_305 (by decide) ?_
      refine lv_ixor hx hb dL_law_306 ?_
      refine lv_iand hx hb dL_law_307 ?_
      have h := Option.some.inj h
      subst h
      exact hk_q2 _ _ _ hG hS (lv_sub hl [0, 1, 2, 3, 4, 5, 6, 7, 8, 9, 10, 11, 12, 13, 14, 15, 16, 17, 19] rfl)
    · have h := ite_f h c3
      refine lv_iload hx hb dL_law_292 (lv_at hl 12 rfl) ?_
      refine lv_goto (tgt := 308) hx hb dL_law_294 (by decide) ?_
      have h := Option.some.inj h
      subst h
      exact hk_q2 _ _ _ hG hS (lv_sub hl [0, 1, 2, 3, 4, 5, 6, 7, 8, 9, 10, 11, 12, 13, 14, 15, 16, 17, 19] rfl)
def XC_202 (tI : xTab) (P Dr : Nat) (B67 : Int32 → Int32 → Int32 → Int64 → Int32 → xMem → xLon → Option Int32) : Nat → Int32 → Int32 → Int32 → Int64 → Int32 → Int32 → Int32 → Int32 → Int32 → Int32 → Int32 → Int32 → Int32 → xMem → xLon → Option Int32
  | 0, _, _, _, _, _, _, _, _, _, _, _, _, _, _, _ => none
  | n + 1, x4, x5, x6, x7, x9, x10, x11, x12, x13, x14, x15, x16, x17, I, L => if x4 ≤ x17 then (XC_1022 tI P Dr B67 x4 x5 x6 x7 x9 x10 x11 x12 x13 x14 x15 x16 I L) else ((L_told P I x17 (4 : Int32)).bind fun q2 => (if ((x13 >>> (x17 &&& 31)) &&& (1 : Int32)) = (1 : Int32) then (some (1 : Int32)) else (some (0 : Int32))).bind fun q3 => (if q3 = (0 : Int32) then (some (x6 &&& (x14 ^^^ (-1 : Int32)))) else (some x14)).bind fun q5 => (L_told P q2.2 x17 (3 : Int32)).bind fun q7 => (if q3 = (0 : Int32) then (some (0 : Int32)) else (some (1 : Int32))).bind fun q8 => if q7.1 = q8 then (XC_275 tI P Dr B67 (XC_202 tI P Dr B67 n) x4 x5 x6 x7 x9 x10 x11 x12 x13 x14 x15 x16 x17 q2.1 q3 q5 q7.2 L) else (some (0 : Int32)))
set_option maxHeartbeats 4000000 in
set_option maxRecDepth 100000 in
theorem kc_202 (C0 : LC p l e s m args below meth c Q D cy ad tI) {P Dr : Nat} (hX : cOk ad P Dr) {B67 : Int32 → Int32 → Int32 → Int64 → Int32 → xMem → xLon → Option Int32} (hB67 : ∀ (y4 : Int32) (y5 : Int32) (y6 : Int32) (y7 : Int64) (y9 : Int32) (I : xMem) (L : xLon) (H : Heap) (locs : List Loc) (ls : Array Slot), B67 y4 y5 y6 y7 y9 I L = some 1 → cG D cy ad P Dr I L H → va_S (fun q : Nat => s.heap.size ≤ q) s.heap H locs → lv_has ls 43 [(0, .ref tI.2.1), (1, .ref (ad 0)), (2, .ref (ad 62)), (3, .ref (ad 63)), (4, .int y4), (5, .int y5), (6, .int y6), (7, .long y7), (9, .int y9)] → W p l e room_1 s m args below meth c H locs 600000 7302250 Q (F0 m 67 ls [])) : ∀ (n : Nat) (x4 : Int32) (x5 : Int32) (x6 : Int32) (x7 : Int64) (x9 : Int32) (x10 : Int32) (x11 : Int32) (x12 : Int32) (x13 : Int32) (x14 : Int32) (x15 : Int32) (x16 : Int32) (x17 : Int32) (I : xMem) (L : xLon) (H : Heap) (locs : List Loc) (ls : Array Slot), XC_202 tI P Dr B67 n x4 x5 x6 x7 x9 x10 x11 x12 x13 x14 x15 x16 x17 I L = some 1 → cG D cy ad P Dr I L H → va_S (fun q : Nat => s.heap.size ≤ q) s.heap H locs → lv_has ls 43 [(0, .ref tI.2.1), (1, .ref (ad 0)), (2, .ref (ad 62)), (3, .ref (ad 63)), (4, .int x4), (5, .int x5), (6, .int x6), (7, .long x7), (9, .int x9), (10, .int x10), (11, .int x11), (12, .int x12), (13, .int x13), (14, .int x14), (15, .int x15), (16, .int x16), (17, .int x17)] → W p l e room_1 s m args below meth c H locs 600000 7302250 Q (F0 m 202 ls []) := by
  obtain ⟨⟨hx, hb, hml, hown, hts⟩, ⟨hK, hZ⟩, hi, hA, kr⟩ := id C0
  intro n
  induction n with
  | zero =>
    intro x4 x5 x6 x7 x9 x10 x11 x12 x13 x14 x15 x16 x17 I L H locs ls h
    exact ono h
  | succ n ih =>
    intro x4 x5 x6 x7 x9 x10 x11 x12 x13 x14 x15 x16 x17 I L H locs ls h hG hS hl
    rw [XC_202] at h
    refine lv_iload hx hb dL_law_202 (lv_at hl 16 rfl) ?_
    refine lv_iload hx hb dL_law_204 (lv_at hl 4 rfl) ?_
    refine lv_icmp_ge (tgt := 1022) hx hb dL_law_206 (by decide) (fun c1 => ?_) (fun c1 => ?_)
    · have h := ite_t h c1
      exact kc_1022 C0 hX hB67 _ _ _ _ _ _ _ _ _ _ _ _ _ _ _ _ _ h hG hS (lv_sub hl [0, 1, 2, 3, 4, 5, 6, 7, 8, 9, 10, 11, 12, 13, 14, 15] rfl)
    · have h := ite_f h c1
      refine lv_aload_n hx hb dL_law_209 rfl (lv_at hl 1 rfl) ?_
      refine lv_iload hx hb dL_law_210 (lv_at hl 16 rfl) ?_
      refine lv_iconst (v := (4 : Int32)) hx hb dL_law_212 (by decide) ?_
      obtain ⟨q2, eq2, h⟩ := obind h
      refine lw_ci (va_runS (As := [.ref (ad 0), .int x17, .int (4 : Int32)]) (rest := []) ⟨hx, hb, hml, hown, hts⟩ (k_L_told l D cy ad P Dr tI hX I L x17 (4 : Int32) q2 eq2) (va_cwS 3 hts (goodIn_up gL_law_L_told) rfl rfl rfl cd_L_told.2 ⟨Nat.le_of_ble_eq_true rfl, Nat.le_of_ble_eq_true rfl⟩) ⟨g_blind cZm, g_pre cZm hK hG hZ (law_S0 hS)⟩ rfl rfl hl.1 rfl (lv_room (Nat.le_of_ble_eq_true rfl)) dL_law_213 ⟨Nat.le_of_ble_eq_true rfl, Nat.le_of_ble_eq_true rfl⟩) hS hA (fun H locs hG hS => ?_)
      refine lv_istore (lv' := [(18, .int q2.1), (0, .ref tI.2.1), (1, .ref (ad 0)), (2, .ref (ad 62)), (3, .ref (ad 63)), (4, .int x4), (5, .int x5), (6, .int x6), (7, .long x7), (9, .int x9), (10, .int x10), (11, .int x11), (12, .int x12), (13, .int x13), (14, .int x14), (15, .int x15), (16, .int x16), (17, .int x17)]) hx hb dL_law_216 hl (by decide) rfl (fun ls hl => ?_)
      refine lv_iload hx hb dL_law_218 (lv_at hl 13 rfl) ?_
      refine lv_iload hx hb dL_law_220 (lv_at hl 17 rfl) ?_
      refine lv_ishr hx hb dL_law_222 ?_
      refine lv_iconst (v := (1 : Int32)) hx hb dL_law_223 (by decide) ?_
      refine lv_iand hx hb dL_law_224 ?_
      refine lv_iconst (v := (1 : Int32)) hx hb dL_law_225 (by decide) ?_
      obtain ⟨q3, h9, h⟩ := obind h
      have hk_q3 : ∀ (H : Heap) (locs : List Loc) (ls : Array Slot), cG D cy ad P Dr q2.2 L H → va_S (fun q : Nat => s.heap.size ≤ q) s.heap H locs → lv_has ls 43 [(0, .ref tI.2.1), (1, .ref (ad 0)), (2, .ref (ad 62)), (3, .ref (ad 63)), (4, .int x4), (5, .int x5), (6, .int x6), (7, .long x7), (9, .int x9), (10, .int x10), (11, .int x11), (12, .int x12), (13, .int x13), (14, .int x14), (15, .int x15), (16, .int x16), (17, .int x17), (18, .int q2.1)] → W p l e room_1 s m args below meth c H locs 600000 7302250 Q (F0 m 234 ls [.int q3]) := by
        intro H locs ls hG hS hl
        refine lv_istore (lv' := [(19, .int q3), (0, .ref tI.2.1), (1, .ref (ad 0)), (2, .ref (ad 62)), (3, .ref (ad 63)), (4, .int x4), (5, .int x5), (6, .int x6), (7, .long x7), (9, .int x9), (10, .int x10), (11, .int x11), (12, .int x12), (13, .int x13), (14, .int x14), (15, .int x15), (16, .int x16), (17, .int x17), (18, .int q2.1)]) hx hb dL_law_234 hl (by decide) rfl (fun ls hl => ?_)
        refine lv_iload hx hb dL_law_236 (lv_at hl 0 rfl) ?_
        obtain ⟨q5, h9, h⟩ := obind h
        have hk_q5 : ∀ (H : Heap) (locs : List Loc) (ls : Array Slot), cG D cy ad P Dr q2.2 L H → va_S (fun q : Nat => s.heap.size ≤ q) s.heap H locs → lv_has ls 43 [(0, .ref tI.2.1), (1, .ref (ad 0)), (2, .ref (ad 62)), (3, .ref (ad 63)), (4, .int x4), (5, .int x5), (6, .int x6), (7, .long x7), (9, .int x9), (10, .int x10), (11, .int x11), (12, .int x12), (13, .int x13), (14, .int x14), (15, .int x15), (16, .int x16), (17, .int x17), (18, .int q2.1), (19, .int q3)] → W p l e room_1 s m args below meth c H locs 600000 7302250 Q (F0 m 253 ls [.int q5]) := by
          intro H locs ls hG hS hl
          refine lv_istore (lv' := [(20, .int q5), (0, .ref tI.2.1), (1, .ref (ad 0)), (2, .ref (ad 62)), (3, .ref (ad 63)), (4, .int x4), (5, .int x5), (6, .int x6), (7, .long x7), (9, .int x9), (10, .int x10), (11, .int x11), (12, .int x12), (13, .int x13), (14, .int x14), (15, .int x15), (16, .int x16), (17, .int x17), (18, .int q2.1), (19, .int q3)]) hx hb dL_law_253 hl (by decide) rfl (fun ls hl => ?_)
          refine lv_aload_n hx hb dL_law_255 rfl (lv_at hl 2 rfl) ?_
          refine lv_iload hx hb dL_law_256 (lv_at hl 17 rfl) ?_
          refine lv_iconst (v := (3 : Int32)) hx hb dL_law_258 (by decide) ?_
          obtain ⟨q7, eq7, h⟩ := obind h
          refine lw_ci (va_runS (As := [.ref (ad 0), .int x17, .int (3 : Int32)]) (rest := []) ⟨hx, hb, hml, hown, hts⟩ (k_L_told l D cy ad P Dr tI hX q2.2 L x17 (3 : Int32) q7 eq7) (va_cwS 3 hts (goodIn_up gL_law_L_told) rfl rfl rfl cd_L_told.2 ⟨Nat.le_of_ble_eq_true rfl, Nat.le_of_ble_eq_true rfl⟩) ⟨g_blind cZm, g_pre cZm hK hG hZ (law_S0 hS)⟩ rfl rfl hl.1 rfl (lv_room (Nat.le_of_ble_eq_true rfl)) dL_law_259 ⟨Nat.le_of_ble_eq_true rfl, Nat.le_of_ble_eq_true rfl⟩) hS hA (fun H locs hG hS => ?_)
          refine lv_iload hx hb dL_law_262 (lv_at hl 19 rfl) ?_
          obtain ⟨q8, h9, h⟩ := obind h
          have hk_q8 : ∀ (H : Heap) (locs : List Loc) (ls : Array Slot), cG D cy ad P Dr q7.2 L H → va_S (fun q : Nat => s.heap.size ≤ q) s.heap H locs → lv_has ls 43 [(0, .ref tI.2.1), (1, .ref (ad 0)), (2, .ref (ad 62)), (3, .ref (ad 63)), (4, .int x4), (5, .int x5), (6, .int x6), (7, .long x7), (9, .int x9), (10, .int x10), (11, .int x11), (12, .int x12), (13, .int x13), (14, .int x14), (15, .int x15), (16, .int x16), (17, .int x17), (18, .int q2.1), (19, .int q3), (20, .int q5)] → W p l e room_1 s m args below meth c H locs 600000 7302250 Q (F0 m 272 ls [.int q8, .int q7.1]) := by
            intro H locs ls hG hS hl
            refine lv_icmp_ne (tgt := 314) hx hb dL_law_272 (by decide) (fun c10 => ?_) (fun c10 => ?_)
            · have h := ite_f h c10
              refine lv_iconst (v := (0 : Int32)) hx hb dL_law_314 (by decide) ?_
              have h := Option.some.inj h
              exact absurd h (by decide)
            · have h := ite_t h c10
              exact kc_275 C0 hX hB67 ih _ _ _ _ _ _ _ _ _ _ _ _ _ _ _ _ _ _ _ _ _ h hG hS (lv_sub hl [0, 1, 2, 3, 4, 5, 6, 7, 8, 9, 10, 11, 12, 13, 14, 15, 16, 17, 18, 19] rfl)
          clear h
          have h := h9
          clear h9
          refine lv_if_eq (tgt := 271) hx hb dL_law_264 (by decide) (fun c9 => ?_) (fun c9 => ?_)
          · have h := ite_t h c9
            refine lv_iconst (v := (0 : Int32)) hx hb dL_law_271 (by decide) ?_
            have h := Option.some.inj h
            subst h
            exact hk_q8 _ _ _ hG hS (lv_sub hl [1, 2, 3, 4, 5, 6, 7, 8, 9, 10, 11, 12, 13, 14, 15, 16, 17, 18, 19, 0] rfl)
          · have h := ite_f h c9
            refine lv_iconst (v := (1 : Int32)) hx hb dL_law_267 (by decide) ?_
            refine lv_goto (tgt := 272) hx hb dL_law_268 (by decide) ?_
            have h := Option.some.inj h
            subst h
            exact hk_q8 _ _ _ hG hS (lv_sub hl [1, 2, 3, 4, 5, 6, 7, 8, 9, 10, 11, 12, 13, 14, 15, 16, 17, 18, 19, 0] rfl)
        clear h
        have h := h9
        clear h9
        refine lv_if_eq (tgt := 246) hx hb dL_law_238 (by decide) (fun c6 => ?_) (fun c6 => ?_)
        · have h := ite_t h c6
          refine lv_iload hx hb dL_law_246 (lv_at hl 7 rfl) ?_
          refine lv_iload hx hb dL_law_248 (lv_at hl 14 rfl) ?_
          refine lv_iconst (v := (-1 : Int32)) hx hb dL_law_250 (by decide) ?_
          refine lv_ixor hx hb dL_law_251 ?_
          refine lv_iand hx hb dL_law_252 ?_
          have h := Option.some.inj h
          subst h
          exact hk_q5 _ _ _ hG hS (lv_sub hl [1, 2, 3, 4, 5, 6, 7, 8, 9, 10, 11, 12, 13, 14, 15, 16, 17, 18, 0] rfl)
        · have h := ite_f h c6
          refine lv_iload hx hb dL_law_241 (lv_at hl 14 rfl) ?_
          refine lv_goto (tgt := 253) hx hb dL_law_243 (by decide) ?_
          have h := Option.some.inj h
          subst h
          exact hk_q5 _ _ _ hG hS (lv_sub hl [1, 2, 3, 4, 5, 6, 7, 8, 9, 10, 11, 12, 13, 14, 15, 16, 17, 18, 0] rfl)
      clear h
      have h := h9
      clear h9
      refine lv_icmp_ne (tgt := 233) hx hb dL_law_226 (by decide) (fun c4 => ?_) (fun c4 => ?_)
      · have h := ite_f h c4
        refine lv_iconst (v := (0 : Int32)) hx hb dL_law_233 (by decide) ?_
        have h := Option.some.inj h
        subst h
        exact hk_q3 _ _ _ hG hS (lv_sub hl [1, 2, 3, 4, 5, 6, 7, 8, 9, 10, 11, 12, 13, 14, 15, 16, 17, 0] rfl)
      · have h := ite_t h c4
        refine lv_iconst (v := (1 : Int32)) hx hb dL_law_229 (by decide) ?_
        refine lv_goto (tgt := 234) hx hb dL_law_230 (by decide) ?_
        have h := Option.some.inj h
        subst h
        exact hk_q3 _ _ _ hG hS (lv_sub hl [1, 2, 3, 4, 5, 6, 7, 8, 9, 10, 11, 12, 13, 14, 15, 16, 17, 0] rfl)
def XC_146 (tI : xTab) (P Dr : Nat) (B67 : Int32 → Int32 → Int32 → Int64 → Int32 → xMem → xLon → Option Int32) (x4 : Int32) (x5 : Int32) (x6 : Int32) (x7 : Int64) (x9 : Int32) (x10 : Int32) (x11 : Int32) (x12 : Int32) (x13 : Int32) (x14 : Int32) (x15 : Int32) (I : xMem) (L : xLon) : Option Int32 := if (9 : Int32) < x12 then (some (0 : Int32)) else (if x13 < (0 : Int32) then (some (0 : Int32)) else (if ((1 : Int32) <<< (x4 &&& 31)) ≤ x13 then (some (0 : Int32)) else ((L_bits x13).bind fun v4 => if (v4 - v4 / (2 : Int32) * (2 : Int32)) = (0 : Int32) then (if x14 < (0 : Int32) then (some (0 : Int32)) else (if x6 < x14 then (some (0 : Int32)) else (if (0 : Int32) ≤ x15 then (XC_202 tI P Dr B67 bigF x4 x5 x6 x7 x9 x10 x11 x12 x13 x14 x15 (0 : Int32) (0 : Int32) I L) else (some (0 : Int32))))) else (some (0 : Int32)))))
set_option maxHeartbeats 4000000 in
set_option maxRecDepth 100000 in
theorem kc_146 (C0 : LC p l e s m args below meth c Q D cy ad tI) {P Dr : Nat} (hX : cOk ad P Dr) {B67 : Int32 → Int32 → Int32 → Int64 → Int32 → xMem → xLon → Option Int32} (hB67 : ∀ (y4 : Int32) (y5 : Int32) (y6 : Int32) (y7 : Int64) (y9 : Int32) (I : xMem) (L : xLon) (H : Heap) (locs : List Loc) (ls : Array Slot), B67 y4 y5 y6 y7 y9 I L = some 1 → cG D cy ad P Dr I L H → va_S (fun q : Nat => s.heap.size ≤ q) s.heap H locs → lv_has ls 43 [(0, .ref tI.2.1), (1, .ref (ad 0)), (2, .ref (ad 62)), (3, .ref (ad 63)), (4, .int y4), (5, .int y5), (6, .int y6), (7, .long y7), (9, .int y9)] → W p l e room_1 s m args below meth c H locs 600000 7302250 Q (F0 m 67 ls [])) (x4 : Int32) (x5 : Int32) (x6 : Int32) (x7 : Int64) (x9 : Int32) (x10 : Int32) (x11 : Int32) (x12 : Int32) (x13 : Int32) (x14 : Int32) (x15 : Int32) (I : xMem) (L : xLon) (H : Heap) (locs : List Loc) (ls : Array Slot) (h : XC_146 tI P Dr B67 x4 x5 x6 x7 x9 x10 x11 x12 x13 x14 x15 I L = some 1) : cG D cy ad P Dr I L H → va_S (fun q : Nat => s.heap.size ≤ q) s.heap H locs → lv_has ls 43 [(0, .ref tI.2.1), (1, .ref (ad 0)), (2, .ref (ad 62)), (3, .ref (ad 63)), (4, .int x4), (5, .int x5), (6, .int x6), (7, .long x7), (9, .int x9), (10, .int x10), (11, .int x11), (12, .int x12), (13, .int x13), (14, .int x14), (15, .int x15)] → W p l e room_1 s m args below meth c H locs 600000 7302250 Q (F0 m 146 ls []) := by
  obtain ⟨⟨hx, hb, hml, hown, hts⟩, ⟨hK, hZ⟩, hi, hA, kr⟩ := id C0
  intro hG hS hl
  unfold XC_146 at h
  refine lv_iload hx hb dL_law_146 (lv_at hl 11 rfl) ?_
  refine lv_bipush (v := (9 : Int32)) hx hb dL_law_148 (by decide) ?_
  refine lv_icmp_gt (tgt := 194) hx hb dL_law_150 (by decide) (fun c1 => ?_) (fun c1 => ?_)
  · have h := ite_t h c1
    refine lv_iconst (v := (0 : Int32)) hx hb dL_law_194 (by decide) ?_
    have h := Option.some.inj h
    exact absurd h (by decide)
  · have h := ite_f h c1
    refine lv_iload hx hb dL_law_153 (lv_at hl 12 rfl) ?_
    refine lv_if_lt (tgt := 194) hx hb dL_law_155 (by decide) (fun c2 => ?_) (fun c2 => ?_)
    · have h := ite_t h c2
      refine lv_iconst (v := (0 : Int32)) hx hb dL_law_194 (by decide) ?_
      have h := Option.some.inj h
      exact absurd h (by decide)
    · have h := ite_f h c2
      refine lv_iload hx hb dL_law_158 (lv_at hl 12 rfl) ?_
      refine lv_iconst (v := (1 : Int32)) hx hb dL_law_160 (by decide) ?_
      refine lv_iload hx hb dL_law_161 (lv_at hl 4 rfl) ?_
      refine lv_ishl hx hb dL_law_163 ?_
      refine lv_icmp_ge (tgt := 194) hx hb dL_law_164 (by decide) (fun c3 => ?_) (fun c3 => ?_)
      · have h := ite_t h c3
        refine lv_iconst (v := (0 : Int32)) hx hb dL_law_194 (by decide) ?_
        have h := Option.some.inj h
        exact absurd h (by decide)
      · have h := ite_f h c3
        refine lv_iload hx hb dL_law_167 (lv_at hl 12 rfl) ?_
        obtain ⟨v4, ev4, h⟩ := obind h
        refine lw_ci (va_runS (As := [.int x13]) (rest := []) ⟨hx, hb, hml, hown, hts⟩ (k_L_bits l D cy ad P Dr tI hX I L x13 v4 ev4) (va_cwS 1 hts (goodIn_up gL_law_L_bits) rfl rfl rfl cd_L_bits.2 ⟨Nat.le_of_ble_eq_true rfl, Nat.le_of_ble_eq_true rfl⟩) ⟨g_blind cZm, g_pre cZm hK hG hZ (law_S0 hS)⟩ rfl rfl hl.1 rfl (lv_room (Nat.le_of_ble_eq_true rfl)) dL_law_169 ⟨Nat.le_of_ble_eq_true rfl, Nat.le_of_ble_eq_true rfl⟩) hS hA (fun H locs hG hS => ?_)
        refine lv_iconst (v := (2 : Int32)) hx hb dL_law_172 (by decide) ?_
        refine lv_irem hx hb dL_law_173 (by decide) ?_
        refine lv_if_ne (tgt := 194) hx hb dL_law_174 (by decide) (fun c5 => ?_) (fun c5 => ?_)
        · have h := ite_f h c5
          refine lv_iconst (v := (0 : Int32)) hx hb dL_law_194 (by decide) ?_
          have h := Option.some.inj h
          exact absurd h (by decide)
        · have h := ite_t h c5
          refine lv_iload hx hb dL_law_177 (lv_at hl 13 rfl) ?_
          refine lv_if_lt (tgt := 194) hx hb dL_law_179 (by decide) (fun c6 => ?_) (fun c6 => ?_)
          · have h := ite_t h c6
            refine lv_iconst (v := (0 : Int32)) hx hb dL_law_194 (by decide) ?_
            have h := Option.some.inj h
            exact absurd h (by decide)
          · have h := ite_f h c6
            refine lv_iload hx hb dL_law_182 (lv_at hl 13 rfl) ?_
            refine lv_iload hx hb dL_law_184 (lv_at hl 6 rfl) ?_
            refine lv_icmp_gt (tgt := 194) hx hb dL_law_186 (by decide) (fun c7 => ?_) (fun c7 => ?_)
            · have h := ite_t h c7
              refine lv_iconst (v := (0 : Int32)) hx hb dL_law_194 (by decide) ?_
              have h := Option.some.inj h
              exact absurd h (by decide)
            · have h := ite_f h c7
              refine lv_iload hx hb dL_law_189 (lv_at hl 14 rfl) ?_
              refine lv_if_ge (tgt := 196) hx hb dL_law_191 (by decide) (fun c8 => ?_) (fun c8 => ?_)
              · have h := ite_t h c8
                refine lv_iconst (v := (0 : Int32)) hx hb dL_law_196 (by decide) ?_
                refine lv_istore (lv' := [(16, .int (0 : Int32)), (0, .ref tI.2.1), (1, .ref (ad 0)), (2, .ref (ad 62)), (3, .ref (ad 63)), (4, .int x4), (5, .int x5), (6, .int x6), (7, .long x7), (9, .int x9), (10, .int x10), (11, .int x11), (12, .int x12), (13, .int x13), (14, .int x14), (15, .int x15)]) hx hb dL_law_197 hl (by decide) rfl (fun ls hl => ?_)
                refine lv_iconst (v := (0 : Int32)) hx hb dL_law_199 (by decide) ?_
                refine lv_istore (lv' := [(17, .int (0 : Int32)), (16, .int (0 : Int32)), (0, .ref tI.2.1), (1, .ref (ad 0)), (2, .ref (ad 62)), (3, .ref (ad 63)), (4, .int x4), (5, .int x5), (6, .int x6), (7, .long x7), (9, .int x9), (10, .int x10), (11, .int x11), (12, .int x12), (13, .int x13), (14, .int x14), (15, .int x15)]) hx hb dL_law_200 hl (by decide) rfl (fun ls hl => ?_)
                exact kc_202 C0 hX hB67 bigF _ _ _ _ _ _ _ _ _ _ _ _ _ _ _ _ _ _ h hG hS (lv_sub hl [2, 3, 4, 5, 6, 7, 8, 9, 10, 11, 12, 13, 14, 15, 16, 1, 0] rfl)
              · have h := ite_f h c8
                refine lv_iconst (v := (0 : Int32)) hx hb dL_law_194 (by decide) ?_
                have h := Option.some.inj h
                exact absurd h (by decide)
def XC_67 (tI : xTab) (P Dr : Nat) : Nat → Int32 → Int32 → Int32 → Int64 → Int32 → xMem → xLon → Option Int32
  | 0, _, _, _, _, _, _, _ => none
  | n + 1, x4, x5, x6, x7, x9, I, L => if (2 : Int32) ≤ x9 then (XC_2488 tI P Dr x4 x7 I L) else ((L_cell I tI ((8 : Int32) + x9)).bind fun v2 => (L_cell I tI ((10 : Int32) + x9)).bind fun v3 => (L_stir P I v3 (3 : Int32)).bind fun q4 => if q4.1 = (0 : Int32) then (some (0 : Int32)) else ((X4_count P q4.2 (2 : Int32)).bind fun v6 => (X4_count P q4.2 (3 : Int32)).bind fun v7 => (X4_count P q4.2 (4 : Int32)).bind fun v8 => (X4_count P q4.2 (5 : Int32)).bind fun v9 => (X4_count P q4.2 (7 : Int32)).bind fun v10 => if v7 < (0 : Int32) then (some (0 : Int32)) else (XC_146 tI P Dr (XC_67 tI P Dr n) x4 x5 x6 x7 x9 v2 v6 v7 v8 v9 v10 q4.2 L)))
set_option maxHeartbeats 4000000 in
set_option maxRecDepth 100000 in
theorem kc_67 (C0 : LC p l e s m args below meth c Q D cy ad tI) {P Dr : Nat} (hX : cOk ad P Dr) : ∀ (n : Nat) (x4 : Int32) (x5 : Int32) (x6 : Int32) (x7 : Int64) (x9 : Int32) (I : xMem) (L : xLon) (H : Heap) (locs : List Loc) (ls : Array Slot), XC_67 tI P Dr n x4 x5 x6 x7 x9 I L = some 1 → cG D cy ad P Dr I L H → va_S (fun q : Nat => s.heap.size ≤ q) s.heap H locs → lv_has ls 43 [(0, .ref tI.2.1), (1, .ref (ad 0)), (2, .ref (ad 62)), (3, .ref (ad 63)), (4, .int x4), (5, .int x5), (6, .int x6), (7, .long x7), (9, .int x9)] → W p l e room_1 s m args below meth c H locs 600000 7302250 Q (F0 m 67 ls []) := by
  obtain ⟨⟨hx, hb, hml, hown, hts⟩, ⟨hK, hZ⟩, hi, hA, kr⟩ := id C0
  intro n
  induction n with
  | zero =>
    intro x4 x5 x6 x7 x9 I L H locs ls h
    exact ono h
  | succ n ih =>
    intro x4 x5 x6 x7 x9 I L H locs ls h hG hS hl
    rw [XC_67] at h
    refine lv_iload hx hb dL_law_67 (lv_at hl 8 rfl) ?_
    refine lv_iconst (v := (2 : Int32)) hx hb dL_law_69 (by decide) ?_
    refine lv_icmp_ge (tgt := 2488) hx hb dL_law_70 (by decide) (fun c1 => ?_) (fun c1 => ?_)
    · have h := ite_t h c1
      exact kc_2488 C0 hX _ _ _ _ _ _ _ h hG hS (lv_sub hl [1, 4, 7] rfl)
    · have h := ite_f h c1
      refine lv_aload_n hx hb dL_law_73 rfl (lv_at hl 0 rfl) ?_
      refine lv_bipush (v := (8 : Int32)) hx hb dL_law_74 (by decide) ?_
      refine lv_iload hx hb dL_law_76 (lv_at hl 8 rfl) ?_
      refine lv_iadd hx hb dL_law_78 ?_
      obtain ⟨v2, ev2, h⟩ := obind h
      refine lw_ci (va_runS (As := [.ref tI.2.1, .int ((8 : Int32) + x9)]) (rest := []) ⟨hx, hb, hml, hown, hts⟩ (k_L_cell l D cy ad P Dr tI hX I L ((8 : Int32) + x9) v2 ev2) (va_cwS 2 hts (goodIn_up gL_law_L_cell) rfl rfl rfl cd_L_cell.2 ⟨Nat.le_of_ble_eq_true rfl, Nat.le_of_ble_eq_true rfl⟩) ⟨g_blind cZm, g_pre cZm hK hG hZ (law_S0 hS)⟩ rfl rfl hl.1 rfl (lv_room (Nat.le_of_ble_eq_true rfl)) dL_law_79 ⟨Nat.le_of_ble_eq_true rfl, Nat.le_of_ble_eq_true rfl⟩) hS hA (fun H locs hG hS => ?_)
      refine lv_istore (lv' := [(10, .int v2), (0, .ref tI.2.1), (1, .ref (ad 0)), (2, .ref (ad 62)), (3, .ref (ad 63)), (4, .int x4), (5, .int x5), (6, .int x6), (7, .long x7), (9, .int x9)]) hx hb dL_law_82 hl (by decide) rfl (fun ls hl => ?_)
      refine lv_aload_n hx hb dL_law_84 rfl (lv_at hl 2 rfl) ?_
      refine lv_aload_n hx hb dL_law_85 rfl (lv_at hl 3 rfl) ?_
      refine lv_aload_n hx hb dL_law_86 rfl (lv_at hl 4 rfl) ?_
      refine lv_aload_n hx hb dL_law_87 rfl (lv_at hl 1 rfl) ?_
      refine lv_bipush (v := (10 : Int32)) hx hb dL_law_88 (by decide) ?_
      refine lv_iload hx hb dL_law_90 (lv_at hl 9 rfl) ?_
      refine lv_iadd hx hb dL_law_92 ?_
      obtain ⟨v3, ev3, h⟩ := obind h
      refine lw_ci (va_runS (As := [.ref tI.2.1, .int ((10 : Int32) + x9)]) (rest := [.ref (ad 63), .ref (ad 62), .ref (ad 0)]) ⟨hx, hb, hml, hown, hts⟩ (k_L_cell l D cy ad P Dr tI hX I L ((10 : Int32) + x9) v3 ev3) (va_cwS 2 hts (goodIn_up gL_law_L_cell) rfl rfl rfl cd_L_cell.2 ⟨Nat.le_of_ble_eq_true rfl, Nat.le_of_ble_eq_true rfl⟩) ⟨g_blind cZm, g_pre cZm hK hG hZ (law_S0 hS)⟩ rfl rfl hl.1 rfl (lv_room (Nat.le_of_ble_eq_true rfl)) dL_law_93 ⟨Nat.le_of_ble_eq_true rfl, Nat.le_of_ble_eq_true rfl⟩) hS hA (fun H locs hG hS => ?_)
      refine lv_iconst (v := (3 : Int32)) hx hb dL_law_96 (by decide) ?_
      obtain ⟨q4, eq4, h⟩ := obind h
      refine lw_ci (va_runS (As := [.ref (ad 0), .ref (ad 62), .ref (ad 63), .int v3, .int (3 : Int32)]) (rest := []) ⟨hx, hb, hml, hown, hts⟩ (k_L_stir l D cy ad P Dr tI hX I L v3 (3 : Int32) q4 eq4) (va_cwS 5 hts (goodIn_up gL_law_L_stir) rfl rfl rfl cd_L_stir.2 ⟨Nat.le_of_ble_eq_true rfl, Nat.le_of_ble_eq_true rfl⟩) ⟨g_blind cZm, g_pre cZm hK hG hZ (law_S0 hS)⟩ rfl rfl hl.1 rfl (lv_room (Nat.le_of_ble_eq_true rfl)) dL_law_97 ⟨Nat.le_of_ble_eq_true rfl, Nat.le_of_ble_eq_true rfl⟩) hS hA (fun H locs hG hS => ?_)
      refine lv_if_ne (tgt := 105) hx hb dL_law_100 (by decide) (fun c5 => ?_) (fun c5 => ?_)
      · have h := ite_f h c5
        refine lv_aload_n hx hb dL_law_105 rfl (lv_at hl 2 rfl) ?_
        refine lv_iconst (v := (2 : Int32)) hx hb dL_law_106 (by decide) ?_
        obtain ⟨v6, ev6, h⟩ := obind h
        refine lw_ci (va_runV (As := [.int (2 : Int32)]) (rest := []) ⟨hx, hb, hml, hown, hts⟩ (k_X4_count l D cy ad P Dr tI hX q4.2 L (2 : Int32) v6 ev6) (cwV 1 hts (goodIn_up gL_law_X4_count) rfl rfl rfl cd_X4_count ⟨Nat.le_of_ble_eq_true rfl, Nat.le_of_ble_eq_true rfl⟩) ⟨g_blind cZm, g_recv hK hG (k := 0) (by decide) (cE_4 _ _) vwCl_4, g_pre cZm hK hG hZ (law_S0 hS)⟩ rfl rfl hl.1 rfl (lv_room (Nat.le_of_ble_eq_true rfl)) dL_law_107 ⟨Nat.le_of_ble_eq_true rfl, Nat.le_of_ble_eq_true rfl⟩) hS hA (fun H locs hG hS => ?_)
        refine lv_istore (lv' := [(11, .int v6), (10, .int v2), (0, .ref tI.2.1), (1, .ref (ad 0)), (2, .ref (ad 62)), (3, .ref (ad 63)), (4, .int x4), (5, .int x5), (6, .int x6), (7, .long x7), (9, .int x9)]) hx hb dL_law_110 hl (by decide) rfl (fun ls hl => ?_)
        refine lv_aload_n hx hb dL_law_112 rfl (lv_at hl 3 rfl) ?_
        refine lv_iconst (v := (3 : Int32)) hx hb dL_law_113 (by decide) ?_
        obtain ⟨v7, ev7, h⟩ := obind h
        refine lw_ci (va_runV (As := [.int (3 : Int32)]) (rest := []) ⟨hx, hb, hml, hown, hts⟩ (k_X4_count l D cy ad P Dr tI hX q4.2 L (3 : Int32) v7 ev7) (cwV 1 hts (goodIn_up gL_law_X4_count) rfl rfl rfl cd_X4_count ⟨Nat.le_of_ble_eq_true rfl, Nat.le_of_ble_eq_true rfl⟩) ⟨g_blind cZm, g_recv hK hG (k := 0) (by decide) (cE_4 _ _) vwCl_4, g_pre cZm hK hG hZ (law_S0 hS)⟩ rfl rfl hl.1 rfl (lv_room (Nat.le_of_ble_eq_true rfl)) dL_law_114 ⟨Nat.le_of_ble_eq_true rfl, Nat.le_of_ble_eq_true rfl⟩) hS hA (fun H locs hG hS => ?_)
        refine lv_istore (lv' := [(12, .int v7), (11, .int v6), (10, .int v2), (0, .ref tI.2.1), (1, .ref (ad 0)), (2, .ref (ad 62)), (3, .ref (ad 63)), (4, .int x4), (5, .int x5), (6, .int x6), (7, .long x7), (9, .int x9)]) hx hb dL_law_117 hl (by decide) rfl (fun ls hl => ?_)
        refine lv_aload_n hx hb dL_law_119 rfl (lv_at hl 4 rfl) ?_
        refine lv_iconst (v := (4 : Int32)) hx hb dL_law_120 (by decide) ?_
        obtain ⟨v8, ev8, h⟩ := obind h
        refine lw_ci (va_runV (As := [.int (4 : Int32)]) (rest := []) ⟨hx, hb, hml, hown, hts⟩ (k_X4_count l D cy ad P Dr tI hX q4.2 L (4 : Int32) v8 ev8) (cwV 1 hts (goodIn_up gL_law_X4_count) rfl rfl rfl cd_X4_count ⟨Nat.le_of_ble_eq_true rfl, Nat.le_of_ble_eq_true rfl⟩) ⟨g_blind cZm, g_recv hK hG (k := 0) (by decide) (cE_4 _ _) vwCl_4, g_pre cZm hK hG hZ (law_S0 hS)⟩ rfl rfl hl.1 rfl (lv_room (Nat.le_of_ble_eq_true rfl)) dL_law_121 ⟨Nat.le_of_ble_eq_true rfl, Nat.le_of_ble_eq_true rfl⟩) hS hA (fun H locs hG hS => ?_)
        refine lv_istore (lv' := [(13, .int v8), (12, .int v7), (11, .int v6), (10, .int v2), (0, .ref tI.2.1), (1, .ref (ad 0)), (2, .ref (ad 62)), (3, .ref (ad 63)), (4, .int x4), (5, .int x5), (6, .int x6), (7, .long x7), (9, .int x9)]) hx hb dL_law_124 hl (by decide) rfl (fun ls hl => ?_)
        refine lv_aload_n hx hb dL_law_126 rfl (lv_at hl 5 rfl) ?_
        refine lv_iconst (v := (5 : Int32)) hx hb dL_law_127 (by decide) ?_
        obtain ⟨v9, ev9, h⟩ := obind h
        refine lw_ci (va_runV (As := [.int (5 : Int32)]) (rest := []) ⟨hx, hb, hml, hown, hts⟩ (k_X4_count l D cy ad P Dr tI hX q4.2 L (5 : Int32) v9 ev9) (cwV 1 hts (goodIn_up gL_law_X4_count) rfl rfl rfl cd_X4_count ⟨Nat.le_of_ble_eq_true rfl, Nat.le_of_ble_eq_true rfl⟩) ⟨g_blind cZm, g_recv hK hG (k := 0) (by decide) (cE_4 _ _) vwCl_4, g_pre cZm hK hG hZ (law_S0 hS)⟩ rfl rfl hl.1 rfl (lv_room (Nat.le_of_ble_eq_true rfl)) dL_law_128 ⟨Nat.le_of_ble_eq_true rfl, Nat.le_of_ble_eq_true rfl⟩) hS hA (fun H locs hG hS => ?_)
        refine lv_istore (lv' := [(14, .int v9), (13, .int v8), (12, .int v7), (11, .int v6), (10, .int v2), (0, .ref tI.2.1), (1, .ref (ad 0)), (2, .ref (ad 62)), (3, .ref (ad 63)), (4, .int x4), (5, .int x5), (6, .int x6), (7, .long x7), (9, .int x9)]) hx hb dL_law_131 hl (by decide) rfl (fun ls hl => ?_)
        refine lv_aload_n hx hb dL_law_133 rfl (lv_at hl 6 rfl) ?_
        refine lv_bipush (v := (7 : Int32)) hx hb dL_law_134 (by decide) ?_
        obtain ⟨v10, ev10, h⟩ := obind h
        refine lw_ci (va_runV (As := [.int (7 : Int32)]) (rest := []) ⟨hx, hb, hml, hown, hts⟩ (k_X4_count l D cy ad P Dr tI hX q4.2 L (7 : Int32) v10 ev10) (cwV 1 hts (goodIn_up gL_law_X4_count) rfl rfl rfl cd_X4_count ⟨Nat.le_of_ble_eq_true rfl, Nat.le_of_ble_eq_true rfl⟩) ⟨g_blind cZm, g_recv hK hG (k := 0) (by decide) (cE_4 _ _) vwCl_4, g_pre cZm hK hG hZ (law_S0 hS)⟩ rfl rfl hl.1 rfl (lv_room (Nat.le_of_ble_eq_true rfl)) dL_law_136 ⟨Nat.le_of_ble_eq_true rfl, Nat.le_of_ble_eq_true rfl⟩) hS hA (fun H locs hG hS => ?_)
        refine lv_istore (lv' := [(15, .int v10), (14, .int v9), (13, .int v8), (12, .int v7), (11, .int v6), (10, .int v2), (0, .ref tI.2.1), (1, .ref (ad 0)), (2, .ref (ad 62)), (3, .ref (ad 63)), (4, .int x4), (5, .int x5), (6, .int x6), (7, .long x7), (9, .int x9)]) hx hb dL_law_139 hl (by decide) rfl (fun ls hl => ?_)
        refine lv_iload hx hb dL_law_141 (lv_at hl 3 rfl) ?_
        refine lv_if_lt (tgt := 194) hx hb dL_law_143 (by decide) (fun c11 => ?_) (fun c11 => ?_)
        · have h := ite_t h c11
          refine lv_iconst (v := (0 : Int32)) hx hb dL_law_194 (by decide) ?_
          have h := Option.some.inj h
          exact absurd h (by decide)
        · have h := ite_f h c11
          exact kc_146 C0 hX ih _ _ _ _ _ _ _ _ _ _ _ _ _ _ _ _ h hG hS (lv_sub hl [6, 7, 8, 9, 10, 11, 12, 13, 14, 5, 4, 3, 2, 1, 0] rfl)
      · have h := ite_t h c5
        refine lv_iconst (v := (0 : Int32)) hx hb dL_law_103 (by decide) ?_
        have h := Option.some.inj h
        exact absurd h (by decide)
def XC_17 (tI : xTab) (P Dr : Nat) (I : xMem) (L : xLon) : Option Int32 := (L_tower P Dr I tI).bind fun q1 => if q1.1 = (0 : Int32) then (some (0 : Int32)) else ((rdI q1.2.1 62 19 (0 : Int32)).bind fun v3 => (rdI q1.2.1 62 19 (2 : Int32)).bind fun v4 => (rdI q1.2.1 62 19 (1 : Int32)).bind fun v5 => (X4_digest q1.2.2.1 q1.2.1).bind fun v6 => (X4_keep q1.2.2.1 q1.2.1 (0 : Int32)).bind fun q7 => if q7.1 = (0 : Int32) then (XC_67 tI q1.2.2.1 q1.2.2.2 bigF v3 v4 (((1 : Int32) <<< (v5 &&& 31)) - (1 : Int32)) v6 (0 : Int32) q7.2 L) else (some (0 : Int32)))
set_option maxHeartbeats 4000000 in
set_option maxRecDepth 100000 in
theorem kc_17 (C0 : LC p l e s m args below meth c Q D cy ad tI) {P Dr : Nat} (hX : cOk ad P Dr) (I : xMem) (L : xLon) (H : Heap) (locs : List Loc) (ls : Array Slot) (h : XC_17 tI P Dr I L = some 1) : cG D cy ad P Dr I L H → va_S (fun q : Nat => s.heap.size ≤ q) s.heap H locs → lv_has ls 43 [(0, .ref tI.2.1), (1, .ref (ad 0)), (2, .ref (ad 62)), (3, .ref (ad 63))] → W p l e room_1 s m args below meth c H locs 600000 7302250 Q (F0 m 17 ls []) := by
  obtain ⟨⟨hx, hb, hml, hown, hts⟩, ⟨hK, hZ⟩, hi, hA, kr⟩ := id C0
  intro hG hS hl
  unfold XC_17 at h
  refine lv_aload_n hx hb dL_law_17 rfl (lv_at hl 1 rfl) ?_
  refine lv_aload_n hx hb dL_law_18 rfl (lv_at hl 0 rfl) ?_
  refine lv_aload_n hx hb dL_law_19 rfl (lv_at hl 2 rfl) ?_
  refine lv_aload_n hx hb dL_law_20 rfl (lv_at hl 3 rfl) ?_
  obtain ⟨q1, eq1, h⟩ := obind h
  refine lw_ci (va_runS (As := [.ref (ad 0), .ref tI.2.1, .ref (ad 62), .ref (ad 63)]) (rest := []) ⟨hx, hb, hml, hown, hts⟩ (k_L_tower l D cy ad P Dr tI hX I L q1 eq1) (va_cwS 4 hts (goodIn_up gL_law_L_tower) rfl rfl rfl cd_L_tower.2 ⟨Nat.le_of_ble_eq_true rfl, Nat.le_of_ble_eq_true rfl⟩) ⟨g_blind cZm, g_pre cZm hK hG hZ (law_S0 hS)⟩ rfl rfl hl.1 rfl (lv_room (Nat.le_of_ble_eq_true rfl)) dL_law_21 ⟨Nat.le_of_ble_eq_true rfl, Nat.le_of_ble_eq_true rfl⟩) hS hA (fun H locs hG hS => ?_)
  have hX := cOk_pd hX (pd_L_tower eq1)
  refine lv_if_ne (tgt := 29) hx hb dL_law_24 (by decide) (fun c2 => ?_) (fun c2 => ?_)
  · have h := ite_f h c2
    refine lv_aload_n hx hb dL_law_29 rfl (lv_at hl 2 rfl) ?_
    refine lv_iconst (v := (0 : Int32)) hx hb dL_law_30 (by decide) ?_
    refine g_ald hx hb hK hG (k := 62) (n := 19) (show cIA 62 19 from by decide +kernel).1.1 (cIA_e (show cIA 62 19 from by decide +kernel) _ _) 0 rfl h dL_law_31 (fun v3 h => ?_)
    refine lv_istore (lv' := [(4, .int v3), (0, .ref tI.2.1), (1, .ref (ad 0)), (2, .ref (ad 62)), (3, .ref (ad 63))]) hx hb dL_law_32 hl (by decide) rfl (fun ls hl => ?_)
    refine lv_aload_n hx hb dL_law_34 rfl (lv_at hl 3 rfl) ?_
    refine lv_iconst (v := (2 : Int32)) hx hb dL_law_35 (by decide) ?_
    refine g_ald hx hb hK hG (k := 62) (n := 19) (show cIA 62 19 from by decide +kernel).1.1 (cIA_e (show cIA 62 19 from by decide +kernel) _ _) 0 rfl h dL_law_36 (fun v4 h => ?_)
    refine lv_istore (lv' := [(5, .int v4), (4, .int v3), (0, .ref tI.2.1), (1, .ref (ad 0)), (2, .ref (ad 62)), (3, .ref (ad 63))]) hx hb dL_law_37 hl (by decide) rfl (fun ls hl => ?_)
    refine lv_iconst (v := (1 : Int32)) hx hb dL_law_39 (by decide) ?_
    refine lv_aload_n hx hb dL_law_40 rfl (lv_at hl 4 rfl) ?_
    refine lv_iconst (v := (1 : Int32)) hx hb dL_law_41 (by decide) ?_
    refine g_ald hx hb hK hG (k := 62) (n := 19) (show cIA 62 19 from by decide +kernel).1.1 (cIA_e (show cIA 62 19 from by decide +kernel) _ _) 0 rfl h dL_law_42 (fun v5 h => ?_)
    refine lv_ishl hx hb dL_law_43 ?_
    refine lv_iconst (v := (1 : Int32)) hx hb dL_law_44 (by decide) ?_
    refine lv_isub hx hb dL_law_45 ?_
    refine lv_istore (lv' := [(6, .int (((1 : Int32) <<< (v5 &&& 31)) - (1 : Int32))), (5, .int v4), (4, .int v3), (0, .ref tI.2.1), (1, .ref (ad 0)), (2, .ref (ad 62)), (3, .ref (ad 63))]) hx hb dL_law_46 hl (by decide) rfl (fun ls hl => ?_)
    refine lv_aload_n hx hb dL_law_48 rfl (lv_at hl 4 rfl) ?_
    obtain ⟨v6, ev6, h⟩ := obind h
    refine lw_cl (va_runV (As := []) (rest := []) ⟨hx, hb, hml, hown, hts⟩ (k_X4_digest l D cy ad q1.2.2.1 q1.2.2.2 tI hX q1.2.1 L v6 ev6) (cwV 0 hts (goodIn_up gL_law_X4_digest) rfl rfl rfl cd_X4_digest ⟨Nat.le_of_ble_eq_true rfl, Nat.le_of_ble_eq_true rfl⟩) ⟨g_blind cZm, g_recv hK hG (k := 0) (by decide) (cE_4 _ _) vwCl_4, g_pre cZm hK hG hZ (law_S0 hS)⟩ rfl rfl hl.1 rfl (lv_room (Nat.le_of_ble_eq_true rfl)) dL_law_49 ⟨Nat.le_of_ble_eq_true rfl, Nat.le_of_ble_eq_true rfl⟩) hS hA (fun H locs hG hS => ?_)
    refine lv_lstore (lv' := [(7, .long v6), (6, .int (((1 : Int32) <<< (v5 &&& 31)) - (1 : Int32))), (5, .int v4), (4, .int v3), (0, .ref tI.2.1), (1, .ref (ad 0)), (2, .ref (ad 62)), (3, .ref (ad 63))]) hx hb dL_law_52 hl (by decide) rfl (fun ls hl => ?_)
    refine lv_aload_n hx hb dL_law_54 rfl (lv_at hl 5 rfl) ?_
    refine lv_iconst (v := (0 : Int32)) hx hb dL_law_55 (by decide) ?_
    obtain ⟨q7, eq7, h⟩ := obind h
    refine lw_ci (va_runV (As := [.int (0 : Int32)]) (rest := []) ⟨hx, hb, hml, hown, hts⟩ (k_X4_keep l D cy ad q1.2.2.1 q1.2.2.2 tI hX q1.2.1 L (0 : Int32) q7 eq7) (cwV 1 hts (goodIn_up gL_law_X4_keep) rfl rfl rfl cd_X4_keep ⟨Nat.le_of_ble_eq_true rfl, Nat.le_of_ble_eq_true rfl⟩) ⟨g_blind cZm, g_recv hK hG (k := 0) (by decide) (cE_4 _ _) vwCl_4, g_pre cZm hK hG hZ (law_S0 hS)⟩ rfl rfl hl.1 rfl (lv_room (Nat.le_of_ble_eq_true rfl)) dL_law_56 ⟨Nat.le_of_ble_eq_true rfl, Nat.le_of_ble_eq_true rfl⟩) hS hA (fun H locs hG hS => ?_)
    refine lv_if_eq (tgt := 64) hx hb dL_law_59 (by decide) (fun c8 => ?_) (fun c8 => ?_)
    · have h := ite_t h c8
      refine lv_iconst (v := (0 : Int32)) hx hb dL_law_64 (by decide) ?_
      refine lv_istore (lv' := [(9, .int (0 : Int32)), (7, .long v6), (6, .int (((1 : Int32) <<< (v5 &&& 31)) - (1 : Int32))), (5, .int v4), (4, .int v3), (0, .ref tI.2.1), (1, .ref (ad 0)), (2, .ref (ad 62)), (3, .ref (ad 63))]) hx hb dL_law_65 hl (by decide) rfl (fun ls hl => ?_)
      exact kc_67 C0 hX bigF _ _ _ _ _ _ _ _ _ _ h hG hS (lv_sub hl [5, 6, 7, 8, 4, 3, 2, 1, 0] rfl)
    · have h := ite_f h c8
      refine lv_iconst (v := (0 : Int32)) hx hb dL_law_62 (by decide) ?_
      have h := Option.some.inj h
      exact absurd h (by decide)
  · have h := ite_t h c2
    refine lv_iconst (v := (0 : Int32)) hx hb dL_law_27 (by decide) ?_
    have h := Option.some.inj h
    exact absurd h (by decide)
end LAWC2
