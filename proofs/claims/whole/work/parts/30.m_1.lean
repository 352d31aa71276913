def X5_bits_L1 (x1 : Int32) (K1 : Int32 → Option (Int32)) : Nat → Int32 → Int32 → Option (Int32)
  | 0, _, _ => none
  | n2 + 1, x1_2, x2_2 => if (6 : Int32) ≤ x2_2 then (K1 x1_2) else (X5_bits_L1 x1 K1 n2 (x1_2 + ((x1 >>> (x2_2 &&& 31)) &&& (1 : Int32))) (x2_2 + (1 : Int32)))
def X5_bits (x1 : Int32) : Option (Int32) := X5_bits_L1 x1 (fun (z1_2 : Int32) => some z1_2) bigF (0 : Int32) (0 : Int32)
abbrev rm_X5_bits : Room := { frames := 0, cells := 0, slots := 0, locals := 0 }
theorem cd_X5_bits : yX5_bits.cls = RX5 ∧ yX5_bits.cls ≠ "java/lang/invoke/MethodHandle" ∧ yX5_bits.cls ≠ "java/lang/invoke/VarHandle" ∧ (parseMethodDescriptor yX5_bits.desc).map (fun d => d.parameters.length) = some 1 := by decide +kernel
set_option maxHeartbeats 4000000 in
set_option maxRecDepth 100000 in
theorem k_X5_bits (l : Launch) (D : va_G) (cy : Nat → ClassId) (ad : Nat → Nat) (hi : gInj 18 ad) (I : xMem) (L : xLon) (x1 : Int32) (r : Int32) (h : X5_bits x1 = some r) : Met l yX5_bits wsX5_bits rm_X5_bits (va_Pc [.int x1] (mW D cy ad I L)) (mPi D cy ad I L r) 0 0 (gA 18 ad) := by
  refine g_met (own := RX5) (cc := cX5_bits) (maxL := 3) (ret := (some .int)) (by decide) rfl (Nat.le_of_ble_eq_true rfl) rfl ?_
  intro p e s m args below meth c ls hx hb hml hr hlocks hown hts hG hK hZ hl
  generalize hQ : MQ below _ args s 0 0 _ = Q
  have hl : lv_has ls 3 [(0, .int x1)] := hl
  have hS : va_S (gA 18 ad) s.heap s.heap [] := va_S.rf
  unfold X5_bits at h
  refine lv_iconst (v := (0 : Int32)) hx hb dX5_bits_0 (by decide) ?_
  refine lv_istore_n (lv' := [(1, .int (0 : Int32)), (0, .int x1)]) hx hb dX5_bits_1 rfl hl (by decide) rfl (fun ls hl => ?_)
  refine lv_iconst (v := (0 : Int32)) hx hb dX5_bits_2 (by decide) ?_
  refine lv_istore_n (lv' := [(2, .int (0 : Int32)), (1, .int (0 : Int32)), (0, .int x1)]) hx hb dX5_bits_3 rfl hl (by decide) rfl (fun ls hl => ?_)
  have keyK1 : ∀ (K1 : Int32 → Option (Int32)), (∀ (z1_2 : Int32) (H : Heap) (locs : List Loc) (ls : Array Slot), K1 z1_2 = some r → mG D cy ad I L H → va_S (gA 18 ad) s.heap H locs → lv_has ls 3 [(1, .int z1_2)] → W p l e rm_X5_bits s m args below meth c H locs 0 0 Q (F0 m 24 ls [])) → ∀ (n2 : Nat) (x1_2 : Int32) (x2_2 : Int32) (H : Heap) (locs : List Loc) (ls : Array Slot), X5_bits_L1 x1 K1 n2 x1_2 x2_2 = some r → mG D cy ad I L H → va_S (gA 18 ad) s.heap H locs → lv_has ls 3 [(0, .int x1), (1, .int x1_2), (2, .int x2_2)] → W p l e rm_X5_bits s m args below meth c H locs 0 0 Q (F0 m 4 ls []) := by
    intro K1 hkK1 n2
    induction n2 with
    | zero =>
      intro x1_2 x2_2 H locs ls h
      exact ono h
    | succ n2 ihn2 =>
      intro x1_2 x2_2 H locs ls h hG hS hl
      rw [X5_bits_L1] at h
      refine lv_iload_n hx hb dX5_bits_4 rfl (lv_at hl 2 rfl) ?_
      refine lv_bipush (v := (6 : Int32)) hx hb dX5_bits_5 (by decide) ?_
      refine lv_icmp_ge (tgt := 24) hx hb dX5_bits_7 (by decide) (fun c3 => ?_) (fun c3 => ?_)
      · have h := ite_t h c3
        exact hkK1 x1_2 _ _ _ h hG hS (lv_sub hl [1] rfl)
      · have h := ite_f h c3
        refine lv_iload_n hx hb dX5_bits_10 rfl (lv_at hl 1 rfl) ?_
        refine lv_iload_n hx hb dX5_bits_11 rfl (lv_at hl 0 rfl) ?_
        refine lv_iload_n hx hb dX5_bits_12 rfl (lv_at hl 2 rfl) ?_
        refine lv_ishr hx hb dX5_bits_13 ?_
        refine lv_iconst (v := (1 : Int32)) hx hb dX5_bits_14 (by decide) ?_
        refine lv_iand hx hb dX5_bits_15 ?_
        refine lv_iadd hx hb dX5_bits_16 ?_
        refine lv_istore_n (lv' := [(1, .int (x1_2 + ((x1 >>> (x2_2 &&& 31)) &&& (1 : Int32)))), (0, .int x1), (2, .int x2_2)]) hx hb dX5_bits_17 rfl hl (by decide) rfl (fun ls hl => ?_)
        refine lv_iinc (v := (x2_2 + (1 : Int32))) (lv' := [(2, .int (x2_2 + (1 : Int32))), (1, .int (x1_2 + ((x1 >>> (x2_2 &&& 31)) &&& (1 : Int32)))), (0, .int x1)]) hx hb dX5_bits_18 hl (k := 2) rfl rfl (by decide) rfl (fun ls hl => ?_)
        refine lv_goto (tgt := 4) hx hb dX5_bits_21 (by decide) ?_
        exact ihn2 (x1_2 + ((x1 >>> (x2_2 &&& 31)) &&& (1 : Int32))) (x2_2 + (1 : Int32)) _ _ _ h hG hS (lv_sub hl [2, 1, 0] rfl)
  refine keyK1 _ (fun z1_2 H locs ls h hG hS hl => ?_) bigF (0 : Int32) (0 : Int32) _ _ _ h hG hS (lv_sub hl [2, 1, 0] rfl)
  clear keyK1
  refine lv_iload_n hx hb dX5_bits_24 rfl (lv_at hl 0 rfl) ?_
  have h := Option.some.inj h
  subst h
  subst hQ
  exact g_iret hx hb hr hlocks mZm hK hZ hG hS rfl dX5_bits_25
def X5_apart (x1 : Int32) (x2 : Int32) : Int32 := if x2 ≤ x1 then ((x1 - x2)) else ((x2 - x1))
abbrev rm_X5_apart : Room := { frames := 0, cells := 0, slots := 0, locals := 0 }
theorem cd_X5_apart : yX5_apart.cls = RX5 ∧ yX5_apart.cls ≠ "java/lang/invoke/MethodHandle" ∧ yX5_apart.cls ≠ "java/lang/invoke/VarHandle" ∧ (parseMethodDescriptor yX5_apart.desc).map (fun d => d.parameters.length) = some 2 := by decide +kernel
set_option maxHeartbeats 4000000 in
set_option maxRecDepth 100000 in
theorem k_X5_apart (l : Launch) (D : va_G) (cy : Nat → ClassId) (ad : Nat → Nat) (hi : gInj 18 ad) (I : xMem) (L : xLon) (x1 : Int32) (x2 : Int32) (r : Int32) (h : X5_apart x1 x2 = r) : Met l yX5_apart wsX5_apart rm_X5_apart (va_Pc [.int x1, .int x2] (mW D cy ad I L)) (mPi D cy ad I L r) 0 0 (gA 18 ad) := by
  refine g_met (own := RX5) (cc := cX5_apart) (maxL := 2) (ret := (some .int)) (by decide) rfl (Nat.le_of_ble_eq_true rfl) rfl ?_
  intro p e s m args below meth c ls hx hb hml hr hlocks hown hts hG hK hZ hl
  generalize hQ : MQ below _ args s 0 0 _ = Q
  have hl : lv_has ls 2 [(0, .int x1), (1, .int x2)] := hl
  have hS : va_S (gA 18 ad) s.heap s.heap [] := va_S.rf
  unfold X5_apart at h
  refine lv_iload_n hx hb dX5_apart_0 rfl (lv_at hl 0 rfl) ?_
  refine lv_iload_n hx hb dX5_apart_1 rfl (lv_at hl 1 rfl) ?_
  refine lv_icmp_ge (tgt := 11) hx hb dX5_apart_2 (by decide) (fun c1 => ?_) (fun c1 => ?_)
  · have h := ite_t h c1
    refine lv_iload_n hx hb dX5_apart_11 rfl (lv_at hl 0 rfl) ?_
    refine lv_iload_n hx hb dX5_apart_12 rfl (lv_at hl 1 rfl) ?_
    refine lv_isub hx hb dX5_apart_13 ?_
    subst h
    subst hQ
    exact g_iret hx hb hr hlocks mZm hK hZ hG hS rfl dX5_apart_14
  · have h := ite_f h c1
    refine lv_iload_n hx hb dX5_apart_5 rfl (lv_at hl 1 rfl) ?_
    refine lv_iload_n hx hb dX5_apart_6 rfl (lv_at hl 0 rfl) ?_
    refine lv_isub hx hb dX5_apart_7 ?_
    refine lv_goto (tgt := 14) hx hb dX5_apart_8 (by decide) ?_
    subst h
    subst hQ
    exact g_iret hx hb hr hlocks mZm hK hZ hG hS rfl dX5_apart_14
def X5_in (x1 : Int64) (x2 : Int64) (x3 : Int64) : Int32 := if (lg_cmp x1 x2) < (0 : Int32) then ((nz (0 : Int32))) else (if (0 : Int32) < (lg_cmp x1 x3) then ((nz (0 : Int32))) else ((nz (1 : Int32))))
abbrev rm_X5_in : Room := { frames := 0, cells := 0, slots := 0, locals := 0 }
theorem cd_X5_in : yX5_in.cls = RX5 ∧ yX5_in.cls ≠ "java/lang/invoke/MethodHandle" ∧ yX5_in.cls ≠ "java/lang/invoke/VarHandle" ∧ (parseMethodDescriptor yX5_in.desc).map (fun d => d.parameters.length) = some 3 := by decide +kernel
set_option maxHeartbeats 4000000 in
set_option maxRecDepth 100000 in
theorem k_X5_in (l : Launch) (D : va_G) (cy : Nat → ClassId) (ad : Nat → Nat) (hi : gInj 18 ad) (I : xMem) (L : xLon) (x1 : Int64) (x2 : Int64) (x3 : Int64) (r : Int32) (h : X5_in x1 x2 x3 = r) : Met l yX5_in wsX5_in rm_X5_in (va_Pc [.long x1, .long x2, .long x3] (mW D cy ad I L)) (mPi D cy ad I L r) 0 0 (gA 18 ad) := by
  refine g_met (own := RX5) (cc := cX5_in) (maxL := 6) (ret := (some .boolean)) (by decide) rfl (Nat.le_of_ble_eq_true rfl) rfl ?_
  intro p e s m args below meth c ls hx hb hml hr hlocks hown hts hG hK hZ hl
  generalize hQ : MQ below _ args s 0 0 _ = Q
  have hl : lv_has ls 6 [(0, .long x1), (2, .long x2), (4, .long x3)] := hl
  have hS : va_S (gA 18 ad) s.heap s.heap [] := va_S.rf
  unfold X5_in at h
  refine lv_lload_n hx hb dX5_in_0 rfl (lv_at hl 0 rfl) ?_
  refine lv_lload_n hx hb dX5_in_1 rfl (lv_at hl 1 rfl) ?_
  refine W.lcmp hx hb dX5_in_2 ?_
  refine lv_if_lt (tgt := 17) hx hb dX5_in_3 (by decide) (fun c1 => ?_) (fun c1 => ?_)
  · have h := ite_t h c1
    refine lv_iconst (v := (0 : Int32)) hx hb dX5_in_17 (by decide) ?_
    subst h
    subst hQ
    exact g_zret hx hb hr hlocks mZm hK hZ hG hS rfl dX5_in_18
  · have h := ite_f h c1
    refine lv_lload_n hx hb dX5_in_6 rfl (lv_at hl 0 rfl) ?_
    refine lv_lload hx hb dX5_in_7 (lv_at hl 2 rfl) ?_
    refine W.lcmp hx hb dX5_in_9 ?_
    refine lv_if_gt (tgt := 17) hx hb dX5_in_10 (by decide) (fun c2 => ?_) (fun c2 => ?_)
    · have h := ite_t h c2
      refine lv_iconst (v := (0 : Int32)) hx hb dX5_in_17 (by decide) ?_
      subst h
      subst hQ
      exact g_zret hx hb hr hlocks mZm hK hZ hG hS rfl dX5_in_18
    · have h := ite_f h c2
      refine lv_iconst (v := (1 : Int32)) hx hb dX5_in_13 (by decide) ?_
      refine lv_goto (tgt := 18) hx hb dX5_in_14 (by decide) ?_
      subst h
      subst hQ
      exact g_zret hx hb hr hlocks mZm hK hZ hG hS rfl dX5_in_18
def X5_has (x1 : Int32) (x2 : Int32) : Int32 := if ((x1 >>> (x2 &&& 31)) &&& (1 : Int32)) = (1 : Int32) then ((nz (1 : Int32))) else ((nz (0 : Int32)))
abbrev rm_X5_has : Room := { frames := 0, cells := 0, slots := 0, locals := 0 }
theorem cd_X5_has : yX5_has.cls = RX5 ∧ yX5_has.cls ≠ "java/lang/invoke/MethodHandle" ∧ yX5_has.cls ≠ "java/lang/invoke/VarHandle" ∧ (parseMethodDescriptor yX5_has.desc).map (fun d => d.parameters.length) = some 2 := by decide +kernel
set_option maxHeartbeats 4000000 in
set_option maxRecDepth 100000 in
theorem k_X5_has (l : Launch) (D : va_G) (cy : Nat → ClassId) (ad : Nat → Nat) (hi : gInj 18 ad) (I : xMem) (L : xLon) (x1 : Int32) (x2 : Int32) (r : Int32) (h : X5_has x1 x2 = r) : Met l yX5_has wsX5_has rm_X5_has (va_Pc [.int x1, .int x2] (mW D cy ad I L)) (mPi D cy ad I L r) 0 0 (gA 18 ad) := by
  refine g_met (own := RX5) (cc := cX5_has) (maxL := 2) (ret := (some .boolean)) (by decide) rfl (Nat.le_of_ble_eq_true rfl) rfl ?_
  intro p e s m args below meth c ls hx hb hml hr hlocks hown hts hG hK hZ hl
  generalize hQ : MQ below _ args s 0 0 _ = Q
  have hl : lv_has ls 2 [(0, .int x1), (1, .int x2)] := hl
  have hS : va_S (gA 18 ad) s.heap s.heap [] := va_S.rf
  unfold X5_has at h
  refine lv_iload_n hx hb dX5_has_0 rfl (lv_at hl 0 rfl) ?_
  refine lv_iload_n hx hb dX5_has_1 rfl (lv_at hl 1 rfl) ?_
  refine lv_ishr hx hb dX5_has_2 ?_
  refine lv_iconst (v := (1 : Int32)) hx hb dX5_has_3 (by decide) ?_
  refine lv_iand hx hb dX5_has_4 ?_
  refine lv_iconst (v := (1 : Int32)) hx hb dX5_has_5 (by decide) ?_
  refine lv_icmp_ne (tgt := 13) hx hb dX5_has_6 (by decide) (fun c1 => ?_) (fun c1 => ?_)
  · have h := ite_f h c1
    refine lv_iconst (v := (0 : Int32)) hx hb dX5_has_13 (by decide) ?_
    subst h
    subst hQ
    exact g_zret hx hb hr hlocks mZm hK hZ hG hS rfl dX5_has_14
  · have h := ite_t h c1
    refine lv_iconst (v := (1 : Int32)) hx hb dX5_has_9 (by decide) ?_
    refine lv_goto (tgt := 14) hx hb dX5_has_10 (by decide) ?_
    subst h
    subst hQ
    exact g_zret hx hb hr hlocks mZm hK hZ hG hS rfl dX5_has_14
def X5_find (I : xMem) (x1 : Int32) : Option (Int32 × xMem) := (some (wr I 0 14 x1)).bind fun I1 => (rdI I1 9 6 x1).bind fun v2 => (wrI I1 9 6 x1 (v2 + (1 : Int32))).bind fun I3 => some ((-3 : Int32), I3)
abbrev rm_X5_find : Room := { frames := 0, cells := 0, slots := 0, locals := 0 }
theorem cd_X5_find : yX5_find.cls = RX5 ∧ yX5_find.cls ≠ "java/lang/invoke/MethodHandle" ∧ yX5_find.cls ≠ "java/lang/invoke/VarHandle" ∧ (parseMethodDescriptor yX5_find.desc).map (fun d => d.parameters.length) = some 1 := by decide +kernel
set_option maxHeartbeats 4000000 in
set_option maxRecDepth 100000 in
theorem k_X5_find (l : Launch) (D : va_G) (cy : Nat → ClassId) (ad : Nat → Nat) (hi : gInj 18 ad) (I : xMem) (L : xLon) (x1 : Int32) (r : Int32 × xMem) (h : X5_find I x1 = some r) : Met l yX5_find wsX5_find rm_X5_find (va_Pc [.ref (ad 0), .int x1] (mW D cy ad I L)) (mPi D cy ad r.2 L r.1) 0 0 (gA 18 ad) := by
  refine g_met (own := RX5) (cc := cX5_find) (maxL := 2) (ret := (some .int)) (by decide) rfl (Nat.le_of_ble_eq_true rfl) rfl ?_
  intro p e s m args below meth c ls hx hb hml hr hlocks hown hts hG hK hZ hl
  generalize hQ : MQ below _ args s 0 0 _ = Q
  have hl : lv_has ls 2 [(0, .ref (ad 0)), (1, .int x1)] := hl
  have hS : va_S (gA 18 ad) s.heap s.heap [] := va_S.rf
  have l5 : ∀ w ∈ wsX50, w.before args s = true := fun w h => hts w (List.mem_cons_of_mem _ (List.mem_append_right _ h))
  have k1 := hts (.fieldLink RX5 66 "PairStairsModel" "finding" "I") (by decide +kernel)
  have k2 := hts (.fieldLink RX5 38 "PairStairsModel" "findings" "[I") (by decide +kernel)
  unfold X5_find at h
  refine lv_aload_n hx hb dX5_find_0 rfl (lv_at hl 0 rfl) ?_
  refine lv_iload_n hx hb dX5_find_1 rfl (lv_at hl 1 rfl) ?_
  obtain ⟨I1, eI1, h⟩ := obind h
  refine g_put hx hb l5 tyX5_ok nmX5 hown hK hG hi hS (k := 0) (by decide) (mE_5 _ _) vwCl_5 14 (by decide) k1 (fun _ h9 => h9) rfl rfl (Nat.le_of_ble_eq_true rfl) (by rw [mE_5 _ _]; rfl) dX5_find_2 (fun H locs hG hS => ?_)
  rw [Option.some.inj eI1] at hG
  refine lv_aload_n hx hb dX5_find_5 rfl (lv_at hl 0 rfl) ?_
  refine g_get hx hb l5 hown hK hG (k := 0) (by decide) (mE_5 _ _) vwCl_5 15 (by decide) k2 (fun _ h9 => h9) rfl dX5_find_6 ?_
  refine lv_iload_n hx hb dX5_find_9 rfl (lv_at hl 1 rfl) ?_
  refine lv_dup2_11 hx hb dX5_find_10 rfl rfl ?_
  refine g_ald hx hb hK hG (k := 9) (n := 6) (show mIA 9 6 from by decide +kernel).1.1 (mIA_e (show mIA 9 6 from by decide +kernel) _ _) 0 rfl h dX5_find_11 (fun v2 h => ?_)
  refine lv_iconst (v := (1 : Int32)) hx hb dX5_find_12 (by decide) ?_
  refine lv_iadd hx hb dX5_find_13 ?_
  refine g_ast hx hb hK hG hi hS (k := 9) (n := 6) (show mIA 9 6 from by decide +kernel).1.1 (fun f => mIA_e (show mIA 9 6 from by decide +kernel) f _) 0 rfl h dX5_find_14 (fun I3 H locs h hG hS => ?_)
  refine lv_bipush (v := (-3 : Int32)) hx hb dX5_find_15 (by decide) ?_
  have h := Option.some.inj h
  subst h
  subst hQ
  exact g_iret hx hb hr hlocks mZm hK hZ hG hS rfl dX5_find_17
def X5_tell (I : xMem) (x1 : Int32) : Option (Int32 × xMem) := (some (wr I 0 11 x1)).bind fun I1 => some ((1 : Int32), I1)
abbrev rm_X5_tell : Room := { frames := 0, cells := 0, slots := 0, locals := 0 }
theorem cd_X5_tell : yX5_tell.cls = RX5 ∧ yX5_tell.cls ≠ "java/lang/invoke/MethodHandle" ∧ yX5_tell.cls ≠ "java/lang/invoke/VarHandle" ∧ (parseMethodDescriptor yX5_tell.desc).map (fun d => d.parameters.length) = some 1 := by decide +kernel
set_option maxHeartbeats 4000000 in
set_option maxRecDepth 100000 in
theorem k_X5_tell (l : Launch) (D : va_G) (cy : Nat → ClassId) (ad : Nat → Nat) (hi : gInj 18 ad) (I : xMem) (L : xLon) (x1 : Int32) (r : Int32 × xMem) (h : X5_tell I x1 = some r) : Met l yX5_tell wsX5_tell rm_X5_tell (va_Pc [.ref (ad 0), .int x1] (mW D cy ad I L)) (mPi D cy ad r.2 L r.1) 0 0 (gA 18 ad) := by
  refine g_met (own := RX5) (cc := cX5_tell) (maxL := 2) (ret := (some .int)) (by decide) rfl (Nat.le_of_ble_eq_true rfl) rfl ?_
  intro p e s m args below meth c ls hx hb hml hr hlocks hown hts hG hK hZ hl
  generalize hQ : MQ below _ args s 0 0 _ = Q
  have hl : lv_has ls 2 [(0, .ref (ad 0)), (1, .int x1)] := hl
  have hS : va_S (gA 18 ad) s.heap s.heap [] := va_S.rf
  have l5 : ∀ w ∈ wsX50, w.before args s = true := fun w h => hts w (List.mem_cons_of_mem _ (List.mem_append_right _ h))
  have k1 := hts (.fieldLink RX5 70 "PairStairsModel" "asked" "I") (by decide +kernel)
  unfold X5_tell at h
  refine lv_aload_n hx hb dX5_tell_0 rfl (lv_at hl 0 rfl) ?_
  refine lv_iload_n hx hb dX5_tell_1 rfl (lv_at hl 1 rfl) ?_
  obtain ⟨I1, eI1, h⟩ := obind h
  refine g_put hx hb l5 tyX5_ok nmX5 hown hK hG hi hS (k := 0) (by decide) (mE_5 _ _) vwCl_5 11 (by decide) k1 (fun _ h9 => h9) rfl rfl (Nat.le_of_ble_eq_true rfl) (by rw [mE_5 _ _]; rfl) dX5_tell_2 (fun H locs hG hS => ?_)
  rw [Option.some.inj eI1] at hG
  refine lv_iconst (v := (1 : Int32)) hx hb dX5_tell_5 (by decide) ?_
  have h := Option.some.inj h
  subst h
  subst hQ
  exact g_iret hx hb hr hlocks mZm hK hZ hG hS rfl dX5_tell_6
def X5_isRow (x1 : Int32) : Int32 := (nz (X5_in x1.toInt64 (0 : Int64) (5 : Int64)))
abbrev rm_X5_isRow : Room := { frames := 1, cells := 0, slots := 0, locals := 25 }
theorem cd_X5_isRow : yX5_isRow.cls = RX5 ∧ yX5_isRow.cls ≠ "java/lang/invoke/MethodHandle" ∧ yX5_isRow.cls ≠ "java/lang/invoke/VarHandle" ∧ (parseMethodDescriptor yX5_isRow.desc).map (fun d => d.parameters.length) = some 1 := by decide +kernel
set_option maxHeartbeats 4000000 in
set_option maxRecDepth 100000 in
theorem k_X5_isRow (l : Launch) (D : va_G) (cy : Nat → ClassId) (ad : Nat → Nat) (hi : gInj 18 ad) (I : xMem) (L : xLon) (x1 : Int32) (r : Int32) (h : X5_isRow x1 = r) : Met l yX5_isRow wsX5_isRow rm_X5_isRow (va_Pc [.int x1] (mW D cy ad I L)) (mPi D cy ad I L r) 0 0 (gA 18 ad) := by
  refine g_met (own := RX5) (cc := cX5_isRow) (maxL := 1) (ret := (some .boolean)) (by decide) rfl (Nat.le_of_ble_eq_true rfl) rfl ?_
  intro p e s m args below meth c ls hx hb hml hr hlocks hown hts hG hK hZ hl
  generalize hQ : MQ below _ args s 0 0 _ = Q
  have hl : lv_has ls 1 [(0, .int x1)] := hl
  have hS : va_S (gA 18 ad) s.heap s.heap [] := va_S.rf
  have k1 := hts (.constantLong RX5 73 (5)) (by decide +kernel)
  unfold X5_isRow at h
  refine lv_iload_n hx hb dX5_isRow_0 rfl (lv_at hl 0 rfl) ?_
  refine lv_i2l hx hb dX5_isRow_1 rfl ?_
  refine lv_lconst (v := (0 : Int64)) hx hb dX5_isRow_2 (by decide) ?_
  refine lv_ldc2 (v := (5 : Int64)) hx hb hown k1 dX5_isRow_3 ?_
  refine g_endi (va_runS (As := [.long x1.toInt64, .long (0 : Int64), .long (5 : Int64)]) (rest := []) ⟨hx, hb, hml, hown, hts⟩ (k_X5_in l D cy ad hi I L x1.toInt64 (0 : Int64) (5 : Int64) _ rfl) (va_cwS 3 hts gX5_isRow_X5_in rfl rfl rfl cd_X5_in.2 ⟨Nat.le_of_ble_eq_true rfl, Nat.le_of_ble_eq_true rfl⟩) ⟨g_blind mZm, g_pre mZm hK hG hZ hS⟩ rfl rfl hl.1 rfl (lv_room (Nat.le_of_ble_eq_true rfl)) dX5_isRow_6 ⟨Nat.le_refl _, Nat.le_refl _⟩) hS (fun H locs hG hS => ?_)
  subst h
  subst hQ
  exact g_zret hx hb hr hlocks mZm hK hZ hG hS rfl dX5_isRow_9
def X5_isText (x1 : Int32) : Int32 := (nz (X5_in x1.toInt64 (0 : Int64) (3 : Int64)))
abbrev rm_X5_isText : Room := { frames := 1, cells := 0, slots := 0, locals := 25 }
theorem cd_X5_isText : yX5_isText.cls = RX5 ∧ yX5_isText.cls ≠ "java/lang/invoke/MethodHandle" ∧ yX5_isText.cls ≠ "java/lang/invoke/VarHandle" ∧ (parseMethodDescriptor yX5_isText.desc).map (fun d => d.parameters.length) = some 1 := by decide +kernel
set_option maxHeartbeats 4000000 in
set_option maxRecDepth 100000 in
theorem k_X5_isText (l : Launch) (D : va_G) (cy : Nat → ClassId) (ad : Nat → Nat) (hi : gInj 18 ad) (I : xMem) (L : xLon) (x1 : Int32) (r : Int32) (h : X5_isText x1 = r) : Met l yX5_isText wsX5_isText rm_X5_isText (va_Pc [.int x1] (mW D cy ad I L)) (mPi D cy ad I L r) 0 0 (gA 18 ad) := by
  refine g_met (own := RX5) (cc := cX5_isText) (maxL := 1) (ret := (some .boolean)) (by decide) rfl (Nat.le_of_ble_eq_true rfl) rfl ?_
  intro p e s m args below meth c ls hx hb hml hr hlocks hown hts hG hK hZ hl
  generalize hQ : MQ below _ args s 0 0 _ = Q
  have hl : lv_has ls 1 [(0, .int x1)] := hl
  have hS : va_S (gA 18 ad) s.heap s.heap [] := va_S.rf
  have k1 := hts (.constantLong RX5 79 (3)) (by decide +kernel)
  unfold X5_isText at h
  refine lv_iload_n hx hb dX5_isText_0 rfl (lv_at hl 0 rfl) ?_
  refine lv_i2l hx hb dX5_isText_1 rfl ?_
  refine lv_lconst (v := (0 : Int64)) hx hb dX5_isText_2 (by decide) ?_
  refine lv_ldc2 (v := (3 : Int64)) hx hb hown k1 dX5_isText_3 ?_
  refine g_endi (va_runS (As := [.long x1.toInt64, .long (0 : Int64), .long (3 : Int64)]) (rest := []) ⟨hx, hb, hml, hown, hts⟩ (k_X5_in l D cy ad hi I L x1.toInt64 (0 : Int64) (3 : Int64) _ rfl) (va_cwS 3 hts gX5_isText_X5_in rfl rfl rfl cd_X5_in.2 ⟨Nat.le_of_ble_eq_true rfl, Nat.le_of_ble_eq_true rfl⟩) ⟨g_blind mZm, g_pre mZm hK hG hZ hS⟩ rfl rfl hl.1 rfl (lv_room (Nat.le_of_ble_eq_true rfl)) dX5_isText_6 ⟨Nat.le_refl _, Nat.le_refl _⟩) hS (fun H locs hG hS => ?_)
  subst h
  subst hQ
  exact g_zret hx hb hr hlocks mZm hK hZ hG hS rfl dX5_isText_9
def X5_makeRow_L1 (x1 : Int32) (K2 : xMem → Option (xMem)) : Nat → Int32 → xMem → Option (xMem)
  | 0, _, _ => none
  | n3 + 1, x3_3, I4 => if (40 : Int32) ≤ x3_3 then (K2 I4) else ((wrI I4 6 240 (((40 : Int32) * x1) + x3_3) (0 : Int32)).bind fun I7 => X5_makeRow_L1 x1 K2 n3 (x3_3 + (1 : Int32)) I7)
def X5_makeRow (I : xMem) (x1 : Int32) (x2 : Int32) : Option (xMem) := (wrI I 5 6 x1 x2).bind fun I1 => X5_makeRow_L1 x1 (fun (I5 : xMem) => some I5) bigF (0 : Int32) I1
abbrev rm_X5_makeRow : Room := { frames := 0, cells := 0, slots := 0, locals := 0 }
theorem cd_X5_makeRow : yX5_makeRow.cls = RX5 ∧ yX5_makeRow.cls ≠ "java/lang/invoke/MethodHandle" ∧ yX5_makeRow.cls ≠ "java/lang/invoke/VarHandle" ∧ (parseMethodDescriptor yX5_makeRow.desc).map (fun d => d.parameters.length) = some 2 := by decide +kernel
set_option maxHeartbeats 4000000 in
set_option maxRecDepth 100000 in
theorem k_X5_makeRow (l : Launch) (D : va_G) (cy : Nat → ClassId) (ad : Nat → Nat) (hi : gInj 18 ad) (I : xMem) (L : xLon) (x1 : Int32) (x2 : Int32) (r : xMem) (h : X5_makeRow I x1 x2 = some r) : Met l yX5_makeRow wsX5_makeRow rm_X5_makeRow (va_Pc [.ref (ad 0), .int x1, .int x2] (mW D cy ad I L)) (mPv D cy ad r L) 0 0 (gA 18 ad) := by
  refine g_met (own := RX5) (cc := cX5_makeRow) (maxL := 4) (ret := none) (by decide) rfl (Nat.le_of_ble_eq_true rfl) rfl ?_
  intro p e s m args below meth c ls hx hb hml hr hlocks hown hts hG hK hZ hl
  generalize hQ : MQ below _ args s 0 0 _ = Q
  have hl : lv_has ls 4 [(0, .ref (ad 0)), (1, .int x1), (2, .int x2)] := hl
  have hS : va_S (gA 18 ad) s.heap s.heap [] := va_S.rf
  have l5 : ∀ w ∈ wsX50, w.before args s = true := fun w h => hts w (List.mem_cons_of_mem _ (List.mem_append_right _ h))
  have k1 := hts (.fieldLink RX5 22 "PairStairsModel" "sizes" "[I") (by decide +kernel)
  have k2 := hts (.fieldLink RX5 25 "PairStairsModel" "items" "[I") (by decide +kernel)
  unfold X5_makeRow at h
  refine lv_aload_n hx hb dX5_makeRow_0 rfl (lv_at hl 0 rfl) ?_
  refine g_get hx hb l5 hown hK hG (k := 0) (by decide) (mE_5 _ _) vwCl_5 7 (by decide) k1 (fun _ h9 => h9) rfl dX5_makeRow_1 ?_
  refine lv_iload_n hx hb dX5_makeRow_4 rfl (lv_at hl 1 rfl) ?_
  refine lv_iload_n hx hb dX5_makeRow_5 rfl (lv_at hl 2 rfl) ?_
  refine g_ast hx hb hK hG hi hS (k := 5) (n := 6) (show mIA 5 6 from by decide +kernel).1.1 (fun f => mIA_e (show mIA 5 6 from by decide +kernel) f _) 0 rfl h dX5_makeRow_6 (fun I1 H locs h hG hS => ?_)
  refine lv_iconst (v := (0 : Int32)) hx hb dX5_makeRow_7 (by decide) ?_
  refine lv_istore_n (lv' := [(3, .int (0 : Int32)), (0, .ref (ad 0)), (1, .int x1), (2, .int x2)]) hx hb dX5_makeRow_8 rfl hl (by decide) rfl (fun ls hl => ?_)
  have keyK2 : ∀ (K2 : xMem → Option (xMem)), (∀ (I5 : xMem) (H : Heap) (locs : List Loc) (ls : Array Slot), K2 I5 = some r → mG D cy ad I5 L H → va_S (gA 18 ad) s.heap H locs → lv_has ls 4 [] → W p l e rm_X5_makeRow s m args below meth c H locs 0 0 Q (F0 m 33 ls [])) → ∀ (n3 : Nat) (x3_3 : Int32) (I4 : xMem) (H : Heap) (locs : List Loc) (ls : Array Slot), X5_makeRow_L1 x1 K2 n3 x3_3 I4 = some r → mG D cy ad I4 L H → va_S (gA 18 ad) s.heap H locs → lv_has ls 4 [(0, .ref (ad 0)), (1, .int x1), (3, .int x3_3)] → W p l e rm_X5_makeRow s m args below meth c H locs 0 0 Q (F0 m 9 ls []) := by
    intro K2 hkK2 n3
    induction n3 with
    | zero =>
      intro x3_3 I4 H locs ls h
      exact ono h
    | succ n3 ihn3 =>
      intro x3_3 I4 H locs ls h hG hS hl
      rw [X5_makeRow_L1] at h
      refine lv_iload_n hx hb dX5_makeRow_9 rfl (lv_at hl 2 rfl) ?_
      refine lv_bipush (v := (40 : Int32)) hx hb dX5_makeRow_10 (by decide) ?_
      refine lv_icmp_ge (tgt := 33) hx hb dX5_makeRow_12 (by decide) (fun c6 => ?_) (fun c6 => ?_)
      · have h := ite_t h c6
        exact hkK2 I4 _ _ _ h hG hS (lv_sub hl [] rfl)
      · have h := ite_f h c6
        refine lv_aload_n hx hb dX5_makeRow_15 rfl (lv_at hl 0 rfl) ?_
        refine g_get hx hb l5 hown hK hG (k := 0) (by decide) (mE_5 _ _) vwCl_5 8 (by decide) k2 (fun _ h9 => h9) rfl dX5_makeRow_16 ?_
        refine lv_bipush (v := (40 : Int32)) hx hb dX5_makeRow_19 (by decide) ?_
        refine lv_iload_n hx hb dX5_makeRow_21 rfl (lv_at hl 1 rfl) ?_
        refine lv_imul hx hb dX5_makeRow_22 ?_
        refine lv_iload_n hx hb dX5_makeRow_23 rfl (lv_at hl 2 rfl) ?_
        refine lv_iadd hx hb dX5_makeRow_24 ?_
        refine lv_iconst (v := (0 : Int32)) hx hb dX5_makeRow_25 (by decide) ?_
        refine g_ast hx hb hK hG hi hS (k := 6) (n := 240) (show mIA 6 240 from by decide +kernel).1.1 (fun f => mIA_e (show mIA 6 240 from by decide +kernel) f _) 0 rfl h dX5_makeRow_26 (fun I7 H locs h hG hS => ?_)
        refine lv_iinc (v := (x3_3 + (1 : Int32))) (lv' := [(3, .int (x3_3 + (1 : Int32))), (0, .ref (ad 0)), (1, .int x1)]) hx hb dX5_makeRow_27 hl (k := 2) rfl rfl (by decide) rfl (fun ls hl => ?_)
        refine lv_goto (tgt := 9) hx hb dX5_makeRow_30 (by decide) ?_
        exact ihn3 (x3_3 + (1 : Int32)) I7 _ _ _ h hG hS (lv_sub hl [1, 2, 0] rfl)
  refine keyK2 _ (fun I5 H locs ls h hG hS hl => ?_) bigF (0 : Int32) I1 _ _ _ h hG hS (lv_sub hl [1, 2, 0] rfl)
  clear keyK2
  have h := Option.some.inj h
  subst h
  subst hQ
  exact g_vret hx hb hr hlocks mZm hK hZ hG hS dX5_makeRow_33
def X5_row (I : xMem) (x1 : Int32) (x2 : Int32) : Option (Int32 × xMem) := if (X5_isRow x1) = (0 : Int32) then (some ((-1 : Int32), I)) else (if x2 ≤ (40 : Int32) then (if (0 : Int32) ≤ x2 then ((X5_makeRow I x1 x2).bind fun q4 => some (x2, q4)) else ((X5_find I (5 : Int32)).bind fun q5 => some (q5.1, q5.2))) else (some ((-1 : Int32), I)))
abbrev rm_X5_row : Room := { frames := 2, cells := 0, slots := 0, locals := 45 }
theorem cd_X5_row : yX5_row.cls = RX5 ∧ yX5_row.cls ≠ "java/lang/invoke/MethodHandle" ∧ yX5_row.cls ≠ "java/lang/invoke/VarHandle" ∧ (parseMethodDescriptor yX5_row.desc).map (fun d => d.parameters.length) = some 2 := by decide +kernel
set_option maxHeartbeats 4000000 in
set_option maxRecDepth 100000 in
theorem k_X5_row (l : Launch) (D : va_G) (cy : Nat → ClassId) (ad : Nat → Nat) (hi : gInj 18 ad) (I : xMem) (L : xLon) (x1 : Int32) (x2 : Int32) (r : Int32 × xMem) (h : X5_row I x1 x2 = some r) : Met l yX5_row wsX5_row rm_X5_row (va_Pc [.ref (ad 0), .int x1, .int x2] (mW D cy ad I L)) (mPi D cy ad r.2 L r.1) 0 0 (gA 18 ad) := by
  refine g_met (own := RX5) (cc := cX5_row) (maxL := 3) (ret := (some .int)) (by decide) rfl (Nat.le_of_ble_eq_true rfl) rfl ?_
  intro p e s m args below meth c ls hx hb hml hr hlocks hown hts hG hK hZ hl
  generalize hQ : MQ below _ args s 0 0 _ = Q
  have hl : lv_has ls 3 [(0, .ref (ad 0)), (1, .int x1), (2, .int x2)] := hl
  have hS : va_S (gA 18 ad) s.heap s.heap [] := va_S.rf
  unfold X5_row at h
  refine lv_iload_n hx hb dX5_row_0 rfl (lv_at hl 1 rfl) ?_
  refine g_endi (va_runS (As := [.int x1]) (rest := []) ⟨hx, hb, hml, hown, hts⟩ (k_X5_isRow l D cy ad hi I L x1 _ rfl) (va_cwS 1 hts gX5_row_X5_isRow rfl rfl rfl cd_X5_isRow.2 ⟨Nat.le_of_ble_eq_true rfl, Nat.le_of_ble_eq_true rfl⟩) ⟨g_blind mZm, g_pre mZm hK hG hZ hS⟩ rfl rfl hl.1 rfl (lv_room (Nat.le_of_ble_eq_true rfl)) dX5_row_1 ⟨Nat.le_refl _, Nat.le_refl _⟩) hS (fun H locs hG hS => ?_)
  refine lv_if_eq (tgt := 13) hx hb dX5_row_4 (by decide) (fun c1 => ?_) (fun c1 => ?_)
  · have h := ite_t h c1
    refine lv_iconst (v := (-1 : Int32)) hx hb dX5_row_13 (by decide) ?_
    have h := Option.some.inj h
    subst h
    subst hQ
    exact g_iret hx hb hr hlocks mZm hK hZ hG hS rfl dX5_row_14
  · have h := ite_f h c1
    refine lv_iload_n hx hb dX5_row_7 rfl (lv_at hl 2 rfl) ?_
    refine lv_bipush (v := (40 : Int32)) hx hb dX5_row_8 (by decide) ?_
    refine lv_icmp_le (tgt := 15) hx hb dX5_row_10 (by decide) (fun c2 => ?_) (fun c2 => ?_)
    · have h := ite_t h c2
      refine lv_iload_n hx hb dX5_row_15 rfl (lv_at hl 2 rfl) ?_
      refine lv_if_ge (tgt := 25) hx hb dX5_row_16 (by decide) (fun c3 => ?_) (fun c3 => ?_)
      · have h := ite_t h c3
        refine lv_aload_n hx hb dX5_row_25 rfl (lv_at hl 0 rfl) ?_
        refine lv_iload_n hx hb dX5_row_26 rfl (lv_at hl 1 rfl) ?_
        refine lv_iload_n hx hb dX5_row_27 rfl (lv_at hl 2 rfl) ?_
        obtain ⟨q4, eq4, h⟩ := obind h
        refine g_endv (va_runV (As := [.int x1, .int x2]) (rest := []) ⟨hx, hb, hml, hown, hts⟩ (k_X5_makeRow l D cy ad hi I L x1 x2 q4 eq4) (cwV 2 hts gX5_row_X5_makeRow rfl rfl rfl cd_X5_makeRow ⟨Nat.le_of_ble_eq_true rfl, Nat.le_of_ble_eq_true rfl⟩) ⟨g_blind mZm, g_recv hK hG (k := 0) (by decide) (mE_5 _ _) vwCl_5, g_pre mZm hK hG hZ hS⟩ rfl rfl hl.1 rfl (lv_room (Nat.le_of_ble_eq_true rfl)) dX5_row_28 ⟨Nat.le_refl _, Nat.le_refl _⟩) hS (fun H locs hG hS => ?_)
        refine lv_iload_n hx hb dX5_row_31 rfl (lv_at hl 2 rfl) ?_
        have h := Option.some.inj h
        subst h
        subst hQ
        exact g_iret hx hb hr hlocks mZm hK hZ hG hS rfl dX5_row_32
      · have h := ite_f h c3
        refine lv_aload_n hx hb dX5_row_19 rfl (lv_at hl 0 rfl) ?_
        refine lv_iconst (v := (5 : Int32)) hx hb dX5_row_20 (by decide) ?_
        obtain ⟨q5, eq5, h⟩ := obind h
        refine g_endi (va_runV (As := [.int (5 : Int32)]) (rest := []) ⟨hx, hb, hml, hown, hts⟩ (k_X5_find l D cy ad hi I L (5 : Int32) q5 eq5) (cwV 1 hts gX5_row_X5_find rfl rfl rfl cd_X5_find ⟨Nat.le_of_ble_eq_true rfl, Nat.le_of_ble_eq_true rfl⟩) ⟨g_blind mZm, g_recv hK hG (k := 0) (by decide) (mE_5 _ _) vwCl_5, g_pre mZm hK hG hZ hS⟩ rfl rfl hl.1 rfl (lv_room (Nat.le_of_ble_eq_true rfl)) dX5_row_21 ⟨Nat.le_refl _, Nat.le_refl _⟩) hS (fun H locs hG hS => ?_)
        have h := Option.some.inj h
        subst h
        subst hQ
        exact g_iret hx hb hr hlocks mZm hK hZ hG hS rfl dX5_row_24
    · have h := ite_f h c2
      refine lv_iconst (v := (-1 : Int32)) hx hb dX5_row_13 (by decide) ?_
      have h := Option.some.inj h
      subst h
      subst hQ
      exact g_iret hx hb hr hlocks mZm hK hZ hG hS rfl dX5_row_14
def X5_refused (I : xMem) (x1 : Int32) (x2 : Int32) : Option (Int32 × xMem) := if (X5_isRow x1) = (0 : Int32) then (some ((-1 : Int32), I)) else ((rdI I 5 6 x1).bind fun v2 => if (0 : Int32) ≤ v2 then ((rdI I 5 6 x1).bind fun v4 => if (X5_in x2.toInt64 (0 : Int64) ((v4 - (1 : Int32)).toInt64)) = (0 : Int32) then ((X5_find I (2 : Int32)).bind fun q6 => some (q6.1, q6.2)) else (some ((0 : Int32), I))) else ((X5_find I (1 : Int32)).bind fun q7 => some (q7.1, q7.2)))
abbrev rm_X5_refused : Room := { frames := 2, cells := 0, slots := 0, locals := 45 }
theorem cd_X5_refused : yX5_refused.cls = RX5 ∧ yX5_refused.cls ≠ "java/lang/invoke/MethodHandle" ∧ yX5_refused.cls ≠ "java/lang/invoke/VarHandle" ∧ (parseMethodDescriptor yX5_refused.desc).map (fun d => d.parameters.length) = some 2 := by decide +kernel
set_option maxHeartbeats 4000000 in
set_option maxRecDepth 100000 in
theorem k_X5_refused (l : Launch) (D : va_G) (cy : Nat → ClassId) (ad : Nat → Nat) (hi : gInj 18 ad) (I : xMem) (L : xLon) (x1 : Int32) (x2 : Int32) (r : Int32 × xMem) (h : X5_refused I x1 x2 = some r) : Met l yX5_refused wsX5_refused rm_X5_refused (va_Pc [.ref (ad 0), .int x1, .int x2] (mW D cy ad I L)) (mPi D cy ad r.2 L r.1) 0 0 (gA 18 ad) := by
  refine g_met (own := RX5) (cc := cX5_refused) (maxL := 3) (ret := (some .int)) (by decide) rfl (Nat.le_of_ble_eq_true rfl) rfl ?_
  intro p e s m args below meth c ls hx hb hml hr hlocks hown hts hG hK hZ hl
  generalize hQ : MQ below _ args s 0 0 _ = Q
  have hl : lv_has ls 3 [(0, .ref (ad 0)), (1, .int x1), (2, .int x2)] := hl
  have hS : va_S (gA 18 ad) s.heap s.heap [] := va_S.rf
  have l5 : ∀ w ∈ wsX50, w.before args s = true := fun w h => hts w (List.mem_cons_of_mem _ (List.mem_append_right _ h))
  have k1 := hts (.fieldLink RX5 22 "PairStairsModel" "sizes" "[I") (by decide +kernel)
  unfold X5_refused at h
  refine lv_iload_n hx hb dX5_refused_0 rfl (lv_at hl 1 rfl) ?_
  refine g_endi (va_runS (As := [.int x1]) (rest := []) ⟨hx, hb, hml, hown, hts⟩ (k_X5_isRow l D cy ad hi I L x1 _ rfl) (va_cwS 1 hts gX5_refused_X5_isRow rfl rfl rfl cd_X5_isRow.2 ⟨Nat.le_of_ble_eq_true rfl, Nat.le_of_ble_eq_true rfl⟩) ⟨g_blind mZm, g_pre mZm hK hG hZ hS⟩ rfl rfl hl.1 rfl (lv_room (Nat.le_of_ble_eq_true rfl)) dX5_refused_1 ⟨Nat.le_refl _, Nat.le_refl _⟩) hS (fun H locs hG hS => ?_)
  refine lv_if_ne (tgt := 11) hx hb dX5_refused_4 (by decide) (fun c1 => ?_) (fun c1 => ?_)
  · have h := ite_f h c1
    refine lv_aload_n hx hb dX5_refused_11 rfl (lv_at hl 0 rfl) ?_
    refine g_get hx hb l5 hown hK hG (k := 0) (by decide) (mE_5 _ _) vwCl_5 7 (by decide) k1 (fun _ h9 => h9) rfl dX5_refused_12 ?_
    refine lv_iload_n hx hb dX5_refused_15 rfl (lv_at hl 1 rfl) ?_
    refine g_ald hx hb hK hG (k := 5) (n := 6) (show mIA 5 6 from by decide +kernel).1.1 (mIA_e (show mIA 5 6 from by decide +kernel) _ _) 0 rfl h dX5_refused_16 (fun v2 h => ?_)
    refine lv_if_ge (tgt := 28) hx hb dX5_refused_17 (by decide) (fun c3 => ?_) (fun c3 => ?_)
    · have h := ite_t h c3
      refine lv_iload_n hx hb dX5_refused_28 rfl (lv_at hl 2 rfl) ?_
      refine lv_i2l hx hb dX5_refused_29 rfl ?_
      refine lv_lconst (v := (0 : Int64)) hx hb dX5_refused_30 (by decide) ?_
      refine lv_aload_n hx hb dX5_refused_31 rfl (lv_at hl 0 rfl) ?_
      refine g_get hx hb l5 hown hK hG (k := 0) (by decide) (mE_5 _ _) vwCl_5 7 (by decide) k1 (fun _ h9 => h9) rfl dX5_refused_32 ?_
      refine lv_iload_n hx hb dX5_refused_35 rfl (lv_at hl 1 rfl) ?_
      refine g_ald hx hb hK hG (k := 5) (n := 6) (show mIA 5 6 from by decide +kernel).1.1 (mIA_e (show mIA 5 6 from by decide +kernel) _ _) 0 rfl h dX5_refused_36 (fun v4 h => ?_)
      refine lv_iconst (v := (1 : Int32)) hx hb dX5_refused_37 (by decide) ?_
      refine lv_isub hx hb dX5_refused_38 ?_
      refine lv_i2l hx hb dX5_refused_39 rfl ?_
      refine g_endi (va_runS (As := [.long x2.toInt64, .long (0 : Int64), .long ((v4 - (1 : Int32)).toInt64)]) (rest := []) ⟨hx, hb, hml, hown, hts⟩ (k_X5_in l D cy ad hi I L x2.toInt64 (0 : Int64) ((v4 - (1 : Int32)).toInt64) _ rfl) (va_cwS 3 hts gX5_refused_X5_in rfl rfl rfl cd_X5_in.2 ⟨Nat.le_of_ble_eq_true rfl, Nat.le_of_ble_eq_true rfl⟩) ⟨g_blind mZm, g_pre mZm hK hG hZ hS⟩ rfl rfl hl.1 rfl (lv_room (Nat.le_of_ble_eq_true rfl)) dX5_refused_40 ⟨Nat.le_refl _, Nat.le_refl _⟩) hS (fun H locs hG hS => ?_)
      refine lv_if_eq (tgt := 50) hx hb dX5_refused_43 (by decide) (fun c5 => ?_) (fun c5 => ?_)
      · have h := ite_t h c5
        refine lv_aload_n hx hb dX5_refused_50 rfl (lv_at hl 0 rfl) ?_
        refine lv_iconst (v := (2 : Int32)) hx hb dX5_refused_51 (by decide) ?_
        obtain ⟨q6, eq6, h⟩ := obind h
        refine g_endi (va_runV (As := [.int (2 : Int32)]) (rest := []) ⟨hx, hb, hml, hown, hts⟩ (k_X5_find l D cy ad hi I L (2 : Int32) q6 eq6) (cwV 1 hts gX5_refused_X5_find rfl rfl rfl cd_X5_find ⟨Nat.le_of_ble_eq_true rfl, Nat.le_of_ble_eq_true rfl⟩) ⟨g_blind mZm, g_recv hK hG (k := 0) (by decide) (mE_5 _ _) vwCl_5, g_pre mZm hK hG hZ hS⟩ rfl rfl hl.1 rfl (lv_room (Nat.le_of_ble_eq_true rfl)) dX5_refused_52 ⟨Nat.le_refl _, Nat.le_refl _⟩) hS (fun H locs hG hS => ?_)
        have h := Option.some.inj h
        subst h
        subst hQ
        exact g_iret hx hb hr hlocks mZm hK hZ hG hS rfl dX5_refused_55
      · have h := ite_f h c5
        refine lv_iconst (v := (0 : Int32)) hx hb dX5_refused_46 (by decide) ?_
        refine lv_goto (tgt := 55) hx hb dX5_refused_47 (by decide) ?_
        have h := Option.some.inj h
        subst h
        subst hQ
        exact g_iret hx hb hr hlocks mZm hK hZ hG hS rfl dX5_refused_55
    · have h := ite_f h c3
      refine lv_aload_n hx hb dX5_refused_20 rfl (lv_at hl 0 rfl) ?_
      refine lv_iconst (v := (1 : Int32)) hx hb dX5_refused_21 (by decide) ?_
      obtain ⟨q7, eq7, h⟩ := obind h
      refine g_endi (va_runV (As := [.int (1 : Int32)]) (rest := []) ⟨hx, hb, hml, hown, hts⟩ (k_X5_find l D cy ad hi I L (1 : Int32) q7 eq7) (cwV 1 hts gX5_refused_X5_find rfl rfl rfl cd_X5_find ⟨Nat.le_of_ble_eq_true rfl, Nat.le_of_ble_eq_true rfl⟩) ⟨g_blind mZm, g_recv hK hG (k := 0) (by decide) (mE_5 _ _) vwCl_5, g_pre mZm hK hG hZ hS⟩ rfl rfl hl.1 rfl (lv_room (Nat.le_of_ble_eq_true rfl)) dX5_refused_22 ⟨Nat.le_refl _, Nat.le_refl _⟩) hS (fun H locs hG hS => ?_)
      refine lv_goto (tgt := 55) hx hb dX5_refused_25 (by decide) ?_
      have h := Option.some.inj h
      subst h
      subst hQ
      exact g_iret hx hb hr hlocks mZm hK hZ hG hS rfl dX5_refused_55
  · have h := ite_t h c1
    refine lv_iconst (v := (-1 : Int32)) hx hb dX5_refused_7 (by decide) ?_
    refine lv_goto (tgt := 55) hx hb dX5_refused_8 (by decide) ?_
    have h := Option.some.inj h
    subst h
    subst hQ
    exact g_iret hx hb hr hlocks mZm hK hZ hG hS rfl dX5_refused_55
def X5_lay (I : xMem) (x1 : Int32) (x2 : Int32) (x3 : Int32) : Option (Int32 × xMem) := (X5_refused I x1 x2).bind fun q1 => if q1.1 = (0 : Int32) then ((rdI q1.2 6 240 (((40 : Int32) * x1) + x2)).bind fun v3 => (wrI q1.2 6 240 (((40 : Int32) * x1) + x2) x3).bind fun I4 => (X5_tell I4 v3).bind fun q5 => some (q5.1, q5.2)) else (some (q1.1, q1.2))
abbrev rm_X5_lay : Room := { frames := 3, cells := 0, slots := 0, locals := 67 }
theorem cd_X5_lay : yX5_lay.cls = RX5 ∧ yX5_lay.cls ≠ "java/lang/invoke/MethodHandle" ∧ yX5_lay.cls ≠ "java/lang/invoke/VarHandle" ∧ (parseMethodDescriptor yX5_lay.desc).map (fun d => d.parameters.length) = some 3 := by decide +kernel
set_option maxHeartbeats 4000000 in
set_option maxRecDepth 100000 in
theorem k_X5_lay (l : Launch) (D : va_G) (cy : Nat → ClassId) (ad : Nat → Nat) (hi : gInj 18 ad) (I : xMem) (L : xLon) (x1 : Int32) (x2 : Int32) (x3 : Int32) (r : Int32 × xMem) (h : X5_lay I x1 x2 x3 = some r) : Met l yX5_lay wsX5_lay rm_X5_lay (va_Pc [.ref (ad 0), .int x1, .int x2, .int x3] (mW D cy ad I L)) (mPi D cy ad r.2 L r.1) 0 0 (gA 18 ad) := by
  refine g_met (own := RX5) (cc := cX5_lay) (maxL := 6) (ret := (some .int)) (by decide) rfl (Nat.le_of_ble_eq_true rfl) rfl ?_
  intro p e s m args below meth c ls hx hb hml hr hlocks hown hts hG hK hZ hl
  generalize hQ : MQ below _ args s 0 0 _ = Q
  have hl : lv_has ls 6 [(0, .ref (ad 0)), (1, .int x1), (2, .int x2), (3, .int x3)] := hl
  have hS : va_S (gA 18 ad) s.heap s.heap [] := va_S.rf
  have l5 : ∀ w ∈ wsX50, w.before args s = true := fun w h => hts w (List.mem_cons_of_mem _ (List.mem_append_right _ h))
  have k1 := hts (.fieldLink RX5 25 "PairStairsModel" "items" "[I") (by decide +kernel)
  unfold X5_lay at h
  refine lv_aload_n hx hb dX5_lay_0 rfl (lv_at hl 0 rfl) ?_
  refine lv_iload_n hx hb dX5_lay_1 rfl (lv_at hl 1 rfl) ?_
  refine lv_iload_n hx hb dX5_lay_2 rfl (lv_at hl 2 rfl) ?_
  obtain ⟨q1, eq1, h⟩ := obind h
  refine g_endi (va_runV (As := [.int x1, .int x2]) (rest := []) ⟨hx, hb, hml, hown, hts⟩ (k_X5_refused l D cy ad hi I L x1 x2 q1 eq1) (cwV 2 hts gX5_lay_X5_refused rfl rfl rfl cd_X5_refused ⟨Nat.le_of_ble_eq_true rfl, Nat.le_of_ble_eq_true rfl⟩) ⟨g_blind mZm, g_recv hK hG (k := 0) (by decide) (mE_5 _ _) vwCl_5, g_pre mZm hK hG hZ hS⟩ rfl rfl hl.1 rfl (lv_room (Nat.le_of_ble_eq_true rfl)) dX5_lay_3 ⟨Nat.le_refl _, Nat.le_refl _⟩) hS (fun H locs hG hS => ?_)
  refine lv_istore (lv' := [(4, .int q1.1), (0, .ref (ad 0)), (1, .int x1), (2, .int x2), (3, .int x3)]) hx hb dX5_lay_6 hl (by decide) rfl (fun ls hl => ?_)
  refine lv_iload hx hb dX5_lay_8 (lv_at hl 0 rfl) ?_
  refine lv_if_eq (tgt := 16) hx hb dX5_lay_10 (by decide) (fun c2 => ?_) (fun c2 => ?_)
  · have h := ite_t h c2
    refine lv_aload_n hx hb dX5_lay_16 rfl (lv_at hl 1 rfl) ?_
    refine g_get hx hb l5 hown hK hG (k := 0) (by decide) (mE_5 _ _) vwCl_5 8 (by decide) k1 (fun _ h9 => h9) rfl dX5_lay_17 ?_
    refine lv_bipush (v := (40 : Int32)) hx hb dX5_lay_20 (by decide) ?_
    refine lv_iload_n hx hb dX5_lay_22 rfl (lv_at hl 2 rfl) ?_
    refine lv_imul hx hb dX5_lay_23 ?_
    refine lv_iload_n hx hb dX5_lay_24 rfl (lv_at hl 3 rfl) ?_
    refine lv_iadd hx hb dX5_lay_25 ?_
    refine g_ald hx hb hK hG (k := 6) (n := 240) (show mIA 6 240 from by decide +kernel).1.1 (mIA_e (show mIA 6 240 from by decide +kernel) _ _) 0 rfl h dX5_lay_26 (fun v3 h => ?_)
    refine lv_istore (lv' := [(5, .int v3), (4, .int q1.1), (0, .ref (ad 0)), (1, .int x1), (2, .int x2), (3, .int x3)]) hx hb dX5_lay_27 hl (by decide) rfl (fun ls hl => ?_)
    refine lv_aload_n hx hb dX5_lay_29 rfl (lv_at hl 2 rfl) ?_
    refine g_get hx hb l5 hown hK hG (k := 0) (by decide) (mE_5 _ _) vwCl_5 8 (by decide) k1 (fun _ h9 => h9) rfl dX5_lay_30 ?_
    refine lv_bipush (v := (40 : Int32)) hx hb dX5_lay_33 (by decide) ?_
    refine lv_iload_n hx hb dX5_lay_35 rfl (lv_at hl 3 rfl) ?_
    refine lv_imul hx hb dX5_lay_36 ?_
    refine lv_iload_n hx hb dX5_lay_37 rfl (lv_at hl 4 rfl) ?_
    refine lv_iadd hx hb dX5_lay_38 ?_
    refine lv_iload_n hx hb dX5_lay_39 rfl (lv_at hl 5 rfl) ?_
    refine g_ast hx hb hK hG hi hS (k := 6) (n := 240) (show mIA 6 240 from by decide +kernel).1.1 (fun f => mIA_e (show mIA 6 240 from by decide +kernel) f _) 0 rfl h dX5_lay_40 (fun I4 H locs h hG hS => ?_)
    refine lv_aload_n hx hb dX5_lay_41 rfl (lv_at hl 2 rfl) ?_
    refine lv_iload hx hb dX5_lay_42 (lv_at hl 0 rfl) ?_
    obtain ⟨q5, eq5, h⟩ := obind h
    refine g_endi (va_runV (As := [.int v3]) (rest := []) ⟨hx, hb, hml, hown, hts⟩ (k_X5_tell l D cy ad hi I4 L v3 q5 eq5) (cwV 1 hts gX5_lay_X5_tell rfl rfl rfl cd_X5_tell ⟨Nat.le_of_ble_eq_true rfl, Nat.le_of_ble_eq_true rfl⟩) ⟨g_blind mZm, g_recv hK hG (k := 0) (by decide) (mE_5 _ _) vwCl_5, g_pre mZm hK hG hZ hS⟩ rfl rfl hl.1 rfl (lv_room (Nat.le_of_ble_eq_true rfl)) dX5_lay_44 ⟨Nat.le_refl _, Nat.le_refl _⟩) hS (fun H locs hG hS => ?_)
    have h := Option.some.inj h
    subst h
    subst hQ
    exact g_iret hx hb hr hlocks mZm hK hZ hG hS rfl dX5_lay_47
  · have h := ite_f h c2
    refine lv_iload hx hb dX5_lay_13 (lv_at hl 0 rfl) ?_
    have h := Option.some.inj h
    subst h
    subst hQ
    exact g_iret hx hb hr hlocks mZm hK hZ hG hS rfl dX5_lay_15
def X5_at (I : xMem) (x1 : Int32) (x2 : Int32) : Option (Int32 × xMem) := (X5_refused I x1 x2).bind fun q1 => if q1.1 = (0 : Int32) then ((rdI q1.2 6 240 (((40 : Int32) * x1) + x2)).bind fun v3 => (X5_tell q1.2 v3).bind fun q4 => some (q4.1, q4.2)) else (some (q1.1, q1.2))
abbrev rm_X5_at : Room := { frames := 3, cells := 0, slots := 0, locals := 67 }
theorem cd_X5_at : yX5_at.cls = RX5 ∧ yX5_at.cls ≠ "java/lang/invoke/MethodHandle" ∧ yX5_at.cls ≠ "java/lang/invoke/VarHandle" ∧ (parseMethodDescriptor yX5_at.desc).map (fun d => d.parameters.length) = some 2 := by decide +kernel
set_option maxHeartbeats 4000000 in
set_option maxRecDepth 100000 in
theorem k_X5_at (l : Launch) (D : va_G) (cy : Nat → ClassId) (ad : Nat → Nat) (hi : gInj 18 ad) (I : xMem) (L : xLon) (x1 : Int32) (x2 : Int32) (r : Int32 × xMem) (h : X5_at I x1 x2 = some r) : Met l yX5_at wsX5_at rm_X5_at (va_Pc [.ref (ad 0), .int x1, .int x2] (mW D cy ad I L)) (mPi D cy ad r.2 L r.1) 0 0 (gA 18 ad) := by
  refine g_met (own := RX5) (cc := cX5_at) (maxL := 4) (ret := (some .int)) (by decide) rfl (Nat.le_of_ble_eq_true rfl) rfl ?_
  intro p e s m args below meth c ls hx hb hml hr hlocks hown hts hG hK hZ hl
  generalize hQ : MQ below _ args s 0 0 _ = Q
  have hl : lv_has ls 4 [(0, .ref (ad 0)), (1, .int x1), (2, .int x2)] := hl
  have hS : va_S (gA 18 ad) s.heap s.heap [] := va_S.rf
  have l5 : ∀ w ∈ wsX50, w.before args s = true := fun w h => hts w (List.mem_cons_of_mem _ (List.mem_append_right _ h))
  have k1 := hts (.fieldLink RX5 25 "PairStairsModel" "items" "[I") (by decide +kernel)
  unfold X5_at at h
  refine lv_aload_n hx hb dX5_at_0 rfl (lv_at hl 0 rfl) ?_
  refine lv_iload_n hx hb dX5_at_1 rfl (lv_at hl 1 rfl) ?_
  refine lv_iload_n hx hb dX5_at_2 rfl (lv_at hl 2 rfl) ?_
  obtain ⟨q1, eq1, h⟩ := obind h
  refine g_endi (va_runV (As := [.int x1, .int x2]) (rest := []) ⟨hx, hb, hml, hown, hts⟩ (k_X5_refused l D cy ad hi I L x1 x2 q1 eq1) (cwV 2 hts gX5_at_X5_refused rfl rfl rfl cd_X5_refused ⟨Nat.le_of_ble_eq_true rfl, Nat.le_of_ble_eq_true rfl⟩) ⟨g_blind mZm, g_recv hK hG (k := 0) (by decide) (mE_5 _ _) vwCl_5, g_pre mZm hK hG hZ hS⟩ rfl rfl hl.1 rfl (lv_room (Nat.le_of_ble_eq_true rfl)) dX5_at_3 ⟨Nat.le_refl _, Nat.le_refl _⟩) hS (fun H locs hG hS => ?_)
  refine lv_istore_n (lv' := [(3, .int q1.1), (0, .ref (ad 0)), (1, .int x1), (2, .int x2)]) hx hb dX5_at_6 rfl hl (by decide) rfl (fun ls hl => ?_)
  refine lv_iload_n hx hb dX5_at_7 rfl (lv_at hl 0 rfl) ?_
  refine lv_if_eq (tgt := 15) hx hb dX5_at_8 (by decide) (fun c2 => ?_) (fun c2 => ?_)
  · have h := ite_t h c2
    refine lv_aload_n hx hb dX5_at_15 rfl (lv_at hl 1 rfl) ?_
    refine lv_aload_n hx hb dX5_at_16 rfl (lv_at hl 1 rfl) ?_
    refine g_get hx hb l5 hown hK hG (k := 0) (by decide) (mE_5 _ _) vwCl_5 8 (by decide) k1 (fun _ h9 => h9) rfl dX5_at_17 ?_
    refine lv_bipush (v := (40 : Int32)) hx hb dX5_at_20 (by decide) ?_
    refine lv_iload_n hx hb dX5_at_22 rfl (lv_at hl 2 rfl) ?_
    refine lv_imul hx hb dX5_at_23 ?_
    refine lv_iload_n hx hb dX5_at_24 rfl (lv_at hl 3 rfl) ?_
    refine lv_iadd hx hb dX5_at_25 ?_
    refine g_ald hx hb hK hG (k := 6) (n := 240) (show mIA 6 240 from by decide +kernel).1.1 (mIA_e (show mIA 6 240 from by decide +kernel) _ _) 0 rfl h dX5_at_26 (fun v3 h => ?_)
    obtain ⟨q4, eq4, h⟩ := obind h
    refine g_endi (va_runV (As := [.int v3]) (rest := []) ⟨hx, hb, hml, hown, hts⟩ (k_X5_tell l D cy ad hi q1.2 L v3 q4 eq4) (cwV 1 hts gX5_at_X5_tell rfl rfl rfl cd_X5_tell ⟨Nat.le_of_ble_eq_true rfl, Nat.le_of_ble_eq_true rfl⟩) ⟨g_blind mZm, g_recv hK hG (k := 0) (by decide) (mE_5 _ _) vwCl_5, g_pre mZm hK hG hZ hS⟩ rfl rfl hl.1 rfl (lv_room (Nat.le_of_ble_eq_true rfl)) dX5_at_27 ⟨Nat.le_refl _, Nat.le_refl _⟩) hS (fun H locs hG hS => ?_)
    have h := Option.some.inj h
    subst h
    subst hQ
    exact g_iret hx hb hr hlocks mZm hK hZ hG hS rfl dX5_at_30
  · have h := ite_f h c2
    refine lv_iload_n hx hb dX5_at_11 rfl (lv_at hl 0 rfl) ?_
    refine lv_goto (tgt := 30) hx hb dX5_at_12 (by decide) ?_
    have h := Option.some.inj h
    subst h
    subst hQ
    exact g_iret hx hb hr hlocks mZm hK hZ hG hS rfl dX5_at_30
def X5_tear (I : xMem) (x1 : Int32) : Option (Int32 × xMem) := if (X5_isRow x1) = (0 : Int32) then (some ((-1 : Int32), I)) else ((rdI I 5 6 x1).bind fun v2 => if (0 : Int32) ≤ v2 then ((wrI I 5 6 x1 (-1 : Int32)).bind fun I4 => some ((1 : Int32), I4)) else ((X5_find I (1 : Int32)).bind fun q5 => some (q5.1, q5.2)))
abbrev rm_X5_tear : Room := { frames := 2, cells := 0, slots := 0, locals := 45 }
theorem cd_X5_tear : yX5_tear.cls = RX5 ∧ yX5_tear.cls ≠ "java/lang/invoke/MethodHandle" ∧ yX5_tear.cls ≠ "java/lang/invoke/VarHandle" ∧ (parseMethodDescriptor yX5_tear.desc).map (fun d => d.parameters.length) = some 1 := by decide +kernel
set_option maxHeartbeats 4000000 in
set_option maxRecDepth 100000 in
theorem k_X5_tear (l : Launch) (D : va_G) (cy : Nat → ClassId) (ad : Nat → Nat) (hi : gInj 18 ad) (I : xMem) (L : xLon) (x1 : Int32) (r : Int32 × xMem) (h : X5_tear I x1 = some r) : Met l yX5_tear wsX5_tear rm_X5_tear (va_Pc [.ref (ad 0), .int x1] (mW D cy ad I L)) (mPi D cy ad r.2 L r.1) 0 0 (gA 18 ad) := by
  refine g_met (own := RX5) (cc := cX5_tear) (maxL := 2) (ret := (some .int)) (by decide) rfl (Nat.le_of_ble_eq_true rfl) rfl ?_
  intro p e s m args below meth c ls hx hb hml hr hlocks hown hts hG hK hZ hl
  generalize hQ : MQ below _ args s 0 0 _ = Q
  have hl : lv_has ls 2 [(0, .ref (ad 0)), (1, .int x1)] := hl
  have hS : va_S (gA 18 ad) s.heap s.heap [] := va_S.rf
  have l5 : ∀ w ∈ wsX50, w.before args s = true := fun w h => hts w (List.mem_cons_of_mem _ (List.mem_append_right _ h))
  have k1 := hts (.fieldLink RX5 22 "PairStairsModel" "sizes" "[I") (by decide +kernel)
  unfold X5_tear at h
  refine lv_iload_n hx hb dX5_tear_0 rfl (lv_at hl 1 rfl) ?_
  refine g_endi (va_runS (As := [.int x1]) (rest := []) ⟨hx, hb, hml, hown, hts⟩ (k_X5_isRow l D cy ad hi I L x1 _ rfl) (va_cwS 1 hts gX5_tear_X5_isRow rfl rfl rfl cd_X5_isRow.2 ⟨Nat.le_of_ble_eq_true rfl, Nat.le_of_ble_eq_true rfl⟩) ⟨g_blind mZm, g_pre mZm hK hG hZ hS⟩ rfl rfl hl.1 rfl (lv_room (Nat.le_of_ble_eq_true rfl)) dX5_tear_1 ⟨Nat.le_refl _, Nat.le_refl _⟩) hS (fun H locs hG hS => ?_)
  refine lv_if_ne (tgt := 9) hx hb dX5_tear_4 (by decide) (fun c1 => ?_) (fun c1 => ?_)
  · have h := ite_f h c1
    refine lv_aload_n hx hb dX5_tear_9 rfl (lv_at hl 0 rfl) ?_
    refine g_get hx hb l5 hown hK hG (k := 0) (by decide) (mE_5 _ _) vwCl_5 7 (by decide) k1 (fun _ h9 => h9) rfl dX5_tear_10 ?_
    refine lv_iload_n hx hb dX5_tear_13 rfl (lv_at hl 1 rfl) ?_
    refine g_ald hx hb hK hG (k := 5) (n := 6) (show mIA 5 6 from by decide +kernel).1.1 (mIA_e (show mIA 5 6 from by decide +kernel) _ _) 0 rfl h dX5_tear_14 (fun v2 h => ?_)
    refine lv_if_ge (tgt := 24) hx hb dX5_tear_15 (by decide) (fun c3 => ?_) (fun c3 => ?_)
    · have h := ite_t h c3
      refine lv_aload_n hx hb dX5_tear_24 rfl (lv_at hl 0 rfl) ?_
      refine g_get hx hb l5 hown hK hG (k := 0) (by decide) (mE_5 _ _) vwCl_5 7 (by decide) k1 (fun _ h9 => h9) rfl dX5_tear_25 ?_
      refine lv_iload_n hx hb dX5_tear_28 rfl (lv_at hl 1 rfl) ?_
      refine lv_iconst (v := (-1 : Int32)) hx hb dX5_tear_29 (by decide) ?_
      refine g_ast hx hb hK hG hi hS (k := 5) (n := 6) (show mIA 5 6 from by decide +kernel).1.1 (fun f => mIA_e (show mIA 5 6 from by decide +kernel) f _) 0 rfl h dX5_tear_30 (fun I4 H locs h hG hS => ?_)
      refine lv_iconst (v := (1 : Int32)) hx hb dX5_tear_31 (by decide) ?_
      have h := Option.some.inj h
      subst h
      subst hQ
      exact g_iret hx hb hr hlocks mZm hK hZ hG hS rfl dX5_tear_32
    · have h := ite_f h c3
      refine lv_aload_n hx hb dX5_tear_18 rfl (lv_at hl 0 rfl) ?_
      refine lv_iconst (v := (1 : Int32)) hx hb dX5_tear_19 (by decide) ?_
      obtain ⟨q5, eq5, h⟩ := obind h
      refine g_endi (va_runV (As := [.int (1 : Int32)]) (rest := []) ⟨hx, hb, hml, hown, hts⟩ (k_X5_find l D cy ad hi I L (1 : Int32) q5 eq5) (cwV 1 hts gX5_tear_X5_find rfl rfl rfl cd_X5_find ⟨Nat.le_of_ble_eq_true rfl, Nat.le_of_ble_eq_true rfl⟩) ⟨g_blind mZm, g_recv hK hG (k := 0) (by decide) (mE_5 _ _) vwCl_5, g_pre mZm hK hG hZ hS⟩ rfl rfl hl.1 rfl (lv_room (Nat.le_of_ble_eq_true rfl)) dX5_tear_20 ⟨Nat.le_refl _, Nat.le_refl _⟩) hS (fun H locs hG hS => ?_)
      have h := Option.some.inj h
      subst h
      subst hQ
      exact g_iret hx hb hr hlocks mZm hK hZ hG hS rfl dX5_tear_23
  · have h := ite_t h c1
    refine lv_iconst (v := (-1 : Int32)) hx hb dX5_tear_7 (by decide) ?_
    have h := Option.some.inj h
    subst h
    subst hQ
    exact g_iret hx hb hr hlocks mZm hK hZ hG hS rfl dX5_tear_8
def X5_isSpan (I : xMem) (x1 : Int32) (x2 : Int32) (x3 : Int32) : Option (Int32) := if x2 < (0 : Int32) then (some (nz (0 : Int32))) else ((rdI I 5 6 x1).bind fun v2 => if (0 : Int32) < (lg_cmp (x2.toInt64 + x3.toInt64) v2.toInt64) then (some (nz (0 : Int32))) else (some (nz (1 : Int32))))
abbrev rm_X5_isSpan : Room := { frames := 0, cells := 0, slots := 0, locals := 0 }
theorem cd_X5_isSpan : yX5_isSpan.cls = RX5 ∧ yX5_isSpan.cls ≠ "java/lang/invoke/MethodHandle" ∧ yX5_isSpan.cls ≠ "java/lang/invoke/VarHandle" ∧ (parseMethodDescriptor yX5_isSpan.desc).map (fun d => d.parameters.length) = some 3 := by decide +kernel
set_option maxHeartbeats 4000000 in
set_option maxRecDepth 100000 in
theorem k_X5_isSpan (l : Launch) (D : va_G) (cy : Nat → ClassId) (ad : Nat → Nat) (hi : gInj 18 ad) (I : xMem) (L : xLon) (x1 : Int32) (x2 : Int32) (x3 : Int32) (r : Int32) (h : X5_isSpan I x1 x2 x3 = some r) : Met l yX5_isSpan wsX5_isSpan rm_X5_isSpan (va_Pc [.ref (ad 0), .int x1, .int x2, .int x3] (mW D cy ad I L)) (mPi D cy ad I L r) 0 0 (gA 18 ad) := by
  refine g_met (own := RX5) (cc := cX5_isSpan) (maxL := 4) (ret := (some .boolean)) (by decide) rfl (Nat.le_of_ble_eq_true rfl) rfl ?_
  intro p e s m args below meth c ls hx hb hml hr hlocks hown hts hG hK hZ hl
  generalize hQ : MQ below _ args s 0 0 _ = Q
  have hl : lv_has ls 4 [(0, .ref (ad 0)), (1, .int x1), (2, .int x2), (3, .int x3)] := hl
  have hS : va_S (gA 18 ad) s.heap s.heap [] := va_S.rf
  have l5 : ∀ w ∈ wsX50, w.before args s = true := fun w h => hts w (List.mem_cons_of_mem _ (List.mem_append_right _ h))
  have k1 := hts (.fieldLink RX5 22 "PairStairsModel" "sizes" "[I") (by decide +kernel)
  unfold X5_isSpan at h
  refine lv_iload_n hx hb dX5_isSpan_0 rfl (lv_at hl 2 rfl) ?_
  refine lv_if_lt (tgt := 24) hx hb dX5_isSpan_1 (by decide) (fun c1 => ?_) (fun c1 => ?_)
  · have h := ite_t h c1
    refine lv_iconst (v := (0 : Int32)) hx hb dX5_isSpan_24 (by decide) ?_
    have h := Option.some.inj h
    subst h
    subst hQ
    exact g_zret hx hb hr hlocks mZm hK hZ hG hS rfl dX5_isSpan_25
  · have h := ite_f h c1
    refine lv_iload_n hx hb dX5_isSpan_4 rfl (lv_at hl 2 rfl) ?_
    refine lv_i2l hx hb dX5_isSpan_5 rfl ?_
    refine lv_iload_n hx hb dX5_isSpan_6 rfl (lv_at hl 3 rfl) ?_
    refine lv_i2l hx hb dX5_isSpan_7 rfl ?_
    refine lv_ladd hx hb dX5_isSpan_8 ?_
    refine lv_aload_n hx hb dX5_isSpan_9 rfl (lv_at hl 0 rfl) ?_
    refine g_get hx hb l5 hown hK hG (k := 0) (by decide) (mE_5 _ _) vwCl_5 7 (by decide) k1 (fun _ h9 => h9) rfl dX5_isSpan_10 ?_
    refine lv_iload_n hx hb dX5_isSpan_13 rfl (lv_at hl 1 rfl) ?_
    refine g_ald hx hb hK hG (k := 5) (n := 6) (show mIA 5 6 from by decide +kernel).1.1 (mIA_e (show mIA 5 6 from by decide +kernel) _ _) 0 rfl h dX5_isSpan_14 (fun v2 h => ?_)
    refine lv_i2l hx hb dX5_isSpan_15 rfl ?_
    refine W.lcmp hx hb dX5_isSpan_16 ?_
    refine lv_if_gt (tgt := 24) hx hb dX5_isSpan_17 (by decide) (fun c3 => ?_) (fun c3 => ?_)
    · have h := ite_t h c3
      refine lv_iconst (v := (0 : Int32)) hx hb dX5_isSpan_24 (by decide) ?_
      have h := Option.some.inj h
      subst h
      subst hQ
      exact g_zret hx hb hr hlocks mZm hK hZ hG hS rfl dX5_isSpan_25
    · have h := ite_f h c3
      refine lv_iconst (v := (1 : Int32)) hx hb dX5_isSpan_20 (by decide) ?_
      refine lv_goto (tgt := 25) hx hb dX5_isSpan_21 (by decide) ?_
      have h := Option.some.inj h
      subst h
      subst hQ
      exact g_zret hx hb hr hlocks mZm hK hZ hG hS rfl dX5_isSpan_25
def X5_copy_L1 (x1 : Int32) (x2 : Int32) (x3 : Int32) (x4 : Int32) (x5 : Int32) (q14 : Int32) (K16 : xMem → Option (Int32 × xMem)) : Nat → Int32 → xMem → Option (Int32 × xMem)
  | 0, _, _ => none
  | n17 + 1, x7_17, I18 => if x5 ≤ x7_17 then (K16 I18) else ((if q14 = (0 : Int32) then (some x7_17) else (some ((x5 - (1 : Int32)) - x7_17))).bind fun q21 => (rdI I18 6 240 ((((40 : Int32) * x1) + x2) + q21)).bind fun v23 => (wrI I18 6 240 ((((40 : Int32) * x3) + x4) + q21) v23).bind fun I24 => X5_copy_L1 x1 x2 x3 x4 x5 q14 K16 n17 (x7_17 + (1 : Int32)) I24)
def X5_copy (I : xMem) (x1 : Int32) (x2 : Int32) (x3 : Int32) (x4 : Int32) (x5 : Int32) : Option (Int32 × xMem) := if (X5_isRow x1) = (0 : Int32) then (some ((-1 : Int32), I)) else (if (X5_isRow x3) = (0 : Int32) then (some ((-1 : Int32), I)) else (if (0 : Int32) ≤ x5 then ((rdI I 5 6 x1).bind fun v4 => if v4 < (0 : Int32) then ((X5_find I (1 : Int32)).bind fun q6 => some (q6.1, q6.2)) else ((rdI I 5 6 x3).bind fun v7 => if (0 : Int32) ≤ v7 then ((X5_isSpan I x1 x2 x5).bind fun v9 => if v9 = (0 : Int32) then ((X5_find I (2 : Int32)).bind fun q11 => some (q11.1, q11.2)) else ((X5_isSpan I x3 x4 x5).bind fun v12 => if v12 = (0 : Int32) then ((X5_find I (2 : Int32)).bind fun q25 => some (q25.1, q25.2)) else ((if x4 ≤ x2 then (some (0 : Int32)) else (some (1 : Int32))).bind fun q14 => X5_copy_L1 x1 x2 x3 x4 x5 q14 (fun (I19 : xMem) => some ((1 : Int32), I19)) bigF (0 : Int32) I))) else ((X5_find I (1 : Int32)).bind fun q26 => some (q26.1, q26.2)))) else ((X5_find I (5 : Int32)).bind fun q27 => some (q27.1, q27.2))))
abbrev rm_X5_copy : Room := { frames := 2, cells := 0, slots := 0, locals := 45 }
theorem cd_X5_copy : yX5_copy.cls = RX5 ∧ yX5_copy.cls ≠ "java/lang/invoke/MethodHandle" ∧ yX5_copy.cls ≠ "java/lang/invoke/VarHandle" ∧ (parseMethodDescriptor yX5_copy.desc).map (fun d => d.parameters.length) = some 5 := by decide +kernel
set_option maxHeartbeats 4000000 in
set_option maxRecDepth 100000 in
theorem k_X5_copy (l : Launch) (D : va_G) (cy : Nat → ClassId) (ad : Nat → Nat) (hi : gInj 18 ad) (I : xMem) (L : xLon) (x1 : Int32) (x2 : Int32) (x3 : Int32) (x4 : Int32) (x5 : Int32) (r : Int32 × xMem) (h : X5_copy I x1 x2 x3 x4 x5 = some r) : Met l yX5_copy wsX5_copy rm_X5_copy (va_Pc [.ref (ad 0), .int x1, .int x2, .int x3, .int x4, .int x5] (mW D cy ad I L)) (mPi D cy ad r.2 L r.1) 0 0 (gA 18 ad) := by
  refine g_met (own := RX5) (cc := cX5_copy) (maxL := 9) (ret := (some .int)) (by decide) rfl (Nat.le_of_ble_eq_true rfl) rfl ?_
  intro p e s m args below meth c ls hx hb hml hr hlocks hown hts hG hK hZ hl
  generalize hQ : MQ below _ args s 0 0 _ = Q
  have hl : lv_has ls 9 [(0, .ref (ad 0)), (1, .int x1), (2, .int x2), (3, .int x3), (4, .int x4), (5, .int x5)] := hl
  have hS : va_S (gA 18 ad) s.heap s.heap [] := va_S.rf
  have l5 : ∀ w ∈ wsX50, w.before args s = true := fun w h => hts w (List.mem_cons_of_mem _ (List.mem_append_right _ h))
  have k1 := hts (.fieldLink RX5 22 "PairStairsModel" "sizes" "[I") (by decide +kernel)
  have k2 := hts (.fieldLink RX5 25 "PairStairsModel" "items" "[I") (by decide +kernel)
  unfold X5_copy at h
  refine lv_iload_n hx hb dX5_copy_0 rfl (lv_at hl 1 rfl) ?_
  refine g_endi (va_runS (As := [.int x1]) (rest := []) ⟨hx, hb, hml, hown, hts⟩ (k_X5_isRow l D cy ad hi I L x1 _ rfl) (va_cwS 1 hts gX5_copy_X5_isRow rfl rfl rfl cd_X5_isRow.2 ⟨Nat.le_of_ble_eq_true rfl, Nat.le_of_ble_eq_true rfl⟩) ⟨g_blind mZm, g_pre mZm hK hG hZ hS⟩ rfl rfl hl.1 rfl (lv_room (Nat.le_of_ble_eq_true rfl)) dX5_copy_1 ⟨Nat.le_refl _, Nat.le_refl _⟩) hS (fun H locs hG hS => ?_)
  refine lv_if_eq (tgt := 14) hx hb dX5_copy_4 (by decide) (fun c1 => ?_) (fun c1 => ?_)
  · have h := ite_t h c1
    refine lv_iconst (v := (-1 : Int32)) hx hb dX5_copy_14 (by decide) ?_
    have h := Option.some.inj h
    subst h
    subst hQ
    exact g_iret hx hb hr hlocks mZm hK hZ hG hS rfl dX5_copy_15
  · have h := ite_f h c1
    refine lv_iload_n hx hb dX5_copy_7 rfl (lv_at hl 3 rfl) ?_
    refine g_endi (va_runS (As := [.int x3]) (rest := []) ⟨hx, hb, hml, hown, hts⟩ (k_X5_isRow l D cy ad hi I L x3 _ rfl) (va_cwS 1 hts gX5_copy_X5_isRow rfl rfl rfl cd_X5_isRow.2 ⟨Nat.le_of_ble_eq_true rfl, Nat.le_of_ble_eq_true rfl⟩) ⟨g_blind mZm, g_pre mZm hK hG hZ hS⟩ rfl rfl hl.1 rfl (lv_room (Nat.le_of_ble_eq_true rfl)) dX5_copy_8 ⟨Nat.le_refl _, Nat.le_refl _⟩) hS (fun H locs hG hS => ?_)
    refine lv_if_ne (tgt := 16) hx hb dX5_copy_11 (by decide) (fun c2 => ?_) (fun c2 => ?_)
    · have h := ite_f h c2
      refine lv_iload hx hb dX5_copy_16 (lv_at hl 5 rfl) ?_
      refine lv_if_ge (tgt := 27) hx hb dX5_copy_18 (by decide) (fun c3 => ?_) (fun c3 => ?_)
      · have h := ite_t h c3
        refine lv_aload_n hx hb dX5_copy_27 rfl (lv_at hl 0 rfl) ?_
        refine g_get hx hb l5 hown hK hG (k := 0) (by decide) (mE_5 _ _) vwCl_5 7 (by decide) k1 (fun _ h9 => h9) rfl dX5_copy_28 ?_
        refine lv_iload_n hx hb dX5_copy_31 rfl (lv_at hl 1 rfl) ?_
        refine g_ald hx hb hK hG (k := 5) (n := 6) (show mIA 5 6 from by decide +kernel).1.1 (mIA_e (show mIA 5 6 from by decide +kernel) _ _) 0 rfl h dX5_copy_32 (fun v4 h => ?_)
        refine lv_if_lt (tgt := 45) hx hb dX5_copy_33 (by decide) (fun c5 => ?_) (fun c5 => ?_)
        · have h := ite_t h c5
          refine lv_aload_n hx hb dX5_copy_45 rfl (lv_at hl 0 rfl) ?_
          refine lv_iconst (v := (1 : Int32)) hx hb dX5_copy_46 (by decide) ?_
          obtain ⟨q6, eq6, h⟩ := obind h
          refine g_endi (va_runV (As := [.int (1 : Int32)]) (rest := []) ⟨hx, hb, hml, hown, hts⟩ (k_X5_find l D cy ad hi I L (1 : Int32) q6 eq6) (cwV 1 hts gX5_copy_X5_find rfl rfl rfl cd_X5_find ⟨Nat.le_of_ble_eq_true rfl, Nat.le_of_ble_eq_true rfl⟩) ⟨g_blind mZm, g_recv hK hG (k := 0) (by decide) (mE_5 _ _) vwCl_5, g_pre mZm hK hG hZ hS⟩ rfl rfl hl.1 rfl (lv_room (Nat.le_of_ble_eq_true rfl)) dX5_copy_47 ⟨Nat.le_refl _, Nat.le_refl _⟩) hS (fun H locs hG hS => ?_)
          have h := Option.some.inj h
          subst h
          subst hQ
          exact g_iret hx hb hr hlocks mZm hK hZ hG hS rfl dX5_copy_50
        · have h := ite_f h c5
          refine lv_aload_n hx hb dX5_copy_36 rfl (lv_at hl 0 rfl) ?_
          refine g_get hx hb l5 hown hK hG (k := 0) (by decide) (mE_5 _ _) vwCl_5 7 (by decide) k1 (fun _ h9 => h9) rfl dX5_copy_37 ?_
          refine lv_iload_n hx hb dX5_copy_40 rfl (lv_at hl 3 rfl) ?_
          refine g_ald hx hb hK hG (k := 5) (n := 6) (show mIA 5 6 from by decide +kernel).1.1 (mIA_e (show mIA 5 6 from by decide +kernel) _ _) 0 rfl h dX5_copy_41 (fun v7 h => ?_)
          refine lv_if_ge (tgt := 51) hx hb dX5_copy_42 (by decide) (fun c8 => ?_) (fun c8 => ?_)
          · have h := ite_t h c8
            refine lv_aload_n hx hb dX5_copy_51 rfl (lv_at hl 0 rfl) ?_
            refine lv_iload_n hx hb dX5_copy_52 rfl (lv_at hl 1 rfl) ?_
            refine lv_iload_n hx hb dX5_copy_53 rfl (lv_at hl 2 rfl) ?_
            refine lv_iload hx hb dX5_copy_54 (lv_at hl 5 rfl) ?_
            obtain ⟨v9, ev9, h⟩ := obind h
            refine g_endi (va_runV (As := [.int x1, .int x2, .int x5]) (rest := []) ⟨hx, hb, hml, hown, hts⟩ (k_X5_isSpan l D cy ad hi I L x1 x2 x5 v9 ev9) (cwV 3 hts gX5_copy_X5_isSpan rfl rfl rfl cd_X5_isSpan ⟨Nat.le_of_ble_eq_true rfl, Nat.le_of_ble_eq_true rfl⟩) ⟨g_blind mZm, g_recv hK hG (k := 0) (by decide) (mE_5 _ _) vwCl_5, g_pre mZm hK hG hZ hS⟩ rfl rfl hl.1 rfl (lv_room (Nat.le_of_ble_eq_true rfl)) dX5_copy_56 ⟨Nat.le_refl _, Nat.le_refl _⟩) hS (fun H locs hG hS => ?_)
            refine lv_if_eq (tgt := 74) hx hb dX5_copy_59 (by decide) (fun c10 => ?_) (fun c10 => ?_)
            · have h := ite_t h c10
              refine lv_aload_n hx hb dX5_copy_74 rfl (lv_at hl 0 rfl) ?_
              refine lv_iconst (v := (2 : Int32)) hx hb dX5_copy_75 (by decide) ?_
              obtain ⟨q11, eq11, h⟩ := obind h
              refine g_endi (va_runV (As := [.int (2 : Int32)]) (rest := []) ⟨hx, hb, hml, hown, hts⟩ (k_X5_find l D cy ad hi I L (2 : Int32) q11 eq11) (cwV 1 hts gX5_copy_X5_find rfl rfl rfl cd_X5_find ⟨Nat.le_of_ble_eq_true rfl, Nat.le_of_ble_eq_true rfl⟩) ⟨g_blind mZm, g_recv hK hG (k := 0) (by decide) (mE_5 _ _) vwCl_5, g_pre mZm hK hG hZ hS⟩ rfl rfl hl.1 rfl (lv_room (Nat.le_of_ble_eq_true rfl)) dX5_copy_76 ⟨Nat.le_refl _, Nat.le_refl _⟩) hS (fun H locs hG hS => ?_)
              have h := Option.some.inj h
              subst h
              subst hQ
              exact g_iret hx hb hr hlocks mZm hK hZ hG hS rfl dX5_copy_79
            · have h := ite_f h c10
              refine lv_aload_n hx hb dX5_copy_62 rfl (lv_at hl 0 rfl) ?_
              refine lv_iload_n hx hb dX5_copy_63 rfl (lv_at hl 3 rfl) ?_
              refine lv_iload hx hb dX5_copy_64 (lv_at hl 4 rfl) ?_
              refine lv_iload hx hb dX5_copy_66 (lv_at hl 5 rfl) ?_
              obtain ⟨v12, ev12, h⟩ := obind h
              refine g_endi (va_runV (As := [.int x3, .int x4, .int x5]) (rest := []) ⟨hx, hb, hml, hown, hts⟩ (k_X5_isSpan l D cy ad hi I L x3 x4 x5 v12 ev12) (cwV 3 hts gX5_copy_X5_isSpan rfl rfl rfl cd_X5_isSpan ⟨Nat.le_of_ble_eq_true rfl, Nat.le_of_ble_eq_true rfl⟩) ⟨g_blind mZm, g_recv hK hG (k := 0) (by decide) (mE_5 _ _) vwCl_5, g_pre mZm hK hG hZ hS⟩ rfl rfl hl.1 rfl (lv_room (Nat.le_of_ble_eq_true rfl)) dX5_copy_68 ⟨Nat.le_refl _, Nat.le_refl _⟩) hS (fun H locs hG hS => ?_)
              refine lv_if_ne (tgt := 80) hx hb dX5_copy_71 (by decide) (fun c13 => ?_) (fun c13 => ?_)
              · have h := ite_f h c13
                refine lv_iload_n hx hb dX5_copy_80 rfl (lv_at hl 2 rfl) ?_
                refine lv_iload hx hb dX5_copy_81 (lv_at hl 4 rfl) ?_
                obtain ⟨q14, h9, h⟩ := obind h
                have hk_q14 : ∀ (H : Heap) (locs : List Loc) (ls : Array Slot), mG D cy ad I L H → va_S (gA 18 ad) s.heap H locs → lv_has ls 9 [(0, .ref (ad 0)), (1, .int x1), (2, .int x2), (3, .int x3), (4, .int x4), (5, .int x5)] → W p l e rm_X5_copy s m args below meth c H locs 0 0 Q (F0 m 91 ls [.int q14]) := by
                  intro H locs ls hG hS hl
                  refine lv_istore (lv' := [(6, .int q14), (0, .ref (ad 0)), (1, .int x1), (2, .int x2), (3, .int x3), (4, .int x4), (5, .int x5)]) hx hb dX5_copy_91 hl (by decide) rfl (fun ls hl => ?_)
                  refine lv_iconst (v := (0 : Int32)) hx hb dX5_copy_93 (by decide) ?_
                  refine lv_istore (lv' := [(7, .int (0 : Int32)), (6, .int q14), (0, .ref (ad 0)), (1, .int x1), (2, .int x2), (3, .int x3), (4, .int x4), (5, .int x5)]) hx hb dX5_copy_94 hl (by decide) rfl (fun ls hl => ?_)
                  have keyK16 : ∀ (K16 : xMem → Option (Int32 × xMem)), (∀ (I19 : xMem) (H : Heap) (locs : List Loc) (ls : Array Slot), K16 I19 = some r → mG D cy ad I19 L H → va_S (gA 18 ad) s.heap H locs → lv_has ls 9 [] → W p l e rm_X5_copy s m args below meth c H locs 0 0 Q (F0 m 157 ls [])) → ∀ (n17 : Nat) (x7_17 : Int32) (I18 : xMem) (H : Heap) (locs : List Loc) (ls : Array Slot), X5_copy_L1 x1 x2 x3 x4 x5 q14 K16 n17 x7_17 I18 = some r → mG D cy ad I18 L H → va_S (gA 18 ad) s.heap H locs → lv_has ls 9 [(0, .ref (ad 0)), (1, .int x1), (2, .int x2), (3, .int x3), (4, .int x4), (5, .int x5), (6, .int q14), (7, .int x7_17)] → W p l e rm_X5_copy s m args below meth c H locs 0 0 Q (F0 m 96 ls []) := by
                    intro K16 hkK16 n17
                    induction n17 with
                    | zero =>
                      intro x7_17 I18 H locs ls h
                      exact ono h
                    | succ n17 ihn17 =>
                      intro x7_17 I18 H locs ls h hG hS hl
                      rw [X5_copy_L1] at h
                      refine lv_iload hx hb dX5_copy_96 (lv_at hl 7 rfl) ?_
                      refine lv_iload hx hb dX5_copy_98 (lv_at hl 5 rfl) ?_
                      refine lv_icmp_ge (tgt := 157) hx hb dX5_copy_100 (by decide) (fun c20 => ?_) (fun c20 => ?_)
                      · have h := ite_t h c20
                        exact hkK16 I18 _ _ _ h hG hS (lv_sub hl [] rfl)
                      · have h := ite_f h c20
                        refine lv_iload hx hb dX5_copy_103 (lv_at hl 6 rfl) ?_
                        obtain ⟨q21, h9, h⟩ := obind h
                        have hk_q21 : ∀ (H : Heap) (locs : List Loc) (ls : Array Slot), mG D cy ad I18 L H → va_S (gA 18 ad) s.heap H locs → lv_has ls 9 [(0, .ref (ad 0)), (1, .int x1), (2, .int x2), (3, .int x3), (4, .int x4), (5, .int x5), (6, .int q14), (7, .int x7_17)] → W p l e rm_X5_copy s m args below meth c H locs 0 0 Q (F0 m 120 ls [.int q21]) := by
                          intro H locs ls hG hS hl
                          refine lv_istore (lv' := [(8, .int q21), (0, .ref (ad 0)), (1, .int x1), (2, .int x2), (3, .int x3), (4, .int x4), (5, .int x5), (6, .int q14), (7, .int x7_17)]) hx hb dX5_copy_120 hl (by decide) rfl (fun ls hl => ?_)
                          refine lv_aload_n hx hb dX5_copy_122 rfl (lv_at hl 1 rfl) ?_
                          refine g_get hx hb l5 hown hK hG (k := 0) (by decide) (mE_5 _ _) vwCl_5 8 (by decide) k2 (fun _ h9 => h9) rfl dX5_copy_123 ?_
                          refine lv_bipush (v := (40 : Int32)) hx hb dX5_copy_126 (by decide) ?_
                          refine lv_iload_n hx hb dX5_copy_128 rfl (lv_at hl 4 rfl) ?_
                          refine lv_imul hx hb dX5_copy_129 ?_
                          refine lv_iload hx hb dX5_copy_130 (lv_at hl 5 rfl) ?_
                          refine lv_iadd hx hb dX5_copy_132 ?_
                          refine lv_iload hx hb dX5_copy_133 (lv_at hl 0 rfl) ?_
                          refine lv_iadd hx hb dX5_copy_135 ?_
                          refine lv_aload_n hx hb dX5_copy_136 rfl (lv_at hl 1 rfl) ?_
                          refine g_get hx hb l5 hown hK hG (k := 0) (by decide) (mE_5 _ _) vwCl_5 8 (by decide) k2 (fun _ h9 => h9) rfl dX5_copy_137 ?_
                          refine lv_bipush (v := (40 : Int32)) hx hb dX5_copy_140 (by decide) ?_
                          refine lv_iload_n hx hb dX5_copy_142 rfl (lv_at hl 2 rfl) ?_
                          refine lv_imul hx hb dX5_copy_143 ?_
                          refine lv_iload_n hx hb dX5_copy_144 rfl (lv_at hl 3 rfl) ?_
                          refine lv_iadd hx hb dX5_copy_145 ?_
                          refine lv_iload hx hb dX5_copy_146 (lv_at hl 0 rfl) ?_
                          refine lv_iadd hx hb dX5_copy_148 ?_
                          refine g_ald hx hb hK hG (k := 6) (n := 240) (show mIA 6 240 from by decide +kernel).1.1 (mIA_e (show mIA 6 240 from by decide +kernel) _ _) 0 rfl h dX5_copy_149 (fun v23 h => ?_)
                          refine g_ast hx hb hK hG hi hS (k := 6) (n := 240) (show mIA 6 240 from by decide +kernel).1.1 (fun f => mIA_e (show mIA 6 240 from by decide +kernel) f _) 0 rfl h dX5_copy_150 (fun I24 H locs h hG hS => ?_)
                          refine lv_iinc (v := (x7_17 + (1 : Int32))) (lv' := [(7, .int (x7_17 + (1 : Int32))), (8, .int q21), (0, .ref (ad 0)), (1, .int x1), (2, .int x2), (3, .int x3), (4, .int x4), (5, .int x5), (6, .int q14)]) hx hb dX5_copy_151 hl (k := 8) rfl rfl (by decide) rfl (fun ls hl => ?_)
                          refine lv_goto (tgt := 96) hx hb dX5_copy_154 (by decide) ?_
                          exact ihn17 (x7_17 + (1 : Int32)) I24 _ _ _ h hG hS (lv_sub hl [2, 3, 4, 5, 6, 7, 8, 0] rfl)
                        clear h
                        have h := h9
                        clear h9
                        refine lv_if_eq (tgt := 118) hx hb dX5_copy_105 (by decide) (fun c22 => ?_) (fun c22 => ?_)
                        · have h := ite_t h c22
                          refine lv_iload hx hb dX5_copy_118 (lv_at hl 7 rfl) ?_
                          have h := Option.some.inj h
                          subst h
                          exact hk_q21 _ _ _ hG hS (lv_sub hl [0, 1, 2, 3, 4, 5, 6, 7] rfl)
                        · have h := ite_f h c22
                          refine lv_iload hx hb dX5_copy_108 (lv_at hl 5 rfl) ?_
                          refine lv_iconst (v := (1 : Int32)) hx hb dX5_copy_110 (by decide) ?_
                          refine lv_isub hx hb dX5_copy_111 ?_
                          refine lv_iload hx hb dX5_copy_112 (lv_at hl 7 rfl) ?_
                          refine lv_isub hx hb dX5_copy_114 ?_
                          refine lv_goto (tgt := 120) hx hb dX5_copy_115 (by decide) ?_
                          have h := Option.some.inj h
                          subst h
                          exact hk_q21 _ _ _ hG hS (lv_sub hl [0, 1, 2, 3, 4, 5, 6, 7] rfl)
                  refine keyK16 _ (fun I19 H locs ls h hG hS hl => ?_) bigF (0 : Int32) I _ _ _ h hG hS (lv_sub hl [2, 3, 4, 5, 6, 7, 1, 0] rfl)
                  clear keyK16
                  refine lv_iconst (v := (1 : Int32)) hx hb dX5_copy_157 (by decide) ?_
                  have h := Option.some.inj h
                  subst h
                  subst hQ
                  exact g_iret hx hb hr hlocks mZm hK hZ hG hS rfl dX5_copy_158
                clear h
                have h := h9
                clear h9
                refine lv_icmp_ge (tgt := 90) hx hb dX5_copy_83 (by decide) (fun c15 => ?_) (fun c15 => ?_)
                · have h := ite_t h c15
                  refine lv_iconst (v := (0 : Int32)) hx hb dX5_copy_90 (by decide) ?_
                  have h := Option.some.inj h
                  subst h
                  exact hk_q14 _ _ _ hG hS (lv_sub hl [0, 1, 2, 3, 4, 5] rfl)
                · have h := ite_f h c15
                  refine lv_iconst (v := (1 : Int32)) hx hb dX5_copy_86 (by decide) ?_
                  refine lv_goto (tgt := 91) hx hb dX5_copy_87 (by decide) ?_
                  have h := Option.some.inj h
                  subst h
                  exact hk_q14 _ _ _ hG hS (lv_sub hl [0, 1, 2, 3, 4, 5] rfl)
              · have h := ite_t h c13
                refine lv_aload_n hx hb dX5_copy_74 rfl (lv_at hl 0 rfl) ?_
                refine lv_iconst (v := (2 : Int32)) hx hb dX5_copy_75 (by decide) ?_
                obtain ⟨q25, eq25, h⟩ := obind h
                refine g_endi (va_runV (As := [.int (2 : Int32)]) (rest := []) ⟨hx, hb, hml, hown, hts⟩ (k_X5_find l D cy ad hi I L (2 : Int32) q25 eq25) (cwV 1 hts gX5_copy_X5_find rfl rfl rfl cd_X5_find ⟨Nat.le_of_ble_eq_true rfl, Nat.le_of_ble_eq_true rfl⟩) ⟨g_blind mZm, g_recv hK hG (k := 0) (by decide) (mE_5 _ _) vwCl_5, g_pre mZm hK hG hZ hS⟩ rfl rfl hl.1 rfl (lv_room (Nat.le_of_ble_eq_true rfl)) dX5_copy_76 ⟨Nat.le_refl _, Nat.le_refl _⟩) hS (fun H locs hG hS => ?_)
                have h := Option.some.inj h
                subst h
                subst hQ
                exact g_iret hx hb hr hlocks mZm hK hZ hG hS rfl dX5_copy_79
          · have h := ite_f h c8
            refine lv_aload_n hx hb dX5_copy_45 rfl (lv_at hl 0 rfl) ?_
            refine lv_iconst (v := (1 : Int32)) hx hb dX5_copy_46 (by decide) ?_
            obtain ⟨q26, eq26, h⟩ := obind h
            refine g_endi (va_runV (As := [.int (1 : Int32)]) (rest := []) ⟨hx, hb, hml, hown, hts⟩ (k_X5_find l D cy ad hi I L (1 : Int32) q26 eq26) (cwV 1 hts gX5_copy_X5_find rfl rfl rfl cd_X5_find ⟨Nat.le_of_ble_eq_true rfl, Nat.le_of_ble_eq_true rfl⟩) ⟨g_blind mZm, g_recv hK hG (k := 0) (by decide) (mE_5 _ _) vwCl_5, g_pre mZm hK hG hZ hS⟩ rfl rfl hl.1 rfl (lv_room (Nat.le_of_ble_eq_true rfl)) dX5_copy_47 ⟨Nat.le_refl _, Nat.le_refl _⟩) hS (fun H locs hG hS => ?_)
            have h := Option.some.inj h
            subst h
            subst hQ
            exact g_iret hx hb hr hlocks mZm hK hZ hG hS rfl dX5_copy_50
      · have h := ite_f h c3
        refine lv_aload_n hx hb dX5_copy_21 rfl (lv_at hl 0 rfl) ?_
        refine lv_iconst (v := (5 : Int32)) hx hb dX5_copy_22 (by decide) ?_
        obtain ⟨q27, eq27, h⟩ := obind h
        refine g_endi (va_runV (As := [.int (5 : Int32)]) (rest := []) ⟨hx, hb, hml, hown, hts⟩ (k_X5_find l D cy ad hi I L (5 : Int32) q27 eq27) (cwV 1 hts gX5_copy_X5_find rfl rfl rfl cd_X5_find ⟨Nat.le_of_ble_eq_true rfl, Nat.le_of_ble_eq_true rfl⟩) ⟨g_blind mZm, g_recv hK hG (k := 0) (by decide) (mE_5 _ _) vwCl_5, g_pre mZm hK hG hZ hS⟩ rfl rfl hl.1 rfl (lv_room (Nat.le_of_ble_eq_true rfl)) dX5_copy_23 ⟨Nat.le_refl _, Nat.le_refl _⟩) hS (fun H locs hG hS => ?_)
        have h := Option.some.inj h
        subst h
        subst hQ
        exact g_iret hx hb hr hlocks mZm hK hZ hG hS rfl dX5_copy_26
    · have h := ite_t h c2
      refine lv_iconst (v := (-1 : Int32)) hx hb dX5_copy_14 (by decide) ?_
      have h := Option.some.inj h
      subst h
      subst hQ
      exact g_iret hx hb hr hlocks mZm hK hZ hG hS rfl dX5_copy_15
def X5_mean_L1 (I : xMem) (x1 : Int32) (K6 : Int64 → Option (Int32 × xMem)) : Nat → Int64 → Int32 → Option (Int32 × xMem)
  | 0, _, _ => none
  | n7 + 1, x2_7, x4_7 => (rdI I 5 6 x1).bind fun v8 => if v8 ≤ x4_7 then (K6 x2_7) else ((rdI I 6 240 (((40 : Int32) * x1) + x4_7)).bind fun v10 => X5_mean_L1 I x1 K6 n7 (x2_7 + v10.toInt64) (x4_7 + (1 : Int32)))
def X5_mean (I : xMem) (x1 : Int32) : Option (Int32 × xMem) := if (X5_isRow x1) = (0 : Int32) then (some ((-1 : Int32), I)) else ((rdI I 5 6 x1).bind fun v2 => if (0 : Int32) ≤ v2 then ((rdI I 5 6 x1).bind fun v4 => if v4 = (0 : Int32) then ((X5_find I (4 : Int32)).bind fun q14 => some (q14.1, q14.2)) else (X5_mean_L1 I x1 (fun (z2_7 : Int64) => (rdI I 5 6 x1).bind fun v11 => (dvL z2_7 v11.toInt64).bind fun v12 => (X5_tell I v12.toInt32).bind fun q13 => some (q13.1, q13.2)) bigF (0 : Int64) (0 : Int32))) else ((X5_find I (1 : Int32)).bind fun q15 => some (q15.1, q15.2)))
abbrev rm_X5_mean : Room := { frames := 2, cells := 0, slots := 0, locals := 45 }
theorem cd_X5_mean : yX5_mean.cls = RX5 ∧ yX5_mean.cls ≠ "java/lang/invoke/MethodHandle" ∧ yX5_mean.cls ≠ "java/lang/invoke/VarHandle" ∧ (parseMethodDescriptor yX5_mean.desc).map (fun d => d.parameters.length) = some 1 := by decide +kernel
set_option maxHeartbeats 4000000 in
set_option maxRecDepth 100000 in
theorem k_X5_mean (l : Launch) (D : va_G) (cy : Nat → ClassId) (ad : Nat → Nat) (hi : gInj 18 ad) (I : xMem) (L : xLon) (x1 : Int32) (r : Int32 × xMem) (h : X5_mean I x1 = some r) : Met l yX5_mean wsX5_mean rm_X5_mean (va_Pc [.ref (ad 0), .int x1] (mW D cy ad I L)) (mPi D cy ad r.2 L r.1) 0 0 (gA 18 ad) := by
  refine g_met (own := RX5) (cc := cX5_mean) (maxL := 5) (ret := (some .int)) (by decide) rfl (Nat.le_of_ble_eq_true rfl) rfl ?_
  intro p e s m args below meth c ls hx hb hml hr hlocks hown hts hG hK hZ hl
  generalize hQ : MQ below _ args s 0 0 _ = Q
  have hl : lv_has ls 5 [(0, .ref (ad 0)), (1, .int x1)] := hl
  have hS : va_S (gA 18 ad) s.heap s.heap [] := va_S.rf
  have l5 : ∀ w ∈ wsX50, w.before args s = true := fun w h => hts w (List.mem_cons_of_mem _ (List.mem_append_right _ h))
  have k1 := hts (.fieldLink RX5 22 "PairStairsModel" "sizes" "[I") (by decide +kernel)
  have k2 := hts (.fieldLink RX5 25 "PairStairsModel" "items" "[I") (by decide +kernel)
  unfold X5_mean at h
  refine lv_iload_n hx hb dX5_mean_0 rfl (lv_at hl 1 rfl) ?_
  refine g_endi (va_runS (As := [.int x1]) (rest := []) ⟨hx, hb, hml, hown, hts⟩ (k_X5_isRow l D cy ad hi I L x1 _ rfl) (va_cwS 1 hts gX5_mean_X5_isRow rfl rfl rfl cd_X5_isRow.2 ⟨Nat.le_of_ble_eq_true rfl, Nat.le_of_ble_eq_true rfl⟩) ⟨g_blind mZm, g_pre mZm hK hG hZ hS⟩ rfl rfl hl.1 rfl (lv_room (Nat.le_of_ble_eq_true rfl)) dX5_mean_1 ⟨Nat.le_refl _, Nat.le_refl _⟩) hS (fun H locs hG hS => ?_)
  refine lv_if_ne (tgt := 9) hx hb dX5_mean_4 (by decide) (fun c1 => ?_) (fun c1 => ?_)
  · have h := ite_f h c1
    refine lv_aload_n hx hb dX5_mean_9 rfl (lv_at hl 0 rfl) ?_
    refine g_get hx hb l5 hown hK hG (k := 0) (by decide) (mE_5 _ _) vwCl_5 7 (by decide) k1 (fun _ h9 => h9) rfl dX5_mean_10 ?_
    refine lv_iload_n hx hb dX5_mean_13 rfl (lv_at hl 1 rfl) ?_
    refine g_ald hx hb hK hG (k := 5) (n := 6) (show mIA 5 6 from by decide +kernel).1.1 (mIA_e (show mIA 5 6 from by decide +kernel) _ _) 0 rfl h dX5_mean_14 (fun v2 h => ?_)
    refine lv_if_ge (tgt := 24) hx hb dX5_mean_15 (by decide) (fun c3 => ?_) (fun c3 => ?_)
    · have h := ite_t h c3
      refine lv_aload_n hx hb dX5_mean_24 rfl (lv_at hl 0 rfl) ?_
      refine g_get hx hb l5 hown hK hG (k := 0) (by decide) (mE_5 _ _) vwCl_5 7 (by decide) k1 (fun _ h9 => h9) rfl dX5_mean_25 ?_
      refine lv_iload_n hx hb dX5_mean_28 rfl (lv_at hl 1 rfl) ?_
      refine g_ald hx hb hK hG (k := 5) (n := 6) (show mIA 5 6 from by decide +kernel).1.1 (mIA_e (show mIA 5 6 from by decide +kernel) _ _) 0 rfl h dX5_mean_29 (fun v4 h => ?_)
      refine lv_if_ne (tgt := 39) hx hb dX5_mean_30 (by decide) (fun c5 => ?_) (fun c5 => ?_)
      · have h := ite_f h c5
        refine lv_lconst (v := (0 : Int64)) hx hb dX5_mean_39 (by decide) ?_
        refine lv_lstore_n (lv' := [(2, .long (0 : Int64)), (0, .ref (ad 0)), (1, .int x1)]) hx hb dX5_mean_40 rfl hl (by decide) rfl (fun ls hl => ?_)
        refine lv_iconst (v := (0 : Int32)) hx hb dX5_mean_41 (by decide) ?_
        refine lv_istore (lv' := [(4, .int (0 : Int32)), (2, .long (0 : Int64)), (0, .ref (ad 0)), (1, .int x1)]) hx hb dX5_mean_42 hl (by decide) rfl (fun ls hl => ?_)
        have keyK6 : ∀ (K6 : Int64 → Option (Int32 × xMem)), (∀ (z2_7 : Int64) (H : Heap) (locs : List Loc) (ls : Array Slot), K6 z2_7 = some r → mG D cy ad I L H → va_S (gA 18 ad) s.heap H locs → lv_has ls 5 [(0, .ref (ad 0)), (1, .int x1), (2, .long z2_7)] → W p l e rm_X5_mean s m args below meth c H locs 0 0 Q (F0 m 77 ls [])) → ∀ (n7 : Nat) (x2_7 : Int64) (x4_7 : Int32) (H : Heap) (locs : List Loc) (ls : Array Slot), X5_mean_L1 I x1 K6 n7 x2_7 x4_7 = some r → mG D cy ad I L H → va_S (gA 18 ad) s.heap H locs → lv_has ls 5 [(0, .ref (ad 0)), (1, .int x1), (2, .long x2_7), (4, .int x4_7)] → W p l e rm_X5_mean s m args below meth c H locs 0 0 Q (F0 m 44 ls []) := by
          intro K6 hkK6 n7
          induction n7 with
          | zero =>
            intro x2_7 x4_7 H locs ls h
            exact ono h
          | succ n7 ihn7 =>
            intro x2_7 x4_7 H locs ls h hG hS hl
            rw [X5_mean_L1] at h
            refine lv_iload hx hb dX5_mean_44 (lv_at hl 3 rfl) ?_
            refine lv_aload_n hx hb dX5_mean_46 rfl (lv_at hl 0 rfl) ?_
            refine g_get hx hb l5 hown hK hG (k := 0) (by decide) (mE_5 _ _) vwCl_5 7 (by decide) k1 (fun _ h9 => h9) rfl dX5_mean_47 ?_
            refine lv_iload_n hx hb dX5_mean_50 rfl (lv_at hl 1 rfl) ?_
            refine g_ald hx hb hK hG (k := 5) (n := 6) (show mIA 5 6 from by decide +kernel).1.1 (mIA_e (show mIA 5 6 from by decide +kernel) _ _) 0 rfl h dX5_mean_51 (fun v8 h => ?_)
            refine lv_icmp_ge (tgt := 77) hx hb dX5_mean_52 (by decide) (fun c9 => ?_) (fun c9 => ?_)
            · have h := ite_t h c9
              exact hkK6 x2_7 _ _ _ h hG hS (lv_sub hl [0, 1, 2] rfl)
            · have h := ite_f h c9
              refine lv_lload_n hx hb dX5_mean_55 rfl (lv_at hl 2 rfl) ?_
              refine lv_aload_n hx hb dX5_mean_56 rfl (lv_at hl 0 rfl) ?_
              refine g_get hx hb l5 hown hK hG (k := 0) (by decide) (mE_5 _ _) vwCl_5 8 (by decide) k2 (fun _ h9 => h9) rfl dX5_mean_57 ?_
              refine lv_bipush (v := (40 : Int32)) hx hb dX5_mean_60 (by decide) ?_
              refine lv_iload_n hx hb dX5_mean_62 rfl (lv_at hl 1 rfl) ?_
              refine lv_imul hx hb dX5_mean_63 ?_
              refine lv_iload hx hb dX5_mean_64 (lv_at hl 3 rfl) ?_
              refine lv_iadd hx hb dX5_mean_66 ?_
              refine g_ald hx hb hK hG (k := 6) (n := 240) (show mIA 6 240 from by decide +kernel).1.1 (mIA_e (show mIA 6 240 from by decide +kernel) _ _) 0 rfl h dX5_mean_67 (fun v10 h => ?_)
              refine lv_i2l hx hb dX5_mean_68 rfl ?_
              refine lv_ladd hx hb dX5_mean_69 ?_
              refine lv_lstore_n (lv' := [(2, .long (x2_7 + v10.toInt64)), (0, .ref (ad 0)), (1, .int x1), (4, .int x4_7)]) hx hb dX5_mean_70 rfl hl (by decide) rfl (fun ls hl => ?_)
              refine lv_iinc (v := (x4_7 + (1 : Int32))) (lv' := [(4, .int (x4_7 + (1 : Int32))), (2, .long (x2_7 + v10.toInt64)), (0, .ref (ad 0)), (1, .int x1)]) hx hb dX5_mean_71 hl (k := 3) rfl rfl (by decide) rfl (fun ls hl => ?_)
              refine lv_goto (tgt := 44) hx hb dX5_mean_74 (by decide) ?_
              exact ihn7 (x2_7 + v10.toInt64) (x4_7 + (1 : Int32)) _ _ _ h hG hS (lv_sub hl [2, 3, 1, 0] rfl)
        refine keyK6 _ (fun z2_7 H locs ls h hG hS hl => ?_) bigF (0 : Int64) (0 : Int32) _ _ _ h hG hS (lv_sub hl [2, 3, 1, 0] rfl)
        clear keyK6
        refine lv_aload_n hx hb dX5_mean_77 rfl (lv_at hl 0 rfl) ?_
        refine lv_lload_n hx hb dX5_mean_78 rfl (lv_at hl 2 rfl) ?_
        refine lv_aload_n hx hb dX5_mean_79 rfl (lv_at hl 0 rfl) ?_
        refine g_get hx hb l5 hown hK hG (k := 0) (by decide) (mE_5 _ _) vwCl_5 7 (by decide) k1 (fun _ h9 => h9) rfl dX5_mean_80 ?_
        refine lv_iload_n hx hb dX5_mean_83 rfl (lv_at hl 1 rfl) ?_
        refine g_ald hx hb hK hG (k := 5) (n := 6) (show mIA 5 6 from by decide +kernel).1.1 (mIA_e (show mIA 5 6 from by decide +kernel) _ _) 0 rfl h dX5_mean_84 (fun v11 h => ?_)
        refine lv_i2l hx hb dX5_mean_85 rfl ?_
        refine g_ldiv hx hb h dX5_mean_86 (fun v12 h => ?_)
        refine lv_l2i hx hb dX5_mean_87 rfl ?_
        obtain ⟨q13, eq13, h⟩ := obind h
        refine g_endi (va_runV (As := [.int v12.toInt32]) (rest := []) ⟨hx, hb, hml, hown, hts⟩ (k_X5_tell l D cy ad hi I L v12.toInt32 q13 eq13) (cwV 1 hts gX5_mean_X5_tell rfl rfl rfl cd_X5_tell ⟨Nat.le_of_ble_eq_true rfl, Nat.le_of_ble_eq_true rfl⟩) ⟨g_blind mZm, g_recv hK hG (k := 0) (by decide) (mE_5 _ _) vwCl_5, g_pre mZm hK hG hZ hS⟩ rfl rfl hl.1 rfl (lv_room (Nat.le_of_ble_eq_true rfl)) dX5_mean_88 ⟨Nat.le_refl _, Nat.le_refl _⟩) hS (fun H locs hG hS => ?_)
        have h := Option.some.inj h
        subst h
        subst hQ
        exact g_iret hx hb hr hlocks mZm hK hZ hG hS rfl dX5_mean_91
      · have h := ite_t h c5
        refine lv_aload_n hx hb dX5_mean_33 rfl (lv_at hl 0 rfl) ?_
        refine lv_iconst (v := (4 : Int32)) hx hb dX5_mean_34 (by decide) ?_
        obtain ⟨q14, eq14, h⟩ := obind h
        refine g_endi (va_runV (As := [.int (4 : Int32)]) (rest := []) ⟨hx, hb, hml, hown, hts⟩ (k_X5_find l D cy ad hi I L (4 : Int32) q14 eq14) (cwV 1 hts gX5_mean_X5_find rfl rfl rfl cd_X5_find ⟨Nat.le_of_ble_eq_true rfl, Nat.le_of_ble_eq_true rfl⟩) ⟨g_blind mZm, g_recv hK hG (k := 0) (by decide) (mE_5 _ _) vwCl_5, g_pre mZm hK hG hZ hS⟩ rfl rfl hl.1 rfl (lv_room (Nat.le_of_ble_eq_true rfl)) dX5_mean_35 ⟨Nat.le_refl _, Nat.le_refl _⟩) hS (fun H locs hG hS => ?_)
        have h := Option.some.inj h
        subst h
        subst hQ
        exact g_iret hx hb hr hlocks mZm hK hZ hG hS rfl dX5_mean_38
    · have h := ite_f h c3
      refine lv_aload_n hx hb dX5_mean_18 rfl (lv_at hl 0 rfl) ?_
      refine lv_iconst (v := (1 : Int32)) hx hb dX5_mean_19 (by decide) ?_
      obtain ⟨q15, eq15, h⟩ := obind h
      refine g_endi (va_runV (As := [.int (1 : Int32)]) (rest := []) ⟨hx, hb, hml, hown, hts⟩ (k_X5_find l D cy ad hi I L (1 : Int32) q15 eq15) (cwV 1 hts gX5_mean_X5_find rfl rfl rfl cd_X5_find ⟨Nat.le_of_ble_eq_true rfl, Nat.le_of_ble_eq_true rfl⟩) ⟨g_blind mZm, g_recv hK hG (k := 0) (by decide) (mE_5 _ _) vwCl_5, g_pre mZm hK hG hZ hS⟩ rfl rfl hl.1 rfl (lv_room (Nat.le_of_ble_eq_true rfl)) dX5_mean_20 ⟨Nat.le_refl _, Nat.le_refl _⟩) hS (fun H locs hG hS => ?_)
      have h := Option.some.inj h
      subst h
      subst hQ
      exact g_iret hx hb hr hlocks mZm hK hZ hG hS rfl dX5_mean_23
  · have h := ite_t h c1
    refine lv_iconst (v := (-1 : Int32)) hx hb dX5_mean_7 (by decide) ?_
    have h := Option.some.inj h
    subst h
    subst hQ
    exact g_iret hx hb hr hlocks mZm hK hZ hG hS rfl dX5_mean_8
def X5_text_L1 (x1 : Int32) (K5 : xMem → Option (Int32 × xMem)) : Nat → Int32 → xMem → Option (Int32 × xMem)
  | 0, _, _ => none
  | n6 + 1, x3_6, I7 => if (60 : Int32) ≤ x3_6 then (K5 I7) else ((wrI I7 8 240 (((60 : Int32) * x1) + x3_6) (32 : Int32)).bind fun I10 => X5_text_L1 x1 K5 n6 (x3_6 + (1 : Int32)) I10)
def X5_text (I : xMem) (x1 : Int32) (x2 : Int32) : Option (Int32 × xMem) := if (X5_isText x1) = (0 : Int32) then (some ((-1 : Int32), I)) else (if x2 ≤ (60 : Int32) then (if (0 : Int32) ≤ x2 then ((wrI I 7 4 x1 x2).bind fun I4 => X5_text_L1 x1 (fun (I8 : xMem) => some (x2, I8)) bigF (0 : Int32) I4) else ((X5_find I (5 : Int32)).bind fun q11 => some (q11.1, q11.2))) else (some ((-1 : Int32), I)))
abbrev rm_X5_text : Room := { frames := 2, cells := 0, slots := 0, locals := 45 }
theorem cd_X5_text : yX5_text.cls = RX5 ∧ yX5_text.cls ≠ "java/lang/invoke/MethodHandle" ∧ yX5_text.cls ≠ "java/lang/invoke/VarHandle" ∧ (parseMethodDescriptor yX5_text.desc).map (fun d => d.parameters.length) = some 2 := by decide +kernel
set_option maxHeartbeats 4000000 in
set_option maxRecDepth 100000 in
theorem k_X5_text (l : Launch) (D : va_G) (cy : Nat → ClassId) (ad : Nat → Nat) (hi : gInj 18 ad) (I : xMem) (L : xLon) (x1 : Int32) (x2 : Int32) (r : Int32 × xMem) (h : X5_text I x1 x2 = some r) : Met l yX5_text wsX5_text rm_X5_text (va_Pc [.ref (ad 0), .int x1, .int x2] (mW D cy ad I L)) (mPi D cy ad r.2 L r.1) 0 0 (gA 18 ad) := by
  refine g_met (own := RX5) (cc := cX5_text) (maxL := 4) (ret := (some .int)) (by decide) rfl (Nat.le_of_ble_eq_true rfl) rfl ?_
  intro p e s m args below meth c ls hx hb hml hr hlocks hown hts hG hK hZ hl
  generalize hQ : MQ below _ args s 0 0 _ = Q
  have hl : lv_has ls 4 [(0, .ref (ad 0)), (1, .int x1), (2, .int x2)] := hl
  have hS : va_S (gA 18 ad) s.heap s.heap [] := va_S.rf
  have l5 : ∀ w ∈ wsX50, w.before args s = true := fun w h => hts w (List.mem_cons_of_mem _ (List.mem_append_right _ h))
  have k1 := hts (.fieldLink RX5 28 "PairStairsModel" "lengths" "[I") (by decide +kernel)
  have k2 := hts (.fieldLink RX5 31 "PairStairsModel" "bytes" "[I") (by decide +kernel)
  unfold X5_text at h
  refine lv_iload_n hx hb dX5_text_0 rfl (lv_at hl 1 rfl) ?_
  refine g_endi (va_runS (As := [.int x1]) (rest := []) ⟨hx, hb, hml, hown, hts⟩ (k_X5_isText l D cy ad hi I L x1 _ rfl) (va_cwS 1 hts gX5_text_X5_isText rfl rfl rfl cd_X5_isText.2 ⟨Nat.le_of_ble_eq_true rfl, Nat.le_of_ble_eq_true rfl⟩) ⟨g_blind mZm, g_pre mZm hK hG hZ hS⟩ rfl rfl hl.1 rfl (lv_room (Nat.le_of_ble_eq_true rfl)) dX5_text_1 ⟨Nat.le_refl _, Nat.le_refl _⟩) hS (fun H locs hG hS => ?_)
  refine lv_if_eq (tgt := 13) hx hb dX5_text_4 (by decide) (fun c1 => ?_) (fun c1 => ?_)
  · have h := ite_t h c1
    refine lv_iconst (v := (-1 : Int32)) hx hb dX5_text_13 (by decide) ?_
    have h := Option.some.inj h
    subst h
    subst hQ
    exact g_iret hx hb hr hlocks mZm hK hZ hG hS rfl dX5_text_14
  · have h := ite_f h c1
    refine lv_iload_n hx hb dX5_text_7 rfl (lv_at hl 2 rfl) ?_
    refine lv_bipush (v := (60 : Int32)) hx hb dX5_text_8 (by decide) ?_
    refine lv_icmp_le (tgt := 15) hx hb dX5_text_10 (by decide) (fun c2 => ?_) (fun c2 => ?_)
    · have h := ite_t h c2
      refine lv_iload_n hx hb dX5_text_15 rfl (lv_at hl 2 rfl) ?_
      refine lv_if_ge (tgt := 25) hx hb dX5_text_16 (by decide) (fun c3 => ?_) (fun c3 => ?_)
      · have h := ite_t h c3
        refine lv_aload_n hx hb dX5_text_25 rfl (lv_at hl 0 rfl) ?_
        refine g_get hx hb l5 hown hK hG (k := 0) (by decide) (mE_5 _ _) vwCl_5 9 (by decide) k1 (fun _ h9 => h9) rfl dX5_text_26 ?_
        refine lv_iload_n hx hb dX5_text_29 rfl (lv_at hl 1 rfl) ?_
        refine lv_iload_n hx hb dX5_text_30 rfl (lv_at hl 2 rfl) ?_
        refine g_ast hx hb hK hG hi hS (k := 7) (n := 4) (show mIA 7 4 from by decide +kernel).1.1 (fun f => mIA_e (show mIA 7 4 from by decide +kernel) f _) 0 rfl h dX5_text_31 (fun I4 H locs h hG hS => ?_)
        refine lv_iconst (v := (0 : Int32)) hx hb dX5_text_32 (by decide) ?_
        refine lv_istore_n (lv' := [(3, .int (0 : Int32)), (0, .ref (ad 0)), (1, .int x1), (2, .int x2)]) hx hb dX5_text_33 rfl hl (by decide) rfl (fun ls hl => ?_)
        have keyK5 : ∀ (K5 : xMem → Option (Int32 × xMem)), (∀ (I8 : xMem) (H : Heap) (locs : List Loc) (ls : Array Slot), K5 I8 = some r → mG D cy ad I8 L H → va_S (gA 18 ad) s.heap H locs → lv_has ls 4 [(2, .int x2)] → W p l e rm_X5_text s m args below meth c H locs 0 0 Q (F0 m 59 ls [])) → ∀ (n6 : Nat) (x3_6 : Int32) (I7 : xMem) (H : Heap) (locs : List Loc) (ls : Array Slot), X5_text_L1 x1 K5 n6 x3_6 I7 = some r → mG D cy ad I7 L H → va_S (gA 18 ad) s.heap H locs → lv_has ls 4 [(0, .ref (ad 0)), (1, .int x1), (2, .int x2), (3, .int x3_6)] → W p l e rm_X5_text s m args below meth c H locs 0 0 Q (F0 m 34 ls []) := by
          intro K5 hkK5 n6
          induction n6 with
          | zero =>
            intro x3_6 I7 H locs ls h
            exact ono h
          | succ n6 ihn6 =>
            intro x3_6 I7 H locs ls h hG hS hl
            rw [X5_text_L1] at h
            refine lv_iload_n hx hb dX5_text_34 rfl (lv_at hl 3 rfl) ?_
            refine lv_bipush (v := (60 : Int32)) hx hb dX5_text_35 (by decide) ?_
            refine lv_icmp_ge (tgt := 59) hx hb dX5_text_37 (by decide) (fun c9 => ?_) (fun c9 => ?_)
            · have h := ite_t h c9
              exact hkK5 I7 _ _ _ h hG hS (lv_sub hl [2] rfl)
            · have h := ite_f h c9
              refine lv_aload_n hx hb dX5_text_40 rfl (lv_at hl 0 rfl) ?_
              refine g_get hx hb l5 hown hK hG (k := 0) (by decide) (mE_5 _ _) vwCl_5 10 (by decide) k2 (fun _ h9 => h9) rfl dX5_text_41 ?_
              refine lv_bipush (v := (60 : Int32)) hx hb dX5_text_44 (by decide) ?_
              refine lv_iload_n hx hb dX5_text_46 rfl (lv_at hl 1 rfl) ?_
              refine lv_imul hx hb dX5_text_47 ?_
              refine lv_iload_n hx hb dX5_text_48 rfl (lv_at hl 3 rfl) ?_
              refine lv_iadd hx hb dX5_text_49 ?_
              refine lv_bipush (v := (32 : Int32)) hx hb dX5_text_50 (by decide) ?_
              refine g_ast hx hb hK hG hi hS (k := 8) (n := 240) (show mIA 8 240 from by decide +kernel).1.1 (fun f => mIA_e (show mIA 8 240 from by decide +kernel) f _) 0 rfl h dX5_text_52 (fun I10 H locs h hG hS => ?_)
              refine lv_iinc (v := (x3_6 + (1 : Int32))) (lv' := [(3, .int (x3_6 + (1 : Int32))), (0, .ref (ad 0)), (1, .int x1), (2, .int x2)]) hx hb dX5_text_53 hl (k := 3) rfl rfl (by decide) rfl (fun ls hl => ?_)
              refine lv_goto (tgt := 34) hx hb dX5_text_56 (by decide) ?_
              exact ihn6 (x3_6 + (1 : Int32)) I10 _ _ _ h hG hS (lv_sub hl [1, 2, 3, 0] rfl)
        refine keyK5 _ (fun I8 H locs ls h hG hS hl => ?_) bigF (0 : Int32) I4 _ _ _ h hG hS (lv_sub hl [1, 2, 3, 0] rfl)
        clear keyK5
        refine lv_iload_n hx hb dX5_text_59 rfl (lv_at hl 0 rfl) ?_
        have h := Option.some.inj h
        subst h
        subst hQ
        exact g_iret hx hb hr hlocks mZm hK hZ hG hS rfl dX5_text_60
      · have h := ite_f h c3
        refine lv_aload_n hx hb dX5_text_19 rfl (lv_at hl 0 rfl) ?_
        refine lv_iconst (v := (5 : Int32)) hx hb dX5_text_20 (by decide) ?_
        obtain ⟨q11, eq11, h⟩ := obind h
        refine g_endi (va_runV (As := [.int (5 : Int32)]) (rest := []) ⟨hx, hb, hml, hown, hts⟩ (k_X5_find l D cy ad hi I L (5 : Int32) q11 eq11) (cwV 1 hts gX5_text_X5_find rfl rfl rfl cd_X5_find ⟨Nat.le_of_ble_eq_true rfl, Nat.le_of_ble_eq_true rfl⟩) ⟨g_blind mZm, g_recv hK hG (k := 0) (by decide) (mE_5 _ _) vwCl_5, g_pre mZm hK hG hZ hS⟩ rfl rfl hl.1 rfl (lv_room (Nat.le_of_ble_eq_true rfl)) dX5_text_21 ⟨Nat.le_refl _, Nat.le_refl _⟩) hS (fun H locs hG hS => ?_)
        have h := Option.some.inj h
        subst h
        subst hQ
        exact g_iret hx hb hr hlocks mZm hK hZ hG hS rfl dX5_text_24
    · have h := ite_f h c2
      refine lv_iconst (v := (-1 : Int32)) hx hb dX5_text_13 (by decide) ?_
      have h := Option.some.inj h
      subst h
      subst hQ
      exact g_iret hx hb hr hlocks mZm hK hZ hG hS rfl dX5_text_14
def X5_put (I : xMem) (x1 : Int32) (x2 : Int32) (x3 : Int32) : Option (Int32 × xMem) := if (X5_isText x1) = (0 : Int32) then (some ((-1 : Int32), I)) else ((rdI I 7 4 x1).bind fun v2 => if (0 : Int32) ≤ v2 then ((rdI I 7 4 x1).bind fun v4 => if (X5_in x2.toInt64 (0 : Int64) ((v4 - (1 : Int32)).toInt64)) = (0 : Int32) then ((X5_find I (2 : Int32)).bind fun q8 => some (q8.1, q8.2)) else ((rdI I 8 240 (((60 : Int32) * x1) + x2)).bind fun v6 => (wrI I 8 240 (((60 : Int32) * x1) + x2) x3.toInt8.toInt32).bind fun I7 => some ((v6 + (1000 : Int32)), I7))) else ((X5_find I (1 : Int32)).bind fun q9 => some (q9.1, q9.2)))
abbrev rm_X5_put : Room := { frames := 2, cells := 0, slots := 0, locals := 45 }
theorem cd_X5_put : yX5_put.cls = RX5 ∧ yX5_put.cls ≠ "java/lang/invoke/MethodHandle" ∧ yX5_put.cls ≠ "java/lang/invoke/VarHandle" ∧ (parseMethodDescriptor yX5_put.desc).map (fun d => d.parameters.length) = some 3 := by decide +kernel
set_option maxHeartbeats 4000000 in
set_option maxRecDepth 100000 in
theorem k_X5_put (l : Launch) (D : va_G) (cy : Nat → ClassId) (ad : Nat → Nat) (hi : gInj 18 ad) (I : xMem) (L : xLon) (x1 : Int32) (x2 : Int32) (x3 : Int32) (r : Int32 × xMem) (h : X5_put I x1 x2 x3 = some r) : Met l yX5_put wsX5_put rm_X5_put (va_Pc [.ref (ad 0), .int x1, .int x2, .int x3] (mW D cy ad I L)) (mPi D cy ad r.2 L r.1) 0 0 (gA 18 ad) := by
  refine g_met (own := RX5) (cc := cX5_put) (maxL := 5) (ret := (some .int)) (by decide) rfl (Nat.le_of_ble_eq_true rfl) rfl ?_
  intro p e s m args below meth c ls hx hb hml hr hlocks hown hts hG hK hZ hl
  generalize hQ : MQ below _ args s 0 0 _ = Q
  have hl : lv_has ls 5 [(0, .ref (ad 0)), (1, .int x1), (2, .int x2), (3, .int x3)] := hl
  have hS : va_S (gA 18 ad) s.heap s.heap [] := va_S.rf
  have l5 : ∀ w ∈ wsX50, w.before args s = true := fun w h => hts w (List.mem_cons_of_mem _ (List.mem_append_right _ h))
  have k1 := hts (.fieldLink RX5 28 "PairStairsModel" "lengths" "[I") (by decide +kernel)
  have k2 := hts (.fieldLink RX5 31 "PairStairsModel" "bytes" "[I") (by decide +kernel)
  unfold X5_put at h
  refine lv_iload_n hx hb dX5_put_0 rfl (lv_at hl 1 rfl) ?_
  refine g_endi (va_runS (As := [.int x1]) (rest := []) ⟨hx, hb, hml, hown, hts⟩ (k_X5_isText l D cy ad hi I L x1 _ rfl) (va_cwS 1 hts gX5_put_X5_isText rfl rfl rfl cd_X5_isText.2 ⟨Nat.le_of_ble_eq_true rfl, Nat.le_of_ble_eq_true rfl⟩) ⟨g_blind mZm, g_pre mZm hK hG hZ hS⟩ rfl rfl hl.1 rfl (lv_room (Nat.le_of_ble_eq_true rfl)) dX5_put_1 ⟨Nat.le_refl _, Nat.le_refl _⟩) hS (fun H locs hG hS => ?_)
  refine lv_if_ne (tgt := 9) hx hb dX5_put_4 (by decide) (fun c1 => ?_) (fun c1 => ?_)
  · have h := ite_f h c1
    refine lv_aload_n hx hb dX5_put_9 rfl (lv_at hl 0 rfl) ?_
    refine g_get hx hb l5 hown hK hG (k := 0) (by decide) (mE_5 _ _) vwCl_5 9 (by decide) k1 (fun _ h9 => h9) rfl dX5_put_10 ?_
    refine lv_iload_n hx hb dX5_put_13 rfl (lv_at hl 1 rfl) ?_
    refine g_ald hx hb hK hG (k := 7) (n := 4) (show mIA 7 4 from by decide +kernel).1.1 (mIA_e (show mIA 7 4 from by decide +kernel) _ _) 0 rfl h dX5_put_14 (fun v2 h => ?_)
    refine lv_if_ge (tgt := 24) hx hb dX5_put_15 (by decide) (fun c3 => ?_) (fun c3 => ?_)
    · have h := ite_t h c3
      refine lv_iload_n hx hb dX5_put_24 rfl (lv_at hl 2 rfl) ?_
      refine lv_i2l hx hb dX5_put_25 rfl ?_
      refine lv_lconst (v := (0 : Int64)) hx hb dX5_put_26 (by decide) ?_
      refine lv_aload_n hx hb dX5_put_27 rfl (lv_at hl 0 rfl) ?_
      refine g_get hx hb l5 hown hK hG (k := 0) (by decide) (mE_5 _ _) vwCl_5 9 (by decide) k1 (fun _ h9 => h9) rfl dX5_put_28 ?_
      refine lv_iload_n hx hb dX5_put_31 rfl (lv_at hl 1 rfl) ?_
      refine g_ald hx hb hK hG (k := 7) (n := 4) (show mIA 7 4 from by decide +kernel).1.1 (mIA_e (show mIA 7 4 from by decide +kernel) _ _) 0 rfl h dX5_put_32 (fun v4 h => ?_)
      refine lv_iconst (v := (1 : Int32)) hx hb dX5_put_33 (by decide) ?_
      refine lv_isub hx hb dX5_put_34 ?_
      refine lv_i2l hx hb dX5_put_35 rfl ?_
      refine g_endi (va_runS (As := [.long x2.toInt64, .long (0 : Int64), .long ((v4 - (1 : Int32)).toInt64)]) (rest := []) ⟨hx, hb, hml, hown, hts⟩ (k_X5_in l D cy ad hi I L x2.toInt64 (0 : Int64) ((v4 - (1 : Int32)).toInt64) _ rfl) (va_cwS 3 hts gX5_put_X5_in rfl rfl rfl cd_X5_in.2 ⟨Nat.le_of_ble_eq_true rfl, Nat.le_of_ble_eq_true rfl⟩) ⟨g_blind mZm, g_pre mZm hK hG hZ hS⟩ rfl rfl hl.1 rfl (lv_room (Nat.le_of_ble_eq_true rfl)) dX5_put_36 ⟨Nat.le_refl _, Nat.le_refl _⟩) hS (fun H locs hG hS => ?_)
      refine lv_if_ne (tgt := 48) hx hb dX5_put_39 (by decide) (fun c5 => ?_) (fun c5 => ?_)
      · have h := ite_f h c5
        refine lv_aload_n hx hb dX5_put_48 rfl (lv_at hl 0 rfl) ?_
        refine g_get hx hb l5 hown hK hG (k := 0) (by decide) (mE_5 _ _) vwCl_5 10 (by decide) k2 (fun _ h9 => h9) rfl dX5_put_49 ?_
        refine lv_bipush (v := (60 : Int32)) hx hb dX5_put_52 (by decide) ?_
        refine lv_iload_n hx hb dX5_put_54 rfl (lv_at hl 1 rfl) ?_
        refine lv_imul hx hb dX5_put_55 ?_
        refine lv_iload_n hx hb dX5_put_56 rfl (lv_at hl 2 rfl) ?_
        refine lv_iadd hx hb dX5_put_57 ?_
        refine g_ald hx hb hK hG (k := 8) (n := 240) (show mIA 8 240 from by decide +kernel).1.1 (mIA_e (show mIA 8 240 from by decide +kernel) _ _) 0 rfl h dX5_put_58 (fun v6 h => ?_)
        refine lv_istore (lv' := [(4, .int v6), (0, .ref (ad 0)), (1, .int x1), (2, .int x2), (3, .int x3)]) hx hb dX5_put_59 hl (by decide) rfl (fun ls hl => ?_)
        refine lv_aload_n hx hb dX5_put_61 rfl (lv_at hl 1 rfl) ?_
        refine g_get hx hb l5 hown hK hG (k := 0) (by decide) (mE_5 _ _) vwCl_5 10 (by decide) k2 (fun _ h9 => h9) rfl dX5_put_62 ?_
        refine lv_bipush (v := (60 : Int32)) hx hb dX5_put_65 (by decide) ?_
        refine lv_iload_n hx hb dX5_put_67 rfl (lv_at hl 2 rfl) ?_
        refine lv_imul hx hb dX5_put_68 ?_
        refine lv_iload_n hx hb dX5_put_69 rfl (lv_at hl 3 rfl) ?_
        refine lv_iadd hx hb dX5_put_70 ?_
        refine lv_iload_n hx hb dX5_put_71 rfl (lv_at hl 4 rfl) ?_
        refine lv_i2b hx hb dX5_put_72 rfl ?_
        refine g_ast hx hb hK hG hi hS (k := 8) (n := 240) (show mIA 8 240 from by decide +kernel).1.1 (fun f => mIA_e (show mIA 8 240 from by decide +kernel) f _) 0 rfl h dX5_put_73 (fun I7 H locs h hG hS => ?_)
        refine lv_iload hx hb dX5_put_74 (lv_at hl 0 rfl) ?_
        refine lv_sipush (v := (1000 : Int32)) hx hb dX5_put_76 (by decide) ?_
        refine lv_iadd hx hb dX5_put_79 ?_
        have h := Option.some.inj h
        subst h
        subst hQ
        exact g_iret hx hb hr hlocks mZm hK hZ hG hS rfl dX5_put_80
      · have h := ite_t h c5
        refine lv_aload_n hx hb dX5_put_42 rfl (lv_at hl 0 rfl) ?_
        refine lv_iconst (v := (2 : Int32)) hx hb dX5_put_43 (by decide) ?_
        obtain ⟨q8, eq8, h⟩ := obind h
        refine g_endi (va_runV (As := [.int (2 : Int32)]) (rest := []) ⟨hx, hb, hml, hown, hts⟩ (k_X5_find l D cy ad hi I L (2 : Int32) q8 eq8) (cwV 1 hts gX5_put_X5_find rfl rfl rfl cd_X5_find ⟨Nat.le_of_ble_eq_true rfl, Nat.le_of_ble_eq_true rfl⟩) ⟨g_blind mZm, g_recv hK hG (k := 0) (by decide) (mE_5 _ _) vwCl_5, g_pre mZm hK hG hZ hS⟩ rfl rfl hl.1 rfl (lv_room (Nat.le_of_ble_eq_true rfl)) dX5_put_44 ⟨Nat.le_refl _, Nat.le_refl _⟩) hS (fun H locs hG hS => ?_)
        have h := Option.some.inj h
        subst h
        subst hQ
        exact g_iret hx hb hr hlocks mZm hK hZ hG hS rfl dX5_put_47
    · have h := ite_f h c3
      refine lv_aload_n hx hb dX5_put_18 rfl (lv_at hl 0 rfl) ?_
      refine lv_iconst (v := (1 : Int32)) hx hb dX5_put_19 (by decide) ?_
      obtain ⟨q9, eq9, h⟩ := obind h
      refine g_endi (va_runV (As := [.int (1 : Int32)]) (rest := []) ⟨hx, hb, hml, hown, hts⟩ (k_X5_find l D cy ad hi I L (1 : Int32) q9 eq9) (cwV 1 hts gX5_put_X5_find rfl rfl rfl cd_X5_find ⟨Nat.le_of_ble_eq_true rfl, Nat.le_of_ble_eq_true rfl⟩) ⟨g_blind mZm, g_recv hK hG (k := 0) (by decide) (mE_5 _ _) vwCl_5, g_pre mZm hK hG hZ hS⟩ rfl rfl hl.1 rfl (lv_room (Nat.le_of_ble_eq_true rfl)) dX5_put_20 ⟨Nat.le_refl _, Nat.le_refl _⟩) hS (fun H locs hG hS => ?_)
      have h := Option.some.inj h
      subst h
      subst hQ
      exact g_iret hx hb hr hlocks mZm hK hZ hG hS rfl dX5_put_23
  · have h := ite_t h c1
    refine lv_iconst (v := (-1 : Int32)) hx hb dX5_put_7 (by decide) ?_
    have h := Option.some.inj h
    subst h
    subst hQ
    exact g_iret hx hb hr hlocks mZm hK hZ hG hS rfl dX5_put_8
def X5_here (I : xMem) : Option (Int32) := (rdI I 8 240 ((I 0 16) + (I 0 17))).bind fun v1 => some v1
abbrev rm_X5_here : Room := { frames := 0, cells := 0, slots := 0, locals := 0 }
theorem cd_X5_here : yX5_here.cls = RX5 ∧ yX5_here.cls ≠ "java/lang/invoke/MethodHandle" ∧ yX5_here.cls ≠ "java/lang/invoke/VarHandle" ∧ (parseMethodDescriptor yX5_here.desc).map (fun d => d.parameters.length) = some 0 := by decide +kernel
set_option maxHeartbeats 4000000 in
set_option maxRecDepth 100000 in
theorem k_X5_here (l : Launch) (D : va_G) (cy : Nat → ClassId) (ad : Nat → Nat) (hi : gInj 18 ad) (I : xMem) (L : xLon)  (r : Int32) (h : X5_here I = some r) : Met l yX5_here wsX5_here rm_X5_here (va_Pc [.ref (ad 0)] (mW D cy ad I L)) (mPi D cy ad I L r) 0 0 (gA 18 ad) := by
  refine g_met (own := RX5) (cc := cX5_here) (maxL := 1) (ret := (some .int)) (by decide) rfl (Nat.le_of_ble_eq_true rfl) rfl ?_
  intro p e s m args below meth c ls hx hb hml hr hlocks hown hts hG hK hZ hl
  generalize hQ : MQ below _ args s 0 0 _ = Q
  have hl : lv_has ls 1 [(0, .ref (ad 0))] := hl
  have hS : va_S (gA 18 ad) s.heap s.heap [] := va_S.rf
  have l5 : ∀ w ∈ wsX50, w.before args s = true := fun w h => hts w (List.mem_cons_of_mem _ (List.mem_append_right _ h))
  have k1 := hts (.fieldLink RX5 31 "PairStairsModel" "bytes" "[I") (by decide +kernel)
  have k2 := hts (.fieldLink RX5 107 "PairStairsModel" "from" "I") (by decide +kernel)
  have k3 := hts (.fieldLink RX5 110 "PairStairsModel" "place" "I") (by decide +kernel)
  unfold X5_here at h
  refine lv_aload_n hx hb dX5_here_0 rfl (lv_at hl 0 rfl) ?_
  refine g_get hx hb l5 hown hK hG (k := 0) (by decide) (mE_5 _ _) vwCl_5 10 (by decide) k1 (fun _ h9 => h9) rfl dX5_here_1 ?_
  refine lv_aload_n hx hb dX5_here_4 rfl (lv_at hl 0 rfl) ?_
  refine g_get hx hb l5 hown hK hG (k := 0) (by decide) (mE_5 _ _) vwCl_5 16 (by decide) k2 (fun _ h9 => h9) rfl dX5_here_5 ?_
  refine lv_aload_n hx hb dX5_here_8 rfl (lv_at hl 0 rfl) ?_
  refine g_get hx hb l5 hown hK hG (k := 0) (by decide) (mE_5 _ _) vwCl_5 17 (by decide) k3 (fun _ h9 => h9) rfl dX5_here_9 ?_
  refine lv_iadd hx hb dX5_here_12 ?_
  refine g_ald hx hb hK hG (k := 8) (n := 240) (show mIA 8 240 from by decide +kernel).1.1 (mIA_e (show mIA 8 240 from by decide +kernel) _ _) 0 rfl h dX5_here_13 (fun v1 h => ?_)
  have h := Option.some.inj h
  subst h
  subst hQ
  exact g_iret hx hb hr hlocks mZm hK hZ hG hS rfl dX5_here_14
def X5_skip_L1 (K1 : xMem → Option (xMem)) : Nat → xMem → Option (xMem)
  | 0, _ => none
  | n2 + 1, I3 => if (I3 0 18) ≤ (I3 0 17) then (K1 I3) else ((X5_here I3).bind fun v6 => if v6 = (32 : Int32) then ((some (wr I3 0 17 ((I3 0 17) + (1 : Int32)))).bind fun I8 => X5_skip_L1 K1 n2 I8) else (K1 I3))
def X5_skip (I : xMem) : Option (xMem) := X5_skip_L1 (fun (I4 : xMem) => some I4) bigF I
abbrev rm_X5_skip : Room := { frames := 1, cells := 0, slots := 0, locals := 20 }
theorem cd_X5_skip : yX5_skip.cls = RX5 ∧ yX5_skip.cls ≠ "java/lang/invoke/MethodHandle" ∧ yX5_skip.cls ≠ "java/lang/invoke/VarHandle" ∧ (parseMethodDescriptor yX5_skip.desc).map (fun d => d.parameters.length) = some 0 := by decide +kernel
set_option maxHeartbeats 4000000 in
set_option maxRecDepth 100000 in
theorem k_X5_skip (l : Launch) (D : va_G) (cy : Nat → ClassId) (ad : Nat → Nat) (hi : gInj 18 ad) (I : xMem) (L : xLon)  (r : xMem) (h : X5_skip I = some r) : Met l yX5_skip wsX5_skip rm_X5_skip (va_Pc [.ref (ad 0)] (mW D cy ad I L)) (mPv D cy ad r L) 0 0 (gA 18 ad) := by
  refine g_met (own := RX5) (cc := cX5_skip) (maxL := 1) (ret := none) (by decide) rfl (Nat.le_of_ble_eq_true rfl) rfl ?_
  intro p e s m args below meth c ls hx hb hml hr hlocks hown hts hG hK hZ hl
  generalize hQ : MQ below _ args s 0 0 _ = Q
  have hl : lv_has ls 1 [(0, .ref (ad 0))] := hl
  have hS : va_S (gA 18 ad) s.heap s.heap [] := va_S.rf
  have l5 : ∀ w ∈ wsX50, w.before args s = true := fun w h => hts w (List.mem_cons_of_mem _ (List.mem_append_right _ h))
  have k1 := hts (.fieldLink RX5 110 "PairStairsModel" "place" "I") (by decide +kernel)
  have k2 := hts (.fieldLink RX5 113 "PairStairsModel" "end" "I") (by decide +kernel)
  unfold X5_skip at h
  have keyK1 : ∀ (K1 : xMem → Option (xMem)), (∀ (I4 : xMem) (H : Heap) (locs : List Loc) (ls : Array Slot), K1 I4 = some r → mG D cy ad I4 L H → va_S (gA 18 ad) s.heap H locs → lv_has ls 1 [] → W p l e rm_X5_skip s m args below meth c H locs 0 0 Q (F0 m 33 ls [])) → ∀ (n2 : Nat) (I3 : xMem) (H : Heap) (locs : List Loc) (ls : Array Slot), X5_skip_L1 K1 n2 I3 = some r → mG D cy ad I3 L H → va_S (gA 18 ad) s.heap H locs → lv_has ls 1 [(0, .ref (ad 0))] → W p l e rm_X5_skip s m args below meth c H locs 0 0 Q (F0 m 0 ls []) := by
    intro K1 hkK1 n2
    induction n2 with
    | zero =>
      intro I3 H locs ls h
      exact ono h
    | succ n2 ihn2 =>
      intro I3 H locs ls h hG hS hl
      rw [X5_skip_L1] at h
      refine lv_aload_n hx hb dX5_skip_0 rfl (lv_at hl 0 rfl) ?_
      refine g_get hx hb l5 hown hK hG (k := 0) (by decide) (mE_5 _ _) vwCl_5 17 (by decide) k1 (fun _ h9 => h9) rfl dX5_skip_1 ?_
      refine lv_aload_n hx hb dX5_skip_4 rfl (lv_at hl 0 rfl) ?_
      refine g_get hx hb l5 hown hK hG (k := 0) (by decide) (mE_5 _ _) vwCl_5 18 (by decide) k2 (fun _ h9 => h9) rfl dX5_skip_5 ?_
      refine lv_icmp_ge (tgt := 33) hx hb dX5_skip_8 (by decide) (fun c5 => ?_) (fun c5 => ?_)
      · have h := ite_t h c5
        exact hkK1 I3 _ _ _ h hG hS (lv_sub hl [] rfl)
      · have h := ite_f h c5
        refine lv_aload_n hx hb dX5_skip_11 rfl (lv_at hl 0 rfl) ?_
        obtain ⟨v6, ev6, h⟩ := obind h
        refine g_endi (va_runV (As := []) (rest := []) ⟨hx, hb, hml, hown, hts⟩ (k_X5_here l D cy ad hi I3 L v6 ev6) (cwV 0 hts gX5_skip_X5_here rfl rfl rfl cd_X5_here ⟨Nat.le_of_ble_eq_true rfl, Nat.le_of_ble_eq_true rfl⟩) ⟨g_blind mZm, g_recv hK hG (k := 0) (by decide) (mE_5 _ _) vwCl_5, g_pre mZm hK hG hZ hS⟩ rfl rfl hl.1 rfl (lv_room (Nat.le_of_ble_eq_true rfl)) dX5_skip_12 ⟨Nat.le_refl _, Nat.le_refl _⟩) hS (fun H locs hG hS => ?_)
        refine lv_bipush (v := (32 : Int32)) hx hb dX5_skip_15 (by decide) ?_
        refine lv_icmp_ne (tgt := 33) hx hb dX5_skip_17 (by decide) (fun c7 => ?_) (fun c7 => ?_)
        · have h := ite_f h c7
          exact hkK1 I3 _ _ _ h hG hS (lv_sub hl [] rfl)
        · have h := ite_t h c7
          refine lv_aload_n hx hb dX5_skip_20 rfl (lv_at hl 0 rfl) ?_
          refine lv_dup hx hb dX5_skip_21 rfl ?_
          refine g_get hx hb l5 hown hK hG (k := 0) (by decide) (mE_5 _ _) vwCl_5 17 (by decide) k1 (fun _ h9 => h9) rfl dX5_skip_22 ?_
          refine lv_iconst (v := (1 : Int32)) hx hb dX5_skip_25 (by decide) ?_
          refine lv_iadd hx hb dX5_skip_26 ?_
          obtain ⟨I8, eI8, h⟩ := obind h
          refine g_put hx hb l5 tyX5_ok nmX5 hown hK hG hi hS (k := 0) (by decide) (mE_5 _ _) vwCl_5 17 (by decide) k1 (fun _ h9 => h9) rfl rfl (Nat.le_of_ble_eq_true rfl) (by rw [mE_5 _ _]; rfl) dX5_skip_27 (fun H locs hG hS => ?_)
          rw [Option.some.inj eI8] at hG
          refine lv_goto (tgt := 0) hx hb dX5_skip_30 (by decide) ?_
          exact ihn2 I8 _ _ _ h hG hS (lv_sub hl [0] rfl)
  refine keyK1 _ (fun I4 H locs ls h hG hS hl => ?_) bigF I _ _ _ h hG hS (lv_sub hl [0] rfl)
  clear keyK1
  have h := Option.some.inj h
  subst h
  subst hQ
  exact g_vret hx hb hr hlocks mZm hK hZ hG hS dX5_skip_33
def X5_figure (I : xMem) (x1 : Int32) (x2 : Int32) : Option (Int32 × xMem) := if (I 0 17) = (I 0 18) then (some ((-9 : Int32), I)) else ((X5_here I).bind fun v2 => if (X5_in v2.toInt64 (((48 : Int32) + x1).toInt64) (((48 : Int32) + x2).toInt64)) = (0 : Int32) then (some ((-9 : Int32), I)) else ((some (wr I 0 17 ((I 0 17) + (1 : Int32)))).bind fun I4 => (rdI I4 8 240 (((I4 0 16) + (I4 0 17)) - (1 : Int32))).bind fun v5 => some ((v5 - (48 : Int32)), I4)))
abbrev rm_X5_figure : Room := { frames := 1, cells := 0, slots := 0, locals := 25 }
theorem cd_X5_figure : yX5_figure.cls = RX5 ∧ yX5_figure.cls ≠ "java/lang/invoke/MethodHandle" ∧ yX5_figure.cls ≠ "java/lang/invoke/VarHandle" ∧ (parseMethodDescriptor yX5_figure.desc).map (fun d => d.parameters.length) = some 2 := by decide +kernel
set_option maxHeartbeats 4000000 in
set_option maxRecDepth 100000 in
theorem k_X5_figure (l : Launch) (D : va_G) (cy : Nat → ClassId) (ad : Nat → Nat) (hi : gInj 18 ad) (I : xMem) (L : xLon) (x1 : Int32) (x2 : Int32) (r : Int32 × xMem) (h : X5_figure I x1 x2 = some r) : Met l yX5_figure wsX5_figure rm_X5_figure (va_Pc [.ref (ad 0), .int x1, .int x2] (mW D cy ad I L)) (mPi D cy ad r.2 L r.1) 0 0 (gA 18 ad) := by
  refine g_met (own := RX5) (cc := cX5_figure) (maxL := 3) (ret := (some .int)) (by decide) rfl (Nat.le_of_ble_eq_true rfl) rfl ?_
  intro p e s m args below meth c ls hx hb hml hr hlocks hown hts hG hK hZ hl
  generalize hQ : MQ below _ args s 0 0 _ = Q
  have hl : lv_has ls 3 [(0, .ref (ad 0)), (1, .int x1), (2, .int x2)] := hl
  have hS : va_S (gA 18 ad) s.heap s.heap [] := va_S.rf
  have l5 : ∀ w ∈ wsX50, w.before args s = true := fun w h => hts w (List.mem_cons_of_mem _ (List.mem_append_right _ h))
  have k1 := hts (.fieldLink RX5 110 "PairStairsModel" "place" "I") (by decide +kernel)
  have k2 := hts (.fieldLink RX5 113 "PairStairsModel" "end" "I") (by decide +kernel)
  have k3 := hts (.fieldLink RX5 31 "PairStairsModel" "bytes" "[I") (by decide +kernel)
  have k4 := hts (.fieldLink RX5 107 "PairStairsModel" "from" "I") (by decide +kernel)
  unfold X5_figure at h
  refine lv_aload_n hx hb dX5_figure_0 rfl (lv_at hl 0 rfl) ?_
  refine g_get hx hb l5 hown hK hG (k := 0) (by decide) (mE_5 _ _) vwCl_5 17 (by decide) k1 (fun _ h9 => h9) rfl dX5_figure_1 ?_
  refine lv_aload_n hx hb dX5_figure_4 rfl (lv_at hl 0 rfl) ?_
  refine g_get hx hb l5 hown hK hG (k := 0) (by decide) (mE_5 _ _) vwCl_5 18 (by decide) k2 (fun _ h9 => h9) rfl dX5_figure_5 ?_
  refine lv_icmp_eq (tgt := 32) hx hb dX5_figure_8 (by decide) (fun c1 => ?_) (fun c1 => ?_)
  · have h := ite_t h c1
    refine lv_bipush (v := (-9 : Int32)) hx hb dX5_figure_32 (by decide) ?_
    have h := Option.some.inj h
    subst h
    subst hQ
    exact g_iret hx hb hr hlocks mZm hK hZ hG hS rfl dX5_figure_34
  · have h := ite_f h c1
    refine lv_aload_n hx hb dX5_figure_11 rfl (lv_at hl 0 rfl) ?_
    obtain ⟨v2, ev2, h⟩ := obind h
    refine g_endi (va_runV (As := []) (rest := []) ⟨hx, hb, hml, hown, hts⟩ (k_X5_here l D cy ad hi I L v2 ev2) (cwV 0 hts gX5_figure_X5_here rfl rfl rfl cd_X5_here ⟨Nat.le_of_ble_eq_true rfl, Nat.le_of_ble_eq_true rfl⟩) ⟨g_blind mZm, g_recv hK hG (k := 0) (by decide) (mE_5 _ _) vwCl_5, g_pre mZm hK hG hZ hS⟩ rfl rfl hl.1 rfl (lv_room (Nat.le_of_ble_eq_true rfl)) dX5_figure_12 ⟨Nat.le_refl _, Nat.le_refl _⟩) hS (fun H locs hG hS => ?_)
    refine lv_i2l hx hb dX5_figure_15 rfl ?_
    refine lv_bipush (v := (48 : Int32)) hx hb dX5_figure_16 (by decide) ?_
    refine lv_iload_n hx hb dX5_figure_18 rfl (lv_at hl 1 rfl) ?_
    refine lv_iadd hx hb dX5_figure_19 ?_
    refine lv_i2l hx hb dX5_figure_20 rfl ?_
    refine lv_bipush (v := (48 : Int32)) hx hb dX5_figure_21 (by decide) ?_
    refine lv_iload_n hx hb dX5_figure_23 rfl (lv_at hl 2 rfl) ?_
    refine lv_iadd hx hb dX5_figure_24 ?_
    refine lv_i2l hx hb dX5_figure_25 rfl ?_
    refine g_endi (va_runS (As := [.long v2.toInt64, .long (((48 : Int32) + x1).toInt64), .long (((48 : Int32) + x2).toInt64)]) (rest := []) ⟨hx, hb, hml, hown, hts⟩ (k_X5_in l D cy ad hi I L v2.toInt64 (((48 : Int32) + x1).toInt64) (((48 : Int32) + x2).toInt64) _ rfl) (va_cwS 3 hts gX5_figure_X5_in rfl rfl rfl cd_X5_in.2 ⟨Nat.le_of_ble_eq_true rfl, Nat.le_of_ble_eq_true rfl⟩) ⟨g_blind mZm, g_pre mZm hK hG hZ hS⟩ rfl rfl hl.1 rfl (lv_room (Nat.le_of_ble_eq_true rfl)) dX5_figure_26 ⟨Nat.le_refl _, Nat.le_refl _⟩) hS (fun H locs hG hS => ?_)
    refine lv_if_ne (tgt := 35) hx hb dX5_figure_29 (by decide) (fun c3 => ?_) (fun c3 => ?_)
    · have h := ite_f h c3
      refine lv_aload_n hx hb dX5_figure_35 rfl (lv_at hl 0 rfl) ?_
      refine lv_dup hx hb dX5_figure_36 rfl ?_
      refine g_get hx hb l5 hown hK hG (k := 0) (by decide) (mE_5 _ _) vwCl_5 17 (by decide) k1 (fun _ h9 => h9) rfl dX5_figure_37 ?_
      refine lv_iconst (v := (1 : Int32)) hx hb dX5_figure_40 (by decide) ?_
      refine lv_iadd hx hb dX5_figure_41 ?_
      obtain ⟨I4, eI4, h⟩ := obind h
      refine g_put hx hb l5 tyX5_ok nmX5 hown hK hG hi hS (k := 0) (by decide) (mE_5 _ _) vwCl_5 17 (by decide) k1 (fun _ h9 => h9) rfl rfl (Nat.le_of_ble_eq_true rfl) (by rw [mE_5 _ _]; rfl) dX5_figure_42 (fun H locs hG hS => ?_)
      rw [Option.some.inj eI4] at hG
      refine lv_aload_n hx hb dX5_figure_45 rfl (lv_at hl 0 rfl) ?_
      refine g_get hx hb l5 hown hK hG (k := 0) (by decide) (mE_5 _ _) vwCl_5 10 (by decide) k3 (fun _ h9 => h9) rfl dX5_figure_46 ?_
      refine lv_aload_n hx hb dX5_figure_49 rfl (lv_at hl 0 rfl) ?_
      refine g_get hx hb l5 hown hK hG (k := 0) (by decide) (mE_5 _ _) vwCl_5 16 (by decide) k4 (fun _ h9 => h9) rfl dX5_figure_50 ?_
      refine lv_aload_n hx hb dX5_figure_53 rfl (lv_at hl 0 rfl) ?_
      refine g_get hx hb l5 hown hK hG (k := 0) (by decide) (mE_5 _ _) vwCl_5 17 (by decide) k1 (fun _ h9 => h9) rfl dX5_figure_54 ?_
      refine lv_iadd hx hb dX5_figure_57 ?_
      refine lv_iconst (v := (1 : Int32)) hx hb dX5_figure_58 (by decide) ?_
      refine lv_isub hx hb dX5_figure_59 ?_
      refine g_ald hx hb hK hG (k := 8) (n := 240) (show mIA 8 240 from by decide +kernel).1.1 (mIA_e (show mIA 8 240 from by decide +kernel) _ _) 0 rfl h dX5_figure_60 (fun v5 h => ?_)
      refine lv_bipush (v := (48 : Int32)) hx hb dX5_figure_61 (by decide) ?_
      refine lv_isub hx hb dX5_figure_63 ?_
      have h := Option.some.inj h
      subst h
      subst hQ
      exact g_iret hx hb hr hlocks mZm hK hZ hG hS rfl dX5_figure_64
    · have h := ite_t h c3
      refine lv_bipush (v := (-9 : Int32)) hx hb dX5_figure_32 (by decide) ?_
      have h := Option.some.inj h
      subst h
      subst hQ
      exact g_iret hx hb hr hlocks mZm hK hZ hG hS rfl dX5_figure_34
def X5_readsLimit (I : xMem) : Option (Int32 × xMem) := (X5_skip I).bind fun q1 => if (q1 0 17) = (q1 0 18) then (some ((nz (0 : Int32)), q1)) else ((X5_here q1).bind fun v3 => if v3 = (120 : Int32) then ((some (wr q1 0 17 ((q1 0 17) + (1 : Int32)))).bind fun I5 => (X5_figure I5 (0 : Int32) (9 : Int32)).bind fun q6 => (some (wr q6.2 0 19 q6.1)).bind fun I7 => if (I7 0 19) = (-9 : Int32) then (some ((nz (0 : Int32)), I7)) else (some ((nz (1 : Int32)), I7))) else (some ((nz (0 : Int32)), q1)))
abbrev rm_X5_readsLimit : Room := { frames := 2, cells := 0, slots := 0, locals := 47 }
theorem cd_X5_readsLimit : yX5_readsLimit.cls = RX5 ∧ yX5_readsLimit.cls ≠ "java/lang/invoke/MethodHandle" ∧ yX5_readsLimit.cls ≠ "java/lang/invoke/VarHandle" ∧ (parseMethodDescriptor yX5_readsLimit.desc).map (fun d => d.parameters.length) = some 0 := by decide +kernel
set_option maxHeartbeats 4000000 in
set_option maxRecDepth 100000 in
theorem k_X5_readsLimit (l : Launch) (D : va_G) (cy : Nat → ClassId) (ad : Nat → Nat) (hi : gInj 18 ad) (I : xMem) (L : xLon)  (r : Int32 × xMem) (h : X5_readsLimit I = some r) : Met l yX5_readsLimit wsX5_readsLimit rm_X5_readsLimit (va_Pc [.ref (ad 0)] (mW D cy ad I L)) (mPi D cy ad r.2 L r.1) 0 0 (gA 18 ad) := by
  refine g_met (own := RX5) (cc := cX5_readsLimit) (maxL := 1) (ret := (some .boolean)) (by decide) rfl (Nat.le_of_ble_eq_true rfl) rfl ?_
  intro p e s m args below meth c ls hx hb hml hr hlocks hown hts hG hK hZ hl
  generalize hQ : MQ below _ args s 0 0 _ = Q
  have hl : lv_has ls 1 [(0, .ref (ad 0))] := hl
  have hS : va_S (gA 18 ad) s.heap s.heap [] := va_S.rf
  have l5 : ∀ w ∈ wsX50, w.before args s = true := fun w h => hts w (List.mem_cons_of_mem _ (List.mem_append_right _ h))
  have k1 := hts (.fieldLink RX5 110 "PairStairsModel" "place" "I") (by decide +kernel)
  have k2 := hts (.fieldLink RX5 113 "PairStairsModel" "end" "I") (by decide +kernel)
  have k3 := hts (.fieldLink RX5 126 "PairStairsModel" "readLimit" "I") (by decide +kernel)
  unfold X5_readsLimit at h
  refine lv_aload_n hx hb dX5_readsLimit_0 rfl (lv_at hl 0 rfl) ?_
  obtain ⟨q1, eq1, h⟩ := obind h
  refine g_endv (va_runV (As := []) (rest := []) ⟨hx, hb, hml, hown, hts⟩ (k_X5_skip l D cy ad hi I L q1 eq1) (cwV 0 hts gX5_readsLimit_X5_skip rfl rfl rfl cd_X5_skip ⟨Nat.le_of_ble_eq_true rfl, Nat.le_of_ble_eq_true rfl⟩) ⟨g_blind mZm, g_recv hK hG (k := 0) (by decide) (mE_5 _ _) vwCl_5, g_pre mZm hK hG hZ hS⟩ rfl rfl hl.1 rfl (lv_room (Nat.le_of_ble_eq_true rfl)) dX5_readsLimit_1 ⟨Nat.le_refl _, Nat.le_refl _⟩) hS (fun H locs hG hS => ?_)
  refine lv_aload_n hx hb dX5_readsLimit_4 rfl (lv_at hl 0 rfl) ?_
  refine g_get hx hb l5 hown hK hG (k := 0) (by decide) (mE_5 _ _) vwCl_5 17 (by decide) k1 (fun _ h9 => h9) rfl dX5_readsLimit_5 ?_
  refine lv_aload_n hx hb dX5_readsLimit_8 rfl (lv_at hl 0 rfl) ?_
  refine g_get hx hb l5 hown hK hG (k := 0) (by decide) (mE_5 _ _) vwCl_5 18 (by decide) k2 (fun _ h9 => h9) rfl dX5_readsLimit_9 ?_
  refine lv_icmp_eq (tgt := 24) hx hb dX5_readsLimit_12 (by decide) (fun c2 => ?_) (fun c2 => ?_)
  · have h := ite_t h c2
    refine lv_iconst (v := (0 : Int32)) hx hb dX5_readsLimit_24 (by decide) ?_
    have h := Option.some.inj h
    subst h
    subst hQ
    exact g_zret hx hb hr hlocks mZm hK hZ hG hS rfl dX5_readsLimit_25
  · have h := ite_f h c2
    refine lv_aload_n hx hb dX5_readsLimit_15 rfl (lv_at hl 0 rfl) ?_
    obtain ⟨v3, ev3, h⟩ := obind h
    refine g_endi (va_runV (As := []) (rest := []) ⟨hx, hb, hml, hown, hts⟩ (k_X5_here l D cy ad hi q1 L v3 ev3) (cwV 0 hts gX5_readsLimit_X5_here rfl rfl rfl cd_X5_here ⟨Nat.le_of_ble_eq_true rfl, Nat.le_of_ble_eq_true rfl⟩) ⟨g_blind mZm, g_recv hK hG (k := 0) (by decide) (mE_5 _ _) vwCl_5, g_pre mZm hK hG hZ hS⟩ rfl rfl hl.1 rfl (lv_room (Nat.le_of_ble_eq_true rfl)) dX5_readsLimit_16 ⟨Nat.le_refl _, Nat.le_refl _⟩) hS (fun H locs hG hS => ?_)
    refine lv_bipush (v := (120 : Int32)) hx hb dX5_readsLimit_19 (by decide) ?_
    refine lv_icmp_eq (tgt := 26) hx hb dX5_readsLimit_21 (by decide) (fun c4 => ?_) (fun c4 => ?_)
    · have h := ite_t h c4
      refine lv_aload_n hx hb dX5_readsLimit_26 rfl (lv_at hl 0 rfl) ?_
      refine lv_dup hx hb dX5_readsLimit_27 rfl ?_
      refine g_get hx hb l5 hown hK hG (k := 0) (by decide) (mE_5 _ _) vwCl_5 17 (by decide) k1 (fun _ h9 => h9) rfl dX5_readsLimit_28 ?_
      refine lv_iconst (v := (1 : Int32)) hx hb dX5_readsLimit_31 (by decide) ?_
      refine lv_iadd hx hb dX5_readsLimit_32 ?_
      obtain ⟨I5, eI5, h⟩ := obind h
      refine g_put hx hb l5 tyX5_ok nmX5 hown hK hG hi hS (k := 0) (by decide) (mE_5 _ _) vwCl_5 17 (by decide) k1 (fun _ h9 => h9) rfl rfl (Nat.le_of_ble_eq_true rfl) (by rw [mE_5 _ _]; rfl) dX5_readsLimit_33 (fun H locs hG hS => ?_)
      rw [Option.some.inj eI5] at hG
      refine lv_aload_n hx hb dX5_readsLimit_36 rfl (lv_at hl 0 rfl) ?_
      refine lv_aload_n hx hb dX5_readsLimit_37 rfl (lv_at hl 0 rfl) ?_
      refine lv_iconst (v := (0 : Int32)) hx hb dX5_readsLimit_38 (by decide) ?_
      refine lv_bipush (v := (9 : Int32)) hx hb dX5_readsLimit_39 (by decide) ?_
      obtain ⟨q6, eq6, h⟩ := obind h
      refine g_endi (va_runV (As := [.int (0 : Int32), .int (9 : Int32)]) (rest := [.ref (ad 0)]) ⟨hx, hb, hml, hown, hts⟩ (k_X5_figure l D cy ad hi I5 L (0 : Int32) (9 : Int32) q6 eq6) (cwV 2 hts gX5_readsLimit_X5_figure rfl rfl rfl cd_X5_figure ⟨Nat.le_of_ble_eq_true rfl, Nat.le_of_ble_eq_true rfl⟩) ⟨g_blind mZm, g_recv hK hG (k := 0) (by decide) (mE_5 _ _) vwCl_5, g_pre mZm hK hG hZ hS⟩ rfl rfl hl.1 rfl (lv_room (Nat.le_of_ble_eq_true rfl)) dX5_readsLimit_41 ⟨Nat.le_refl _, Nat.le_refl _⟩) hS (fun H locs hG hS => ?_)
      obtain ⟨I7, eI7, h⟩ := obind h
      refine g_put hx hb l5 tyX5_ok nmX5 hown hK hG hi hS (k := 0) (by decide) (mE_5 _ _) vwCl_5 19 (by decide) k3 (fun _ h9 => h9) rfl rfl (Nat.le_of_ble_eq_true rfl) (by rw [mE_5 _ _]; rfl) dX5_readsLimit_44 (fun H locs hG hS => ?_)
      rw [Option.some.inj eI7] at hG
      refine lv_aload_n hx hb dX5_readsLimit_47 rfl (lv_at hl 0 rfl) ?_
      refine g_get hx hb l5 hown hK hG (k := 0) (by decide) (mE_5 _ _) vwCl_5 19 (by decide) k3 (fun _ h9 => h9) rfl dX5_readsLimit_48 ?_
      refine lv_bipush (v := (-9 : Int32)) hx hb dX5_readsLimit_51 (by decide) ?_
      refine lv_icmp_eq (tgt := 60) hx hb dX5_readsLimit_53 (by decide) (fun c8 => ?_) (fun c8 => ?_)
      · have h := ite_t h c8
        refine lv_iconst (v := (0 : Int32)) hx hb dX5_readsLimit_60 (by decide) ?_
        have h := Option.some.inj h
        subst h
        subst hQ
        exact g_zret hx hb hr hlocks mZm hK hZ hG hS rfl dX5_readsLimit_61
      · have h := ite_f h c8
        refine lv_iconst (v := (1 : Int32)) hx hb dX5_readsLimit_56 (by decide) ?_
        refine lv_goto (tgt := 61) hx hb dX5_readsLimit_57 (by decide) ?_
        have h := Option.some.inj h
        subst h
        subst hQ
        exact g_zret hx hb hr hlocks mZm hK hZ hG hS rfl dX5_readsLimit_61
    · have h := ite_f h c4
      refine lv_iconst (v := (0 : Int32)) hx hb dX5_readsLimit_24 (by decide) ?_
      have h := Option.some.inj h
      subst h
      subst hQ
      exact g_zret hx hb hr hlocks mZm hK hZ hG hS rfl dX5_readsLimit_25
def X5_readsStone (I : xMem) : Option (Int32 × xMem) := if (I 0 21) = (4 : Int32) then (some ((nz (0 : Int32)), I)) else (if (I 0 23) ≤ (0 : Int32) then ((some (wr I 0 17 ((I 0 17) + (1 : Int32)))).bind fun I3 => (X5_figure I3 (1 : Int32) (9 : Int32)).bind fun q4 => if q4.1 = (-9 : Int32) then (some ((nz (0 : Int32)), q4.2)) else ((wrI q4.2 10 4 (q4.2 0 21) q4.1).bind fun I6 => (some (wr I6 0 21 ((I6 0 21) + (1 : Int32)))).bind fun I7 => some ((nz (1 : Int32)), I7))) else (some ((nz (0 : Int32)), I)))
abbrev rm_X5_readsStone : Room := { frames := 2, cells := 0, slots := 0, locals := 47 }
theorem cd_X5_readsStone : yX5_readsStone.cls = RX5 ∧ yX5_readsStone.cls ≠ "java/lang/invoke/MethodHandle" ∧ yX5_readsStone.cls ≠ "java/lang/invoke/VarHandle" ∧ (parseMethodDescriptor yX5_readsStone.desc).map (fun d => d.parameters.length) = some 0 := by decide +kernel
set_option maxHeartbeats 4000000 in
set_option maxRecDepth 100000 in
theorem k_X5_readsStone (l : Launch) (D : va_G) (cy : Nat → ClassId) (ad : Nat → Nat) (hi : gInj 18 ad) (I : xMem) (L : xLon)  (r : Int32 × xMem) (h : X5_readsStone I = some r) : Met l yX5_readsStone wsX5_readsStone rm_X5_readsStone (va_Pc [.ref (ad 0)] (mW D cy ad I L)) (mPi D cy ad r.2 L r.1) 0 0 (gA 18 ad) := by
  refine g_met (own := RX5) (cc := cX5_readsStone) (maxL := 2) (ret := (some .boolean)) (by decide) rfl (Nat.le_of_ble_eq_true rfl) rfl ?_
  intro p e s m args below meth c ls hx hb hml hr hlocks hown hts hG hK hZ hl
  generalize hQ : MQ below _ args s 0 0 _ = Q
  have hl : lv_has ls 2 [(0, .ref (ad 0))] := hl
  have hS : va_S (gA 18 ad) s.heap s.heap [] := va_S.rf
  have l5 : ∀ w ∈ wsX50, w.before args s = true := fun w h => hts w (List.mem_cons_of_mem _ (List.mem_append_right _ h))
  have k1 := hts (.fieldLink RX5 129 "PairStairsModel" "readStoneMany" "I") (by decide +kernel)
  have k2 := hts (.fieldLink RX5 132 "PairStairsModel" "readMany" "I") (by decide +kernel)
  have k3 := hts (.fieldLink RX5 110 "PairStairsModel" "place" "I") (by decide +kernel)
  have k4 := hts (.fieldLink RX5 41 "PairStairsModel" "readStones" "[I") (by decide +kernel)
  unfold X5_readsStone at h
  refine lv_aload_n hx hb dX5_readsStone_0 rfl (lv_at hl 0 rfl) ?_
  refine g_get hx hb l5 hown hK hG (k := 0) (by decide) (mE_5 _ _) vwCl_5 21 (by decide) k1 (fun _ h9 => h9) rfl dX5_readsStone_1 ?_
  refine lv_iconst (v := (4 : Int32)) hx hb dX5_readsStone_4 (by decide) ?_
  refine lv_icmp_eq (tgt := 15) hx hb dX5_readsStone_5 (by decide) (fun c1 => ?_) (fun c1 => ?_)
  · have h := ite_t h c1
    refine lv_iconst (v := (0 : Int32)) hx hb dX5_readsStone_15 (by decide) ?_
    have h := Option.some.inj h
    subst h
    subst hQ
    exact g_zret hx hb hr hlocks mZm hK hZ hG hS rfl dX5_readsStone_16
  · have h := ite_f h c1
    refine lv_aload_n hx hb dX5_readsStone_8 rfl (lv_at hl 0 rfl) ?_
    refine g_get hx hb l5 hown hK hG (k := 0) (by decide) (mE_5 _ _) vwCl_5 23 (by decide) k2 (fun _ h9 => h9) rfl dX5_readsStone_9 ?_
    refine lv_if_le (tgt := 17) hx hb dX5_readsStone_12 (by decide) (fun c2 => ?_) (fun c2 => ?_)
    · have h := ite_t h c2
      refine lv_aload_n hx hb dX5_readsStone_17 rfl (lv_at hl 0 rfl) ?_
      refine lv_dup hx hb dX5_readsStone_18 rfl ?_
      refine g_get hx hb l5 hown hK hG (k := 0) (by decide) (mE_5 _ _) vwCl_5 17 (by decide) k3 (fun _ h9 => h9) rfl dX5_readsStone_19 ?_
      refine lv_iconst (v := (1 : Int32)) hx hb dX5_readsStone_22 (by decide) ?_
      refine lv_iadd hx hb dX5_readsStone_23 ?_
      obtain ⟨I3, eI3, h⟩ := obind h
      refine g_put hx hb l5 tyX5_ok nmX5 hown hK hG hi hS (k := 0) (by decide) (mE_5 _ _) vwCl_5 17 (by decide) k3 (fun _ h9 => h9) rfl rfl (Nat.le_of_ble_eq_true rfl) (by rw [mE_5 _ _]; rfl) dX5_readsStone_24 (fun H locs hG hS => ?_)
      rw [Option.some.inj eI3] at hG
      refine lv_aload_n hx hb dX5_readsStone_27 rfl (lv_at hl 0 rfl) ?_
      refine lv_iconst (v := (1 : Int32)) hx hb dX5_readsStone_28 (by decide) ?_
      refine lv_bipush (v := (9 : Int32)) hx hb dX5_readsStone_29 (by decide) ?_
      obtain ⟨q4, eq4, h⟩ := obind h
      refine g_endi (va_runV (As := [.int (1 : Int32), .int (9 : Int32)]) (rest := []) ⟨hx, hb, hml, hown, hts⟩ (k_X5_figure l D cy ad hi I3 L (1 : Int32) (9 : Int32) q4 eq4) (cwV 2 hts gX5_readsStone_X5_figure rfl rfl rfl cd_X5_figure ⟨Nat.le_of_ble_eq_true rfl, Nat.le_of_ble_eq_true rfl⟩) ⟨g_blind mZm, g_recv hK hG (k := 0) (by decide) (mE_5 _ _) vwCl_5, g_pre mZm hK hG hZ hS⟩ rfl rfl hl.1 rfl (lv_room (Nat.le_of_ble_eq_true rfl)) dX5_readsStone_31 ⟨Nat.le_refl _, Nat.le_refl _⟩) hS (fun H locs hG hS => ?_)
      refine lv_istore_n (lv' := [(1, .int q4.1), (0, .ref (ad 0))]) hx hb dX5_readsStone_34 rfl hl (by decide) rfl (fun ls hl => ?_)
      refine lv_iload_n hx hb dX5_readsStone_35 rfl (lv_at hl 0 rfl) ?_
      refine lv_bipush (v := (-9 : Int32)) hx hb dX5_readsStone_36 (by decide) ?_
      refine lv_icmp_ne (tgt := 43) hx hb dX5_readsStone_38 (by decide) (fun c5 => ?_) (fun c5 => ?_)
      · have h := ite_f h c5
        refine lv_aload_n hx hb dX5_readsStone_43 rfl (lv_at hl 1 rfl) ?_
        refine g_get hx hb l5 hown hK hG (k := 0) (by decide) (mE_5 _ _) vwCl_5 20 (by decide) k4 (fun _ h9 => h9) rfl dX5_readsStone_44 ?_
        refine lv_aload_n hx hb dX5_readsStone_47 rfl (lv_at hl 1 rfl) ?_
        refine g_get hx hb l5 hown hK hG (k := 0) (by decide) (mE_5 _ _) vwCl_5 21 (by decide) k1 (fun _ h9 => h9) rfl dX5_readsStone_48 ?_
        refine lv_iload_n hx hb dX5_readsStone_51 rfl (lv_at hl 0 rfl) ?_
        refine g_ast hx hb hK hG hi hS (k := 10) (n := 4) (show mIA 10 4 from by decide +kernel).1.1 (fun f => mIA_e (show mIA 10 4 from by decide +kernel) f _) 0 rfl h dX5_readsStone_52 (fun I6 H locs h hG hS => ?_)
        refine lv_aload_n hx hb dX5_readsStone_53 rfl (lv_at hl 1 rfl) ?_
        refine lv_dup hx hb dX5_readsStone_54 rfl ?_
        refine g_get hx hb l5 hown hK hG (k := 0) (by decide) (mE_5 _ _) vwCl_5 21 (by decide) k1 (fun _ h9 => h9) rfl dX5_readsStone_55 ?_
        refine lv_iconst (v := (1 : Int32)) hx hb dX5_readsStone_58 (by decide) ?_
        refine lv_iadd hx hb dX5_readsStone_59 ?_
        obtain ⟨I7, eI7, h⟩ := obind h
        refine g_put hx hb l5 tyX5_ok nmX5 hown hK hG hi hS (k := 0) (by decide) (mE_5 _ _) vwCl_5 21 (by decide) k1 (fun _ h9 => h9) rfl rfl (Nat.le_of_ble_eq_true rfl) (by rw [mE_5 _ _]; rfl) dX5_readsStone_60 (fun H locs hG hS => ?_)
        rw [Option.some.inj eI7] at hG
        refine lv_iconst (v := (1 : Int32)) hx hb dX5_readsStone_63 (by decide) ?_
        have h := Option.some.inj h
        subst h
        subst hQ
        exact g_zret hx hb hr hlocks mZm hK hZ hG hS rfl dX5_readsStone_64
      · have h := ite_t h c5
        refine lv_iconst (v := (0 : Int32)) hx hb dX5_readsStone_41 (by decide) ?_
        have h := Option.some.inj h
        subst h
        subst hQ
        exact g_zret hx hb hr hlocks mZm hK hZ hG hS rfl dX5_readsStone_42
    · have h := ite_f h c2
      refine lv_iconst (v := (0 : Int32)) hx hb dX5_readsStone_15 (by decide) ?_
      have h := Option.some.inj h
      subst h
      subst hQ
      exact g_zret hx hb hr hlocks mZm hK hZ hG hS rfl dX5_readsStone_16
def X5_kindOfLetter (x1 : Int32) : Int32 := if x1 = (103 : Int32) then ((0 : Int32)) else (if x1 = (116 : Int32) then ((1 : Int32)) else (if x1 = (99 : Int32) then ((2 : Int32)) else (if x1 = (108 : Int32) then ((3 : Int32)) else (if x1 = (110 : Int32) then ((4 : Int32)) else (if x1 = (98 : Int32) then ((5 : Int32)) else ((-9 : Int32)))))))
abbrev rm_X5_kindOfLetter : Room := { frames := 0, cells := 0, slots := 0, locals := 0 }
theorem cd_X5_kindOfLetter : yX5_kindOfLetter.cls = RX5 ∧ yX5_kindOfLetter.cls ≠ "java/lang/invoke/MethodHandle" ∧ yX5_kindOfLetter.cls ≠ "java/lang/invoke/VarHandle" ∧ (parseMethodDescriptor yX5_kindOfLetter.desc).map (fun d => d.parameters.length) = some 1 := by decide +kernel
set_option maxHeartbeats 4000000 in
set_option maxRecDepth 100000 in
theorem k_X5_kindOfLetter (l : Launch) (D : va_G) (cy : Nat → ClassId) (ad : Nat → Nat) (hi : gInj 18 ad) (I : xMem) (L : xLon) (x1 : Int32) (r : Int32) (h : X5_kindOfLetter x1 = r) : Met l yX5_kindOfLetter wsX5_kindOfLetter rm_X5_kindOfLetter (va_Pc [.int x1] (mW D cy ad I L)) (mPi D cy ad I L r) 0 0 (gA 18 ad) := by
  refine g_met (own := RX5) (cc := cX5_kindOfLetter) (maxL := 1) (ret := (some .int)) (by decide) rfl (Nat.le_of_ble_eq_true rfl) rfl ?_
  intro p e s m args below meth c ls hx hb hml hr hlocks hown hts hG hK hZ hl
  generalize hQ : MQ below _ args s 0 0 _ = Q
  have hl : lv_has ls 1 [(0, .int x1)] := hl
  have hS : va_S (gA 18 ad) s.heap s.heap [] := va_S.rf
  unfold X5_kindOfLetter at h
  refine lv_iload_n hx hb dX5_kindOfLetter_0 rfl (lv_at hl 0 rfl) ?_
  refine lv_bipush (v := (103 : Int32)) hx hb dX5_kindOfLetter_1 (by decide) ?_
  refine lv_icmp_ne (tgt := 10) hx hb dX5_kindOfLetter_3 (by decide) (fun c1 => ?_) (fun c1 => ?_)
  · have h := ite_f h c1
    refine lv_iload_n hx hb dX5_kindOfLetter_10 rfl (lv_at hl 0 rfl) ?_
    refine lv_bipush (v := (116 : Int32)) hx hb dX5_kindOfLetter_11 (by decide) ?_
    refine lv_icmp_ne (tgt := 20) hx hb dX5_kindOfLetter_13 (by decide) (fun c2 => ?_) (fun c2 => ?_)
    · have h := ite_f h c2
      refine lv_iload_n hx hb dX5_kindOfLetter_20 rfl (lv_at hl 0 rfl) ?_
      refine lv_bipush (v := (99 : Int32)) hx hb dX5_kindOfLetter_21 (by decide) ?_
      refine lv_icmp_ne (tgt := 30) hx hb dX5_kindOfLetter_23 (by decide) (fun c3 => ?_) (fun c3 => ?_)
      · have h := ite_f h c3
        refine lv_iload_n hx hb dX5_kindOfLetter_30 rfl (lv_at hl 0 rfl) ?_
        refine lv_bipush (v := (108 : Int32)) hx hb dX5_kindOfLetter_31 (by decide) ?_
        refine lv_icmp_ne (tgt := 40) hx hb dX5_kindOfLetter_33 (by decide) (fun c4 => ?_) (fun c4 => ?_)
        · have h := ite_f h c4
          refine lv_iload_n hx hb dX5_kindOfLetter_40 rfl (lv_at hl 0 rfl) ?_
          refine lv_bipush (v := (110 : Int32)) hx hb dX5_kindOfLetter_41 (by decide) ?_
          refine lv_icmp_ne (tgt := 50) hx hb dX5_kindOfLetter_43 (by decide) (fun c5 => ?_) (fun c5 => ?_)
          · have h := ite_f h c5
            refine lv_iload_n hx hb dX5_kindOfLetter_50 rfl (lv_at hl 0 rfl) ?_
            refine lv_bipush (v := (98 : Int32)) hx hb dX5_kindOfLetter_51 (by decide) ?_
            refine lv_icmp_ne (tgt := 60) hx hb dX5_kindOfLetter_53 (by decide) (fun c6 => ?_) (fun c6 => ?_)
            · have h := ite_f h c6
              refine lv_bipush (v := (-9 : Int32)) hx hb dX5_kindOfLetter_60 (by decide) ?_
              subst h
              subst hQ
              exact g_iret hx hb hr hlocks mZm hK hZ hG hS rfl dX5_kindOfLetter_62
            · have h := ite_t h c6
              refine lv_iconst (v := (5 : Int32)) hx hb dX5_kindOfLetter_56 (by decide) ?_
              refine lv_goto (tgt := 62) hx hb dX5_kindOfLetter_57 (by decide) ?_
              subst h
              subst hQ
              exact g_iret hx hb hr hlocks mZm hK hZ hG hS rfl dX5_kindOfLetter_62
          · have h := ite_t h c5
            refine lv_iconst (v := (4 : Int32)) hx hb dX5_kindOfLetter_46 (by decide) ?_
            refine lv_goto (tgt := 62) hx hb dX5_kindOfLetter_47 (by decide) ?_
            subst h
            subst hQ
            exact g_iret hx hb hr hlocks mZm hK hZ hG hS rfl dX5_kindOfLetter_62
        · have h := ite_t h c4
          refine lv_iconst (v := (3 : Int32)) hx hb dX5_kindOfLetter_36 (by decide) ?_
          refine lv_goto (tgt := 62) hx hb dX5_kindOfLetter_37 (by decide) ?_
          subst h
          subst hQ
          exact g_iret hx hb hr hlocks mZm hK hZ hG hS rfl dX5_kindOfLetter_62
      · have h := ite_t h c3
        refine lv_iconst (v := (2 : Int32)) hx hb dX5_kindOfLetter_26 (by decide) ?_
        refine lv_goto (tgt := 62) hx hb dX5_kindOfLetter_27 (by decide) ?_
        subst h
        subst hQ
        exact g_iret hx hb hr hlocks mZm hK hZ hG hS rfl dX5_kindOfLetter_62
    · have h := ite_t h c2
      refine lv_iconst (v := (1 : Int32)) hx hb dX5_kindOfLetter_16 (by decide) ?_
      refine lv_goto (tgt := 62) hx hb dX5_kindOfLetter_17 (by decide) ?_
      subst h
      subst hQ
      exact g_iret hx hb hr hlocks mZm hK hZ hG hS rfl dX5_kindOfLetter_62
  · have h := ite_t h c1
    refine lv_iconst (v := (0 : Int32)) hx hb dX5_kindOfLetter_6 (by decide) ?_
    refine lv_goto (tgt := 62) hx hb dX5_kindOfLetter_7 (by decide) ?_
    subst h
    subst hQ
    exact g_iret hx hb hr hlocks mZm hK hZ hG hS rfl dX5_kindOfLetter_62
def X5_readsOne (I : xMem) : Option (Int32 × xMem) := (X5_here I).bind fun v1 => if (X5_kindOfLetter v1) = (-9 : Int32) then (some ((nz (0 : Int32)), I)) else (if (I 0 23) = (6 : Int32) then (some ((nz (0 : Int32)), I)) else ((some (wr I 0 17 ((I 0 17) + (1 : Int32)))).bind fun I4 => (X5_figure I4 (0 : Int32) (9 : Int32)).bind fun q5 => (if q5.1 = (-9 : Int32) then (some ((-9 : Int32), q5.2)) else ((if q5.1 = (0 : Int32) then (some (1 : Int32)) else (some (0 : Int32))).bind fun q8 => (X5_figure q5.2 q8 (9 : Int32)).bind fun q10 => some (q10.1, q10.2))).bind fun q6 => if q6.1 = (-9 : Int32) then (some ((nz (0 : Int32)), q6.2)) else ((wrI q6.2 11 12 ((2 : Int32) * (q6.2 0 23)) (X5_kindOfLetter v1)).bind fun I12 => (wrI I12 11 12 (((2 : Int32) * (I12 0 23)) + (1 : Int32)) (((10 : Int32) * q5.1) + q6.1)).bind fun I13 => (some (wr I13 0 23 ((I13 0 23) + (1 : Int32)))).bind fun I14 => some ((nz (1 : Int32)), I14))))
abbrev rm_X5_readsOne : Room := { frames := 2, cells := 0, slots := 0, locals := 47 }
theorem cd_X5_readsOne : yX5_readsOne.cls = RX5 ∧ yX5_readsOne.cls ≠ "java/lang/invoke/MethodHandle" ∧ yX5_readsOne.cls ≠ "java/lang/invoke/VarHandle" ∧ (parseMethodDescriptor yX5_readsOne.desc).map (fun d => d.parameters.length) = some 0 := by decide +kernel
set_option maxHeartbeats 4000000 in
set_option maxRecDepth 100000 in
theorem k_X5_readsOne (l : Launch) (D : va_G) (cy : Nat → ClassId) (ad : Nat → Nat) (hi : gInj 18 ad) (I : xMem) (L : xLon)  (r : Int32 × xMem) (h : X5_readsOne I = some r) : Met l yX5_readsOne wsX5_readsOne rm_X5_readsOne (va_Pc [.ref (ad 0)] (mW D cy ad I L)) (mPi D cy ad r.2 L r.1) 0 0 (gA 18 ad) := by
  refine g_met (own := RX5) (cc := cX5_readsOne) (maxL := 4) (ret := (some .boolean)) (by decide) rfl (Nat.le_of_ble_eq_true rfl) rfl ?_
  intro p e s m args below meth c ls hx hb hml hr hlocks hown hts hG hK hZ hl
  generalize hQ : MQ below _ args s 0 0 _ = Q
  have hl : lv_has ls 4 [(0, .ref (ad 0))] := hl
  have hS : va_S (gA 18 ad) s.heap s.heap [] := va_S.rf
  have l5 : ∀ w ∈ wsX50, w.before args s = true := fun w h => hts w (List.mem_cons_of_mem _ (List.mem_append_right _ h))
  have k1 := hts (.fieldLink RX5 132 "PairStairsModel" "readMany" "I") (by decide +kernel)
  have k2 := hts (.fieldLink RX5 110 "PairStairsModel" "place" "I") (by decide +kernel)
  have k3 := hts (.fieldLink RX5 44 "PairStairsModel" "readPeople" "[I") (by decide +kernel)
  unfold X5_readsOne at h
  refine lv_aload_n hx hb dX5_readsOne_0 rfl (lv_at hl 0 rfl) ?_
  obtain ⟨v1, ev1, h⟩ := obind h
  refine g_endi (va_runV (As := []) (rest := []) ⟨hx, hb, hml, hown, hts⟩ (k_X5_here l D cy ad hi I L v1 ev1) (cwV 0 hts gX5_readsOne_X5_here rfl rfl rfl cd_X5_here ⟨Nat.le_of_ble_eq_true rfl, Nat.le_of_ble_eq_true rfl⟩) ⟨g_blind mZm, g_recv hK hG (k := 0) (by decide) (mE_5 _ _) vwCl_5, g_pre mZm hK hG hZ hS⟩ rfl rfl hl.1 rfl (lv_room (Nat.le_of_ble_eq_true rfl)) dX5_readsOne_1 ⟨Nat.le_refl _, Nat.le_refl _⟩) hS (fun H locs hG hS => ?_)
  refine g_endi (va_runS (As := [.int v1]) (rest := []) ⟨hx, hb, hml, hown, hts⟩ (k_X5_kindOfLetter l D cy ad hi I L v1 _ rfl) (va_cwS 1 hts gX5_readsOne_X5_kindOfLetter rfl rfl rfl cd_X5_kindOfLetter.2 ⟨Nat.le_of_ble_eq_true rfl, Nat.le_of_ble_eq_true rfl⟩) ⟨g_blind mZm, g_pre mZm hK hG hZ hS⟩ rfl rfl hl.1 rfl (lv_room (Nat.le_of_ble_eq_true rfl)) dX5_readsOne_4 ⟨Nat.le_refl _, Nat.le_refl _⟩) hS (fun H locs hG hS => ?_)
  refine lv_istore_n (lv' := [(1, .int (X5_kindOfLetter v1)), (0, .ref (ad 0))]) hx hb dX5_readsOne_7 rfl hl (by decide) rfl (fun ls hl => ?_)
  refine lv_iload_n hx hb dX5_readsOne_8 rfl (lv_at hl 0 rfl) ?_
  refine lv_bipush (v := (-9 : Int32)) hx hb dX5_readsOne_9 (by decide) ?_
  refine lv_icmp_eq (tgt := 23) hx hb dX5_readsOne_11 (by decide) (fun c2 => ?_) (fun c2 => ?_)
  · have h := ite_t h c2
    refine lv_iconst (v := (0 : Int32)) hx hb dX5_readsOne_23 (by decide) ?_
    have h := Option.some.inj h
    subst h
    subst hQ
    exact g_zret hx hb hr hlocks mZm hK hZ hG hS rfl dX5_readsOne_24
  · have h := ite_f h c2
    refine lv_aload_n hx hb dX5_readsOne_14 rfl (lv_at hl 1 rfl) ?_
    refine g_get hx hb l5 hown hK hG (k := 0) (by decide) (mE_5 _ _) vwCl_5 23 (by decide) k1 (fun _ h9 => h9) rfl dX5_readsOne_15 ?_
    refine lv_bipush (v := (6 : Int32)) hx hb dX5_readsOne_18 (by decide) ?_
    refine lv_icmp_ne (tgt := 25) hx hb dX5_readsOne_20 (by decide) (fun c3 => ?_) (fun c3 => ?_)
    · have h := ite_f h c3
      refine lv_aload_n hx hb dX5_readsOne_25 rfl (lv_at hl 1 rfl) ?_
      refine lv_dup hx hb dX5_readsOne_26 rfl ?_
      refine g_get hx hb l5 hown hK hG (k := 0) (by decide) (mE_5 _ _) vwCl_5 17 (by decide) k2 (fun _ h9 => h9) rfl dX5_readsOne_27 ?_
      refine lv_iconst (v := (1 : Int32)) hx hb dX5_readsOne_30 (by decide) ?_
      refine lv_iadd hx hb dX5_readsOne_31 ?_
      obtain ⟨I4, eI4, h⟩ := obind h
      refine g_put hx hb l5 tyX5_ok nmX5 hown hK hG hi hS (k := 0) (by decide) (mE_5 _ _) vwCl_5 17 (by decide) k2 (fun _ h9 => h9) rfl rfl (Nat.le_of_ble_eq_true rfl) (by rw [mE_5 _ _]; rfl) dX5_readsOne_32 (fun H locs hG hS => ?_)
      rw [Option.some.inj eI4] at hG
      refine lv_aload_n hx hb dX5_readsOne_35 rfl (lv_at hl 1 rfl) ?_
      refine lv_iconst (v := (0 : Int32)) hx hb dX5_readsOne_36 (by decide) ?_
      refine lv_bipush (v := (9 : Int32)) hx hb dX5_readsOne_37 (by decide) ?_
      obtain ⟨q5, eq5, h⟩ := obind h
      refine g_endi (va_runV (As := [.int (0 : Int32), .int (9 : Int32)]) (rest := []) ⟨hx, hb, hml, hown, hts⟩ (k_X5_figure l D cy ad hi I4 L (0 : Int32) (9 : Int32) q5 eq5) (cwV 2 hts gX5_readsOne_X5_figure rfl rfl rfl cd_X5_figure ⟨Nat.le_of_ble_eq_true rfl, Nat.le_of_ble_eq_true rfl⟩) ⟨g_blind mZm, g_recv hK hG (k := 0) (by decide) (mE_5 _ _) vwCl_5, g_pre mZm hK hG hZ hS⟩ rfl rfl hl.1 rfl (lv_room (Nat.le_of_ble_eq_true rfl)) dX5_readsOne_39 ⟨Nat.le_refl _, Nat.le_refl _⟩) hS (fun H locs hG hS => ?_)
      refine lv_istore_n (lv' := [(2, .int q5.1), (1, .int (X5_kindOfLetter v1)), (0, .ref (ad 0))]) hx hb dX5_readsOne_42 rfl hl (by decide) rfl (fun ls hl => ?_)
      refine lv_iload_n hx hb dX5_readsOne_43 rfl (lv_at hl 0 rfl) ?_
      refine lv_bipush (v := (-9 : Int32)) hx hb dX5_readsOne_44 (by decide) ?_
      obtain ⟨q6, h9, h⟩ := obind h
      have hk_q6 : ∀ (H : Heap) (locs : List Loc) (ls : Array Slot), mG D cy ad q6.2 L H → va_S (gA 18 ad) s.heap H locs → lv_has ls 4 [(0, .ref (ad 0)), (1, .int (X5_kindOfLetter v1)), (2, .int q5.1)] → W p l e rm_X5_readsOne s m args below meth c H locs 0 0 Q (F0 m 69 ls [.int q6.1]) := by
        intro H locs ls hG hS hl
        refine lv_istore_n (lv' := [(3, .int q6.1), (0, .ref (ad 0)), (1, .int (X5_kindOfLetter v1)), (2, .int q5.1)]) hx hb dX5_readsOne_69 rfl hl (by decide) rfl (fun ls hl => ?_)
        refine lv_iload_n hx hb dX5_readsOne_70 rfl (lv_at hl 0 rfl) ?_
        refine lv_bipush (v := (-9 : Int32)) hx hb dX5_readsOne_71 (by decide) ?_
        refine lv_icmp_ne (tgt := 78) hx hb dX5_readsOne_73 (by decide) (fun c11 => ?_) (fun c11 => ?_)
        · have h := ite_f h c11
          refine lv_aload_n hx hb dX5_readsOne_78 rfl (lv_at hl 1 rfl) ?_
          refine g_get hx hb l5 hown hK hG (k := 0) (by decide) (mE_5 _ _) vwCl_5 22 (by decide) k3 (fun _ h9 => h9) rfl dX5_readsOne_79 ?_
          refine lv_iconst (v := (2 : Int32)) hx hb dX5_readsOne_82 (by decide) ?_
          refine lv_aload_n hx hb dX5_readsOne_83 rfl (lv_at hl 1 rfl) ?_
          refine g_get hx hb l5 hown hK hG (k := 0) (by decide) (mE_5 _ _) vwCl_5 23 (by decide) k1 (fun _ h9 => h9) rfl dX5_readsOne_84 ?_
          refine lv_imul hx hb dX5_readsOne_87 ?_
          refine lv_iload_n hx hb dX5_readsOne_88 rfl (lv_at hl 2 rfl) ?_
          refine g_ast hx hb hK hG hi hS (k := 11) (n := 12) (show mIA 11 12 from by decide +kernel).1.1 (fun f => mIA_e (show mIA 11 12 from by decide +kernel) f _) 0 rfl h dX5_readsOne_89 (fun I12 H locs h hG hS => ?_)
          refine lv_aload_n hx hb dX5_readsOne_90 rfl (lv_at hl 1 rfl) ?_
          refine g_get hx hb l5 hown hK hG (k := 0) (by decide) (mE_5 _ _) vwCl_5 22 (by decide) k3 (fun _ h9 => h9) rfl dX5_readsOne_91 ?_
          refine lv_iconst (v := (2 : Int32)) hx hb dX5_readsOne_94 (by decide) ?_
          refine lv_aload_n hx hb dX5_readsOne_95 rfl (lv_at hl 1 rfl) ?_
          refine g_get hx hb l5 hown hK hG (k := 0) (by decide) (mE_5 _ _) vwCl_5 23 (by decide) k1 (fun _ h9 => h9) rfl dX5_readsOne_96 ?_
          refine lv_imul hx hb dX5_readsOne_99 ?_
          refine lv_iconst (v := (1 : Int32)) hx hb dX5_readsOne_100 (by decide) ?_
          refine lv_iadd hx hb dX5_readsOne_101 ?_
          refine lv_bipush (v := (10 : Int32)) hx hb dX5_readsOne_102 (by decide) ?_
          refine lv_iload_n hx hb dX5_readsOne_104 rfl (lv_at hl 3 rfl) ?_
          refine lv_imul hx hb dX5_readsOne_105 ?_
          refine lv_iload_n hx hb dX5_readsOne_106 rfl (lv_at hl 0 rfl) ?_
          refine lv_iadd hx hb dX5_readsOne_107 ?_
          refine g_ast hx hb hK hG hi hS (k := 11) (n := 12) (show mIA 11 12 from by decide +kernel).1.1 (fun f => mIA_e (show mIA 11 12 from by decide +kernel) f _) 0 rfl h dX5_readsOne_108 (fun I13 H locs h hG hS => ?_)
          refine lv_aload_n hx hb dX5_readsOne_109 rfl (lv_at hl 1 rfl) ?_
          refine lv_dup hx hb dX5_readsOne_110 rfl ?_
          refine g_get hx hb l5 hown hK hG (k := 0) (by decide) (mE_5 _ _) vwCl_5 23 (by decide) k1 (fun _ h9 => h9) rfl dX5_readsOne_111 ?_
          refine lv_iconst (v := (1 : Int32)) hx hb dX5_readsOne_114 (by decide) ?_
          refine lv_iadd hx hb dX5_readsOne_115 ?_
          obtain ⟨I14, eI14, h⟩ := obind h
          refine g_put hx hb l5 tyX5_ok nmX5 hown hK hG hi hS (k := 0) (by decide) (mE_5 _ _) vwCl_5 23 (by decide) k1 (fun _ h9 => h9) rfl rfl (Nat.le_of_ble_eq_true rfl) (by rw [mE_5 _ _]; rfl) dX5_readsOne_116 (fun H locs hG hS => ?_)
          rw [Option.some.inj eI14] at hG
          refine lv_iconst (v := (1 : Int32)) hx hb dX5_readsOne_119 (by decide) ?_
          have h := Option.some.inj h
          subst h
          subst hQ
          exact g_zret hx hb hr hlocks mZm hK hZ hG hS rfl dX5_readsOne_120
        · have h := ite_t h c11
          refine lv_iconst (v := (0 : Int32)) hx hb dX5_readsOne_76 (by decide) ?_
          have h := Option.some.inj h
          subst h
          subst hQ
          exact g_zret hx hb hr hlocks mZm hK hZ hG hS rfl dX5_readsOne_77
      clear h
      have h := h9
      clear h9
      refine lv_icmp_ne (tgt := 54) hx hb dX5_readsOne_46 (by decide) (fun c7 => ?_) (fun c7 => ?_)
      · have h := ite_f h c7
        refine lv_aload_n hx hb dX5_readsOne_54 rfl (lv_at hl 2 rfl) ?_
        refine lv_iload_n hx hb dX5_readsOne_55 rfl (lv_at hl 0 rfl) ?_
        obtain ⟨q8, h9, h⟩ := obind h
        have hk_q8 : ∀ (H : Heap) (locs : List Loc) (ls : Array Slot), mG D cy ad q5.2 L H → va_S (gA 18 ad) s.heap H locs → lv_has ls 4 [(0, .ref (ad 0)), (1, .int (X5_kindOfLetter v1)), (2, .int q5.1)] → W p l e rm_X5_readsOne s m args below meth c H locs 0 0 Q (F0 m 64 ls [.int q8, .ref (ad 0)]) := by
          intro H locs ls hG hS hl
          refine lv_bipush (v := (9 : Int32)) hx hb dX5_readsOne_64 (by decide) ?_
          obtain ⟨q10, eq10, h⟩ := obind h
          refine g_endi (va_runV (As := [.int q8, .int (9 : Int32)]) (rest := []) ⟨hx, hb, hml, hown, hts⟩ (k_X5_figure l D cy ad hi q5.2 L q8 (9 : Int32) q10 eq10) (cwV 2 hts gX5_readsOne_X5_figure rfl rfl rfl cd_X5_figure ⟨Nat.le_of_ble_eq_true rfl, Nat.le_of_ble_eq_true rfl⟩) ⟨g_blind mZm, g_recv hK hG (k := 0) (by decide) (mE_5 _ _) vwCl_5, g_pre mZm hK hG hZ hS⟩ rfl rfl hl.1 rfl (lv_room (Nat.le_of_ble_eq_true rfl)) dX5_readsOne_66 ⟨Nat.le_refl _, Nat.le_refl _⟩) hS (fun H locs hG hS => ?_)
          have h := Option.some.inj h
          subst h
          exact hk_q6 _ _ _ hG hS (lv_sub hl [0, 1, 2] rfl)
        clear h
        have h := h9
        clear h9
        refine lv_if_ne (tgt := 63) hx hb dX5_readsOne_56 (by decide) (fun c9 => ?_) (fun c9 => ?_)
        · have h := ite_f h c9
          refine lv_iconst (v := (0 : Int32)) hx hb dX5_readsOne_63 (by decide) ?_
          have h := Option.some.inj h
          subst h
          exact hk_q8 _ _ _ hG hS (lv_sub hl [2, 1, 0] rfl)
        · have h := ite_t h c9
          refine lv_iconst (v := (1 : Int32)) hx hb dX5_readsOne_59 (by decide) ?_
          refine lv_goto (tgt := 64) hx hb dX5_readsOne_60 (by decide) ?_
          have h := Option.some.inj h
          subst h
          exact hk_q8 _ _ _ hG hS (lv_sub hl [2, 1, 0] rfl)
      · have h := ite_t h c7
        refine lv_bipush (v := (-9 : Int32)) hx hb dX5_readsOne_49 (by decide) ?_
        refine lv_goto (tgt := 69) hx hb dX5_readsOne_51 (by decide) ?_
        have h := Option.some.inj h
        subst h
        exact hk_q6 _ _ _ hG hS (lv_sub hl [2, 1, 0] rfl)
    · have h := ite_t h c3
      refine lv_iconst (v := (0 : Int32)) hx hb dX5_readsOne_23 (by decide) ?_
      have h := Option.some.inj h
      subst h
      subst hQ
      exact g_zret hx hb hr hlocks mZm hK hZ hG hS rfl dX5_readsOne_24
def X5_faultOf_L1 (K11 : Int32 → xMem → Option (Int32 × xMem)) : Nat → Int32 → xMem → Option (Int32 × xMem)
  | 0, _, _ => none
  | n12 + 1, x2_12, I13 => if x2_12 = (0 : Int32) then (K11 x2_12 I13) else (if (I13 0 18) ≤ (I13 0 17) then (K11 x2_12 I13) else ((X5_here I13).bind fun v17 => (if v17 = (111 : Int32) then ((X5_readsStone I13).bind fun q21 => some (q21.1, q21.2)) else ((X5_readsOne I13).bind fun q20 => some (q20.1, q20.2))).bind fun q18 => if q18.1 = (0 : Int32) then (X5_faultOf_L1 K11 n12 q18.1 q18.2) else ((X5_skip q18.2).bind fun q23 => X5_faultOf_L1 K11 n12 q18.1 q23)))
def X5_faultOf (I : xMem) (x1 : Int32) : Option (Int32 × xMem) := (some (wr I 0 16 ((60 : Int32) * x1))).bind fun I1 => (some (wr I1 0 17 (0 : Int32))).bind fun I2 => (rdI I2 7 4 x1).bind fun v3 => (some (wr I2 0 18 v3)).bind fun I4 => (some (wr I4 0 21 (0 : Int32))).bind fun I5 => (some (wr I5 0 23 (0 : Int32))).bind fun I6 => (X5_readsLimit I6).bind fun q7 => (if q7.1 = (0 : Int32) then (some q7.2) else ((X5_skip q7.2).bind fun q10 => some q10)).bind fun q8 => X5_faultOf_L1 (fun (z2_13 : Int32) (I14 : xMem) => if z2_13 = (0 : Int32) then (some ((I14 0 17), I14)) else (if (I14 0 23) ≤ (1 : Int32) then (some ((I14 0 17), I14)) else (some ((-9 : Int32), I14)))) bigF q7.1 q8
abbrev rm_X5_faultOf : Room := { frames := 3, cells := 0, slots := 0, locals := 70 }
theorem cd_X5_faultOf : yX5_faultOf.cls = RX5 ∧ yX5_faultOf.cls ≠ "java/lang/invoke/MethodHandle" ∧ yX5_faultOf.cls ≠ "java/lang/invoke/VarHandle" ∧ (parseMethodDescriptor yX5_faultOf.desc).map (fun d => d.parameters.length) = some 1 := by decide +kernel
set_option maxHeartbeats 4000000 in
set_option maxRecDepth 100000 in
theorem k_X5_faultOf (l : Launch) (D : va_G) (cy : Nat → ClassId) (ad : Nat → Nat) (hi : gInj 18 ad) (I : xMem) (L : xLon) (x1 : Int32) (r : Int32 × xMem) (h : X5_faultOf I x1 = some r) : Met l yX5_faultOf wsX5_faultOf rm_X5_faultOf (va_Pc [.ref (ad 0), .int x1] (mW D cy ad I L)) (mPi D cy ad r.2 L r.1) 0 0 (gA 18 ad) := by
  refine g_met (own := RX5) (cc := cX5_faultOf) (maxL := 3) (ret := (some .int)) (by decide) rfl (Nat.le_of_ble_eq_true rfl) rfl ?_
  intro p e s m args below meth c ls hx hb hml hr hlocks hown hts hG hK hZ hl
  generalize hQ : MQ below _ args s 0 0 _ = Q
  have hl : lv_has ls 3 [(0, .ref (ad 0)), (1, .int x1)] := hl
  have hS : va_S (gA 18 ad) s.heap s.heap [] := va_S.rf
  have l5 : ∀ w ∈ wsX50, w.before args s = true := fun w h => hts w (List.mem_cons_of_mem _ (List.mem_append_right _ h))
  have k1 := hts (.fieldLink RX5 107 "PairStairsModel" "from" "I") (by decide +kernel)
  have k2 := hts (.fieldLink RX5 110 "PairStairsModel" "place" "I") (by decide +kernel)
  have k3 := hts (.fieldLink RX5 28 "PairStairsModel" "lengths" "[I") (by decide +kernel)
  have k4 := hts (.fieldLink RX5 113 "PairStairsModel" "end" "I") (by decide +kernel)
  have k5 := hts (.fieldLink RX5 129 "PairStairsModel" "readStoneMany" "I") (by decide +kernel)
  have k6 := hts (.fieldLink RX5 132 "PairStairsModel" "readMany" "I") (by decide +kernel)
  unfold X5_faultOf at h
  refine lv_aload_n hx hb dX5_faultOf_0 rfl (lv_at hl 0 rfl) ?_
  refine lv_bipush (v := (60 : Int32)) hx hb dX5_faultOf_1 (by decide) ?_
  refine lv_iload_n hx hb dX5_faultOf_3 rfl (lv_at hl 1 rfl) ?_
  refine lv_imul hx hb dX5_faultOf_4 ?_
  obtain ⟨I1, eI1, h⟩ := obind h
  refine g_put hx hb l5 tyX5_ok nmX5 hown hK hG hi hS (k := 0) (by decide) (mE_5 _ _) vwCl_5 16 (by decide) k1 (fun _ h9 => h9) rfl rfl (Nat.le_of_ble_eq_true rfl) (by rw [mE_5 _ _]; rfl) dX5_faultOf_5 (fun H locs hG hS => ?_)
  rw [Option.some.inj eI1] at hG
  refine lv_aload_n hx hb dX5_faultOf_8 rfl (lv_at hl 0 rfl) ?_
  refine lv_iconst (v := (0 : Int32)) hx hb dX5_faultOf_9 (by decide) ?_
  obtain ⟨I2, eI2, h⟩ := obind h
  refine g_put hx hb l5 tyX5_ok nmX5 hown hK hG hi hS (k := 0) (by decide) (mE_5 _ _) vwCl_5 17 (by decide) k2 (fun _ h9 => h9) rfl rfl (Nat.le_of_ble_eq_true rfl) (by rw [mE_5 _ _]; rfl) dX5_faultOf_10 (fun H locs hG hS => ?_)
  rw [Option.some.inj eI2] at hG
  refine lv_aload_n hx hb dX5_faultOf_13 rfl (lv_at hl 0 rfl) ?_
  refine lv_aload_n hx hb dX5_faultOf_14 rfl (lv_at hl 0 rfl) ?_
  refine g_get hx hb l5 hown hK hG (k := 0) (by decide) (mE_5 _ _) vwCl_5 9 (by decide) k3 (fun _ h9 => h9) rfl dX5_faultOf_15 ?_
  refine lv_iload_n hx hb dX5_faultOf_18 rfl (lv_at hl 1 rfl) ?_
  refine g_ald hx hb hK hG (k := 7) (n := 4) (show mIA 7 4 from by decide +kernel).1.1 (mIA_e (show mIA 7 4 from by decide +kernel) _ _) 0 rfl h dX5_faultOf_19 (fun v3 h => ?_)
  obtain ⟨I4, eI4, h⟩ := obind h
  refine g_put hx hb l5 tyX5_ok nmX5 hown hK hG hi hS (k := 0) (by decide) (mE_5 _ _) vwCl_5 18 (by decide) k4 (fun _ h9 => h9) rfl rfl (Nat.le_of_ble_eq_true rfl) (by rw [mE_5 _ _]; rfl) dX5_faultOf_20 (fun H locs hG hS => ?_)
  rw [Option.some.inj eI4] at hG
  refine lv_aload_n hx hb dX5_faultOf_23 rfl (lv_at hl 0 rfl) ?_
  refine lv_iconst (v := (0 : Int32)) hx hb dX5_faultOf_24 (by decide) ?_
  obtain ⟨I5, eI5, h⟩ := obind h
  refine g_put hx hb l5 tyX5_ok nmX5 hown hK hG hi hS (k := 0) (by decide) (mE_5 _ _) vwCl_5 21 (by decide) k5 (fun _ h9 => h9) rfl rfl (Nat.le_of_ble_eq_true rfl) (by rw [mE_5 _ _]; rfl) dX5_faultOf_25 (fun H locs hG hS => ?_)
  rw [Option.some.inj eI5] at hG
  refine lv_aload_n hx hb dX5_faultOf_28 rfl (lv_at hl 0 rfl) ?_
  refine lv_iconst (v := (0 : Int32)) hx hb dX5_faultOf_29 (by decide) ?_
  obtain ⟨I6, eI6, h⟩ := obind h
  refine g_put hx hb l5 tyX5_ok nmX5 hown hK hG hi hS (k := 0) (by decide) (mE_5 _ _) vwCl_5 23 (by decide) k6 (fun _ h9 => h9) rfl rfl (Nat.le_of_ble_eq_true rfl) (by rw [mE_5 _ _]; rfl) dX5_faultOf_30 (fun H locs hG hS => ?_)
  rw [Option.some.inj eI6] at hG
  refine lv_aload_n hx hb dX5_faultOf_33 rfl (lv_at hl 0 rfl) ?_
  obtain ⟨q7, eq7, h⟩ := obind h
  refine g_endi (va_runV (As := []) (rest := []) ⟨hx, hb, hml, hown, hts⟩ (k_X5_readsLimit l D cy ad hi I6 L q7 eq7) (cwV 0 hts gX5_faultOf_X5_readsLimit rfl rfl rfl cd_X5_readsLimit ⟨Nat.le_of_ble_eq_true rfl, Nat.le_of_ble_eq_true rfl⟩) ⟨g_blind mZm, g_recv hK hG (k := 0) (by decide) (mE_5 _ _) vwCl_5, g_pre mZm hK hG hZ hS⟩ rfl rfl hl.1 rfl (lv_room (Nat.le_of_ble_eq_true rfl)) dX5_faultOf_34 ⟨Nat.le_refl _, Nat.le_refl _⟩) hS (fun H locs hG hS => ?_)
  refine lv_istore_n (lv' := [(2, .int q7.1), (0, .ref (ad 0)), (1, .int x1)]) hx hb dX5_faultOf_37 rfl hl (by decide) rfl (fun ls hl => ?_)
  refine lv_iload_n hx hb dX5_faultOf_38 rfl (lv_at hl 0 rfl) ?_
  obtain ⟨q8, h9, h⟩ := obind h
  have hk_q8 : ∀ (H : Heap) (locs : List Loc) (ls : Array Slot), mG D cy ad q8 L H → va_S (gA 18 ad) s.heap H locs → lv_has ls 3 [(0, .ref (ad 0)), (2, .int q7.1)] → W p l e rm_X5_faultOf s m args below meth c H locs 0 0 Q (F0 m 46 ls []) := by
    intro H locs ls hG hS hl
    have keyK11 : ∀ (K11 : Int32 → xMem → Option (Int32 × xMem)), (∀ (z2_13 : Int32) (I14 : xMem) (H : Heap) (locs : List Loc) (ls : Array Slot), K11 z2_13 I14 = some r → mG D cy ad I14 L H → va_S (gA 18 ad) s.heap H locs → lv_has ls 3 [(0, .ref (ad 0)), (2, .int z2_13)] → W p l e rm_X5_faultOf s m args below meth c H locs 0 0 Q (F0 m 93 ls [])) → ∀ (n12 : Nat) (x2_12 : Int32) (I13 : xMem) (H : Heap) (locs : List Loc) (ls : Array Slot), X5_faultOf_L1 K11 n12 x2_12 I13 = some r → mG D cy ad I13 L H → va_S (gA 18 ad) s.heap H locs → lv_has ls 3 [(0, .ref (ad 0)), (2, .int x2_12)] → W p l e rm_X5_faultOf s m args below meth c H locs 0 0 Q (F0 m 46 ls []) := by
      intro K11 hkK11 n12
      induction n12 with
      | zero =>
        intro x2_12 I13 H locs ls h
        exact ono h
      | succ n12 ihn12 =>
        intro x2_12 I13 H locs ls h hG hS hl
        rw [X5_faultOf_L1] at h
        refine lv_iload_n hx hb dX5_faultOf_46 rfl (lv_at hl 1 rfl) ?_
        refine lv_if_eq (tgt := 93) hx hb dX5_faultOf_47 (by decide) (fun c15 => ?_) (fun c15 => ?_)
        · have h := ite_t h c15
          exact hkK11 x2_12 I13 _ _ _ h hG hS (lv_sub hl [0, 1] rfl)
        · have h := ite_f h c15
          refine lv_aload_n hx hb dX5_faultOf_50 rfl (lv_at hl 0 rfl) ?_
          refine g_get hx hb l5 hown hK hG (k := 0) (by decide) (mE_5 _ _) vwCl_5 17 (by decide) k2 (fun _ h9 => h9) rfl dX5_faultOf_51 ?_
          refine lv_aload_n hx hb dX5_faultOf_54 rfl (lv_at hl 0 rfl) ?_
          refine g_get hx hb l5 hown hK hG (k := 0) (by decide) (mE_5 _ _) vwCl_5 18 (by decide) k4 (fun _ h9 => h9) rfl dX5_faultOf_55 ?_
          refine lv_icmp_ge (tgt := 93) hx hb dX5_faultOf_58 (by decide) (fun c16 => ?_) (fun c16 => ?_)
          · have h := ite_t h c16
            exact hkK11 x2_12 I13 _ _ _ h hG hS (lv_sub hl [0, 1] rfl)
          · have h := ite_f h c16
            refine lv_aload_n hx hb dX5_faultOf_61 rfl (lv_at hl 0 rfl) ?_
            obtain ⟨v17, ev17, h⟩ := obind h
            refine g_endi (va_runV (As := []) (rest := []) ⟨hx, hb, hml, hown, hts⟩ (k_X5_here l D cy ad hi I13 L v17 ev17) (cwV 0 hts gX5_faultOf_X5_here rfl rfl rfl cd_X5_here ⟨Nat.le_of_ble_eq_true rfl, Nat.le_of_ble_eq_true rfl⟩) ⟨g_blind mZm, g_recv hK hG (k := 0) (by decide) (mE_5 _ _) vwCl_5, g_pre mZm hK hG hZ hS⟩ rfl rfl hl.1 rfl (lv_room (Nat.le_of_ble_eq_true rfl)) dX5_faultOf_62 ⟨Nat.le_refl _, Nat.le_refl _⟩) hS (fun H locs hG hS => ?_)
            refine lv_bipush (v := (111 : Int32)) hx hb dX5_faultOf_65 (by decide) ?_
            obtain ⟨q18, h9, h⟩ := obind h
            have hk_q18 : ∀ (H : Heap) (locs : List Loc) (ls : Array Slot), mG D cy ad q18.2 L H → va_S (gA 18 ad) s.heap H locs → lv_has ls 3 [(0, .ref (ad 0))] → W p l e rm_X5_faultOf s m args below meth c H locs 0 0 Q (F0 m 81 ls [.int q18.1]) := by
              intro H locs ls hG hS hl
              refine lv_istore_n (lv' := [(2, .int q18.1), (0, .ref (ad 0))]) hx hb dX5_faultOf_81 rfl hl (by decide) rfl (fun ls hl => ?_)
              refine lv_iload_n hx hb dX5_faultOf_82 rfl (lv_at hl 0 rfl) ?_
              refine lv_if_eq (tgt := 46) hx hb dX5_faultOf_83 (by decide) (fun c22 => ?_) (fun c22 => ?_)
              · have h := ite_t h c22
                exact ihn12 q18.1 q18.2 _ _ _ h hG hS (lv_sub hl [1, 0] rfl)
              · have h := ite_f h c22
                refine lv_aload_n hx hb dX5_faultOf_86 rfl (lv_at hl 1 rfl) ?_
                obtain ⟨q23, eq23, h⟩ := obind h
                refine g_endv (va_runV (As := []) (rest := []) ⟨hx, hb, hml, hown, hts⟩ (k_X5_skip l D cy ad hi q18.2 L q23 eq23) (cwV 0 hts gX5_faultOf_X5_skip rfl rfl rfl cd_X5_skip ⟨Nat.le_of_ble_eq_true rfl, Nat.le_of_ble_eq_true rfl⟩) ⟨g_blind mZm, g_recv hK hG (k := 0) (by decide) (mE_5 _ _) vwCl_5, g_pre mZm hK hG hZ hS⟩ rfl rfl hl.1 rfl (lv_room (Nat.le_of_ble_eq_true rfl)) dX5_faultOf_87 ⟨Nat.le_refl _, Nat.le_refl _⟩) hS (fun H locs hG hS => ?_)
                refine lv_goto (tgt := 46) hx hb dX5_faultOf_90 (by decide) ?_
                exact ihn12 q18.1 q23 _ _ _ h hG hS (lv_sub hl [1, 0] rfl)
            clear h
            have h := h9
            clear h9
            refine lv_icmp_ne (tgt := 77) hx hb dX5_faultOf_67 (by decide) (fun c19 => ?_) (fun c19 => ?_)
            · have h := ite_f h c19
              refine lv_aload_n hx hb dX5_faultOf_77 rfl (lv_at hl 0 rfl) ?_
              obtain ⟨q20, eq20, h⟩ := obind h
              refine g_endi (va_runV (As := []) (rest := []) ⟨hx, hb, hml, hown, hts⟩ (k_X5_readsOne l D cy ad hi I13 L q20 eq20) (cwV 0 hts gX5_faultOf_X5_readsOne rfl rfl rfl cd_X5_readsOne ⟨Nat.le_of_ble_eq_true rfl, Nat.le_of_ble_eq_true rfl⟩) ⟨g_blind mZm, g_recv hK hG (k := 0) (by decide) (mE_5 _ _) vwCl_5, g_pre mZm hK hG hZ hS⟩ rfl rfl hl.1 rfl (lv_room (Nat.le_of_ble_eq_true rfl)) dX5_faultOf_78 ⟨Nat.le_refl _, Nat.le_refl _⟩) hS (fun H locs hG hS => ?_)
              have h := Option.some.inj h
              subst h
              exact hk_q18 _ _ _ hG hS (lv_sub hl [0] rfl)
            · have h := ite_t h c19
              refine lv_aload_n hx hb dX5_faultOf_70 rfl (lv_at hl 0 rfl) ?_
              obtain ⟨q21, eq21, h⟩ := obind h
              refine g_endi (va_runV (As := []) (rest := []) ⟨hx, hb, hml, hown, hts⟩ (k_X5_readsStone l D cy ad hi I13 L q21 eq21) (cwV 0 hts gX5_faultOf_X5_readsStone rfl rfl rfl cd_X5_readsStone ⟨Nat.le_of_ble_eq_true rfl, Nat.le_of_ble_eq_true rfl⟩) ⟨g_blind mZm, g_recv hK hG (k := 0) (by decide) (mE_5 _ _) vwCl_5, g_pre mZm hK hG hZ hS⟩ rfl rfl hl.1 rfl (lv_room (Nat.le_of_ble_eq_true rfl)) dX5_faultOf_71 ⟨Nat.le_refl _, Nat.le_refl _⟩) hS (fun H locs hG hS => ?_)
              refine lv_goto (tgt := 81) hx hb dX5_faultOf_74 (by decide) ?_
              have h := Option.some.inj h
              subst h
              exact hk_q18 _ _ _ hG hS (lv_sub hl [0] rfl)
    refine keyK11 _ (fun z2_13 I14 H locs ls h hG hS hl => ?_) bigF q7.1 q8 _ _ _ h hG hS (lv_sub hl [0, 1] rfl)
    clear keyK11
    refine lv_iload_n hx hb dX5_faultOf_93 rfl (lv_at hl 1 rfl) ?_
    refine lv_if_eq (tgt := 110) hx hb dX5_faultOf_94 (by decide) (fun c24 => ?_) (fun c24 => ?_)
    · have h := ite_t h c24
      refine lv_aload_n hx hb dX5_faultOf_110 rfl (lv_at hl 0 rfl) ?_
      refine g_get hx hb l5 hown hK hG (k := 0) (by decide) (mE_5 _ _) vwCl_5 17 (by decide) k2 (fun _ h9 => h9) rfl dX5_faultOf_111 ?_
      have h := Option.some.inj h
      subst h
      subst hQ
      exact g_iret hx hb hr hlocks mZm hK hZ hG hS rfl dX5_faultOf_114
    · have h := ite_f h c24
      refine lv_aload_n hx hb dX5_faultOf_97 rfl (lv_at hl 0 rfl) ?_
      refine g_get hx hb l5 hown hK hG (k := 0) (by decide) (mE_5 _ _) vwCl_5 23 (by decide) k6 (fun _ h9 => h9) rfl dX5_faultOf_98 ?_
      refine lv_iconst (v := (1 : Int32)) hx hb dX5_faultOf_101 (by decide) ?_
      refine lv_icmp_le (tgt := 110) hx hb dX5_faultOf_102 (by decide) (fun c25 => ?_) (fun c25 => ?_)
      · have h := ite_t h c25
        refine lv_aload_n hx hb dX5_faultOf_110 rfl (lv_at hl 0 rfl) ?_
        refine g_get hx hb l5 hown hK hG (k := 0) (by decide) (mE_5 _ _) vwCl_5 17 (by decide) k2 (fun _ h9 => h9) rfl dX5_faultOf_111 ?_
        have h := Option.some.inj h
        subst h
        subst hQ
        exact g_iret hx hb hr hlocks mZm hK hZ hG hS rfl dX5_faultOf_114
      · have h := ite_f h c25
        refine lv_bipush (v := (-9 : Int32)) hx hb dX5_faultOf_105 (by decide) ?_
        refine lv_goto (tgt := 114) hx hb dX5_faultOf_107 (by decide) ?_
        have h := Option.some.inj h
        subst h
        subst hQ
        exact g_iret hx hb hr hlocks mZm hK hZ hG hS rfl dX5_faultOf_114
  clear h
  have h := h9
  clear h9
  refine lv_if_eq (tgt := 46) hx hb dX5_faultOf_39 (by decide) (fun c9 => ?_) (fun c9 => ?_)
  · have h := ite_t h c9
    have h := Option.some.inj h
    subst h
    exact hk_q8 _ _ _ hG hS (lv_sub hl [1, 0] rfl)
  · have h := ite_f h c9
    refine lv_aload_n hx hb dX5_faultOf_42 rfl (lv_at hl 1 rfl) ?_
    obtain ⟨q10, eq10, h⟩ := obind h
    refine g_endv (va_runV (As := []) (rest := []) ⟨hx, hb, hml, hown, hts⟩ (k_X5_skip l D cy ad hi q7.2 L q10 eq10) (cwV 0 hts gX5_faultOf_X5_skip rfl rfl rfl cd_X5_skip ⟨Nat.le_of_ble_eq_true rfl, Nat.le_of_ble_eq_true rfl⟩) ⟨g_blind mZm, g_recv hK hG (k := 0) (by decide) (mE_5 _ _) vwCl_5, g_pre mZm hK hG hZ hS⟩ rfl rfl hl.1 rfl (lv_room (Nat.le_of_ble_eq_true rfl)) dX5_faultOf_43 ⟨Nat.le_refl _, Nat.le_refl _⟩) hS (fun H locs hG hS => ?_)
    have h := Option.some.inj h
    subst h
    exact hk_q8 _ _ _ hG hS (lv_sub hl [1, 0] rfl)
def X5_fault (I : xMem) (x1 : Int32) : Option (Int32 × xMem) := if (X5_isText x1) = (0 : Int32) then (some ((-1 : Int32), I)) else ((rdI I 7 4 x1).bind fun v2 => if (0 : Int32) ≤ v2 then ((X5_faultOf I x1).bind fun q4 => some (q4.1, q4.2)) else ((X5_find I (1 : Int32)).bind fun q5 => some (q5.1, q5.2)))
abbrev rm_X5_fault : Room := { frames := 4, cells := 0, slots := 0, locals := 92 }
theorem cd_X5_fault : yX5_fault.cls = RX5 ∧ yX5_fault.cls ≠ "java/lang/invoke/MethodHandle" ∧ yX5_fault.cls ≠ "java/lang/invoke/VarHandle" ∧ (parseMethodDescriptor yX5_fault.desc).map (fun d => d.parameters.length) = some 1 := by decide +kernel
set_option maxHeartbeats 4000000 in
set_option maxRecDepth 100000 in
theorem k_X5_fault (l : Launch) (D : va_G) (cy : Nat → ClassId) (ad : Nat → Nat) (hi : gInj 18 ad) (I : xMem) (L : xLon) (x1 : Int32) (r : Int32 × xMem) (h : X5_fault I x1 = some r) : Met l yX5_fault wsX5_fault rm_X5_fault (va_Pc [.ref (ad 0), .int x1] (mW D cy ad I L)) (mPi D cy ad r.2 L r.1) 0 0 (gA 18 ad) := by
  refine g_met (own := RX5) (cc := cX5_fault) (maxL := 2) (ret := (some .int)) (by decide) rfl (Nat.le_of_ble_eq_true rfl) rfl ?_
  intro p e s m args below meth c ls hx hb hml hr hlocks hown hts hG hK hZ hl
  generalize hQ : MQ below _ args s 0 0 _ = Q
  have hl : lv_has ls 2 [(0, .ref (ad 0)), (1, .int x1)] := hl
  have hS : va_S (gA 18 ad) s.heap s.heap [] := va_S.rf
  have l5 : ∀ w ∈ wsX50, w.before args s = true := fun w h => hts w (List.mem_cons_of_mem _ (List.mem_append_right _ h))
  have k1 := hts (.fieldLink RX5 28 "PairStairsModel" "lengths" "[I") (by decide +kernel)
  unfold X5_fault at h
  refine lv_iload_n hx hb dX5_fault_0 rfl (lv_at hl 1 rfl) ?_
  refine g_endi (va_runS (As := [.int x1]) (rest := []) ⟨hx, hb, hml, hown, hts⟩ (k_X5_isText l D cy ad hi I L x1 _ rfl) (va_cwS 1 hts gX5_fault_X5_isText rfl rfl rfl cd_X5_isText.2 ⟨Nat.le_of_ble_eq_true rfl, Nat.le_of_ble_eq_true rfl⟩) ⟨g_blind mZm, g_pre mZm hK hG hZ hS⟩ rfl rfl hl.1 rfl (lv_room (Nat.le_of_ble_eq_true rfl)) dX5_fault_1 ⟨Nat.le_refl _, Nat.le_refl _⟩) hS (fun H locs hG hS => ?_)
  refine lv_if_ne (tgt := 9) hx hb dX5_fault_4 (by decide) (fun c1 => ?_) (fun c1 => ?_)
  · have h := ite_f h c1
    refine lv_aload_n hx hb dX5_fault_9 rfl (lv_at hl 0 rfl) ?_
    refine g_get hx hb l5 hown hK hG (k := 0) (by decide) (mE_5 _ _) vwCl_5 9 (by decide) k1 (fun _ h9 => h9) rfl dX5_fault_10 ?_
    refine lv_iload_n hx hb dX5_fault_13 rfl (lv_at hl 1 rfl) ?_
    refine g_ald hx hb hK hG (k := 7) (n := 4) (show mIA 7 4 from by decide +kernel).1.1 (mIA_e (show mIA 7 4 from by decide +kernel) _ _) 0 rfl h dX5_fault_14 (fun v2 h => ?_)
    refine lv_if_ge (tgt := 26) hx hb dX5_fault_15 (by decide) (fun c3 => ?_) (fun c3 => ?_)
    · have h := ite_t h c3
      refine lv_aload_n hx hb dX5_fault_26 rfl (lv_at hl 0 rfl) ?_
      refine lv_iload_n hx hb dX5_fault_27 rfl (lv_at hl 1 rfl) ?_
      obtain ⟨q4, eq4, h⟩ := obind h
      refine g_endi (va_runV (As := [.int x1]) (rest := []) ⟨hx, hb, hml, hown, hts⟩ (k_X5_faultOf l D cy ad hi I L x1 q4 eq4) (cwV 1 hts gX5_fault_X5_faultOf rfl rfl rfl cd_X5_faultOf ⟨Nat.le_of_ble_eq_true rfl, Nat.le_of_ble_eq_true rfl⟩) ⟨g_blind mZm, g_recv hK hG (k := 0) (by decide) (mE_5 _ _) vwCl_5, g_pre mZm hK hG hZ hS⟩ rfl rfl hl.1 rfl (lv_room (Nat.le_of_ble_eq_true rfl)) dX5_fault_28 ⟨Nat.le_refl _, Nat.le_refl _⟩) hS (fun H locs hG hS => ?_)
      have h := Option.some.inj h
      subst h
      subst hQ
      exact g_iret hx hb hr hlocks mZm hK hZ hG hS rfl dX5_fault_31
    · have h := ite_f h c3
      refine lv_aload_n hx hb dX5_fault_18 rfl (lv_at hl 0 rfl) ?_
      refine lv_iconst (v := (1 : Int32)) hx hb dX5_fault_19 (by decide) ?_
      obtain ⟨q5, eq5, h⟩ := obind h
      refine g_endi (va_runV (As := [.int (1 : Int32)]) (rest := []) ⟨hx, hb, hml, hown, hts⟩ (k_X5_find l D cy ad hi I L (1 : Int32) q5 eq5) (cwV 1 hts gX5_fault_X5_find rfl rfl rfl cd_X5_find ⟨Nat.le_of_ble_eq_true rfl, Nat.le_of_ble_eq_true rfl⟩) ⟨g_blind mZm, g_recv hK hG (k := 0) (by decide) (mE_5 _ _) vwCl_5, g_pre mZm hK hG hZ hS⟩ rfl rfl hl.1 rfl (lv_room (Nat.le_of_ble_eq_true rfl)) dX5_fault_20 ⟨Nat.le_refl _, Nat.le_refl _⟩) hS (fun H locs hG hS => ?_)
      refine lv_goto (tgt := 31) hx hb dX5_fault_23 (by decide) ?_
      have h := Option.some.inj h
      subst h
      subst hQ
      exact g_iret hx hb hr hlocks mZm hK hZ hG hS rfl dX5_fault_31
  · have h := ite_t h c1
    refine lv_iconst (v := (-1 : Int32)) hx hb dX5_fault_7 (by decide) ?_
    have h := Option.some.inj h
    subst h
    subst hQ
    exact g_iret hx hb hr hlocks mZm hK hZ hG hS rfl dX5_fault_8
def X5_tower_L1 (K6 : xMem → Option (Int32 × xMem)) : Nat → Int32 → xMem → Option (Int32 × xMem)
  | 0, _, _ => none
  | n7 + 1, x2_7, I8 => if (165 : Int32) ≤ x2_7 then (K6 I8) else ((wrI I8 1 660 x2_7 (0 : Int32)).bind fun I11 => X5_tower_L1 K6 n7 (x2_7 + (1 : Int32)) I11)
def X5_tower_L2 (K15 : xMem → Option (Int32 × xMem)) : Nat → Int32 → xMem → Option (Int32 × xMem)
  | 0, _, _ => none
  | n16 + 1, x2_16, I17 => if (I17 0 2) ≤ x2_16 then (K15 I17) else ((rdI I17 10 4 x2_16).bind fun v20 => (wrI I17 2 4 x2_16 v20).bind fun I21 => X5_tower_L2 K15 n16 (x2_16 + (1 : Int32)) I21)
def X5_tower_L3 (K22 : xMem → Option (Int32 × xMem)) : Nat → Int32 → xMem → Option (Int32 × xMem)
  | 0, _, _ => none
  | n23 + 1, x2_23, I24 => if (I24 0 4) ≤ x2_23 then (K22 I24) else ((rdI I24 11 12 ((2 : Int32) * x2_23)).bind fun v27 => (wrI I24 3 6 x2_23 v27).bind fun I28 => (rdI I28 11 12 (((2 : Int32) * x2_23) + (1 : Int32))).bind fun v29 => (wrI I28 4 6 x2_23 v29).bind fun I30 => X5_tower_L3 K22 n23 (x2_23 + (1 : Int32)) I30)
def X5_tower_L4 (K31 : xMem → Option (Int32 × xMem)) : Nat → Int32 → xMem → Option (Int32 × xMem)
  | 0, _, _ => none
  | n32 + 1, x2_32, I33 => if (4 : Int32) ≤ x2_32 then (K31 I33) else ((wrI I33 1 660 (((165 : Int32) * x2_32) + (0 : Int32)) (-1 : Int32)).bind fun I36 => X5_tower_L4 K31 n32 (x2_32 + (1 : Int32)) I36)
def X5_tower (I : xMem) (x1 : Int32) : Option (Int32 × xMem) := if (X5_isText x1) = (0 : Int32) then (some ((-1 : Int32), I)) else ((rdI I 7 4 x1).bind fun v2 => if (0 : Int32) ≤ v2 then ((X5_faultOf I x1).bind fun q4 => if q4.1 = (-9 : Int32) then (X5_tower_L1 (fun (I9 : xMem) => (some (wr I9 0 1 (I9 0 19))).bind fun I12 => (some (wr I12 0 2 (I12 0 21))).bind fun I13 => (some (wr I13 0 4 (I13 0 23))).bind fun I14 => X5_tower_L2 (fun (I18 : xMem) => X5_tower_L3 (fun (I25 : xMem) => X5_tower_L4 (fun (I34 : xMem) => some ((I34 0 4), I34)) bigF (1 : Int32) I25) bigF (0 : Int32) I18) bigF (0 : Int32) I14) bigF (0 : Int32) q4.2) else (some ((-4 : Int32), q4.2))) else ((X5_find I (1 : Int32)).bind fun q37 => some (q37.1, q37.2)))
abbrev rm_X5_tower : Room := { frames := 4, cells := 0, slots := 0, locals := 92 }
theorem cd_X5_tower : yX5_tower.cls = RX5 ∧ yX5_tower.cls ≠ "java/lang/invoke/MethodHandle" ∧ yX5_tower.cls ≠ "java/lang/invoke/VarHandle" ∧ (parseMethodDescriptor yX5_tower.desc).map (fun d => d.parameters.length) = some 1 := by decide +kernel
set_option maxHeartbeats 4000000 in
set_option maxRecDepth 100000 in
theorem k_X5_tower (l : Launch) (D : va_G) (cy : Nat → ClassId) (ad : Nat → Nat) (hi : gInj 18 ad) (I : xMem) (L : xLon) (x1 : Int32) (r : Int32 × xMem) (h : X5_tower I x1 = some r) : Met l yX5_tower wsX5_tower rm_X5_tower (va_Pc [.ref (ad 0), .int x1] (mW D cy ad I L)) (mPi D cy ad r.2 L r.1) 0 0 (gA 18 ad) := by
  refine g_met (own := RX5) (cc := cX5_tower) (maxL := 3) (ret := (some .int)) (by decide) rfl (Nat.le_of_ble_eq_true rfl) rfl ?_
  intro p e s m args below meth c ls hx hb hml hr hlocks hown hts hG hK hZ hl
  generalize hQ : MQ below _ args s 0 0 _ = Q
  have hl : lv_has ls 3 [(0, .ref (ad 0)), (1, .int x1)] := hl
  have hS : va_S (gA 18 ad) s.heap s.heap [] := va_S.rf
  have l5 : ∀ w ∈ wsX50, w.before args s = true := fun w h => hts w (List.mem_cons_of_mem _ (List.mem_append_right _ h))
  have k1 := hts (.fieldLink RX5 28 "PairStairsModel" "lengths" "[I") (by decide +kernel)
  have k2 := hts (.fieldLink RX5 7 "PairStairsModel" "row" "[I") (by decide +kernel)
  have k3 := hts (.fieldLink RX5 126 "PairStairsModel" "readLimit" "I") (by decide +kernel)
  have k4 := hts (.fieldLink RX5 151 "PairStairsModel" "limit" "I") (by decide +kernel)
  have k5 := hts (.fieldLink RX5 129 "PairStairsModel" "readStoneMany" "I") (by decide +kernel)
  have k6 := hts (.fieldLink RX5 154 "PairStairsModel" "stoneMany" "I") (by decide +kernel)
  have k7 := hts (.fieldLink RX5 132 "PairStairsModel" "readMany" "I") (by decide +kernel)
  have k8 := hts (.fieldLink RX5 157 "PairStairsModel" "people" "I") (by decide +kernel)
  have k9 := hts (.fieldLink RX5 13 "PairStairsModel" "stones" "[I") (by decide +kernel)
  have k10 := hts (.fieldLink RX5 41 "PairStairsModel" "readStones" "[I") (by decide +kernel)
  have k11 := hts (.fieldLink RX5 16 "PairStairsModel" "kinds" "[I") (by decide +kernel)
  have k12 := hts (.fieldLink RX5 44 "PairStairsModel" "readPeople" "[I") (by decide +kernel)
  have k13 := hts (.fieldLink RX5 19 "PairStairsModel" "pounds" "[I") (by decide +kernel)
  unfold X5_tower at h
  refine lv_iload_n hx hb dX5_tower_0 rfl (lv_at hl 1 rfl) ?_
  refine g_endi (va_runS (As := [.int x1]) (rest := []) ⟨hx, hb, hml, hown, hts⟩ (k_X5_isText l D cy ad hi I L x1 _ rfl) (va_cwS 1 hts gX5_tower_X5_isText rfl rfl rfl cd_X5_isText.2 ⟨Nat.le_of_ble_eq_true rfl, Nat.le_of_ble_eq_true rfl⟩) ⟨g_blind mZm, g_pre mZm hK hG hZ hS⟩ rfl rfl hl.1 rfl (lv_room (Nat.le_of_ble_eq_true rfl)) dX5_tower_1 ⟨Nat.le_refl _, Nat.le_refl _⟩) hS (fun H locs hG hS => ?_)
  refine lv_if_ne (tgt := 9) hx hb dX5_tower_4 (by decide) (fun c1 => ?_) (fun c1 => ?_)
  · have h := ite_f h c1
    refine lv_aload_n hx hb dX5_tower_9 rfl (lv_at hl 0 rfl) ?_
    refine g_get hx hb l5 hown hK hG (k := 0) (by decide) (mE_5 _ _) vwCl_5 9 (by decide) k1 (fun _ h9 => h9) rfl dX5_tower_10 ?_
    refine lv_iload_n hx hb dX5_tower_13 rfl (lv_at hl 1 rfl) ?_
    refine g_ald hx hb hK hG (k := 7) (n := 4) (show mIA 7 4 from by decide +kernel).1.1 (mIA_e (show mIA 7 4 from by decide +kernel) _ _) 0 rfl h dX5_tower_14 (fun v2 h => ?_)
    refine lv_if_ge (tgt := 24) hx hb dX5_tower_15 (by decide) (fun c3 => ?_) (fun c3 => ?_)
    · have h := ite_t h c3
      refine lv_aload_n hx hb dX5_tower_24 rfl (lv_at hl 0 rfl) ?_
      refine lv_iload_n hx hb dX5_tower_25 rfl (lv_at hl 1 rfl) ?_
      obtain ⟨q4, eq4, h⟩ := obind h
      refine g_endi (va_runV (As := [.int x1]) (rest := []) ⟨hx, hb, hml, hown, hts⟩ (k_X5_faultOf l D cy ad hi I L x1 q4 eq4) (cwV 1 hts gX5_tower_X5_faultOf rfl rfl rfl cd_X5_faultOf ⟨Nat.le_of_ble_eq_true rfl, Nat.le_of_ble_eq_true rfl⟩) ⟨g_blind mZm, g_recv hK hG (k := 0) (by decide) (mE_5 _ _) vwCl_5, g_pre mZm hK hG hZ hS⟩ rfl rfl hl.1 rfl (lv_room (Nat.le_of_ble_eq_true rfl)) dX5_tower_26 ⟨Nat.le_refl _, Nat.le_refl _⟩) hS (fun H locs hG hS => ?_)
      refine lv_bipush (v := (-9 : Int32)) hx hb dX5_tower_29 (by decide) ?_
      refine lv_icmp_eq (tgt := 37) hx hb dX5_tower_31 (by decide) (fun c5 => ?_) (fun c5 => ?_)
      · have h := ite_t h c5
        refine lv_iconst (v := (0 : Int32)) hx hb dX5_tower_37 (by decide) ?_
        refine lv_istore_n (lv' := [(2, .int (0 : Int32)), (0, .ref (ad 0)), (1, .int x1)]) hx hb dX5_tower_38 rfl hl (by decide) rfl (fun ls hl => ?_)
        have keyK6 : ∀ (K6 : xMem → Option (Int32 × xMem)), (∀ (I9 : xMem) (H : Heap) (locs : List Loc) (ls : Array Slot), K6 I9 = some r → mG D cy ad I9 L H → va_S (gA 18 ad) s.heap H locs → lv_has ls 3 [(0, .ref (ad 0))] → W p l e rm_X5_tower s m args below meth c H locs 0 0 Q (F0 m 59 ls [])) → ∀ (n7 : Nat) (x2_7 : Int32) (I8 : xMem) (H : Heap) (locs : List Loc) (ls : Array Slot), X5_tower_L1 K6 n7 x2_7 I8 = some r → mG D cy ad I8 L H → va_S (gA 18 ad) s.heap H locs → lv_has ls 3 [(0, .ref (ad 0)), (2, .int x2_7)] → W p l e rm_X5_tower s m args below meth c H locs 0 0 Q (F0 m 39 ls []) := by
          intro K6 hkK6 n7
          induction n7 with
          | zero =>
            intro x2_7 I8 H locs ls h
            exact ono h
          | succ n7 ihn7 =>
            intro x2_7 I8 H locs ls h hG hS hl
            rw [X5_tower_L1] at h
            refine lv_iload_n hx hb dX5_tower_39 rfl (lv_at hl 1 rfl) ?_
            refine lv_sipush (v := (165 : Int32)) hx hb dX5_tower_40 (by decide) ?_
            refine lv_icmp_ge (tgt := 59) hx hb dX5_tower_43 (by decide) (fun c10 => ?_) (fun c10 => ?_)
            · have h := ite_t h c10
              exact hkK6 I8 _ _ _ h hG hS (lv_sub hl [0] rfl)
            · have h := ite_f h c10
              refine lv_aload_n hx hb dX5_tower_46 rfl (lv_at hl 0 rfl) ?_
              refine g_get hx hb l5 hown hK hG (k := 0) (by decide) (mE_5 _ _) vwCl_5 0 (by decide) k2 (fun _ h9 => h9) rfl dX5_tower_47 ?_
              refine lv_iload_n hx hb dX5_tower_50 rfl (lv_at hl 1 rfl) ?_
              refine lv_iconst (v := (0 : Int32)) hx hb dX5_tower_51 (by decide) ?_
              refine g_ast hx hb hK hG hi hS (k := 1) (n := 660) (show mIA 1 660 from by decide +kernel).1.1 (fun f => mIA_e (show mIA 1 660 from by decide +kernel) f _) 0 rfl h dX5_tower_52 (fun I11 H locs h hG hS => ?_)
              refine lv_iinc (v := (x2_7 + (1 : Int32))) (lv' := [(2, .int (x2_7 + (1 : Int32))), (0, .ref (ad 0))]) hx hb dX5_tower_53 hl (k := 1) rfl rfl (by decide) rfl (fun ls hl => ?_)
              refine lv_goto (tgt := 39) hx hb dX5_tower_56 (by decide) ?_
              exact ihn7 (x2_7 + (1 : Int32)) I11 _ _ _ h hG hS (lv_sub hl [1, 0] rfl)
        refine keyK6 _ (fun I9 H locs ls h hG hS hl => ?_) bigF (0 : Int32) q4.2 _ _ _ h hG hS (lv_sub hl [1, 0] rfl)
        clear keyK6
        refine lv_aload_n hx hb dX5_tower_59 rfl (lv_at hl 0 rfl) ?_
        refine lv_aload_n hx hb dX5_tower_60 rfl (lv_at hl 0 rfl) ?_
        refine g_get hx hb l5 hown hK hG (k := 0) (by decide) (mE_5 _ _) vwCl_5 19 (by decide) k3 (fun _ h9 => h9) rfl dX5_tower_61 ?_
        obtain ⟨I12, eI12, h⟩ := obind h
        refine g_put hx hb l5 tyX5_ok nmX5 hown hK hG hi hS (k := 0) (by decide) (mE_5 _ _) vwCl_5 1 (by decide) k4 (fun _ h9 => h9) rfl rfl (Nat.le_of_ble_eq_true rfl) (by rw [mE_5 _ _]; rfl) dX5_tower_64 (fun H locs hG hS => ?_)
        rw [Option.some.inj eI12] at hG
        refine lv_aload_n hx hb dX5_tower_67 rfl (lv_at hl 0 rfl) ?_
        refine lv_aload_n hx hb dX5_tower_68 rfl (lv_at hl 0 rfl) ?_
        refine g_get hx hb l5 hown hK hG (k := 0) (by decide) (mE_5 _ _) vwCl_5 21 (by decide) k5 (fun _ h9 => h9) rfl dX5_tower_69 ?_
        obtain ⟨I13, eI13, h⟩ := obind h
        refine g_put hx hb l5 tyX5_ok nmX5 hown hK hG hi hS (k := 0) (by decide) (mE_5 _ _) vwCl_5 2 (by decide) k6 (fun _ h9 => h9) rfl rfl (Nat.le_of_ble_eq_true rfl) (by rw [mE_5 _ _]; rfl) dX5_tower_72 (fun H locs hG hS => ?_)
        rw [Option.some.inj eI13] at hG
        refine lv_aload_n hx hb dX5_tower_75 rfl (lv_at hl 0 rfl) ?_
        refine lv_aload_n hx hb dX5_tower_76 rfl (lv_at hl 0 rfl) ?_
        refine g_get hx hb l5 hown hK hG (k := 0) (by decide) (mE_5 _ _) vwCl_5 23 (by decide) k7 (fun _ h9 => h9) rfl dX5_tower_77 ?_
        obtain ⟨I14, eI14, h⟩ := obind h
        refine g_put hx hb l5 tyX5_ok nmX5 hown hK hG hi hS (k := 0) (by decide) (mE_5 _ _) vwCl_5 4 (by decide) k8 (fun _ h9 => h9) rfl rfl (Nat.le_of_ble_eq_true rfl) (by rw [mE_5 _ _]; rfl) dX5_tower_80 (fun H locs hG hS => ?_)
        rw [Option.some.inj eI14] at hG
        refine lv_iconst (v := (0 : Int32)) hx hb dX5_tower_83 (by decide) ?_
        refine lv_istore_n (lv' := [(2, .int (0 : Int32)), (0, .ref (ad 0))]) hx hb dX5_tower_84 rfl hl (by decide) rfl (fun ls hl => ?_)
        have keyK15 : ∀ (K15 : xMem → Option (Int32 × xMem)), (∀ (I18 : xMem) (H : Heap) (locs : List Loc) (ls : Array Slot), K15 I18 = some r → mG D cy ad I18 L H → va_S (gA 18 ad) s.heap H locs → lv_has ls 3 [(0, .ref (ad 0))] → W p l e rm_X5_tower s m args below meth c H locs 0 0 Q (F0 m 111 ls [])) → ∀ (n16 : Nat) (x2_16 : Int32) (I17 : xMem) (H : Heap) (locs : List Loc) (ls : Array Slot), X5_tower_L2 K15 n16 x2_16 I17 = some r → mG D cy ad I17 L H → va_S (gA 18 ad) s.heap H locs → lv_has ls 3 [(0, .ref (ad 0)), (2, .int x2_16)] → W p l e rm_X5_tower s m args below meth c H locs 0 0 Q (F0 m 85 ls []) := by
          intro K15 hkK15 n16
          induction n16 with
          | zero =>
            intro x2_16 I17 H locs ls h
            exact ono h
          | succ n16 ihn16 =>
            intro x2_16 I17 H locs ls h hG hS hl
            rw [X5_tower_L2] at h
            refine lv_iload_n hx hb dX5_tower_85 rfl (lv_at hl 1 rfl) ?_
            refine lv_aload_n hx hb dX5_tower_86 rfl (lv_at hl 0 rfl) ?_
            refine g_get hx hb l5 hown hK hG (k := 0) (by decide) (mE_5 _ _) vwCl_5 2 (by decide) k6 (fun _ h9 => h9) rfl dX5_tower_87 ?_
            refine lv_icmp_ge (tgt := 111) hx hb dX5_tower_90 (by decide) (fun c19 => ?_) (fun c19 => ?_)
            · have h := ite_t h c19
              exact hkK15 I17 _ _ _ h hG hS (lv_sub hl [0] rfl)
            · have h := ite_f h c19
              refine lv_aload_n hx hb dX5_tower_93 rfl (lv_at hl 0 rfl) ?_
              refine g_get hx hb l5 hown hK hG (k := 0) (by decide) (mE_5 _ _) vwCl_5 3 (by decide) k9 (fun _ h9 => h9) rfl dX5_tower_94 ?_
              refine lv_iload_n hx hb dX5_tower_97 rfl (lv_at hl 1 rfl) ?_
              refine lv_aload_n hx hb dX5_tower_98 rfl (lv_at hl 0 rfl) ?_
              refine g_get hx hb l5 hown hK hG (k := 0) (by decide) (mE_5 _ _) vwCl_5 20 (by decide) k10 (fun _ h9 => h9) rfl dX5_tower_99 ?_
              refine lv_iload_n hx hb dX5_tower_102 rfl (lv_at hl 1 rfl) ?_
              refine g_ald hx hb hK hG (k := 10) (n := 4) (show mIA 10 4 from by decide +kernel).1.1 (mIA_e (show mIA 10 4 from by decide +kernel) _ _) 0 rfl h dX5_tower_103 (fun v20 h => ?_)
              refine g_ast hx hb hK hG hi hS (k := 2) (n := 4) (show mIA 2 4 from by decide +kernel).1.1 (fun f => mIA_e (show mIA 2 4 from by decide +kernel) f _) 0 rfl h dX5_tower_104 (fun I21 H locs h hG hS => ?_)
              refine lv_iinc (v := (x2_16 + (1 : Int32))) (lv' := [(2, .int (x2_16 + (1 : Int32))), (0, .ref (ad 0))]) hx hb dX5_tower_105 hl (k := 1) rfl rfl (by decide) rfl (fun ls hl => ?_)
              refine lv_goto (tgt := 85) hx hb dX5_tower_108 (by decide) ?_
              exact ihn16 (x2_16 + (1 : Int32)) I21 _ _ _ h hG hS (lv_sub hl [1, 0] rfl)
        refine keyK15 _ (fun I18 H locs ls h hG hS hl => ?_) bigF (0 : Int32) I14 _ _ _ h hG hS (lv_sub hl [1, 0] rfl)
        clear keyK15
        refine lv_iconst (v := (0 : Int32)) hx hb dX5_tower_111 (by decide) ?_
        refine lv_istore_n (lv' := [(2, .int (0 : Int32)), (0, .ref (ad 0))]) hx hb dX5_tower_112 rfl hl (by decide) rfl (fun ls hl => ?_)
        have keyK22 : ∀ (K22 : xMem → Option (Int32 × xMem)), (∀ (I25 : xMem) (H : Heap) (locs : List Loc) (ls : Array Slot), K22 I25 = some r → mG D cy ad I25 L H → va_S (gA 18 ad) s.heap H locs → lv_has ls 3 [(0, .ref (ad 0))] → W p l e rm_X5_tower s m args below meth c H locs 0 0 Q (F0 m 157 ls [])) → ∀ (n23 : Nat) (x2_23 : Int32) (I24 : xMem) (H : Heap) (locs : List Loc) (ls : Array Slot), X5_tower_L3 K22 n23 x2_23 I24 = some r → mG D cy ad I24 L H → va_S (gA 18 ad) s.heap H locs → lv_has ls 3 [(0, .ref (ad 0)), (2, .int x2_23)] → W p l e rm_X5_tower s m args below meth c H locs 0 0 Q (F0 m 113 ls []) := by
          intro K22 hkK22 n23
          induction n23 with
          | zero =>
            intro x2_23 I24 H locs ls h
            exact ono h
          | succ n23 ihn23 =>
            intro x2_23 I24 H locs ls h hG hS hl
            rw [X5_tower_L3] at h
            refine lv_iload_n hx hb dX5_tower_113 rfl (lv_at hl 1 rfl) ?_
            refine lv_aload_n hx hb dX5_tower_114 rfl (lv_at hl 0 rfl) ?_
            refine g_get hx hb l5 hown hK hG (k := 0) (by decide) (mE_5 _ _) vwCl_5 4 (by decide) k8 (fun _ h9 => h9) rfl dX5_tower_115 ?_
            refine lv_icmp_ge (tgt := 157) hx hb dX5_tower_118 (by decide) (fun c26 => ?_) (fun c26 => ?_)
            · have h := ite_t h c26
              exact hkK22 I24 _ _ _ h hG hS (lv_sub hl [0] rfl)
            · have h := ite_f h c26
              refine lv_aload_n hx hb dX5_tower_121 rfl (lv_at hl 0 rfl) ?_
              refine g_get hx hb l5 hown hK hG (k := 0) (by decide) (mE_5 _ _) vwCl_5 5 (by decide) k11 (fun _ h9 => h9) rfl dX5_tower_122 ?_
              refine lv_iload_n hx hb dX5_tower_125 rfl (lv_at hl 1 rfl) ?_
              refine lv_aload_n hx hb dX5_tower_126 rfl (lv_at hl 0 rfl) ?_
              refine g_get hx hb l5 hown hK hG (k := 0) (by decide) (mE_5 _ _) vwCl_5 22 (by decide) k12 (fun _ h9 => h9) rfl dX5_tower_127 ?_
              refine lv_iconst (v := (2 : Int32)) hx hb dX5_tower_130 (by decide) ?_
              refine lv_iload_n hx hb dX5_tower_131 rfl (lv_at hl 1 rfl) ?_
              refine lv_imul hx hb dX5_tower_132 ?_
              refine g_ald hx hb hK hG (k := 11) (n := 12) (show mIA 11 12 from by decide +kernel).1.1 (mIA_e (show mIA 11 12 from by decide +kernel) _ _) 0 rfl h dX5_tower_133 (fun v27 h => ?_)
              refine g_ast hx hb hK hG hi hS (k := 3) (n := 6) (show mIA 3 6 from by decide +kernel).1.1 (fun f => mIA_e (show mIA 3 6 from by decide +kernel) f _) 0 rfl h dX5_tower_134 (fun I28 H locs h hG hS => ?_)
              refine lv_aload_n hx hb dX5_tower_135 rfl (lv_at hl 0 rfl) ?_
              refine g_get hx hb l5 hown hK hG (k := 0) (by decide) (mE_5 _ _) vwCl_5 6 (by decide) k13 (fun _ h9 => h9) rfl dX5_tower_136 ?_
              refine lv_iload_n hx hb dX5_tower_139 rfl (lv_at hl 1 rfl) ?_
              refine lv_aload_n hx hb dX5_tower_140 rfl (lv_at hl 0 rfl) ?_
              refine g_get hx hb l5 hown hK hG (k := 0) (by decide) (mE_5 _ _) vwCl_5 22 (by decide) k12 (fun _ h9 => h9) rfl dX5_tower_141 ?_
              refine lv_iconst (v := (2 : Int32)) hx hb dX5_tower_144 (by decide) ?_
              refine lv_iload_n hx hb dX5_tower_145 rfl (lv_at hl 1 rfl) ?_
              refine lv_imul hx hb dX5_tower_146 ?_
              refine lv_iconst (v := (1 : Int32)) hx hb dX5_tower_147 (by decide) ?_
              refine lv_iadd hx hb dX5_tower_148 ?_
              refine g_ald hx hb hK hG (k := 11) (n := 12) (show mIA 11 12 from by decide +kernel).1.1 (mIA_e (show mIA 11 12 from by decide +kernel) _ _) 0 rfl h dX5_tower_149 (fun v29 h => ?_)
              refine g_ast hx hb hK hG hi hS (k := 4) (n := 6) (show mIA 4 6 from by decide +kernel).1.1 (fun f => mIA_e (show mIA 4 6 from by decide +kernel) f _) 0 rfl h dX5_tower_150 (fun I30 H locs h hG hS => ?_)
              refine lv_iinc (v := (x2_23 + (1 : Int32))) (lv' := [(2, .int (x2_23 + (1 : Int32))), (0, .ref (ad 0))]) hx hb dX5_tower_151 hl (k := 1) rfl rfl (by decide) rfl (fun ls hl => ?_)
              refine lv_goto (tgt := 113) hx hb dX5_tower_154 (by decide) ?_
              exact ihn23 (x2_23 + (1 : Int32)) I30 _ _ _ h hG hS (lv_sub hl [1, 0] rfl)
        refine keyK22 _ (fun I25 H locs ls h hG hS hl => ?_) bigF (0 : Int32) I18 _ _ _ h hG hS (lv_sub hl [1, 0] rfl)
        clear keyK22
        refine lv_iconst (v := (1 : Int32)) hx hb dX5_tower_157 (by decide) ?_
        refine lv_istore_n (lv' := [(2, .int (1 : Int32)), (0, .ref (ad 0))]) hx hb dX5_tower_158 rfl hl (by decide) rfl (fun ls hl => ?_)
        have keyK31 : ∀ (K31 : xMem → Option (Int32 × xMem)), (∀ (I34 : xMem) (H : Heap) (locs : List Loc) (ls : Array Slot), K31 I34 = some r → mG D cy ad I34 L H → va_S (gA 18 ad) s.heap H locs → lv_has ls 3 [(0, .ref (ad 0))] → W p l e rm_X5_tower s m args below meth c H locs 0 0 Q (F0 m 183 ls [])) → ∀ (n32 : Nat) (x2_32 : Int32) (I33 : xMem) (H : Heap) (locs : List Loc) (ls : Array Slot), X5_tower_L4 K31 n32 x2_32 I33 = some r → mG D cy ad I33 L H → va_S (gA 18 ad) s.heap H locs → lv_has ls 3 [(0, .ref (ad 0)), (2, .int x2_32)] → W p l e rm_X5_tower s m args below meth c H locs 0 0 Q (F0 m 159 ls []) := by
          intro K31 hkK31 n32
          induction n32 with
          | zero =>
            intro x2_32 I33 H locs ls h
            exact ono h
          | succ n32 ihn32 =>
            intro x2_32 I33 H locs ls h hG hS hl
            rw [X5_tower_L4] at h
            refine lv_iload_n hx hb dX5_tower_159 rfl (lv_at hl 1 rfl) ?_
            refine lv_iconst (v := (4 : Int32)) hx hb dX5_tower_160 (by decide) ?_
            refine lv_icmp_ge (tgt := 183) hx hb dX5_tower_161 (by decide) (fun c35 => ?_) (fun c35 => ?_)
            · have h := ite_t h c35
              exact hkK31 I33 _ _ _ h hG hS (lv_sub hl [0] rfl)
            · have h := ite_f h c35
              refine lv_aload_n hx hb dX5_tower_164 rfl (lv_at hl 0 rfl) ?_
              refine g_get hx hb l5 hown hK hG (k := 0) (by decide) (mE_5 _ _) vwCl_5 0 (by decide) k2 (fun _ h9 => h9) rfl dX5_tower_165 ?_
              refine lv_sipush (v := (165 : Int32)) hx hb dX5_tower_168 (by decide) ?_
              refine lv_iload_n hx hb dX5_tower_171 rfl (lv_at hl 1 rfl) ?_
              refine lv_imul hx hb dX5_tower_172 ?_
              refine lv_iconst (v := (0 : Int32)) hx hb dX5_tower_173 (by decide) ?_
              refine lv_iadd hx hb dX5_tower_174 ?_
              refine lv_iconst (v := (-1 : Int32)) hx hb dX5_tower_175 (by decide) ?_
              refine g_ast hx hb hK hG hi hS (k := 1) (n := 660) (show mIA 1 660 from by decide +kernel).1.1 (fun f => mIA_e (show mIA 1 660 from by decide +kernel) f _) 0 rfl h dX5_tower_176 (fun I36 H locs h hG hS => ?_)
              refine lv_iinc (v := (x2_32 + (1 : Int32))) (lv' := [(2, .int (x2_32 + (1 : Int32))), (0, .ref (ad 0))]) hx hb dX5_tower_177 hl (k := 1) rfl rfl (by decide) rfl (fun ls hl => ?_)
              refine lv_goto (tgt := 159) hx hb dX5_tower_180 (by decide) ?_
              exact ihn32 (x2_32 + (1 : Int32)) I36 _ _ _ h hG hS (lv_sub hl [1, 0] rfl)
        refine keyK31 _ (fun I34 H locs ls h hG hS hl => ?_) bigF (1 : Int32) I25 _ _ _ h hG hS (lv_sub hl [1, 0] rfl)
        clear keyK31
        refine lv_aload_n hx hb dX5_tower_183 rfl (lv_at hl 0 rfl) ?_
        refine g_get hx hb l5 hown hK hG (k := 0) (by decide) (mE_5 _ _) vwCl_5 4 (by decide) k8 (fun _ h9 => h9) rfl dX5_tower_184 ?_
        have h := Option.some.inj h
        subst h
        subst hQ
        exact g_iret hx hb hr hlocks mZm hK hZ hG hS rfl dX5_tower_187
      · have h := ite_f h c5
        refine lv_bipush (v := (-4 : Int32)) hx hb dX5_tower_34 (by decide) ?_
        have h := Option.some.inj h
        subst h
        subst hQ
        exact g_iret hx hb hr hlocks mZm hK hZ hG hS rfl dX5_tower_36
    · have h := ite_f h c3
      refine lv_aload_n hx hb dX5_tower_18 rfl (lv_at hl 0 rfl) ?_
      refine lv_iconst (v := (1 : Int32)) hx hb dX5_tower_19 (by decide) ?_
      obtain ⟨q37, eq37, h⟩ := obind h
      refine g_endi (va_runV (As := [.int (1 : Int32)]) (rest := []) ⟨hx, hb, hml, hown, hts⟩ (k_X5_find l D cy ad hi I L (1 : Int32) q37 eq37) (cwV 1 hts gX5_tower_X5_find rfl rfl rfl cd_X5_find ⟨Nat.le_of_ble_eq_true rfl, Nat.le_of_ble_eq_true rfl⟩) ⟨g_blind mZm, g_recv hK hG (k := 0) (by decide) (mE_5 _ _) vwCl_5, g_pre mZm hK hG hZ hS⟩ rfl rfl hl.1 rfl (lv_room (Nat.le_of_ble_eq_true rfl)) dX5_tower_20 ⟨Nat.le_refl _, Nat.le_refl _⟩) hS (fun H locs hG hS => ?_)
      have h := Option.some.inj h
      subst h
      subst hQ
      exact g_iret hx hb hr hlocks mZm hK hZ hG hS rfl dX5_tower_23
  · have h := ite_t h c1
    refine lv_iconst (v := (-1 : Int32)) hx hb dX5_tower_7 (by decide) ?_
    have h := Option.some.inj h
    subst h
    subst hQ
    exact g_iret hx hb hr hlocks mZm hK hZ hG hS rfl dX5_tower_8
def X5_isOne (I : xMem) (x1 : Int32) : Int32 := (nz (X5_in x1.toInt64 (0 : Int64) (((I 0 4) - (1 : Int32)).toInt64)))
abbrev rm_X5_isOne : Room := { frames := 1, cells := 0, slots := 0, locals := 25 }
theorem cd_X5_isOne : yX5_isOne.cls = RX5 ∧ yX5_isOne.cls ≠ "java/lang/invoke/MethodHandle" ∧ yX5_isOne.cls ≠ "java/lang/invoke/VarHandle" ∧ (parseMethodDescriptor yX5_isOne.desc).map (fun d => d.parameters.length) = some 1 := by decide +kernel
set_option maxHeartbeats 4000000 in
set_option maxRecDepth 100000 in
theorem k_X5_isOne (l : Launch) (D : va_G) (cy : Nat → ClassId) (ad : Nat → Nat) (hi : gInj 18 ad) (I : xMem) (L : xLon) (x1 : Int32) (r : Int32) (h : X5_isOne I x1 = r) : Met l yX5_isOne wsX5_isOne rm_X5_isOne (va_Pc [.ref (ad 0), .int x1] (mW D cy ad I L)) (mPi D cy ad I L r) 0 0 (gA 18 ad) := by
  refine g_met (own := RX5) (cc := cX5_isOne) (maxL := 2) (ret := (some .boolean)) (by decide) rfl (Nat.le_of_ble_eq_true rfl) rfl ?_
  intro p e s m args below meth c ls hx hb hml hr hlocks hown hts hG hK hZ hl
  generalize hQ : MQ below _ args s 0 0 _ = Q
  have hl : lv_has ls 2 [(0, .ref (ad 0)), (1, .int x1)] := hl
  have hS : va_S (gA 18 ad) s.heap s.heap [] := va_S.rf
  have l5 : ∀ w ∈ wsX50, w.before args s = true := fun w h => hts w (List.mem_cons_of_mem _ (List.mem_append_right _ h))
  have k1 := hts (.fieldLink RX5 157 "PairStairsModel" "people" "I") (by decide +kernel)
  unfold X5_isOne at h
  refine lv_iload_n hx hb dX5_isOne_0 rfl (lv_at hl 1 rfl) ?_
  refine lv_i2l hx hb dX5_isOne_1 rfl ?_
  refine lv_lconst (v := (0 : Int64)) hx hb dX5_isOne_2 (by decide) ?_
  refine lv_aload_n hx hb dX5_isOne_3 rfl (lv_at hl 0 rfl) ?_
  refine g_get hx hb l5 hown hK hG (k := 0) (by decide) (mE_5 _ _) vwCl_5 4 (by decide) k1 (fun _ h9 => h9) rfl dX5_isOne_4 ?_
  refine lv_iconst (v := (1 : Int32)) hx hb dX5_isOne_7 (by decide) ?_
  refine lv_isub hx hb dX5_isOne_8 ?_
  refine lv_i2l hx hb dX5_isOne_9 rfl ?_
  refine g_endi (va_runS (As := [.long x1.toInt64, .long (0 : Int64), .long (((I 0 4) - (1 : Int32)).toInt64)]) (rest := []) ⟨hx, hb, hml, hown, hts⟩ (k_X5_in l D cy ad hi I L x1.toInt64 (0 : Int64) (((I 0 4) - (1 : Int32)).toInt64) _ rfl) (va_cwS 3 hts gX5_isOne_X5_in rfl rfl rfl cd_X5_in.2 ⟨Nat.le_of_ble_eq_true rfl, Nat.le_of_ble_eq_true rfl⟩) ⟨g_blind mZm, g_pre mZm hK hG hZ hS⟩ rfl rfl hl.1 rfl (lv_room (Nat.le_of_ble_eq_true rfl)) dX5_isOne_10 ⟨Nat.le_refl _, Nat.le_refl _⟩) hS (fun H locs hG hS => ?_)
  subst h
  subst hQ
  exact g_zret hx hb hr hlocks mZm hK hZ hG hS rfl dX5_isOne_13
def X5_areTwo (I : xMem) (x1 : Int32) (x2 : Int32) : Int32 := if (X5_isOne I x1) = (0 : Int32) then ((nz (0 : Int32))) else (if (X5_isOne I x2) = (0 : Int32) then ((nz (0 : Int32))) else (if x1 = x2 then ((nz (0 : Int32))) else ((nz (1 : Int32)))))
abbrev rm_X5_areTwo : Room := { frames := 2, cells := 0, slots := 0, locals := 46 }
theorem cd_X5_areTwo : yX5_areTwo.cls = RX5 ∧ yX5_areTwo.cls ≠ "java/lang/invoke/MethodHandle" ∧ yX5_areTwo.cls ≠ "java/lang/invoke/VarHandle" ∧ (parseMethodDescriptor yX5_areTwo.desc).map (fun d => d.parameters.length) = some 2 := by decide +kernel
set_option maxHeartbeats 4000000 in
set_option maxRecDepth 100000 in
theorem k_X5_areTwo (l : Launch) (D : va_G) (cy : Nat → ClassId) (ad : Nat → Nat) (hi : gInj 18 ad) (I : xMem) (L : xLon) (x1 : Int32) (x2 : Int32) (r : Int32) (h : X5_areTwo I x1 x2 = r) : Met l yX5_areTwo wsX5_areTwo rm_X5_areTwo (va_Pc [.ref (ad 0), .int x1, .int x2] (mW D cy ad I L)) (mPi D cy ad I L r) 0 0 (gA 18 ad) := by
  refine g_met (own := RX5) (cc := cX5_areTwo) (maxL := 3) (ret := (some .boolean)) (by decide) rfl (Nat.le_of_ble_eq_true rfl) rfl ?_
  intro p e s m args below meth c ls hx hb hml hr hlocks hown hts hG hK hZ hl
  generalize hQ : MQ below _ args s 0 0 _ = Q
  have hl : lv_has ls 3 [(0, .ref (ad 0)), (1, .int x1), (2, .int x2)] := hl
  have hS : va_S (gA 18 ad) s.heap s.heap [] := va_S.rf
  unfold X5_areTwo at h
  refine lv_aload_n hx hb dX5_areTwo_0 rfl (lv_at hl 0 rfl) ?_
  refine lv_iload_n hx hb dX5_areTwo_1 rfl (lv_at hl 1 rfl) ?_
  refine g_endi (va_runV (As := [.int x1]) (rest := []) ⟨hx, hb, hml, hown, hts⟩ (k_X5_isOne l D cy ad hi I L x1 _ rfl) (cwV 1 hts gX5_areTwo_X5_isOne rfl rfl rfl cd_X5_isOne ⟨Nat.le_of_ble_eq_true rfl, Nat.le_of_ble_eq_true rfl⟩) ⟨g_blind mZm, g_recv hK hG (k := 0) (by decide) (mE_5 _ _) vwCl_5, g_pre mZm hK hG hZ hS⟩ rfl rfl hl.1 rfl (lv_room (Nat.le_of_ble_eq_true rfl)) dX5_areTwo_2 ⟨Nat.le_refl _, Nat.le_refl _⟩) hS (fun H locs hG hS => ?_)
  refine lv_if_eq (tgt := 25) hx hb dX5_areTwo_5 (by decide) (fun c1 => ?_) (fun c1 => ?_)
  · have h := ite_t h c1
    refine lv_iconst (v := (0 : Int32)) hx hb dX5_areTwo_25 (by decide) ?_
    subst h
    subst hQ
    exact g_zret hx hb hr hlocks mZm hK hZ hG hS rfl dX5_areTwo_26
  · have h := ite_f h c1
    refine lv_aload_n hx hb dX5_areTwo_8 rfl (lv_at hl 0 rfl) ?_
    refine lv_iload_n hx hb dX5_areTwo_9 rfl (lv_at hl 2 rfl) ?_
    refine g_endi (va_runV (As := [.int x2]) (rest := []) ⟨hx, hb, hml, hown, hts⟩ (k_X5_isOne l D cy ad hi I L x2 _ rfl) (cwV 1 hts gX5_areTwo_X5_isOne rfl rfl rfl cd_X5_isOne ⟨Nat.le_of_ble_eq_true rfl, Nat.le_of_ble_eq_true rfl⟩) ⟨g_blind mZm, g_recv hK hG (k := 0) (by decide) (mE_5 _ _) vwCl_5, g_pre mZm hK hG hZ hS⟩ rfl rfl hl.1 rfl (lv_room (Nat.le_of_ble_eq_true rfl)) dX5_areTwo_10 ⟨Nat.le_refl _, Nat.le_refl _⟩) hS (fun H locs hG hS => ?_)
    refine lv_if_eq (tgt := 25) hx hb dX5_areTwo_13 (by decide) (fun c2 => ?_) (fun c2 => ?_)
    · have h := ite_t h c2
      refine lv_iconst (v := (0 : Int32)) hx hb dX5_areTwo_25 (by decide) ?_
      subst h
      subst hQ
      exact g_zret hx hb hr hlocks mZm hK hZ hG hS rfl dX5_areTwo_26
    · have h := ite_f h c2
      refine lv_iload_n hx hb dX5_areTwo_16 rfl (lv_at hl 1 rfl) ?_
      refine lv_iload_n hx hb dX5_areTwo_17 rfl (lv_at hl 2 rfl) ?_
      refine lv_icmp_eq (tgt := 25) hx hb dX5_areTwo_18 (by decide) (fun c3 => ?_) (fun c3 => ?_)
      · have h := ite_t h c3
        refine lv_iconst (v := (0 : Int32)) hx hb dX5_areTwo_25 (by decide) ?_
        subst h
        subst hQ
        exact g_zret hx hb hr hlocks mZm hK hZ hG hS rfl dX5_areTwo_26
      · have h := ite_f h c3
        refine lv_iconst (v := (1 : Int32)) hx hb dX5_areTwo_21 (by decide) ?_
        refine lv_goto (tgt := 26) hx hb dX5_areTwo_22 (by decide) ?_
        subst h
        subst hQ
        exact g_zret hx hb hr hlocks mZm hK hZ hG hS rfl dX5_areTwo_26
def X5_countsBy (x1 : Int32) (x2 : Int32) (x3 : Int32) : Int32 := if x1 = (2 : Int32) then ((x2 / (2 : Int32))) else (if x1 = (3 : Int32) then ((x2 + (5 : Int32))) else (if x1 = (4 : Int32) then (((x2 + (5 : Int32)) + x3)) else (if x1 = (5 : Int32) then (((x2 / (2 : Int32)) / (2 : Int32))) else (x2))))
abbrev rm_X5_countsBy : Room := { frames := 0, cells := 0, slots := 0, locals := 0 }
theorem cd_X5_countsBy : yX5_countsBy.cls = RX5 ∧ yX5_countsBy.cls ≠ "java/lang/invoke/MethodHandle" ∧ yX5_countsBy.cls ≠ "java/lang/invoke/VarHandle" ∧ (parseMethodDescriptor yX5_countsBy.desc).map (fun d => d.parameters.length) = some 3 := by decide +kernel
set_option maxHeartbeats 4000000 in
set_option maxRecDepth 100000 in
theorem k_X5_countsBy (l : Launch) (D : va_G) (cy : Nat → ClassId) (ad : Nat → Nat) (hi : gInj 18 ad) (I : xMem) (L : xLon) (x1 : Int32) (x2 : Int32) (x3 : Int32) (r : Int32) (h : X5_countsBy x1 x2 x3 = r) : Met l yX5_countsBy wsX5_countsBy rm_X5_countsBy (va_Pc [.int x1, .int x2, .int x3] (mW D cy ad I L)) (mPi D cy ad I L r) 0 0 (gA 18 ad) := by
  refine g_met (own := RX5) (cc := cX5_countsBy) (maxL := 3) (ret := (some .int)) (by decide) rfl (Nat.le_of_ble_eq_true rfl) rfl ?_
  intro p e s m args below meth c ls hx hb hml hr hlocks hown hts hG hK hZ hl
  generalize hQ : MQ below _ args s 0 0 _ = Q
  have hl : lv_has ls 3 [(0, .int x1), (1, .int x2), (2, .int x3)] := hl
  have hS : va_S (gA 18 ad) s.heap s.heap [] := va_S.rf
  unfold X5_countsBy at h
  refine lv_iload_n hx hb dX5_countsBy_0 rfl (lv_at hl 0 rfl) ?_
  by_cases c1 : x1 = (2 : Int32)
  · have h := ite_t h c1
    refine lv_tableIn (tgt := 32) hx hb dX5_countsBy_1 (by rw [c1]; decide) (by rw [c1]; decide) (by rw [c1]; rfl) (by decide) ?_
    refine lv_iload_n hx hb dX5_countsBy_32 rfl (lv_at hl 1 rfl) ?_
    refine lv_iconst (v := (2 : Int32)) hx hb dX5_countsBy_33 (by decide) ?_
    refine lv_idiv hx hb dX5_countsBy_34 (by decide) ?_
    subst h
    subst hQ
    exact g_iret hx hb hr hlocks mZm hK hZ hG hS rfl dX5_countsBy_35
  · have h := ite_f h c1
    by_cases c2 : x1 = (3 : Int32)
    · have h := ite_t h c2
      refine lv_tableIn (tgt := 42) hx hb dX5_countsBy_1 (by rw [c2]; decide) (by rw [c2]; decide) (by rw [c2]; rfl) (by decide) ?_
      refine lv_iload_n hx hb dX5_countsBy_42 rfl (lv_at hl 1 rfl) ?_
      refine lv_iconst (v := (5 : Int32)) hx hb dX5_countsBy_43 (by decide) ?_
      refine lv_iadd hx hb dX5_countsBy_44 ?_
      subst h
      subst hQ
      exact g_iret hx hb hr hlocks mZm hK hZ hG hS rfl dX5_countsBy_45
    · have h := ite_f h c2
      by_cases c3 : x1 = (4 : Int32)
      · have h := ite_t h c3
        refine lv_tableIn (tgt := 46) hx hb dX5_countsBy_1 (by rw [c3]; decide) (by rw [c3]; decide) (by rw [c3]; rfl) (by decide) ?_
        refine lv_iload_n hx hb dX5_countsBy_46 rfl (lv_at hl 1 rfl) ?_
        refine lv_iconst (v := (5 : Int32)) hx hb dX5_countsBy_47 (by decide) ?_
        refine lv_iadd hx hb dX5_countsBy_48 ?_
        refine lv_iload_n hx hb dX5_countsBy_49 rfl (lv_at hl 2 rfl) ?_
        refine lv_iadd hx hb dX5_countsBy_50 ?_
        subst h
        subst hQ
        exact g_iret hx hb hr hlocks mZm hK hZ hG hS rfl dX5_countsBy_51
      · have h := ite_f h c3
        by_cases c4 : x1 = (5 : Int32)
        · have h := ite_t h c4
          refine lv_tableIn (tgt := 36) hx hb dX5_countsBy_1 (by rw [c4]; decide) (by rw [c4]; decide) (by rw [c4]; rfl) (by decide) ?_
          refine lv_iload_n hx hb dX5_countsBy_36 rfl (lv_at hl 1 rfl) ?_
          refine lv_iconst (v := (2 : Int32)) hx hb dX5_countsBy_37 (by decide) ?_
          refine lv_idiv hx hb dX5_countsBy_38 (by decide) ?_
          refine lv_iconst (v := (2 : Int32)) hx hb dX5_countsBy_39 (by decide) ?_
          refine lv_idiv hx hb dX5_countsBy_40 (by decide) ?_
          subst h
          subst hQ
          exact g_iret hx hb hr hlocks mZm hK hZ hG hS rfl dX5_countsBy_41
        · have h := ite_f h c4
          refine lv_tableOut (tgt := 52) hx hb dX5_countsBy_1 (tsw_out 2 5 (fun k h1 h2 => ?_)) (by decide) ?_
          · rcases (show k = 2 ∨ k = 3 ∨ k = 4 ∨ k = 5 by omega) with rfl | rfl | rfl | rfl
            · exact c1
            · exact c2
            · exact c3
            · exact c4
          · refine lv_iload_n hx hb dX5_countsBy_52 rfl (lv_at hl 1 rfl) ?_
            subst h
            subst hQ
            exact g_iret hx hb hr hlocks mZm hK hZ hG hS rfl dX5_countsBy_53
def X5_counts (I : xMem) (x1 : Int32) : Option (Int32) := (rdI I 3 6 x1).bind fun v1 => (rdI I 4 6 x1).bind fun v2 => (rdI I 1 660 (1 : Int32)).bind fun v3 => some (X5_countsBy v1 v2 v3)
abbrev rm_X5_counts : Room := { frames := 1, cells := 0, slots := 0, locals := 22 }
theorem cd_X5_counts : yX5_counts.cls = RX5 ∧ yX5_counts.cls ≠ "java/lang/invoke/MethodHandle" ∧ yX5_counts.cls ≠ "java/lang/invoke/VarHandle" ∧ (parseMethodDescriptor yX5_counts.desc).map (fun d => d.parameters.length) = some 1 := by decide +kernel
set_option maxHeartbeats 4000000 in
set_option maxRecDepth 100000 in
theorem k_X5_counts (l : Launch) (D : va_G) (cy : Nat → ClassId) (ad : Nat → Nat) (hi : gInj 18 ad) (I : xMem) (L : xLon) (x1 : Int32) (r : Int32) (h : X5_counts I x1 = some r) : Met l yX5_counts wsX5_counts rm_X5_counts (va_Pc [.ref (ad 0), .int x1] (mW D cy ad I L)) (mPi D cy ad I L r) 0 0 (gA 18 ad) := by
  refine g_met (own := RX5) (cc := cX5_counts) (maxL := 2) (ret := (some .int)) (by decide) rfl (Nat.le_of_ble_eq_true rfl) rfl ?_
  intro p e s m args below meth c ls hx hb hml hr hlocks hown hts hG hK hZ hl
  generalize hQ : MQ below _ args s 0 0 _ = Q
  have hl : lv_has ls 2 [(0, .ref (ad 0)), (1, .int x1)] := hl
  have hS : va_S (gA 18 ad) s.heap s.heap [] := va_S.rf
  have l5 : ∀ w ∈ wsX50, w.before args s = true := fun w h => hts w (List.mem_cons_of_mem _ (List.mem_append_right _ h))
  have k1 := hts (.fieldLink RX5 16 "PairStairsModel" "kinds" "[I") (by decide +kernel)
  have k2 := hts (.fieldLink RX5 19 "PairStairsModel" "pounds" "[I") (by decide +kernel)
  have k3 := hts (.fieldLink RX5 7 "PairStairsModel" "row" "[I") (by decide +kernel)
  unfold X5_counts at h
  refine lv_aload_n hx hb dX5_counts_0 rfl (lv_at hl 0 rfl) ?_
  refine g_get hx hb l5 hown hK hG (k := 0) (by decide) (mE_5 _ _) vwCl_5 5 (by decide) k1 (fun _ h9 => h9) rfl dX5_counts_1 ?_
  refine lv_iload_n hx hb dX5_counts_4 rfl (lv_at hl 1 rfl) ?_
  refine g_ald hx hb hK hG (k := 3) (n := 6) (show mIA 3 6 from by decide +kernel).1.1 (mIA_e (show mIA 3 6 from by decide +kernel) _ _) 0 rfl h dX5_counts_5 (fun v1 h => ?_)
  refine lv_aload_n hx hb dX5_counts_6 rfl (lv_at hl 0 rfl) ?_
  refine g_get hx hb l5 hown hK hG (k := 0) (by decide) (mE_5 _ _) vwCl_5 6 (by decide) k2 (fun _ h9 => h9) rfl dX5_counts_7 ?_
  refine lv_iload_n hx hb dX5_counts_10 rfl (lv_at hl 1 rfl) ?_
  refine g_ald hx hb hK hG (k := 4) (n := 6) (show mIA 4 6 from by decide +kernel).1.1 (mIA_e (show mIA 4 6 from by decide +kernel) _ _) 0 rfl h dX5_counts_11 (fun v2 h => ?_)
  refine lv_aload_n hx hb dX5_counts_12 rfl (lv_at hl 0 rfl) ?_
  refine g_get hx hb l5 hown hK hG (k := 0) (by decide) (mE_5 _ _) vwCl_5 0 (by decide) k3 (fun _ h9 => h9) rfl dX5_counts_13 ?_
  refine lv_iconst (v := (1 : Int32)) hx hb dX5_counts_16 (by decide) ?_
  refine g_ald hx hb hK hG (k := 1) (n := 660) (show mIA 1 660 from by decide +kernel).1.1 (mIA_e (show mIA 1 660 from by decide +kernel) _ _) 0 rfl h dX5_counts_17 (fun v3 h => ?_)
  refine g_endi (va_runS (As := [.int v1, .int v2, .int v3]) (rest := []) ⟨hx, hb, hml, hown, hts⟩ (k_X5_countsBy l D cy ad hi I L v1 v2 v3 _ rfl) (va_cwS 3 hts gX5_counts_X5_countsBy rfl rfl rfl cd_X5_countsBy.2 ⟨Nat.le_of_ble_eq_true rfl, Nat.le_of_ble_eq_true rfl⟩) ⟨g_blind mZm, g_pre mZm hK hG hZ hS⟩ rfl rfl hl.1 rfl (lv_room (Nat.le_of_ble_eq_true rfl)) dX5_counts_18 ⟨Nat.le_refl _, Nat.le_refl _⟩) hS (fun H locs hG hS => ?_)
  have h := Option.some.inj h
  subst h
  subst hQ
  exact g_iret hx hb hr hlocks mZm hK hZ hG hS rfl dX5_counts_21
def X5_poundsOf_L1 (I : xMem) (x1 : Int32) (K1 : Int32 → Option (Int32)) : Nat → Int32 → Int32 → Option (Int32)
  | 0, _, _ => none
  | n2 + 1, x2_2, x3_2 => if (I 0 2) ≤ x3_2 then (K1 x2_2) else ((if (X5_has x1 x3_2) = (0 : Int32) then (some (0 : Int32)) else ((rdI I 2 4 x3_2).bind fun v6 => some v6)).bind fun q4 => X5_poundsOf_L1 I x1 K1 n2 (x2_2 + q4) (x3_2 + (1 : Int32)))
def X5_poundsOf (I : xMem) (x1 : Int32) : Option (Int32) := X5_poundsOf_L1 I x1 (fun (z2_2 : Int32) => some z2_2) bigF (0 : Int32) (0 : Int32)
abbrev rm_X5_poundsOf : Room := { frames := 1, cells := 0, slots := 0, locals := 21 }
theorem cd_X5_poundsOf : yX5_poundsOf.cls = RX5 ∧ yX5_poundsOf.cls ≠ "java/lang/invoke/MethodHandle" ∧ yX5_poundsOf.cls ≠ "java/lang/invoke/VarHandle" ∧ (parseMethodDescriptor yX5_poundsOf.desc).map (fun d => d.parameters.length) = some 1 := by decide +kernel
set_option maxHeartbeats 4000000 in
set_option maxRecDepth 100000 in
theorem k_X5_poundsOf (l : Launch) (D : va_G) (cy : Nat → ClassId) (ad : Nat → Nat) (hi : gInj 18 ad) (I : xMem) (L : xLon) (x1 : Int32) (r : Int32) (h : X5_poundsOf I x1 = some r) : Met l yX5_poundsOf wsX5_poundsOf rm_X5_poundsOf (va_Pc [.ref (ad 0), .int x1] (mW D cy ad I L)) (mPi D cy ad I L r) 0 0 (gA 18 ad) := by
  refine g_met (own := RX5) (cc := cX5_poundsOf) (maxL := 4) (ret := (some .int)) (by decide) rfl (Nat.le_of_ble_eq_true rfl) rfl ?_
  intro p e s m args below meth c ls hx hb hml hr hlocks hown hts hG hK hZ hl
  generalize hQ : MQ below _ args s 0 0 _ = Q
  have hl : lv_has ls 4 [(0, .ref (ad 0)), (1, .int x1)] := hl
  have hS : va_S (gA 18 ad) s.heap s.heap [] := va_S.rf
  have l5 : ∀ w ∈ wsX50, w.before args s = true := fun w h => hts w (List.mem_cons_of_mem _ (List.mem_append_right _ h))
  have k1 := hts (.fieldLink RX5 154 "PairStairsModel" "stoneMany" "I") (by decide +kernel)
  have k2 := hts (.fieldLink RX5 13 "PairStairsModel" "stones" "[I") (by decide +kernel)
  unfold X5_poundsOf at h
  refine lv_iconst (v := (0 : Int32)) hx hb dX5_poundsOf_0 (by decide) ?_
  refine lv_istore_n (lv' := [(2, .int (0 : Int32)), (0, .ref (ad 0)), (1, .int x1)]) hx hb dX5_poundsOf_1 rfl hl (by decide) rfl (fun ls hl => ?_)
  refine lv_iconst (v := (0 : Int32)) hx hb dX5_poundsOf_2 (by decide) ?_
  refine lv_istore_n (lv' := [(3, .int (0 : Int32)), (2, .int (0 : Int32)), (0, .ref (ad 0)), (1, .int x1)]) hx hb dX5_poundsOf_3 rfl hl (by decide) rfl (fun ls hl => ?_)
  have keyK1 : ∀ (K1 : Int32 → Option (Int32)), (∀ (z2_2 : Int32) (H : Heap) (locs : List Loc) (ls : Array Slot), K1 z2_2 = some r → mG D cy ad I L H → va_S (gA 18 ad) s.heap H locs → lv_has ls 4 [(2, .int z2_2)] → W p l e rm_X5_poundsOf s m args below meth c H locs 0 0 Q (F0 m 39 ls [])) → ∀ (n2 : Nat) (x2_2 : Int32) (x3_2 : Int32) (H : Heap) (locs : List Loc) (ls : Array Slot), X5_poundsOf_L1 I x1 K1 n2 x2_2 x3_2 = some r → mG D cy ad I L H → va_S (gA 18 ad) s.heap H locs → lv_has ls 4 [(0, .ref (ad 0)), (1, .int x1), (2, .int x2_2), (3, .int x3_2)] → W p l e rm_X5_poundsOf s m args below meth c H locs 0 0 Q (F0 m 4 ls []) := by
    intro K1 hkK1 n2
    induction n2 with
    | zero =>
      intro x2_2 x3_2 H locs ls h
      exact ono h
    | succ n2 ihn2 =>
      intro x2_2 x3_2 H locs ls h hG hS hl
      rw [X5_poundsOf_L1] at h
      refine lv_iload_n hx hb dX5_poundsOf_4 rfl (lv_at hl 3 rfl) ?_
      refine lv_aload_n hx hb dX5_poundsOf_5 rfl (lv_at hl 0 rfl) ?_
      refine g_get hx hb l5 hown hK hG (k := 0) (by decide) (mE_5 _ _) vwCl_5 2 (by decide) k1 (fun _ h9 => h9) rfl dX5_poundsOf_6 ?_
      refine lv_icmp_ge (tgt := 39) hx hb dX5_poundsOf_9 (by decide) (fun c3 => ?_) (fun c3 => ?_)
      · have h := ite_t h c3
        exact hkK1 x2_2 _ _ _ h hG hS (lv_sub hl [2] rfl)
      · have h := ite_f h c3
        refine lv_iload_n hx hb dX5_poundsOf_12 rfl (lv_at hl 2 rfl) ?_
        refine lv_iload_n hx hb dX5_poundsOf_13 rfl (lv_at hl 1 rfl) ?_
        refine lv_iload_n hx hb dX5_poundsOf_14 rfl (lv_at hl 3 rfl) ?_
        refine g_endi (va_runS (As := [.int x1, .int x3_2]) (rest := [.int x2_2]) ⟨hx, hb, hml, hown, hts⟩ (k_X5_has l D cy ad hi I L x1 x3_2 _ rfl) (va_cwS 2 hts gX5_poundsOf_X5_has rfl rfl rfl cd_X5_has.2 ⟨Nat.le_of_ble_eq_true rfl, Nat.le_of_ble_eq_true rfl⟩) ⟨g_blind mZm, g_pre mZm hK hG hZ hS⟩ rfl rfl hl.1 rfl (lv_room (Nat.le_of_ble_eq_true rfl)) dX5_poundsOf_15 ⟨Nat.le_refl _, Nat.le_refl _⟩) hS (fun H locs hG hS => ?_)
        obtain ⟨q4, h9, h⟩ := obind h
        have hk_q4 : ∀ (H : Heap) (locs : List Loc) (ls : Array Slot), mG D cy ad I L H → va_S (gA 18 ad) s.heap H locs → lv_has ls 4 [(0, .ref (ad 0)), (1, .int x1), (3, .int x3_2)] → W p l e rm_X5_poundsOf s m args below meth c H locs 0 0 Q (F0 m 31 ls [.int q4, .int x2_2]) := by
          intro H locs ls hG hS hl
          refine lv_iadd hx hb dX5_poundsOf_31 ?_
          refine lv_istore_n (lv' := [(2, .int (x2_2 + q4)), (0, .ref (ad 0)), (1, .int x1), (3, .int x3_2)]) hx hb dX5_poundsOf_32 rfl hl (by decide) rfl (fun ls hl => ?_)
          refine lv_iinc (v := (x3_2 + (1 : Int32))) (lv' := [(3, .int (x3_2 + (1 : Int32))), (2, .int (x2_2 + q4)), (0, .ref (ad 0)), (1, .int x1)]) hx hb dX5_poundsOf_33 hl (k := 3) rfl rfl (by decide) rfl (fun ls hl => ?_)
          refine lv_goto (tgt := 4) hx hb dX5_poundsOf_36 (by decide) ?_
          exact ihn2 (x2_2 + q4) (x3_2 + (1 : Int32)) _ _ _ h hG hS (lv_sub hl [2, 3, 1, 0] rfl)
        clear h
        have h := h9
        clear h9
        refine lv_if_eq (tgt := 30) hx hb dX5_poundsOf_18 (by decide) (fun c5 => ?_) (fun c5 => ?_)
        · have h := ite_t h c5
          refine lv_iconst (v := (0 : Int32)) hx hb dX5_poundsOf_30 (by decide) ?_
          have h := Option.some.inj h
          subst h
          exact hk_q4 _ _ _ hG hS (lv_sub hl [0, 1, 3] rfl)
        · have h := ite_f h c5
          refine lv_aload_n hx hb dX5_poundsOf_21 rfl (lv_at hl 0 rfl) ?_
          refine g_get hx hb l5 hown hK hG (k := 0) (by decide) (mE_5 _ _) vwCl_5 3 (by decide) k2 (fun _ h9 => h9) rfl dX5_poundsOf_22 ?_
          refine lv_iload_n hx hb dX5_poundsOf_25 rfl (lv_at hl 3 rfl) ?_
          refine g_ald hx hb hK hG (k := 2) (n := 4) (show mIA 2 4 from by decide +kernel).1.1 (mIA_e (show mIA 2 4 from by decide +kernel) _ _) 0 rfl h dX5_poundsOf_26 (fun v6 h => ?_)
          refine lv_goto (tgt := 31) hx hb dX5_poundsOf_27 (by decide) ?_
          have h := Option.some.inj h
          subst h
          exact hk_q4 _ _ _ hG hS (lv_sub hl [0, 1, 3] rfl)
  refine keyK1 _ (fun z2_2 H locs ls h hG hS hl => ?_) bigF (0 : Int32) (0 : Int32) _ _ _ h hG hS (lv_sub hl [2, 3, 1, 0] rfl)
  clear keyK1
  refine lv_iload_n hx hb dX5_poundsOf_39 rfl (lv_at hl 0 rfl) ?_
  have h := Option.some.inj h
  subst h
  subst hQ
  exact g_iret hx hb hr hlocks mZm hK hZ hG hS rfl dX5_poundsOf_40
