def X3_areTogether (x1 : Int32) (x2 : Int32) (x3 : Int32) : Int32 := if ((x1 >>> (x2 &&& 31)) &&& (1 : Int32)) = ((x1 >>> (x3 &&& 31)) &&& (1 : Int32)) then ((nz (1 : Int32))) else ((nz (0 : Int32)))
abbrev rm_X3_areTogether : Room := { frames := 0, cells := 0, slots := 0, locals := 0 }
theorem cd_X3_areTogether : yX3_areTogether.cls = RX3 ∧ yX3_areTogether.cls ≠ "java/lang/invoke/MethodHandle" ∧ yX3_areTogether.cls ≠ "java/lang/invoke/VarHandle" ∧ (parseMethodDescriptor yX3_areTogether.desc).map (fun d => d.parameters.length) = some 3 := by decide +kernel
set_option maxHeartbeats 4000000 in
set_option maxRecDepth 100000 in
theorem k_X3_areTogether (l : Launch) (D : va_G) (cy : Nat → ClassId) (ad : Nat → Nat) (P Dr : Nat) (tI : xTab) (hX : cOk ad P Dr) (I : xMem) (L : xLon) (x1 : Int32) (x2 : Int32) (x3 : Int32) (r : Int32) (h : X3_areTogether x1 x2 x3 = r) : Met l yX3_areTogether wsX3_areTogether rm_X3_areTogether (va_Pc [.int x1, .int x2, .int x3] (cW D cy ad P Dr tI I L)) (cPi D cy ad P Dr tI I L r) 0 0 (gA 64 ad) := by
  refine g_met (own := RX3) (cc := cX3_areTogether) (maxL := 3) (ret := (some .boolean)) (by decide) rfl (Nat.le_of_ble_eq_true rfl) rfl ?_
  intro p e s m args below meth c ls hx hb hml hr hlocks hown hts hG hK hZ hl
  generalize hQ : MQ below _ args s 0 0 _ = Q
  have hl : lv_has ls 3 [(0, .int x1), (1, .int x2), (2, .int x3)] := hl
  have hS : va_S (gA 64 ad) s.heap s.heap [] := va_S.rf
  obtain ⟨hi, hP, hDr⟩ := id hX
  unfold X3_areTogether at h
  refine lv_iload_n hx hb dX3_areTogether_0 rfl (lv_at hl 0 rfl) ?_
  refine lv_iload_n hx hb dX3_areTogether_1 rfl (lv_at hl 1 rfl) ?_
  refine lv_ishr hx hb dX3_areTogether_2 ?_
  refine lv_iconst (v := (1 : Int32)) hx hb dX3_areTogether_3 (by decide) ?_
  refine lv_iand hx hb dX3_areTogether_4 ?_
  refine lv_iload_n hx hb dX3_areTogether_5 rfl (lv_at hl 0 rfl) ?_
  refine lv_iload_n hx hb dX3_areTogether_6 rfl (lv_at hl 2 rfl) ?_
  refine lv_ishr hx hb dX3_areTogether_7 ?_
  refine lv_iconst (v := (1 : Int32)) hx hb dX3_areTogether_8 (by decide) ?_
  refine lv_iand hx hb dX3_areTogether_9 ?_
  refine lv_icmp_ne (tgt := 17) hx hb dX3_areTogether_10 (by decide) (fun c1 => ?_) (fun c1 => ?_)
  · have h := ite_f h c1
    refine lv_iconst (v := (0 : Int32)) hx hb dX3_areTogether_17 (by decide) ?_
    subst h
    subst hQ
    exact g_zret hx hb hr hlocks cZm hK hZ hG hS rfl dX3_areTogether_18
  · have h := ite_t h c1
    refine lv_iconst (v := (1 : Int32)) hx hb dX3_areTogether_13 (by decide) ?_
    refine lv_goto (tgt := 18) hx hb dX3_areTogether_14 (by decide) ?_
    subst h
    subst hQ
    exact g_zret hx hb hr hlocks cZm hK hZ hG hS rfl dX3_areTogether_18
def X3_added_L1 (x1 : Int32) (x2 : Int32) (x3 : Int32) (K1 : Int32 → Option (Int32)) : Nat → Int32 → Int32 → Option (Int32)
  | 0, _, _ => none
  | n2 + 1, x3_2, x4_2 => if (16 : Int32) ≤ x4_2 then (K1 x3_2) else (if (x2 >>> (x4_2 &&& 31)) = (0 : Int32) then (K1 x3_2) else (if ((x2 >>> (x4_2 &&& 31)) &&& (1 : Int32)) = (1 : Int32) then (if (x4_2 &&& (x3 ^^^ (-1 : Int32))) = (0 : Int32) then (X3_added_L1 x1 x2 x3 K1 n2 (x3_2 ||| ((1 : Int32) <<< ((x1 ||| x4_2) &&& 31))) (x4_2 + (1 : Int32))) else (X3_added_L1 x1 x2 x3 K1 n2 x3_2 (x4_2 + (1 : Int32)))) else (X3_added_L1 x1 x2 x3 K1 n2 x3_2 (x4_2 + (1 : Int32)))))
def X3_added (x1 : Int32) (x2 : Int32) (x3 : Int32) : Option (Int32) := X3_added_L1 x1 x2 x3 (fun (z3_2 : Int32) => some z3_2) bigF (0 : Int32) (0 : Int32)
abbrev rm_X3_added : Room := { frames := 0, cells := 0, slots := 0, locals := 0 }
theorem cd_X3_added : yX3_added.cls = RX3 ∧ yX3_added.cls ≠ "java/lang/invoke/MethodHandle" ∧ yX3_added.cls ≠ "java/lang/invoke/VarHandle" ∧ (parseMethodDescriptor yX3_added.desc).map (fun d => d.parameters.length) = some 3 := by decide +kernel
set_option maxHeartbeats 4000000 in
set_option maxRecDepth 100000 in
theorem k_X3_added (l : Launch) (D : va_G) (cy : Nat → ClassId) (ad : Nat → Nat) (P Dr : Nat) (tI : xTab) (hX : cOk ad P Dr) (I : xMem) (L : xLon) (x1 : Int32) (x2 : Int32) (x3 : Int32) (r : Int32) (h : X3_added x1 x2 x3 = some r) : Met l yX3_added wsX3_added rm_X3_added (va_Pc [.int x1, .int x2, .int x3] (cW D cy ad P Dr tI I L)) (cPi D cy ad P Dr tI I L r) 0 0 (gA 64 ad) := by
  refine g_met (own := RX3) (cc := cX3_added) (maxL := 5) (ret := (some .int)) (by decide) rfl (Nat.le_of_ble_eq_true rfl) rfl ?_
  intro p e s m args below meth c ls hx hb hml hr hlocks hown hts hG hK hZ hl
  generalize hQ : MQ below _ args s 0 0 _ = Q
  have hl : lv_has ls 5 [(0, .int x1), (1, .int x2), (2, .int x3)] := hl
  have hS : va_S (gA 64 ad) s.heap s.heap [] := va_S.rf
  obtain ⟨hi, hP, hDr⟩ := id hX
  unfold X3_added at h
  refine lv_iconst (v := (0 : Int32)) hx hb dX3_added_0 (by decide) ?_
  refine lv_istore_n (lv' := [(3, .int (0 : Int32)), (0, .int x1), (1, .int x2), (2, .int x3)]) hx hb dX3_added_1 rfl hl (by decide) rfl (fun ls hl => ?_)
  refine lv_iconst (v := (0 : Int32)) hx hb dX3_added_2 (by decide) ?_
  refine lv_istore (lv' := [(4, .int (0 : Int32)), (3, .int (0 : Int32)), (0, .int x1), (1, .int x2), (2, .int x3)]) hx hb dX3_added_3 hl (by decide) rfl (fun ls hl => ?_)
  have keyK1 : ∀ (K1 : Int32 → Option (Int32)), (∀ (z3_2 : Int32) (H : Heap) (locs : List Loc) (ls : Array Slot), K1 z3_2 = some r → cG D cy ad P Dr I L H → va_S (gA 64 ad) s.heap H locs → lv_has ls 5 [(3, .int z3_2)] → W p l e rm_X3_added s m args below meth c H locs 0 0 Q (F0 m 53 ls [])) → ∀ (n2 : Nat) (x3_2 : Int32) (x4_2 : Int32) (H : Heap) (locs : List Loc) (ls : Array Slot), X3_added_L1 x1 x2 x3 K1 n2 x3_2 x4_2 = some r → cG D cy ad P Dr I L H → va_S (gA 64 ad) s.heap H locs → lv_has ls 5 [(0, .int x1), (1, .int x2), (2, .int x3), (3, .int x3_2), (4, .int x4_2)] → W p l e rm_X3_added s m args below meth c H locs 0 0 Q (F0 m 5 ls []) := by
    intro K1 hkK1 n2
    induction n2 with
    | zero =>
      intro x3_2 x4_2 H locs ls h
      exact ono h
    | succ n2 ihn2 =>
      intro x3_2 x4_2 H locs ls h hG hS hl
      rw [X3_added_L1] at h
      refine lv_iload hx hb dX3_added_5 (lv_at hl 4 rfl) ?_
      refine lv_bipush (v := (16 : Int32)) hx hb dX3_added_7 (by decide) ?_
      refine lv_icmp_ge (tgt := 53) hx hb dX3_added_9 (by decide) (fun c3 => ?_) (fun c3 => ?_)
      · have h := ite_t h c3
        exact hkK1 x3_2 _ _ _ h hG hS (lv_sub hl [3] rfl)
      · have h := ite_f h c3
        refine lv_iload_n hx hb dX3_added_12 rfl (lv_at hl 1 rfl) ?_
        refine lv_iload hx hb dX3_added_13 (lv_at hl 4 rfl) ?_
        refine lv_ishr hx hb dX3_added_15 ?_
        refine lv_if_eq (tgt := 53) hx hb dX3_added_16 (by decide) (fun c4 => ?_) (fun c4 => ?_)
        · have h := ite_t h c4
          exact hkK1 x3_2 _ _ _ h hG hS (lv_sub hl [3] rfl)
        · have h := ite_f h c4
          refine lv_iload_n hx hb dX3_added_19 rfl (lv_at hl 1 rfl) ?_
          refine lv_iload hx hb dX3_added_20 (lv_at hl 4 rfl) ?_
          refine lv_ishr hx hb dX3_added_22 ?_
          refine lv_iconst (v := (1 : Int32)) hx hb dX3_added_23 (by decide) ?_
          refine lv_iand hx hb dX3_added_24 ?_
          refine lv_iconst (v := (1 : Int32)) hx hb dX3_added_25 (by decide) ?_
          refine lv_icmp_ne (tgt := 47) hx hb dX3_added_26 (by decide) (fun c5 => ?_) (fun c5 => ?_)
          · have h := ite_f h c5
            refine lv_iinc (v := (x4_2 + (1 : Int32))) (lv' := [(4, .int (x4_2 + (1 : Int32))), (0, .int x1), (1, .int x2), (2, .int x3), (3, .int x3_2)]) hx hb dX3_added_47 hl (k := 4) rfl rfl (by decide) rfl (fun ls hl => ?_)
            refine lv_goto (tgt := 5) hx hb dX3_added_50 (by decide) ?_
            exact ihn2 x3_2 (x4_2 + (1 : Int32)) _ _ _ h hG hS (lv_sub hl [1, 2, 3, 4, 0] rfl)
          · have h := ite_t h c5
            refine lv_iload hx hb dX3_added_29 (lv_at hl 4 rfl) ?_
            refine lv_iload_n hx hb dX3_added_31 rfl (lv_at hl 2 rfl) ?_
            refine lv_iconst (v := (-1 : Int32)) hx hb dX3_added_32 (by decide) ?_
            refine lv_ixor hx hb dX3_added_33 ?_
            refine lv_iand hx hb dX3_added_34 ?_
            refine lv_if_ne (tgt := 47) hx hb dX3_added_35 (by decide) (fun c6 => ?_) (fun c6 => ?_)
            · have h := ite_f h c6
              refine lv_iinc (v := (x4_2 + (1 : Int32))) (lv' := [(4, .int (x4_2 + (1 : Int32))), (0, .int x1), (1, .int x2), (2, .int x3), (3, .int x3_2)]) hx hb dX3_added_47 hl (k := 4) rfl rfl (by decide) rfl (fun ls hl => ?_)
              refine lv_goto (tgt := 5) hx hb dX3_added_50 (by decide) ?_
              exact ihn2 x3_2 (x4_2 + (1 : Int32)) _ _ _ h hG hS (lv_sub hl [1, 2, 3, 4, 0] rfl)
            · have h := ite_t h c6
              refine lv_iload_n hx hb dX3_added_38 rfl (lv_at hl 3 rfl) ?_
              refine lv_iconst (v := (1 : Int32)) hx hb dX3_added_39 (by decide) ?_
              refine lv_iload_n hx hb dX3_added_40 rfl (lv_at hl 0 rfl) ?_
              refine lv_iload hx hb dX3_added_41 (lv_at hl 4 rfl) ?_
              refine lv_ior hx hb dX3_added_43 ?_
              refine lv_ishl hx hb dX3_added_44 ?_
              refine lv_ior hx hb dX3_added_45 ?_
              refine lv_istore_n (lv' := [(3, .int (x3_2 ||| ((1 : Int32) <<< ((x1 ||| x4_2) &&& 31)))), (0, .int x1), (1, .int x2), (2, .int x3), (4, .int x4_2)]) hx hb dX3_added_46 rfl hl (by decide) rfl (fun ls hl => ?_)
              refine lv_iinc (v := (x4_2 + (1 : Int32))) (lv' := [(4, .int (x4_2 + (1 : Int32))), (3, .int (x3_2 ||| ((1 : Int32) <<< ((x1 ||| x4_2) &&& 31)))), (0, .int x1), (1, .int x2), (2, .int x3)]) hx hb dX3_added_47 hl (k := 4) rfl rfl (by decide) rfl (fun ls hl => ?_)
              refine lv_goto (tgt := 5) hx hb dX3_added_50 (by decide) ?_
              exact ihn2 (x3_2 ||| ((1 : Int32) <<< ((x1 ||| x4_2) &&& 31))) (x4_2 + (1 : Int32)) _ _ _ h hG hS (lv_sub hl [2, 3, 4, 1, 0] rfl)
  refine keyK1 _ (fun z3_2 H locs ls h hG hS hl => ?_) bigF (0 : Int32) (0 : Int32) _ _ _ h hG hS (lv_sub hl [2, 3, 4, 1, 0] rfl)
  clear keyK1
  refine lv_iload_n hx hb dX3_added_53 rfl (lv_at hl 0 rfl) ?_
  have h := Option.some.inj h
  subst h
  subst hQ
  exact g_iret hx hb hr hlocks cZm hK hZ hG hS rfl dX3_added_54
def X3_joined_L1 (x1 : Int32) (x2 : Int32) (x3 : Int32) (K1 : Int32 → Option (Int32)) : Nat → Int32 → Int32 → Option (Int32)
  | 0, _, _ => none
  | n2 + 1, x3_2, x4_2 => if (16 : Int32) ≤ x4_2 then (K1 x3_2) else (if ((x1 >>> (x4_2 &&& 31)) &&& (1 : Int32)) = (1 : Int32) then ((X3_added x4_2 x2 (x3 &&& (x4_2 ^^^ (-1 : Int32)))).bind fun v5 => X3_joined_L1 x1 x2 x3 K1 n2 (x3_2 ||| v5) (x4_2 + (1 : Int32))) else (X3_joined_L1 x1 x2 x3 K1 n2 x3_2 (x4_2 + (1 : Int32))))
def X3_joined (x1 : Int32) (x2 : Int32) (x3 : Int32) : Option (Int32) := X3_joined_L1 x1 x2 x3 (fun (z3_2 : Int32) => some z3_2) bigF (0 : Int32) (0 : Int32)
abbrev rm_X3_joined : Room := { frames := 1, cells := 0, slots := 0, locals := 24 }
theorem cd_X3_joined : yX3_joined.cls = RX3 ∧ yX3_joined.cls ≠ "java/lang/invoke/MethodHandle" ∧ yX3_joined.cls ≠ "java/lang/invoke/VarHandle" ∧ (parseMethodDescriptor yX3_joined.desc).map (fun d => d.parameters.length) = some 3 := by decide +kernel
set_option maxHeartbeats 4000000 in
set_option maxRecDepth 100000 in
theorem k_X3_joined (l : Launch) (D : va_G) (cy : Nat → ClassId) (ad : Nat → Nat) (P Dr : Nat) (tI : xTab) (hX : cOk ad P Dr) (I : xMem) (L : xLon) (x1 : Int32) (x2 : Int32) (x3 : Int32) (r : Int32) (h : X3_joined x1 x2 x3 = some r) : Met l yX3_joined wsX3_joined rm_X3_joined (va_Pc [.int x1, .int x2, .int x3] (cW D cy ad P Dr tI I L)) (cPi D cy ad P Dr tI I L r) 0 0 (gA 64 ad) := by
  refine g_met (own := RX3) (cc := cX3_joined) (maxL := 5) (ret := (some .int)) (by decide) rfl (Nat.le_of_ble_eq_true rfl) rfl ?_
  intro p e s m args below meth c ls hx hb hml hr hlocks hown hts hG hK hZ hl
  generalize hQ : MQ below _ args s 0 0 _ = Q
  have hl : lv_has ls 5 [(0, .int x1), (1, .int x2), (2, .int x3)] := hl
  have hS : va_S (gA 64 ad) s.heap s.heap [] := va_S.rf
  obtain ⟨hi, hP, hDr⟩ := id hX
  unfold X3_joined at h
  refine lv_iconst (v := (0 : Int32)) hx hb dX3_joined_0 (by decide) ?_
  refine lv_istore_n (lv' := [(3, .int (0 : Int32)), (0, .int x1), (1, .int x2), (2, .int x3)]) hx hb dX3_joined_1 rfl hl (by decide) rfl (fun ls hl => ?_)
  refine lv_iconst (v := (0 : Int32)) hx hb dX3_joined_2 (by decide) ?_
  refine lv_istore (lv' := [(4, .int (0 : Int32)), (3, .int (0 : Int32)), (0, .int x1), (1, .int x2), (2, .int x3)]) hx hb dX3_joined_3 hl (by decide) rfl (fun ls hl => ?_)
  have keyK1 : ∀ (K1 : Int32 → Option (Int32)), (∀ (z3_2 : Int32) (H : Heap) (locs : List Loc) (ls : Array Slot), K1 z3_2 = some r → cG D cy ad P Dr I L H → va_S (gA 64 ad) s.heap H locs → lv_has ls 5 [(3, .int z3_2)] → W p l e rm_X3_joined s m args below meth c H locs 0 0 Q (F0 m 43 ls [])) → ∀ (n2 : Nat) (x3_2 : Int32) (x4_2 : Int32) (H : Heap) (locs : List Loc) (ls : Array Slot), X3_joined_L1 x1 x2 x3 K1 n2 x3_2 x4_2 = some r → cG D cy ad P Dr I L H → va_S (gA 64 ad) s.heap H locs → lv_has ls 5 [(0, .int x1), (1, .int x2), (2, .int x3), (3, .int x3_2), (4, .int x4_2)] → W p l e rm_X3_joined s m args below meth c H locs 0 0 Q (F0 m 5 ls []) := by
    intro K1 hkK1 n2
    induction n2 with
    | zero =>
      intro x3_2 x4_2 H locs ls h
      exact ono h
    | succ n2 ihn2 =>
      intro x3_2 x4_2 H locs ls h hG hS hl
      rw [X3_joined_L1] at h
      refine lv_iload hx hb dX3_joined_5 (lv_at hl 4 rfl) ?_
      refine lv_bipush (v := (16 : Int32)) hx hb dX3_joined_7 (by decide) ?_
      refine lv_icmp_ge (tgt := 43) hx hb dX3_joined_9 (by decide) (fun c3 => ?_) (fun c3 => ?_)
      · have h := ite_t h c3
        exact hkK1 x3_2 _ _ _ h hG hS (lv_sub hl [3] rfl)
      · have h := ite_f h c3
        refine lv_iload_n hx hb dX3_joined_12 rfl (lv_at hl 0 rfl) ?_
        refine lv_iload hx hb dX3_joined_13 (lv_at hl 4 rfl) ?_
        refine lv_ishr hx hb dX3_joined_15 ?_
        refine lv_iconst (v := (1 : Int32)) hx hb dX3_joined_16 (by decide) ?_
        refine lv_iand hx hb dX3_joined_17 ?_
        refine lv_iconst (v := (1 : Int32)) hx hb dX3_joined_18 (by decide) ?_
        refine lv_icmp_ne (tgt := 37) hx hb dX3_joined_19 (by decide) (fun c4 => ?_) (fun c4 => ?_)
        · have h := ite_f h c4
          refine lv_iinc (v := (x4_2 + (1 : Int32))) (lv' := [(4, .int (x4_2 + (1 : Int32))), (0, .int x1), (1, .int x2), (2, .int x3), (3, .int x3_2)]) hx hb dX3_joined_37 hl (k := 4) rfl rfl (by decide) rfl (fun ls hl => ?_)
          refine lv_goto (tgt := 5) hx hb dX3_joined_40 (by decide) ?_
          exact ihn2 x3_2 (x4_2 + (1 : Int32)) _ _ _ h hG hS (lv_sub hl [1, 2, 3, 4, 0] rfl)
        · have h := ite_t h c4
          refine lv_iload_n hx hb dX3_joined_22 rfl (lv_at hl 3 rfl) ?_
          refine lv_iload hx hb dX3_joined_23 (lv_at hl 4 rfl) ?_
          refine lv_iload_n hx hb dX3_joined_25 rfl (lv_at hl 1 rfl) ?_
          refine lv_iload_n hx hb dX3_joined_26 rfl (lv_at hl 2 rfl) ?_
          refine lv_iload hx hb dX3_joined_27 (lv_at hl 4 rfl) ?_
          refine lv_iconst (v := (-1 : Int32)) hx hb dX3_joined_29 (by decide) ?_
          refine lv_ixor hx hb dX3_joined_30 ?_
          refine lv_iand hx hb dX3_joined_31 ?_
          obtain ⟨v5, ev5, h⟩ := obind h
          refine g_endi (va_runS (As := [.int x4_2, .int x2, .int (x3 &&& (x4_2 ^^^ (-1 : Int32)))]) (rest := [.int x3_2]) ⟨hx, hb, hml, hown, hts⟩ (k_X3_added l D cy ad P Dr tI hX I L x4_2 x2 (x3 &&& (x4_2 ^^^ (-1 : Int32))) v5 ev5) (va_cwS 3 hts gX3_joined_X3_added rfl rfl rfl cd_X3_added.2 ⟨Nat.le_of_ble_eq_true rfl, Nat.le_of_ble_eq_true rfl⟩) ⟨g_blind cZm, g_pre cZm hK hG hZ hS⟩ rfl rfl hl.1 rfl (lv_room (Nat.le_of_ble_eq_true rfl)) dX3_joined_32 ⟨Nat.le_refl _, Nat.le_refl _⟩) hS (fun H locs hG hS => ?_)
          refine lv_ior hx hb dX3_joined_35 ?_
          refine lv_istore_n (lv' := [(3, .int (x3_2 ||| v5)), (0, .int x1), (1, .int x2), (2, .int x3), (4, .int x4_2)]) hx hb dX3_joined_36 rfl hl (by decide) rfl (fun ls hl => ?_)
          refine lv_iinc (v := (x4_2 + (1 : Int32))) (lv' := [(4, .int (x4_2 + (1 : Int32))), (3, .int (x3_2 ||| v5)), (0, .int x1), (1, .int x2), (2, .int x3)]) hx hb dX3_joined_37 hl (k := 4) rfl rfl (by decide) rfl (fun ls hl => ?_)
          refine lv_goto (tgt := 5) hx hb dX3_joined_40 (by decide) ?_
          exact ihn2 (x3_2 ||| v5) (x4_2 + (1 : Int32)) _ _ _ h hG hS (lv_sub hl [2, 3, 4, 1, 0] rfl)
  refine keyK1 _ (fun z3_2 H locs ls h hG hS hl => ?_) bigF (0 : Int32) (0 : Int32) _ _ _ h hG hS (lv_sub hl [2, 3, 4, 1, 0] rfl)
  clear keyK1
  refine lv_iload_n hx hb dX3_joined_43 rfl (lv_at hl 0 rfl) ?_
  have h := Option.some.inj h
  subst h
  subst hQ
  exact g_iret hx hb hr hlocks cZm hK hZ hG hS rfl dX3_joined_44
def X3_stonesAt (x1 : Int32) (x2 : Int32) (x3 : Int32) (x4 : Int32) : Int32 := if ((x1 >>> (x2 &&& 31)) &&& (1 : Int32)) = (1 : Int32) then (x3) else ((x4 &&& (x3 ^^^ (-1 : Int32))))
abbrev rm_X3_stonesAt : Room := { frames := 0, cells := 0, slots := 0, locals := 0 }
theorem cd_X3_stonesAt : yX3_stonesAt.cls = RX3 ∧ yX3_stonesAt.cls ≠ "java/lang/invoke/MethodHandle" ∧ yX3_stonesAt.cls ≠ "java/lang/invoke/VarHandle" ∧ (parseMethodDescriptor yX3_stonesAt.desc).map (fun d => d.parameters.length) = some 4 := by decide +kernel
set_option maxHeartbeats 4000000 in
set_option maxRecDepth 100000 in
theorem k_X3_stonesAt (l : Launch) (D : va_G) (cy : Nat → ClassId) (ad : Nat → Nat) (P Dr : Nat) (tI : xTab) (hX : cOk ad P Dr) (I : xMem) (L : xLon) (x1 : Int32) (x2 : Int32) (x3 : Int32) (x4 : Int32) (r : Int32) (h : X3_stonesAt x1 x2 x3 x4 = r) : Met l yX3_stonesAt wsX3_stonesAt rm_X3_stonesAt (va_Pc [.int x1, .int x2, .int x3, .int x4] (cW D cy ad P Dr tI I L)) (cPi D cy ad P Dr tI I L r) 0 0 (gA 64 ad) := by
  refine g_met (own := RX3) (cc := cX3_stonesAt) (maxL := 4) (ret := (some .int)) (by decide) rfl (Nat.le_of_ble_eq_true rfl) rfl ?_
  intro p e s m args below meth c ls hx hb hml hr hlocks hown hts hG hK hZ hl
  generalize hQ : MQ below _ args s 0 0 _ = Q
  have hl : lv_has ls 4 [(0, .int x1), (1, .int x2), (2, .int x3), (3, .int x4)] := hl
  have hS : va_S (gA 64 ad) s.heap s.heap [] := va_S.rf
  obtain ⟨hi, hP, hDr⟩ := id hX
  unfold X3_stonesAt at h
  refine lv_iload_n hx hb dX3_stonesAt_0 rfl (lv_at hl 0 rfl) ?_
  refine lv_iload_n hx hb dX3_stonesAt_1 rfl (lv_at hl 1 rfl) ?_
  refine lv_ishr hx hb dX3_stonesAt_2 ?_
  refine lv_iconst (v := (1 : Int32)) hx hb dX3_stonesAt_3 (by decide) ?_
  refine lv_iand hx hb dX3_stonesAt_4 ?_
  refine lv_iconst (v := (1 : Int32)) hx hb dX3_stonesAt_5 (by decide) ?_
  refine lv_icmp_ne (tgt := 13) hx hb dX3_stonesAt_6 (by decide) (fun c1 => ?_) (fun c1 => ?_)
  · have h := ite_f h c1
    refine lv_iload_n hx hb dX3_stonesAt_13 rfl (lv_at hl 3 rfl) ?_
    refine lv_iload_n hx hb dX3_stonesAt_14 rfl (lv_at hl 2 rfl) ?_
    refine lv_iconst (v := (-1 : Int32)) hx hb dX3_stonesAt_15 (by decide) ?_
    refine lv_ixor hx hb dX3_stonesAt_16 ?_
    refine lv_iand hx hb dX3_stonesAt_17 ?_
    subst h
    subst hQ
    exact g_iret hx hb hr hlocks cZm hK hZ hG hS rfl dX3_stonesAt_18
  · have h := ite_t h c1
    refine lv_iload_n hx hb dX3_stonesAt_9 rfl (lv_at hl 2 rfl) ?_
    refine lv_goto (tgt := 18) hx hb dX3_stonesAt_10 (by decide) ?_
    subst h
    subst hQ
    exact g_iret hx hb hr hlocks cZm hK hZ hG hS rfl dX3_stonesAt_18
def X3_join_L2 (x1 : Int32) (x2 : Int32) (x3 : Int32) (x4 : Int32) (x5_2 : Int32) (K6 : xMem → Option (xMem)) : Nat → Int32 → xMem → Option (xMem)
  | 0, _, _ => none
  | n7 + 1, x6_7, I8 => if (I8 39 0) ≤ x6_7 then (K6 I8) else (if (x1 &&& (((1 : Int32) <<< (x5_2 &&& 31)) ||| ((1 : Int32) <<< (x6_7 &&& 31)))) = (0 : Int32) then (if (X3_areTogether x2 x5_2 x6_7) = (0 : Int32) then (X3_join_L2 x1 x2 x3 x4 x5_2 K6 n7 (x6_7 + (1 : Int32)) I8) else ((rdI I8 44 64 (x1 ||| (((1 : Int32) <<< (x5_2 &&& 31)) ||| ((1 : Int32) <<< (x6_7 &&& 31))))).bind fun v13 => (rdI I8 44 64 x1).bind fun v14 => (rdI I8 40 36 (((6 : Int32) * x5_2) + x6_7)).bind fun v15 => (X3_joined v14 v15 (X3_stonesAt x2 x5_2 x3 x4)).bind fun v16 => (wrI I8 44 64 (x1 ||| (((1 : Int32) <<< (x5_2 &&& 31)) ||| ((1 : Int32) <<< (x6_7 &&& 31)))) (v13 ||| v16)).bind fun I17 => X3_join_L2 x1 x2 x3 x4 x5_2 K6 n7 (x6_7 + (1 : Int32)) I17)) else (X3_join_L2 x1 x2 x3 x4 x5_2 K6 n7 (x6_7 + (1 : Int32)) I8))
def X3_join_L1 (x1 : Int32) (x2 : Int32) (x3 : Int32) (x4 : Int32) (K1 : xMem → Option (xMem)) : Nat → Int32 → xMem → Option (xMem)
  | 0, _, _ => none
  | n2 + 1, x5_2, I3 => if (I3 39 0) ≤ x5_2 then (K1 I3) else (X3_join_L2 x1 x2 x3 x4 x5_2 (fun (I9 : xMem) => X3_join_L1 x1 x2 x3 x4 K1 n2 (x5_2 + (1 : Int32)) I9) bigF (x5_2 + (1 : Int32)) I3)
def X3_join (I : xMem) (x1 : Int32) (x2 : Int32) (x3 : Int32) (x4 : Int32) : Option (xMem) := X3_join_L1 x1 x2 x3 x4 (fun (I4 : xMem) => some I4) bigF (0 : Int32) I
abbrev rm_X3_join : Room := { frames := 2, cells := 0, slots := 0, locals := 48 }
theorem cd_X3_join : yX3_join.cls = RX3 ∧ yX3_join.cls ≠ "java/lang/invoke/MethodHandle" ∧ yX3_join.cls ≠ "java/lang/invoke/VarHandle" ∧ (parseMethodDescriptor yX3_join.desc).map (fun d => d.parameters.length) = some 4 := by decide +kernel
set_option maxHeartbeats 4000000 in
set_option maxRecDepth 100000 in
theorem k_X3_join (l : Launch) (D : va_G) (cy : Nat → ClassId) (ad : Nat → Nat) (P Dr : Nat) (tI : xTab) (hX : cOk ad P Dr) (I : xMem) (L : xLon) (x1 : Int32) (x2 : Int32) (x3 : Int32) (x4 : Int32) (r : xMem) (h : X3_join I x1 x2 x3 x4 = some r) : Met l yX3_join wsX3_join rm_X3_join (va_Pc [.ref (ad 39), .int x1, .int x2, .int x3, .int x4] (cW D cy ad P Dr tI I L)) (cPv D cy ad P Dr tI r L) 0 0 (gA 64 ad) := by
  refine g_met (own := RX3) (cc := cX3_join) (maxL := 9) (ret := none) (by decide) rfl (Nat.le_of_ble_eq_true rfl) rfl ?_
  intro p e s m args below meth c ls hx hb hml hr hlocks hown hts hG hK hZ hl
  generalize hQ : MQ below _ args s 0 0 _ = Q
  have hl : lv_has ls 9 [(0, .ref (ad 39)), (1, .int x1), (2, .int x2), (3, .int x3), (4, .int x4)] := hl
  have hS : va_S (gA 64 ad) s.heap s.heap [] := va_S.rf
  obtain ⟨hi, hP, hDr⟩ := id hX
  have l3 : ∀ w ∈ wsX30, w.before args s = true := fun w h => hts w (List.mem_cons_of_mem _ (List.mem_append_right _ h))
  have k1 := hts (.fieldLink RX3 46 "PairStairs$Ways" "people" "I") (by decide +kernel)
  have k2 := hts (.fieldLink RX3 24 "PairStairs$Ways" "taken" "[I") (by decide +kernel)
  have k3 := hts (.fieldLink RX3 11 "PairStairs$Ways" "open" "[I") (by decide +kernel)
  unfold X3_join at h
  refine lv_iconst (v := (0 : Int32)) hx hb dX3_join_0 (by decide) ?_
  refine lv_istore (lv' := [(5, .int (0 : Int32)), (0, .ref (ad 39)), (1, .int x1), (2, .int x2), (3, .int x3), (4, .int x4)]) hx hb dX3_join_1 hl (by decide) rfl (fun ls hl => ?_)
  have keyK1 : ∀ (K1 : xMem → Option (xMem)), (∀ (I4 : xMem) (H : Heap) (locs : List Loc) (ls : Array Slot), K1 I4 = some r → cG D cy ad P Dr I4 L H → va_S (gA 64 ad) s.heap H locs → lv_has ls 9 [] → W p l e rm_X3_join s m args below meth c H locs 0 0 Q (F0 m 115 ls [])) → ∀ (n2 : Nat) (x5_2 : Int32) (I3 : xMem) (H : Heap) (locs : List Loc) (ls : Array Slot), X3_join_L1 x1 x2 x3 x4 K1 n2 x5_2 I3 = some r → cG D cy ad P Dr I3 L H → va_S (gA 64 ad) s.heap H locs → lv_has ls 9 [(0, .ref (ad 39)), (1, .int x1), (2, .int x2), (3, .int x3), (4, .int x4), (5, .int x5_2)] → W p l e rm_X3_join s m args below meth c H locs 0 0 Q (F0 m 3 ls []) := by
    intro K1 hkK1 n2
    induction n2 with
    | zero =>
      intro x5_2 I3 H locs ls h
      exact ono h
    | succ n2 ihn2 =>
      intro x5_2 I3 H locs ls h hG hS hl
      rw [X3_join_L1] at h
      refine lv_iload hx hb dX3_join_3 (lv_at hl 5 rfl) ?_
      refine lv_aload_n hx hb dX3_join_5 rfl (lv_at hl 0 rfl) ?_
      refine g_get hx hb l3 hown hK hG (k := 39) (by decide) (cE_3 _ _) vwCl_3 0 (by decide) k1 (fun _ h9 => h9) rfl dX3_join_6 ?_
      refine lv_icmp_ge (tgt := 115) hx hb dX3_join_9 (by decide) (fun c5 => ?_) (fun c5 => ?_)
      · have h := ite_t h c5
        exact hkK1 I3 _ _ _ h hG hS (lv_sub hl [] rfl)
      · have h := ite_f h c5
        refine lv_iload hx hb dX3_join_12 (lv_at hl 5 rfl) ?_
        refine lv_iconst (v := (1 : Int32)) hx hb dX3_join_14 (by decide) ?_
        refine lv_iadd hx hb dX3_join_15 ?_
        refine lv_istore (lv' := [(6, .int (x5_2 + (1 : Int32))), (0, .ref (ad 39)), (1, .int x1), (2, .int x2), (3, .int x3), (4, .int x4), (5, .int x5_2)]) hx hb dX3_join_16 hl (by decide) rfl (fun ls hl => ?_)
        have keyK6 : ∀ (K6 : xMem → Option (xMem)), (∀ (I9 : xMem) (H : Heap) (locs : List Loc) (ls : Array Slot), K6 I9 = some r → cG D cy ad P Dr I9 L H → va_S (gA 64 ad) s.heap H locs → lv_has ls 9 [(0, .ref (ad 39)), (1, .int x1), (2, .int x2), (3, .int x3), (4, .int x4), (5, .int x5_2)] → W p l e rm_X3_join s m args below meth c H locs 0 0 Q (F0 m 109 ls [])) → ∀ (n7 : Nat) (x6_7 : Int32) (I8 : xMem) (H : Heap) (locs : List Loc) (ls : Array Slot), X3_join_L2 x1 x2 x3 x4 x5_2 K6 n7 x6_7 I8 = some r → cG D cy ad P Dr I8 L H → va_S (gA 64 ad) s.heap H locs → lv_has ls 9 [(0, .ref (ad 39)), (1, .int x1), (2, .int x2), (3, .int x3), (4, .int x4), (5, .int x5_2), (6, .int x6_7)] → W p l e rm_X3_join s m args below meth c H locs 0 0 Q (F0 m 18 ls []) := by
          intro K6 hkK6 n7
          induction n7 with
          | zero =>
            intro x6_7 I8 H locs ls h
            exact ono h
          | succ n7 ihn7 =>
            intro x6_7 I8 H locs ls h hG hS hl
            rw [X3_join_L2] at h
            refine lv_iload hx hb dX3_join_18 (lv_at hl 6 rfl) ?_
            refine lv_aload_n hx hb dX3_join_20 rfl (lv_at hl 0 rfl) ?_
            refine g_get hx hb l3 hown hK hG (k := 39) (by decide) (cE_3 _ _) vwCl_3 0 (by decide) k1 (fun _ h9 => h9) rfl dX3_join_21 ?_
            refine lv_icmp_ge (tgt := 109) hx hb dX3_join_24 (by decide) (fun c10 => ?_) (fun c10 => ?_)
            · have h := ite_t h c10
              exact hkK6 I8 _ _ _ h hG hS (lv_sub hl [0, 1, 2, 3, 4, 5] rfl)
            · have h := ite_f h c10
              refine lv_iconst (v := (1 : Int32)) hx hb dX3_join_27 (by decide) ?_
              refine lv_iload hx hb dX3_join_28 (lv_at hl 5 rfl) ?_
              refine lv_ishl hx hb dX3_join_30 ?_
              refine lv_iconst (v := (1 : Int32)) hx hb dX3_join_31 (by decide) ?_
              refine lv_iload hx hb dX3_join_32 (lv_at hl 6 rfl) ?_
              refine lv_ishl hx hb dX3_join_34 ?_
              refine lv_ior hx hb dX3_join_35 ?_
              refine lv_istore (lv' := [(7, .int (((1 : Int32) <<< (x5_2 &&& 31)) ||| ((1 : Int32) <<< (x6_7 &&& 31)))), (0, .ref (ad 39)), (1, .int x1), (2, .int x2), (3, .int x3), (4, .int x4), (5, .int x5_2), (6, .int x6_7)]) hx hb dX3_join_36 hl (by decide) rfl (fun ls hl => ?_)
              refine lv_iload_n hx hb dX3_join_38 rfl (lv_at hl 2 rfl) ?_
              refine lv_iload hx hb dX3_join_39 (lv_at hl 0 rfl) ?_
              refine lv_iand hx hb dX3_join_41 ?_
              refine lv_if_ne (tgt := 103) hx hb dX3_join_42 (by decide) (fun c11 => ?_) (fun c11 => ?_)
              · have h := ite_f h c11
                refine lv_iinc (v := (x6_7 + (1 : Int32))) (lv' := [(6, .int (x6_7 + (1 : Int32))), (7, .int (((1 : Int32) <<< (x5_2 &&& 31)) ||| ((1 : Int32) <<< (x6_7 &&& 31)))), (0, .ref (ad 39)), (1, .int x1), (2, .int x2), (3, .int x3), (4, .int x4), (5, .int x5_2)]) hx hb dX3_join_103 hl (k := 7) rfl rfl (by decide) rfl (fun ls hl => ?_)
                refine lv_goto (tgt := 18) hx hb dX3_join_106 (by decide) ?_
                exact ihn7 (x6_7 + (1 : Int32)) I8 _ _ _ h hG hS (lv_sub hl [2, 3, 4, 5, 6, 7, 0] rfl)
              · have h := ite_t h c11
                refine lv_iload_n hx hb dX3_join_45 rfl (lv_at hl 3 rfl) ?_
                refine lv_iload hx hb dX3_join_46 (lv_at hl 6 rfl) ?_
                refine lv_iload hx hb dX3_join_48 (lv_at hl 7 rfl) ?_
                refine g_endi (va_runS (As := [.int x2, .int x5_2, .int x6_7]) (rest := []) ⟨hx, hb, hml, hown, hts⟩ (k_X3_areTogether l D cy ad P Dr tI hX I8 L x2 x5_2 x6_7 _ rfl) (va_cwS 3 hts gX3_join_X3_areTogether rfl rfl rfl cd_X3_areTogether.2 ⟨Nat.le_of_ble_eq_true rfl, Nat.le_of_ble_eq_true rfl⟩) ⟨g_blind cZm, g_pre cZm hK hG hZ hS⟩ rfl rfl hl.1 rfl (lv_room (Nat.le_of_ble_eq_true rfl)) dX3_join_50 ⟨Nat.le_refl _, Nat.le_refl _⟩) hS (fun H locs hG hS => ?_)
                refine lv_if_eq (tgt := 103) hx hb dX3_join_53 (by decide) (fun c12 => ?_) (fun c12 => ?_)
                · have h := ite_t h c12
                  refine lv_iinc (v := (x6_7 + (1 : Int32))) (lv' := [(6, .int (x6_7 + (1 : Int32))), (7, .int (((1 : Int32) <<< (x5_2 &&& 31)) ||| ((1 : Int32) <<< (x6_7 &&& 31)))), (0, .ref (ad 39)), (1, .int x1), (2, .int x2), (3, .int x3), (4, .int x4), (5, .int x5_2)]) hx hb dX3_join_103 hl (k := 7) rfl rfl (by decide) rfl (fun ls hl => ?_)
                  refine lv_goto (tgt := 18) hx hb dX3_join_106 (by decide) ?_
                  exact ihn7 (x6_7 + (1 : Int32)) I8 _ _ _ h hG hS (lv_sub hl [2, 3, 4, 5, 6, 7, 0] rfl)
                · have h := ite_f h c12
                  refine lv_iload_n hx hb dX3_join_56 rfl (lv_at hl 3 rfl) ?_
                  refine lv_iload hx hb dX3_join_57 (lv_at hl 6 rfl) ?_
                  refine lv_iload_n hx hb dX3_join_59 rfl (lv_at hl 4 rfl) ?_
                  refine lv_iload hx hb dX3_join_60 (lv_at hl 5 rfl) ?_
                  refine g_endi (va_runS (As := [.int x2, .int x5_2, .int x3, .int x4]) (rest := []) ⟨hx, hb, hml, hown, hts⟩ (k_X3_stonesAt l D cy ad P Dr tI hX I8 L x2 x5_2 x3 x4 _ rfl) (va_cwS 4 hts gX3_join_X3_stonesAt rfl rfl rfl cd_X3_stonesAt.2 ⟨Nat.le_of_ble_eq_true rfl, Nat.le_of_ble_eq_true rfl⟩) ⟨g_blind cZm, g_pre cZm hK hG hZ hS⟩ rfl rfl hl.1 rfl (lv_room (Nat.le_of_ble_eq_true rfl)) dX3_join_62 ⟨Nat.le_refl _, Nat.le_refl _⟩) hS (fun H locs hG hS => ?_)
                  refine lv_istore (lv' := [(8, .int (X3_stonesAt x2 x5_2 x3 x4)), (7, .int (((1 : Int32) <<< (x5_2 &&& 31)) ||| ((1 : Int32) <<< (x6_7 &&& 31)))), (0, .ref (ad 39)), (1, .int x1), (2, .int x2), (3, .int x3), (4, .int x4), (5, .int x5_2), (6, .int x6_7)]) hx hb dX3_join_65 hl (by decide) rfl (fun ls hl => ?_)
                  refine lv_aload_n hx hb dX3_join_67 rfl (lv_at hl 2 rfl) ?_
                  refine g_get hx hb l3 hown hK hG (k := 39) (by decide) (cE_3 _ _) vwCl_3 6 (by decide) k2 (fun _ h9 => h9) rfl dX3_join_68 ?_
                  refine lv_iload_n hx hb dX3_join_71 rfl (lv_at hl 3 rfl) ?_
                  refine lv_iload hx hb dX3_join_72 (lv_at hl 1 rfl) ?_
                  refine lv_ior hx hb dX3_join_74 ?_
                  refine lv_dup2_11 hx hb dX3_join_75 rfl rfl ?_
                  refine g_ald hx hb hK hG (k := 44) (n := 64) (show cIA 44 64 from by decide +kernel).1.1 (cIA_e (show cIA 44 64 from by decide +kernel) _ _) 0 rfl h dX3_join_76 (fun v13 h => ?_)
                  refine lv_aload_n hx hb dX3_join_77 rfl (lv_at hl 2 rfl) ?_
                  refine g_get hx hb l3 hown hK hG (k := 39) (by decide) (cE_3 _ _) vwCl_3 6 (by decide) k2 (fun _ h9 => h9) rfl dX3_join_78 ?_
                  refine lv_iload_n hx hb dX3_join_81 rfl (lv_at hl 3 rfl) ?_
                  refine g_ald hx hb hK hG (k := 44) (n := 64) (show cIA 44 64 from by decide +kernel).1.1 (cIA_e (show cIA 44 64 from by decide +kernel) _ _) 0 rfl h dX3_join_82 (fun v14 h => ?_)
                  refine lv_aload_n hx hb dX3_join_83 rfl (lv_at hl 2 rfl) ?_
                  refine g_get hx hb l3 hown hK hG (k := 39) (by decide) (cE_3 _ _) vwCl_3 1 (by decide) k3 (fun _ h9 => h9) rfl dX3_join_84 ?_
                  refine lv_bipush (v := (6 : Int32)) hx hb dX3_join_87 (by decide) ?_
                  refine lv_iload hx hb dX3_join_89 (lv_at hl 7 rfl) ?_
                  refine lv_imul hx hb dX3_join_91 ?_
                  refine lv_iload hx hb dX3_join_92 (lv_at hl 8 rfl) ?_
                  refine lv_iadd hx hb dX3_join_94 ?_
                  refine g_ald hx hb hK hG (k := 40) (n := 36) (show cIA 40 36 from by decide +kernel).1.1 (cIA_e (show cIA 40 36 from by decide +kernel) _ _) 0 rfl h dX3_join_95 (fun v15 h => ?_)
                  refine lv_iload hx hb dX3_join_96 (lv_at hl 0 rfl) ?_
                  obtain ⟨v16, ev16, h⟩ := obind h
                  refine g_endi (va_runS (As := [.int v14, .int v15, .int (X3_stonesAt x2 x5_2 x3 x4)]) (rest := [.int v13, .int (x1 ||| (((1 : Int32) <<< (x5_2 &&& 31)) ||| ((1 : Int32) <<< (x6_7 &&& 31)))), .ref (ad 44)]) ⟨hx, hb, hml, hown, hts⟩ (k_X3_joined l D cy ad P Dr tI hX I8 L v14 v15 (X3_stonesAt x2 x5_2 x3 x4) v16 ev16) (va_cwS 3 hts gX3_join_X3_joined rfl rfl rfl cd_X3_joined.2 ⟨Nat.le_of_ble_eq_true rfl, Nat.le_of_ble_eq_true rfl⟩) ⟨g_blind cZm, g_pre cZm hK hG hZ hS⟩ rfl rfl hl.1 rfl (lv_room (Nat.le_of_ble_eq_true rfl)) dX3_join_98 ⟨Nat.le_refl _, Nat.le_refl _⟩) hS (fun H locs hG hS => ?_)
                  refine lv_ior hx hb dX3_join_101 ?_
                  refine g_ast hx hb hK hG hi hS (k := 44) (n := 64) (show cIA 44 64 from by decide +kernel).1.1 (fun f => cIA_e (show cIA 44 64 from by decide +kernel) f _) 0 rfl h dX3_join_102 (fun I17 H locs h hG hS => ?_)
                  refine lv_iinc (v := (x6_7 + (1 : Int32))) (lv' := [(6, .int (x6_7 + (1 : Int32))), (8, .int (X3_stonesAt x2 x5_2 x3 x4)), (7, .int (((1 : Int32) <<< (x5_2 &&& 31)) ||| ((1 : Int32) <<< (x6_7 &&& 31)))), (0, .ref (ad 39)), (1, .int x1), (2, .int x2), (3, .int x3), (4, .int x4), (5, .int x5_2)]) hx hb dX3_join_103 hl (k := 8) rfl rfl (by decide) rfl (fun ls hl => ?_)
                  refine lv_goto (tgt := 18) hx hb dX3_join_106 (by decide) ?_
                  exact ihn7 (x6_7 + (1 : Int32)) I17 _ _ _ h hG hS (lv_sub hl [3, 4, 5, 6, 7, 8, 0] rfl)
        refine keyK6 _ (fun I9 H locs ls h hG hS hl => ?_) bigF (x5_2 + (1 : Int32)) I3 _ _ _ h hG hS (lv_sub hl [1, 2, 3, 4, 5, 6, 0] rfl)
        clear keyK6
        refine lv_iinc (v := (x5_2 + (1 : Int32))) (lv' := [(5, .int (x5_2 + (1 : Int32))), (0, .ref (ad 39)), (1, .int x1), (2, .int x2), (3, .int x3), (4, .int x4)]) hx hb dX3_join_109 hl (k := 5) rfl rfl (by decide) rfl (fun ls hl => ?_)
        refine lv_goto (tgt := 3) hx hb dX3_join_112 (by decide) ?_
        exact ihn2 (x5_2 + (1 : Int32)) I9 _ _ _ h hG hS (lv_sub hl [1, 2, 3, 4, 5, 0] rfl)
  refine keyK1 _ (fun I4 H locs ls h hG hS hl => ?_) bigF (0 : Int32) I _ _ _ h hG hS (lv_sub hl [1, 2, 3, 4, 5, 0] rfl)
  clear keyK1
  have h := Option.some.inj h
  subst h
  subst hQ
  exact g_vret hx hb hr hlocks cZm hK hZ hG hS dX3_join_115
def X3_paired_L1 (x1 : Int32) (x2 : Int32) (x3 : Int32) (K3 : Int32 → xMem → Option (Int32 × xMem)) : Nat → Int32 → Int32 → xMem → Option (Int32 × xMem)
  | 0, _, _, _ => none
  | n4 + 1, x4_4, x5_4, I5 => if ((1 : Int32) <<< ((I5 39 0) &&& 31)) ≤ x5_4 then (K3 x4_4 I5) else ((rdI I5 44 64 x5_4).bind fun v8 => if v8 = (0 : Int32) then (X3_paired_L1 x1 x2 x3 K3 n4 x4_4 (x5_4 + (1 : Int32)) I5) else ((X3_join I5 x5_4 x1 x2 x3).bind fun q10 => if (J6_bitCount_0f7a4 x5_4) ≤ (J6_bitCount_0f7a4 x4_4) then (X3_paired_L1 x1 x2 x3 K3 n4 x4_4 (x5_4 + (1 : Int32)) q10) else (X3_paired_L1 x1 x2 x3 K3 n4 x5_4 (x5_4 + (1 : Int32)) q10)))
def X3_paired (I : xMem) (x1 : Int32) (x2 : Int32) (x3 : Int32) : Option (Int32 × xMem) := (J7_fill_53178 I 44 64 (0 : Int32)).bind fun q1 => (wrI q1 44 64 (0 : Int32) (1 : Int32)).bind fun I2 => X3_paired_L1 x1 x2 x3 (fun (z4_5 : Int32) (I6 : xMem) => some (z4_5, I6)) bigF (0 : Int32) (0 : Int32) I2
abbrev rm_X3_paired : Room := { frames := 3, cells := 0, slots := 0, locals := 76 }
theorem cd_X3_paired : yX3_paired.cls = RX3 ∧ yX3_paired.cls ≠ "java/lang/invoke/MethodHandle" ∧ yX3_paired.cls ≠ "java/lang/invoke/VarHandle" ∧ (parseMethodDescriptor yX3_paired.desc).map (fun d => d.parameters.length) = some 3 := by decide +kernel
set_option maxHeartbeats 4000000 in
set_option maxRecDepth 100000 in
theorem k_X3_paired (l : Launch) (D : va_G) (cy : Nat → ClassId) (ad : Nat → Nat) (P Dr : Nat) (tI : xTab) (hX : cOk ad P Dr) (I : xMem) (L : xLon) (x1 : Int32) (x2 : Int32) (x3 : Int32) (r : Int32 × xMem) (h : X3_paired I x1 x2 x3 = some r) : Met l yX3_paired wsX3_paired rm_X3_paired (va_Pc [.ref (ad 39), .int x1, .int x2, .int x3] (cW D cy ad P Dr tI I L)) (cPi D cy ad P Dr tI r.2 L r.1) 0 0 (gA 64 ad) := by
  refine g_met (own := RX3) (cc := cX3_paired) (maxL := 6) (ret := (some .int)) (by decide) rfl (Nat.le_of_ble_eq_true rfl) rfl ?_
  intro p e s m args below meth c ls hx hb hml hr hlocks hown hts hG hK hZ hl
  generalize hQ : MQ below _ args s 0 0 _ = Q
  have hl : lv_has ls 6 [(0, .ref (ad 39)), (1, .int x1), (2, .int x2), (3, .int x3)] := hl
  have hS : va_S (gA 64 ad) s.heap s.heap [] := va_S.rf
  obtain ⟨hi, hP, hDr⟩ := id hX
  have l3 : ∀ w ∈ wsX30, w.before args s = true := fun w h => hts w (List.mem_cons_of_mem _ (List.mem_append_right _ h))
  have k1 := hts (.fieldLink RX3 24 "PairStairs$Ways" "taken" "[I") (by decide +kernel)
  have k2 := hts (.fieldLink RX3 46 "PairStairs$Ways" "people" "I") (by decide +kernel)
  unfold X3_paired at h
  refine lv_aload_n hx hb dX3_paired_0 rfl (lv_at hl 0 rfl) ?_
  refine g_get hx hb l3 hown hK hG (k := 39) (by decide) (cE_3 _ _) vwCl_3 6 (by decide) k1 (fun _ h9 => h9) rfl dX3_paired_1 ?_
  refine lv_iconst (v := (0 : Int32)) hx hb dX3_paired_4 (by decide) ?_
  obtain ⟨q1, eq1, h⟩ := obind h
  refine g_endv (va_runS (As := [.ref (ad 44), .int (0 : Int32)]) (rest := []) ⟨hx, hb, hml, hown, hts⟩ (k_J7_fill_53178 l D cy ad P Dr tI hX I L (y1 := 44) (n1 := 64) (show cIA 44 64 from by decide +kernel) (0 : Int32) q1 eq1) (va_cwS 2 hts gX3_paired_J7_fill_53178 rfl rfl rfl cd_J7_fill_53178.2 ⟨Nat.le_of_ble_eq_true rfl, Nat.le_of_ble_eq_true rfl⟩) ⟨g_blind cZm, g_pre cZm hK hG hZ hS⟩ rfl rfl hl.1 rfl (lv_room (Nat.le_of_ble_eq_true rfl)) dX3_paired_5 ⟨Nat.le_refl _, Nat.le_refl _⟩) hS (fun H locs hG hS => ?_)
  refine lv_aload_n hx hb dX3_paired_8 rfl (lv_at hl 0 rfl) ?_
  refine g_get hx hb l3 hown hK hG (k := 39) (by decide) (cE_3 _ _) vwCl_3 6 (by decide) k1 (fun _ h9 => h9) rfl dX3_paired_9 ?_
  refine lv_iconst (v := (0 : Int32)) hx hb dX3_paired_12 (by decide) ?_
  refine lv_iconst (v := (1 : Int32)) hx hb dX3_paired_13 (by decide) ?_
  refine g_ast hx hb hK hG hi hS (k := 44) (n := 64) (show cIA 44 64 from by decide +kernel).1.1 (fun f => cIA_e (show cIA 44 64 from by decide +kernel) f _) 0 rfl h dX3_paired_14 (fun I2 H locs h hG hS => ?_)
  refine lv_iconst (v := (0 : Int32)) hx hb dX3_paired_15 (by decide) ?_
  refine lv_istore (lv' := [(4, .int (0 : Int32)), (0, .ref (ad 39)), (1, .int x1), (2, .int x2), (3, .int x3)]) hx hb dX3_paired_16 hl (by decide) rfl (fun ls hl => ?_)
  refine lv_iconst (v := (0 : Int32)) hx hb dX3_paired_18 (by decide) ?_
  refine lv_istore (lv' := [(5, .int (0 : Int32)), (4, .int (0 : Int32)), (0, .ref (ad 39)), (1, .int x1), (2, .int x2), (3, .int x3)]) hx hb dX3_paired_19 hl (by decide) rfl (fun ls hl => ?_)
  have keyK3 : ∀ (K3 : Int32 → xMem → Option (Int32 × xMem)), (∀ (z4_5 : Int32) (I6 : xMem) (H : Heap) (locs : List Loc) (ls : Array Slot), K3 z4_5 I6 = some r → cG D cy ad P Dr I6 L H → va_S (gA 64 ad) s.heap H locs → lv_has ls 6 [(4, .int z4_5)] → W p l e rm_X3_paired s m args below meth c H locs 0 0 Q (F0 m 79 ls [])) → ∀ (n4 : Nat) (x4_4 : Int32) (x5_4 : Int32) (I5 : xMem) (H : Heap) (locs : List Loc) (ls : Array Slot), X3_paired_L1 x1 x2 x3 K3 n4 x4_4 x5_4 I5 = some r → cG D cy ad P Dr I5 L H → va_S (gA 64 ad) s.heap H locs → lv_has ls 6 [(0, .ref (ad 39)), (1, .int x1), (2, .int x2), (3, .int x3), (4, .int x4_4), (5, .int x5_4)] → W p l e rm_X3_paired s m args below meth c H locs 0 0 Q (F0 m 21 ls []) := by
    intro K3 hkK3 n4
    induction n4 with
    | zero =>
      intro x4_4 x5_4 I5 H locs ls h
      exact ono h
    | succ n4 ihn4 =>
      intro x4_4 x5_4 I5 H locs ls h hG hS hl
      rw [X3_paired_L1] at h
      refine lv_iload hx hb dX3_paired_21 (lv_at hl 5 rfl) ?_
      refine lv_iconst (v := (1 : Int32)) hx hb dX3_paired_23 (by decide) ?_
      refine lv_aload_n hx hb dX3_paired_24 rfl (lv_at hl 0 rfl) ?_
      refine g_get hx hb l3 hown hK hG (k := 39) (by decide) (cE_3 _ _) vwCl_3 0 (by decide) k2 (fun _ h9 => h9) rfl dX3_paired_25 ?_
      refine lv_ishl hx hb dX3_paired_28 ?_
      refine lv_icmp_ge (tgt := 79) hx hb dX3_paired_29 (by decide) (fun c7 => ?_) (fun c7 => ?_)
      · have h := ite_t h c7
        exact hkK3 x4_4 I5 _ _ _ h hG hS (lv_sub hl [4] rfl)
      · have h := ite_f h c7
        refine lv_aload_n hx hb dX3_paired_32 rfl (lv_at hl 0 rfl) ?_
        refine g_get hx hb l3 hown hK hG (k := 39) (by decide) (cE_3 _ _) vwCl_3 6 (by decide) k1 (fun _ h9 => h9) rfl dX3_paired_33 ?_
        refine lv_iload hx hb dX3_paired_36 (lv_at hl 5 rfl) ?_
        refine g_ald hx hb hK hG (k := 44) (n := 64) (show cIA 44 64 from by decide +kernel).1.1 (cIA_e (show cIA 44 64 from by decide +kernel) _ _) 0 rfl h dX3_paired_38 (fun v8 h => ?_)
        refine lv_if_eq (tgt := 73) hx hb dX3_paired_39 (by decide) (fun c9 => ?_) (fun c9 => ?_)
        · have h := ite_t h c9
          refine lv_iinc (v := (x5_4 + (1 : Int32))) (lv' := [(5, .int (x5_4 + (1 : Int32))), (0, .ref (ad 39)), (1, .int x1), (2, .int x2), (3, .int x3), (4, .int x4_4)]) hx hb dX3_paired_73 hl (k := 5) rfl rfl (by decide) rfl (fun ls hl => ?_)
          refine lv_goto (tgt := 21) hx hb dX3_paired_76 (by decide) ?_
          exact ihn4 x4_4 (x5_4 + (1 : Int32)) I5 _ _ _ h hG hS (lv_sub hl [1, 2, 3, 4, 5, 0] rfl)
        · have h := ite_f h c9
          refine lv_aload_n hx hb dX3_paired_42 rfl (lv_at hl 0 rfl) ?_
          refine lv_iload hx hb dX3_paired_43 (lv_at hl 5 rfl) ?_
          refine lv_iload_n hx hb dX3_paired_45 rfl (lv_at hl 1 rfl) ?_
          refine lv_iload_n hx hb dX3_paired_46 rfl (lv_at hl 2 rfl) ?_
          refine lv_iload_n hx hb dX3_paired_47 rfl (lv_at hl 3 rfl) ?_
          obtain ⟨q10, eq10, h⟩ := obind h
          refine g_endv (va_runV (As := [.int x5_4, .int x1, .int x2, .int x3]) (rest := []) ⟨hx, hb, hml, hown, hts⟩ (k_X3_join l D cy ad P Dr tI hX I5 L x5_4 x1 x2 x3 q10 eq10) (cwV 4 hts gX3_paired_X3_join rfl rfl rfl cd_X3_join ⟨Nat.le_of_ble_eq_true rfl, Nat.le_of_ble_eq_true rfl⟩) ⟨g_blind cZm, g_recv hK hG (k := 39) (by decide) (cE_3 _ _) vwCl_3, g_pre cZm hK hG hZ hS⟩ rfl rfl hl.1 rfl (lv_room (Nat.le_of_ble_eq_true rfl)) dX3_paired_48 ⟨Nat.le_refl _, Nat.le_refl _⟩) hS (fun H locs hG hS => ?_)
          refine lv_iload hx hb dX3_paired_51 (lv_at hl 5 rfl) ?_
          refine g_endi (va_runS (As := [.int x5_4]) (rest := []) ⟨hx, hb, hml, hown, hts⟩ (k_J6_bitCount_0f7a4 l D cy ad P Dr tI hX q10 L x5_4 _ rfl) (va_cwS 1 hts gX3_paired_J6_bitCount_0f7a4 rfl rfl rfl cd_J6_bitCount_0f7a4.2 ⟨Nat.le_of_ble_eq_true rfl, Nat.le_of_ble_eq_true rfl⟩) ⟨g_blind cZm, g_pre cZm hK hG hZ hS⟩ rfl rfl hl.1 rfl (lv_room (Nat.le_of_ble_eq_true rfl)) dX3_paired_53 ⟨Nat.le_refl _, Nat.le_refl _⟩) hS (fun H locs hG hS => ?_)
          refine lv_iload hx hb dX3_paired_56 (lv_at hl 4 rfl) ?_
          refine g_endi (va_runS (As := [.int x4_4]) (rest := [.int (J6_bitCount_0f7a4 x5_4)]) ⟨hx, hb, hml, hown, hts⟩ (k_J6_bitCount_0f7a4 l D cy ad P Dr tI hX q10 L x4_4 _ rfl) (va_cwS 1 hts gX3_paired_J6_bitCount_0f7a4 rfl rfl rfl cd_J6_bitCount_0f7a4.2 ⟨Nat.le_of_ble_eq_true rfl, Nat.le_of_ble_eq_true rfl⟩) ⟨g_blind cZm, g_pre cZm hK hG hZ hS⟩ rfl rfl hl.1 rfl (lv_room (Nat.le_of_ble_eq_true rfl)) dX3_paired_58 ⟨Nat.le_refl _, Nat.le_refl _⟩) hS (fun H locs hG hS => ?_)
          refine lv_icmp_le (tgt := 69) hx hb dX3_paired_61 (by decide) (fun c11 => ?_) (fun c11 => ?_)
          · have h := ite_t h c11
            refine lv_iload hx hb dX3_paired_69 (lv_at hl 4 rfl) ?_
            refine lv_istore (lv' := [(4, .int x4_4), (0, .ref (ad 39)), (1, .int x1), (2, .int x2), (3, .int x3), (5, .int x5_4)]) hx hb dX3_paired_71 hl (by decide) rfl (fun ls hl => ?_)
            refine lv_iinc (v := (x5_4 + (1 : Int32))) (lv' := [(5, .int (x5_4 + (1 : Int32))), (4, .int x4_4), (0, .ref (ad 39)), (1, .int x1), (2, .int x2), (3, .int x3)]) hx hb dX3_paired_73 hl (k := 5) rfl rfl (by decide) rfl (fun ls hl => ?_)
            refine lv_goto (tgt := 21) hx hb dX3_paired_76 (by decide) ?_
            exact ihn4 x4_4 (x5_4 + (1 : Int32)) q10 _ _ _ h hG hS (lv_sub hl [2, 3, 4, 5, 1, 0] rfl)
          · have h := ite_f h c11
            refine lv_iload hx hb dX3_paired_64 (lv_at hl 5 rfl) ?_
            refine lv_goto (tgt := 71) hx hb dX3_paired_66 (by decide) ?_
            refine lv_istore (lv' := [(4, .int x5_4), (0, .ref (ad 39)), (1, .int x1), (2, .int x2), (3, .int x3), (5, .int x5_4)]) hx hb dX3_paired_71 hl (by decide) rfl (fun ls hl => ?_)
            refine lv_iinc (v := (x5_4 + (1 : Int32))) (lv' := [(5, .int (x5_4 + (1 : Int32))), (4, .int x5_4), (0, .ref (ad 39)), (1, .int x1), (2, .int x2), (3, .int x3)]) hx hb dX3_paired_73 hl (k := 5) rfl rfl (by decide) rfl (fun ls hl => ?_)
            refine lv_goto (tgt := 21) hx hb dX3_paired_76 (by decide) ?_
            exact ihn4 x5_4 (x5_4 + (1 : Int32)) q10 _ _ _ h hG hS (lv_sub hl [2, 3, 4, 5, 1, 0] rfl)
  refine keyK3 _ (fun z4_5 I6 H locs ls h hG hS hl => ?_) bigF (0 : Int32) (0 : Int32) I2 _ _ _ h hG hS (lv_sub hl [2, 3, 4, 5, 1, 0] rfl)
  clear keyK3
  refine lv_iload hx hb dX3_paired_79 (lv_at hl 0 rfl) ?_
  have h := Option.some.inj h
  subst h
  subst hQ
  exact g_iret hx hb hr hlocks cZm hK hZ hG hS rfl dX3_paired_81
def X3_nearest_L1 (I : xMem) (x1 : Int32) (x2 : Int32) (K1 : Option (Int32)) : Nat → Int32 → Option (Int32)
  | 0, _ => none
  | n2 + 1, x3_2 => if (I 39 5) ≤ x3_2 then (K1) else (if (1024 : Int32) ≤ x3_2 then (K1) else ((rdI I 43 1024 x3_2).bind fun v5 => if (v5 &&& x1) = x2 then ((rdI I 43 1024 x3_2).bind fun v7 => some v7) else (X3_nearest_L1 I x1 x2 K1 n2 (x3_2 + (1 : Int32)))))
def X3_nearest (I : xMem) (x1 : Int32) (x2 : Int32) : Option (Int32) := X3_nearest_L1 I x1 x2 (some (-9 : Int32)) bigF (0 : Int32)
abbrev rm_X3_nearest : Room := { frames := 0, cells := 0, slots := 0, locals := 0 }
theorem cd_X3_nearest : yX3_nearest.cls = RX3 ∧ yX3_nearest.cls ≠ "java/lang/invoke/MethodHandle" ∧ yX3_nearest.cls ≠ "java/lang/invoke/VarHandle" ∧ (parseMethodDescriptor yX3_nearest.desc).map (fun d => d.parameters.length) = some 2 := by decide +kernel
set_option maxHeartbeats 4000000 in
set_option maxRecDepth 100000 in
theorem k_X3_nearest (l : Launch) (D : va_G) (cy : Nat → ClassId) (ad : Nat → Nat) (P Dr : Nat) (tI : xTab) (hX : cOk ad P Dr) (I : xMem) (L : xLon) (x1 : Int32) (x2 : Int32) (r : Int32) (h : X3_nearest I x1 x2 = some r) : Met l yX3_nearest wsX3_nearest rm_X3_nearest (va_Pc [.ref (ad 39), .int x1, .int x2] (cW D cy ad P Dr tI I L)) (cPi D cy ad P Dr tI I L r) 0 0 (gA 64 ad) := by
  refine g_met (own := RX3) (cc := cX3_nearest) (maxL := 4) (ret := (some .int)) (by decide) rfl (Nat.le_of_ble_eq_true rfl) rfl ?_
  intro p e s m args below meth c ls hx hb hml hr hlocks hown hts hG hK hZ hl
  generalize hQ : MQ below _ args s 0 0 _ = Q
  have hl : lv_has ls 4 [(0, .ref (ad 39)), (1, .int x1), (2, .int x2)] := hl
  have hS : va_S (gA 64 ad) s.heap s.heap [] := va_S.rf
  obtain ⟨hi, hP, hDr⟩ := id hX
  have l3 : ∀ w ∈ wsX30, w.before args s = true := fun w h => hts w (List.mem_cons_of_mem _ (List.mem_append_right _ h))
  have k1 := hts (.fieldLink RX3 38 "PairStairs$Ways" "lineEnd" "I") (by decide +kernel)
  have k2 := hts (.fieldLink RX3 21 "PairStairs$Ways" "line" "[I") (by decide +kernel)
  unfold X3_nearest at h
  refine lv_iconst (v := (0 : Int32)) hx hb dX3_nearest_0 (by decide) ?_
  refine lv_istore_n (lv' := [(3, .int (0 : Int32)), (0, .ref (ad 39)), (1, .int x1), (2, .int x2)]) hx hb dX3_nearest_1 rfl hl (by decide) rfl (fun ls hl => ?_)
  have keyK1 : ∀ (K1 : Option (Int32)), (∀ (H : Heap) (locs : List Loc) (ls : Array Slot), K1 = some r → cG D cy ad P Dr I L H → va_S (gA 64 ad) s.heap H locs → lv_has ls 4 [] → W p l e rm_X3_nearest s m args below meth c H locs 0 0 Q (F0 m 42 ls [])) → ∀ (n2 : Nat) (x3_2 : Int32) (H : Heap) (locs : List Loc) (ls : Array Slot), X3_nearest_L1 I x1 x2 K1 n2 x3_2 = some r → cG D cy ad P Dr I L H → va_S (gA 64 ad) s.heap H locs → lv_has ls 4 [(0, .ref (ad 39)), (1, .int x1), (2, .int x2), (3, .int x3_2)] → W p l e rm_X3_nearest s m args below meth c H locs 0 0 Q (F0 m 2 ls []) := by
    intro K1 hkK1 n2
    induction n2 with
    | zero =>
      intro x3_2 H locs ls h
      exact ono h
    | succ n2 ihn2 =>
      intro x3_2 H locs ls h hG hS hl
      rw [X3_nearest_L1] at h
      refine lv_iload_n hx hb dX3_nearest_2 rfl (lv_at hl 3 rfl) ?_
      refine lv_aload_n hx hb dX3_nearest_3 rfl (lv_at hl 0 rfl) ?_
      refine g_get hx hb l3 hown hK hG (k := 39) (by decide) (cE_3 _ _) vwCl_3 5 (by decide) k1 (fun _ h9 => h9) rfl dX3_nearest_4 ?_
      refine lv_icmp_ge (tgt := 42) hx hb dX3_nearest_7 (by decide) (fun c3 => ?_) (fun c3 => ?_)
      · have h := ite_t h c3
        exact hkK1 _ _ _ h hG hS (lv_sub hl [] rfl)
      · have h := ite_f h c3
        refine lv_iload_n hx hb dX3_nearest_10 rfl (lv_at hl 3 rfl) ?_
        refine lv_sipush (v := (1024 : Int32)) hx hb dX3_nearest_11 (by decide) ?_
        refine lv_icmp_ge (tgt := 42) hx hb dX3_nearest_14 (by decide) (fun c4 => ?_) (fun c4 => ?_)
        · have h := ite_t h c4
          exact hkK1 _ _ _ h hG hS (lv_sub hl [] rfl)
        · have h := ite_f h c4
          refine lv_aload_n hx hb dX3_nearest_17 rfl (lv_at hl 0 rfl) ?_
          refine g_get hx hb l3 hown hK hG (k := 39) (by decide) (cE_3 _ _) vwCl_3 4 (by decide) k2 (fun _ h9 => h9) rfl dX3_nearest_18 ?_
          refine lv_iload_n hx hb dX3_nearest_21 rfl (lv_at hl 3 rfl) ?_
          refine g_ald hx hb hK hG (k := 43) (n := 1024) (show cIA 43 1024 from by decide +kernel).1.1 (cIA_e (show cIA 43 1024 from by decide +kernel) _ _) 0 rfl h dX3_nearest_22 (fun v5 h => ?_)
          refine lv_iload_n hx hb dX3_nearest_23 rfl (lv_at hl 1 rfl) ?_
          refine lv_iand hx hb dX3_nearest_24 ?_
          refine lv_iload_n hx hb dX3_nearest_25 rfl (lv_at hl 2 rfl) ?_
          refine lv_icmp_ne (tgt := 36) hx hb dX3_nearest_26 (by decide) (fun c6 => ?_) (fun c6 => ?_)
          · have h := ite_f h c6
            refine lv_iinc (v := (x3_2 + (1 : Int32))) (lv' := [(3, .int (x3_2 + (1 : Int32))), (0, .ref (ad 39)), (1, .int x1), (2, .int x2)]) hx hb dX3_nearest_36 hl (k := 3) rfl rfl (by decide) rfl (fun ls hl => ?_)
            refine lv_goto (tgt := 2) hx hb dX3_nearest_39 (by decide) ?_
            exact ihn2 (x3_2 + (1 : Int32)) _ _ _ h hG hS (lv_sub hl [1, 2, 3, 0] rfl)
          · have h := ite_t h c6
            refine lv_aload_n hx hb dX3_nearest_29 rfl (lv_at hl 0 rfl) ?_
            refine g_get hx hb l3 hown hK hG (k := 39) (by decide) (cE_3 _ _) vwCl_3 4 (by decide) k2 (fun _ h9 => h9) rfl dX3_nearest_30 ?_
            refine lv_iload_n hx hb dX3_nearest_33 rfl (lv_at hl 3 rfl) ?_
            refine g_ald hx hb hK hG (k := 43) (n := 1024) (show cIA 43 1024 from by decide +kernel).1.1 (cIA_e (show cIA 43 1024 from by decide +kernel) _ _) 0 rfl h dX3_nearest_34 (fun v7 h => ?_)
            have h := Option.some.inj h
            subst h
            subst hQ
            exact g_iret hx hb hr hlocks cZm hK hZ hG hS rfl dX3_nearest_35
  refine keyK1 _ (fun H locs ls h hG hS hl => ?_) bigF (0 : Int32) _ _ _ h hG hS (lv_sub hl [1, 2, 3, 0] rfl)
  clear keyK1
  refine lv_bipush (v := (-9 : Int32)) hx hb dX3_nearest_42 (by decide) ?_
  have h := Option.some.inj h
  subst h
  subst hQ
  exact g_iret hx hb hr hlocks cZm hK hZ hG hS rfl dX3_nearest_44
def X3_reach (I : xMem) (x1 : Int32) (x2 : Int32) (x3 : Int32) : Option (xMem) := (rdI I 41 1024 x1).bind fun v1 => if v1 = (-9 : Int32) then (if (1024 : Int32) ≤ (I 39 5) then (some I) else ((wrI I 41 1024 x1 x2).bind fun I4 => (wrI I4 42 1024 x1 x3).bind fun I5 => (wrI I5 43 1024 (I5 39 5) x1).bind fun I6 => (some (wr I6 39 5 ((I6 39 5) + (1 : Int32)))).bind fun I7 => some I7)) else (some I)
abbrev rm_X3_reach : Room := { frames := 0, cells := 0, slots := 0, locals := 0 }
theorem cd_X3_reach : yX3_reach.cls = RX3 ∧ yX3_reach.cls ≠ "java/lang/invoke/MethodHandle" ∧ yX3_reach.cls ≠ "java/lang/invoke/VarHandle" ∧ (parseMethodDescriptor yX3_reach.desc).map (fun d => d.parameters.length) = some 3 := by decide +kernel
set_option maxHeartbeats 4000000 in
set_option maxRecDepth 100000 in
theorem k_X3_reach (l : Launch) (D : va_G) (cy : Nat → ClassId) (ad : Nat → Nat) (P Dr : Nat) (tI : xTab) (hX : cOk ad P Dr) (I : xMem) (L : xLon) (x1 : Int32) (x2 : Int32) (x3 : Int32) (r : xMem) (h : X3_reach I x1 x2 x3 = some r) : Met l yX3_reach wsX3_reach rm_X3_reach (va_Pc [.ref (ad 39), .int x1, .int x2, .int x3] (cW D cy ad P Dr tI I L)) (cPv D cy ad P Dr tI r L) 0 0 (gA 64 ad) := by
  refine g_met (own := RX3) (cc := cX3_reach) (maxL := 4) (ret := none) (by decide) rfl (Nat.le_of_ble_eq_true rfl) rfl ?_
  intro p e s m args below meth c ls hx hb hml hr hlocks hown hts hG hK hZ hl
  generalize hQ : MQ below _ args s 0 0 _ = Q
  have hl : lv_has ls 4 [(0, .ref (ad 39)), (1, .int x1), (2, .int x2), (3, .int x3)] := hl
  have hS : va_S (gA 64 ad) s.heap s.heap [] := va_S.rf
  obtain ⟨hi, hP, hDr⟩ := id hX
  have l3 : ∀ w ∈ wsX30, w.before args s = true := fun w h => hts w (List.mem_cons_of_mem _ (List.mem_append_right _ h))
  have k1 := hts (.fieldLink RX3 15 "PairStairs$Ways" "distance" "[I") (by decide +kernel)
  have k2 := hts (.fieldLink RX3 38 "PairStairs$Ways" "lineEnd" "I") (by decide +kernel)
  have k3 := hts (.fieldLink RX3 18 "PairStairs$Ways" "first" "[I") (by decide +kernel)
  have k4 := hts (.fieldLink RX3 21 "PairStairs$Ways" "line" "[I") (by decide +kernel)
  unfold X3_reach at h
  refine lv_aload_n hx hb dX3_reach_0 rfl (lv_at hl 0 rfl) ?_
  refine g_get hx hb l3 hown hK hG (k := 39) (by decide) (cE_3 _ _) vwCl_3 2 (by decide) k1 (fun _ h9 => h9) rfl dX3_reach_1 ?_
  refine lv_iload_n hx hb dX3_reach_4 rfl (lv_at hl 1 rfl) ?_
  refine g_ald hx hb hK hG (k := 41) (n := 1024) (show cIA 41 1024 from by decide +kernel).1.1 (cIA_e (show cIA 41 1024 from by decide +kernel) _ _) 0 rfl h dX3_reach_5 (fun v1 h => ?_)
  refine lv_bipush (v := (-9 : Int32)) hx hb dX3_reach_6 (by decide) ?_
  refine lv_icmp_ne (tgt := 55) hx hb dX3_reach_8 (by decide) (fun c2 => ?_) (fun c2 => ?_)
  · have h := ite_f h c2
    have h := Option.some.inj h
    subst h
    subst hQ
    exact g_vret hx hb hr hlocks cZm hK hZ hG hS dX3_reach_55
  · have h := ite_t h c2
    refine lv_aload_n hx hb dX3_reach_11 rfl (lv_at hl 0 rfl) ?_
    refine g_get hx hb l3 hown hK hG (k := 39) (by decide) (cE_3 _ _) vwCl_3 5 (by decide) k2 (fun _ h9 => h9) rfl dX3_reach_12 ?_
    refine lv_sipush (v := (1024 : Int32)) hx hb dX3_reach_15 (by decide) ?_
    refine lv_icmp_ge (tgt := 55) hx hb dX3_reach_18 (by decide) (fun c3 => ?_) (fun c3 => ?_)
    · have h := ite_t h c3
      have h := Option.some.inj h
      subst h
      subst hQ
      exact g_vret hx hb hr hlocks cZm hK hZ hG hS dX3_reach_55
    · have h := ite_f h c3
      refine lv_aload_n hx hb dX3_reach_21 rfl (lv_at hl 0 rfl) ?_
      refine g_get hx hb l3 hown hK hG (k := 39) (by decide) (cE_3 _ _) vwCl_3 2 (by decide) k1 (fun _ h9 => h9) rfl dX3_reach_22 ?_
      refine lv_iload_n hx hb dX3_reach_25 rfl (lv_at hl 1 rfl) ?_
      refine lv_iload_n hx hb dX3_reach_26 rfl (lv_at hl 2 rfl) ?_
      refine g_ast hx hb hK hG hi hS (k := 41) (n := 1024) (show cIA 41 1024 from by decide +kernel).1.1 (fun f => cIA_e (show cIA 41 1024 from by decide +kernel) f _) 0 rfl h dX3_reach_27 (fun I4 H locs h hG hS => ?_)
      refine lv_aload_n hx hb dX3_reach_28 rfl (lv_at hl 0 rfl) ?_
      refine g_get hx hb l3 hown hK hG (k := 39) (by decide) (cE_3 _ _) vwCl_3 3 (by decide) k3 (fun _ h9 => h9) rfl dX3_reach_29 ?_
      refine lv_iload_n hx hb dX3_reach_32 rfl (lv_at hl 1 rfl) ?_
      refine lv_iload_n hx hb dX3_reach_33 rfl (lv_at hl 3 rfl) ?_
      refine g_ast hx hb hK hG hi hS (k := 42) (n := 1024) (show cIA 42 1024 from by decide +kernel).1.1 (fun f => cIA_e (show cIA 42 1024 from by decide +kernel) f _) 0 rfl h dX3_reach_34 (fun I5 H locs h hG hS => ?_)
      refine lv_aload_n hx hb dX3_reach_35 rfl (lv_at hl 0 rfl) ?_
      refine g_get hx hb l3 hown hK hG (k := 39) (by decide) (cE_3 _ _) vwCl_3 4 (by decide) k4 (fun _ h9 => h9) rfl dX3_reach_36 ?_
      refine lv_aload_n hx hb dX3_reach_39 rfl (lv_at hl 0 rfl) ?_
      refine g_get hx hb l3 hown hK hG (k := 39) (by decide) (cE_3 _ _) vwCl_3 5 (by decide) k2 (fun _ h9 => h9) rfl dX3_reach_40 ?_
      refine lv_iload_n hx hb dX3_reach_43 rfl (lv_at hl 1 rfl) ?_
      refine g_ast hx hb hK hG hi hS (k := 43) (n := 1024) (show cIA 43 1024 from by decide +kernel).1.1 (fun f => cIA_e (show cIA 43 1024 from by decide +kernel) f _) 0 rfl h dX3_reach_44 (fun I6 H locs h hG hS => ?_)
      refine lv_aload_n hx hb dX3_reach_45 rfl (lv_at hl 0 rfl) ?_
      refine lv_dup hx hb dX3_reach_46 rfl ?_
      refine g_get hx hb l3 hown hK hG (k := 39) (by decide) (cE_3 _ _) vwCl_3 5 (by decide) k2 (fun _ h9 => h9) rfl dX3_reach_47 ?_
      refine lv_iconst (v := (1 : Int32)) hx hb dX3_reach_50 (by decide) ?_
      refine lv_iadd hx hb dX3_reach_51 ?_
      obtain ⟨I7, eI7, h⟩ := obind h
      refine g_put hx hb l3 tyX3_ok nmX3 hown hK hG hi hS (k := 39) (by decide) (cE_3 _ _) vwCl_3 5 (by decide) k2 (fun _ h9 => h9) rfl rfl (Nat.le_of_ble_eq_true rfl) (by rw [cE_3 _ _]; rfl) dX3_reach_52 (fun H locs hG hS => ?_)
      rw [Option.some.inj eI7] at hG
      have h := Option.some.inj h
      subst h
      subst hQ
      exact g_vret hx hb hr hlocks cZm hK hZ hG hS dX3_reach_55
def X3_leaveBy_L1 (x1 : Int32) (x2 : Int32) (x3 : Int32) (q2 : Int32) (v5 : Int32) (K6 : xMem → Option (xMem)) : Nat → Int32 → xMem → Option (xMem)
  | 0, _, _ => none
  | n7 + 1, x7_7, I8 => if (16 : Int32) ≤ x7_7 then (K6 I8) else (if (v5 >>> (x7_7 &&& 31)) = (0 : Int32) then (K6 I8) else (if ((v5 >>> (x7_7 &&& 31)) &&& (1 : Int32)) = (1 : Int32) then (if (x7_7 &&& (x3 ^^^ (-1 : Int32))) = (0 : Int32) then ((rdI I8 41 1024 x1).bind fun v14 => (X3_reach I8 ((x1 ^^^ (((1 : Int32) <<< ((x2 / (6 : Int32)) &&& 31)) ||| ((1 : Int32) <<< ((x2 - x2 / (6 : Int32) * (6 : Int32)) &&& 31)))) ^^^ ((64 : Int32) * x7_7)) (v14 + (1 : Int32)) q2).bind fun q15 => X3_leaveBy_L1 x1 x2 x3 q2 v5 K6 n7 (x7_7 + (1 : Int32)) q15) else (X3_leaveBy_L1 x1 x2 x3 q2 v5 K6 n7 (x7_7 + (1 : Int32)) I8)) else (X3_leaveBy_L1 x1 x2 x3 q2 v5 K6 n7 (x7_7 + (1 : Int32)) I8)))
def X3_leaveBy (I : xMem) (x1 : Int32) (x2 : Int32) (x3 : Int32) : Option (xMem) := (rdI I 41 1024 x1).bind fun v1 => (if v1 = (0 : Int32) then (some x2) else ((rdI I 42 1024 x1).bind fun v4 => some v4)).bind fun q2 => (rdI I 40 36 x2).bind fun v5 => X3_leaveBy_L1 x1 x2 x3 q2 v5 (fun (I9 : xMem) => some I9) bigF (0 : Int32) I
abbrev rm_X3_leaveBy : Room := { frames := 1, cells := 0, slots := 0, locals := 23 }
theorem cd_X3_leaveBy : yX3_leaveBy.cls = RX3 ∧ yX3_leaveBy.cls ≠ "java/lang/invoke/MethodHandle" ∧ yX3_leaveBy.cls ≠ "java/lang/invoke/VarHandle" ∧ (parseMethodDescriptor yX3_leaveBy.desc).map (fun d => d.parameters.length) = some 3 := by decide +kernel
set_option maxHeartbeats 4000000 in
set_option maxRecDepth 100000 in
theorem k_X3_leaveBy (l : Launch) (D : va_G) (cy : Nat → ClassId) (ad : Nat → Nat) (P Dr : Nat) (tI : xTab) (hX : cOk ad P Dr) (I : xMem) (L : xLon) (x1 : Int32) (x2 : Int32) (x3 : Int32) (r : xMem) (h : X3_leaveBy I x1 x2 x3 = some r) : Met l yX3_leaveBy wsX3_leaveBy rm_X3_leaveBy (va_Pc [.ref (ad 39), .int x1, .int x2, .int x3] (cW D cy ad P Dr tI I L)) (cPv D cy ad P Dr tI r L) 0 0 (gA 64 ad) := by
  refine g_met (own := RX3) (cc := cX3_leaveBy) (maxL := 8) (ret := none) (by decide) rfl (Nat.le_of_ble_eq_true rfl) rfl ?_
  intro p e s m args below meth c ls hx hb hml hr hlocks hown hts hG hK hZ hl
  generalize hQ : MQ below _ args s 0 0 _ = Q
  have hl : lv_has ls 8 [(0, .ref (ad 39)), (1, .int x1), (2, .int x2), (3, .int x3)] := hl
  have hS : va_S (gA 64 ad) s.heap s.heap [] := va_S.rf
  obtain ⟨hi, hP, hDr⟩ := id hX
  have l3 : ∀ w ∈ wsX30, w.before args s = true := fun w h => hts w (List.mem_cons_of_mem _ (List.mem_append_right _ h))
  have k1 := hts (.fieldLink RX3 15 "PairStairs$Ways" "distance" "[I") (by decide +kernel)
  have k2 := hts (.fieldLink RX3 18 "PairStairs$Ways" "first" "[I") (by decide +kernel)
  have k3 := hts (.fieldLink RX3 11 "PairStairs$Ways" "open" "[I") (by decide +kernel)
  unfold X3_leaveBy at h
  refine lv_iload_n hx hb dX3_leaveBy_0 rfl (lv_at hl 1 rfl) ?_
  refine lv_iconst (v := (1 : Int32)) hx hb dX3_leaveBy_1 (by decide) ?_
  refine lv_iload_n hx hb dX3_leaveBy_2 rfl (lv_at hl 2 rfl) ?_
  refine lv_bipush (v := (6 : Int32)) hx hb dX3_leaveBy_3 (by decide) ?_
  refine lv_idiv hx hb dX3_leaveBy_5 (by decide) ?_
  refine lv_ishl hx hb dX3_leaveBy_6 ?_
  refine lv_iconst (v := (1 : Int32)) hx hb dX3_leaveBy_7 (by decide) ?_
  refine lv_iload_n hx hb dX3_leaveBy_8 rfl (lv_at hl 2 rfl) ?_
  refine lv_bipush (v := (6 : Int32)) hx hb dX3_leaveBy_9 (by decide) ?_
  refine lv_irem hx hb dX3_leaveBy_11 (by decide) ?_
  refine lv_ishl hx hb dX3_leaveBy_12 ?_
  refine lv_ior hx hb dX3_leaveBy_13 ?_
  refine lv_ixor hx hb dX3_leaveBy_14 ?_
  refine lv_istore (lv' := [(4, .int (x1 ^^^ (((1 : Int32) <<< ((x2 / (6 : Int32)) &&& 31)) ||| ((1 : Int32) <<< ((x2 - x2 / (6 : Int32) * (6 : Int32)) &&& 31))))), (0, .ref (ad 39)), (1, .int x1), (2, .int x2), (3, .int x3)]) hx hb dX3_leaveBy_15 hl (by decide) rfl (fun ls hl => ?_)
  refine lv_aload_n hx hb dX3_leaveBy_17 rfl (lv_at hl 1 rfl) ?_
  refine g_get hx hb l3 hown hK hG (k := 39) (by decide) (cE_3 _ _) vwCl_3 2 (by decide) k1 (fun _ h9 => h9) rfl dX3_leaveBy_18 ?_
  refine lv_iload_n hx hb dX3_leaveBy_21 rfl (lv_at hl 2 rfl) ?_
  refine g_ald hx hb hK hG (k := 41) (n := 1024) (show cIA 41 1024 from by decide +kernel).1.1 (cIA_e (show cIA 41 1024 from by decide +kernel) _ _) 0 rfl h dX3_leaveBy_22 (fun v1 h => ?_)
  obtain ⟨q2, h9, h⟩ := obind h
  have hk_q2 : ∀ (H : Heap) (locs : List Loc) (ls : Array Slot), cG D cy ad P Dr I L H → va_S (gA 64 ad) s.heap H locs → lv_has ls 8 [(0, .ref (ad 39)), (1, .int x1), (2, .int x2), (3, .int x3), (4, .int (x1 ^^^ (((1 : Int32) <<< ((x2 / (6 : Int32)) &&& 31)) ||| ((1 : Int32) <<< ((x2 - x2 / (6 : Int32) * (6 : Int32)) &&& 31)))))] → W p l e rm_X3_leaveBy s m args below meth c H locs 0 0 Q (F0 m 36 ls [.int q2]) := by
    intro H locs ls hG hS hl
    refine lv_istore (lv' := [(5, .int q2), (0, .ref (ad 39)), (1, .int x1), (2, .int x2), (3, .int x3), (4, .int (x1 ^^^ (((1 : Int32) <<< ((x2 / (6 : Int32)) &&& 31)) ||| ((1 : Int32) <<< ((x2 - x2 / (6 : Int32) * (6 : Int32)) &&& 31)))))]) hx hb dX3_leaveBy_36 hl (by decide) rfl (fun ls hl => ?_)
    refine lv_aload_n hx hb dX3_leaveBy_38 rfl (lv_at hl 1 rfl) ?_
    refine g_get hx hb l3 hown hK hG (k := 39) (by decide) (cE_3 _ _) vwCl_3 1 (by decide) k3 (fun _ h9 => h9) rfl dX3_leaveBy_39 ?_
    refine lv_iload_n hx hb dX3_leaveBy_42 rfl (lv_at hl 3 rfl) ?_
    refine g_ald hx hb hK hG (k := 40) (n := 36) (show cIA 40 36 from by decide +kernel).1.1 (cIA_e (show cIA 40 36 from by decide +kernel) _ _) 0 rfl h dX3_leaveBy_43 (fun v5 h => ?_)
    refine lv_istore (lv' := [(6, .int v5), (5, .int q2), (0, .ref (ad 39)), (1, .int x1), (2, .int x2), (3, .int x3), (4, .int (x1 ^^^ (((1 : Int32) <<< ((x2 / (6 : Int32)) &&& 31)) ||| ((1 : Int32) <<< ((x2 - x2 / (6 : Int32) * (6 : Int32)) &&& 31)))))]) hx hb dX3_leaveBy_44 hl (by decide) rfl (fun ls hl => ?_)
    refine lv_iconst (v := (0 : Int32)) hx hb dX3_leaveBy_46 (by decide) ?_
    refine lv_istore (lv' := [(7, .int (0 : Int32)), (6, .int v5), (5, .int q2), (0, .ref (ad 39)), (1, .int x1), (2, .int x2), (3, .int x3), (4, .int (x1 ^^^ (((1 : Int32) <<< ((x2 / (6 : Int32)) &&& 31)) ||| ((1 : Int32) <<< ((x2 - x2 / (6 : Int32) * (6 : Int32)) &&& 31)))))]) hx hb dX3_leaveBy_47 hl (by decide) rfl (fun ls hl => ?_)
    have keyK6 : ∀ (K6 : xMem → Option (xMem)), (∀ (I9 : xMem) (H : Heap) (locs : List Loc) (ls : Array Slot), K6 I9 = some r → cG D cy ad P Dr I9 L H → va_S (gA 64 ad) s.heap H locs → lv_has ls 8 [] → W p l e rm_X3_leaveBy s m args below meth c H locs 0 0 Q (F0 m 112 ls [])) → ∀ (n7 : Nat) (x7_7 : Int32) (I8 : xMem) (H : Heap) (locs : List Loc) (ls : Array Slot), X3_leaveBy_L1 x1 x2 x3 q2 v5 K6 n7 x7_7 I8 = some r → cG D cy ad P Dr I8 L H → va_S (gA 64 ad) s.heap H locs → lv_has ls 8 [(0, .ref (ad 39)), (1, .int x1), (3, .int x3), (4, .int (x1 ^^^ (((1 : Int32) <<< ((x2 / (6 : Int32)) &&& 31)) ||| ((1 : Int32) <<< ((x2 - x2 / (6 : Int32) * (6 : Int32)) &&& 31))))), (5, .int q2), (6, .int v5), (7, .int x7_7)] → W p l e rm_X3_leaveBy s m args below meth c H locs 0 0 Q (F0 m 49 ls []) := by
      intro K6 hkK6 n7
      induction n7 with
      | zero =>
        intro x7_7 I8 H locs ls h
        exact ono h
      | succ n7 ihn7 =>
        intro x7_7 I8 H locs ls h hG hS hl
        rw [X3_leaveBy_L1] at h
        refine lv_iload hx hb dX3_leaveBy_49 (lv_at hl 6 rfl) ?_
        refine lv_bipush (v := (16 : Int32)) hx hb dX3_leaveBy_51 (by decide) ?_
        refine lv_icmp_ge (tgt := 112) hx hb dX3_leaveBy_53 (by decide) (fun c10 => ?_) (fun c10 => ?_)
        · have h := ite_t h c10
          exact hkK6 I8 _ _ _ h hG hS (lv_sub hl [] rfl)
        · have h := ite_f h c10
          refine lv_iload hx hb dX3_leaveBy_56 (lv_at hl 5 rfl) ?_
          refine lv_iload hx hb dX3_leaveBy_58 (lv_at hl 6 rfl) ?_
          refine lv_ishr hx hb dX3_leaveBy_60 ?_
          refine lv_if_eq (tgt := 112) hx hb dX3_leaveBy_61 (by decide) (fun c11 => ?_) (fun c11 => ?_)
          · have h := ite_t h c11
            exact hkK6 I8 _ _ _ h hG hS (lv_sub hl [] rfl)
          · have h := ite_f h c11
            refine lv_iload hx hb dX3_leaveBy_64 (lv_at hl 5 rfl) ?_
            refine lv_iload hx hb dX3_leaveBy_66 (lv_at hl 6 rfl) ?_
            refine lv_ishr hx hb dX3_leaveBy_68 ?_
            refine lv_iconst (v := (1 : Int32)) hx hb dX3_leaveBy_69 (by decide) ?_
            refine lv_iand hx hb dX3_leaveBy_70 ?_
            refine lv_iconst (v := (1 : Int32)) hx hb dX3_leaveBy_71 (by decide) ?_
            refine lv_icmp_ne (tgt := 106) hx hb dX3_leaveBy_72 (by decide) (fun c12 => ?_) (fun c12 => ?_)
            · have h := ite_f h c12
              refine lv_iinc (v := (x7_7 + (1 : Int32))) (lv' := [(7, .int (x7_7 + (1 : Int32))), (0, .ref (ad 39)), (1, .int x1), (3, .int x3), (4, .int (x1 ^^^ (((1 : Int32) <<< ((x2 / (6 : Int32)) &&& 31)) ||| ((1 : Int32) <<< ((x2 - x2 / (6 : Int32) * (6 : Int32)) &&& 31))))), (5, .int q2), (6, .int v5)]) hx hb dX3_leaveBy_106 hl (k := 6) rfl rfl (by decide) rfl (fun ls hl => ?_)
              refine lv_goto (tgt := 49) hx hb dX3_leaveBy_109 (by decide) ?_
              exact ihn7 (x7_7 + (1 : Int32)) I8 _ _ _ h hG hS (lv_sub hl [1, 2, 3, 4, 5, 6, 0] rfl)
            · have h := ite_t h c12
              refine lv_iload hx hb dX3_leaveBy_75 (lv_at hl 6 rfl) ?_
              refine lv_iload_n hx hb dX3_leaveBy_77 rfl (lv_at hl 2 rfl) ?_
              refine lv_iconst (v := (-1 : Int32)) hx hb dX3_leaveBy_78 (by decide) ?_
              refine lv_ixor hx hb dX3_leaveBy_79 ?_
              refine lv_iand hx hb dX3_leaveBy_80 ?_
              refine lv_if_ne (tgt := 106) hx hb dX3_leaveBy_81 (by decide) (fun c13 => ?_) (fun c13 => ?_)
              · have h := ite_f h c13
                refine lv_iinc (v := (x7_7 + (1 : Int32))) (lv' := [(7, .int (x7_7 + (1 : Int32))), (0, .ref (ad 39)), (1, .int x1), (3, .int x3), (4, .int (x1 ^^^ (((1 : Int32) <<< ((x2 / (6 : Int32)) &&& 31)) ||| ((1 : Int32) <<< ((x2 - x2 / (6 : Int32) * (6 : Int32)) &&& 31))))), (5, .int q2), (6, .int v5)]) hx hb dX3_leaveBy_106 hl (k := 6) rfl rfl (by decide) rfl (fun ls hl => ?_)
                refine lv_goto (tgt := 49) hx hb dX3_leaveBy_109 (by decide) ?_
                exact ihn7 (x7_7 + (1 : Int32)) I8 _ _ _ h hG hS (lv_sub hl [1, 2, 3, 4, 5, 6, 0] rfl)
              · have h := ite_t h c13
                refine lv_aload_n hx hb dX3_leaveBy_84 rfl (lv_at hl 0 rfl) ?_
                refine lv_iload hx hb dX3_leaveBy_85 (lv_at hl 3 rfl) ?_
                refine lv_bipush (v := (64 : Int32)) hx hb dX3_leaveBy_87 (by decide) ?_
                refine lv_iload hx hb dX3_leaveBy_89 (lv_at hl 6 rfl) ?_
                refine lv_imul hx hb dX3_leaveBy_91 ?_
                refine lv_ixor hx hb dX3_leaveBy_92 ?_
                refine lv_aload_n hx hb dX3_leaveBy_93 rfl (lv_at hl 0 rfl) ?_
                refine g_get hx hb l3 hown hK hG (k := 39) (by decide) (cE_3 _ _) vwCl_3 2 (by decide) k1 (fun _ h9 => h9) rfl dX3_leaveBy_94 ?_
                refine lv_iload_n hx hb dX3_leaveBy_97 rfl (lv_at hl 1 rfl) ?_
                refine g_ald hx hb hK hG (k := 41) (n := 1024) (show cIA 41 1024 from by decide +kernel).1.1 (cIA_e (show cIA 41 1024 from by decide +kernel) _ _) 0 rfl h dX3_leaveBy_98 (fun v14 h => ?_)
                refine lv_iconst (v := (1 : Int32)) hx hb dX3_leaveBy_99 (by decide) ?_
                refine lv_iadd hx hb dX3_leaveBy_100 ?_
                refine lv_iload hx hb dX3_leaveBy_101 (lv_at hl 4 rfl) ?_
                obtain ⟨q15, eq15, h⟩ := obind h
                refine g_endv (va_runV (As := [.int ((x1 ^^^ (((1 : Int32) <<< ((x2 / (6 : Int32)) &&& 31)) ||| ((1 : Int32) <<< ((x2 - x2 / (6 : Int32) * (6 : Int32)) &&& 31)))) ^^^ ((64 : Int32) * x7_7)), .int (v14 + (1 : Int32)), .int q2]) (rest := []) ⟨hx, hb, hml, hown, hts⟩ (k_X3_reach l D cy ad P Dr tI hX I8 L ((x1 ^^^ (((1 : Int32) <<< ((x2 / (6 : Int32)) &&& 31)) ||| ((1 : Int32) <<< ((x2 - x2 / (6 : Int32) * (6 : Int32)) &&& 31)))) ^^^ ((64 : Int32) * x7_7)) (v14 + (1 : Int32)) q2 q15 eq15) (cwV 3 hts gX3_leaveBy_X3_reach rfl rfl rfl cd_X3_reach ⟨Nat.le_of_ble_eq_true rfl, Nat.le_of_ble_eq_true rfl⟩) ⟨g_blind cZm, g_recv hK hG (k := 39) (by decide) (cE_3 _ _) vwCl_3, g_pre cZm hK hG hZ hS⟩ rfl rfl hl.1 rfl (lv_room (Nat.le_of_ble_eq_true rfl)) dX3_leaveBy_103 ⟨Nat.le_refl _, Nat.le_refl _⟩) hS (fun H locs hG hS => ?_)
                refine lv_iinc (v := (x7_7 + (1 : Int32))) (lv' := [(7, .int (x7_7 + (1 : Int32))), (0, .ref (ad 39)), (1, .int x1), (3, .int x3), (4, .int (x1 ^^^ (((1 : Int32) <<< ((x2 / (6 : Int32)) &&& 31)) ||| ((1 : Int32) <<< ((x2 - x2 / (6 : Int32) * (6 : Int32)) &&& 31))))), (5, .int q2), (6, .int v5)]) hx hb dX3_leaveBy_106 hl (k := 6) rfl rfl (by decide) rfl (fun ls hl => ?_)
                refine lv_goto (tgt := 49) hx hb dX3_leaveBy_109 (by decide) ?_
                exact ihn7 (x7_7 + (1 : Int32)) q15 _ _ _ h hG hS (lv_sub hl [1, 2, 3, 4, 5, 6, 0] rfl)
    refine keyK6 _ (fun I9 H locs ls h hG hS hl => ?_) bigF (0 : Int32) I _ _ _ h hG hS (lv_sub hl [3, 4, 6, 7, 2, 1, 0] rfl)
    clear keyK6
    have h := Option.some.inj h
    subst h
    subst hQ
    exact g_vret hx hb hr hlocks cZm hK hZ hG hS dX3_leaveBy_112
  clear h
  have h := h9
  clear h9
  refine lv_if_ne (tgt := 30) hx hb dX3_leaveBy_23 (by decide) (fun c3 => ?_) (fun c3 => ?_)
  · have h := ite_f h c3
    refine lv_aload_n hx hb dX3_leaveBy_30 rfl (lv_at hl 1 rfl) ?_
    refine g_get hx hb l3 hown hK hG (k := 39) (by decide) (cE_3 _ _) vwCl_3 3 (by decide) k2 (fun _ h9 => h9) rfl dX3_leaveBy_31 ?_
    refine lv_iload_n hx hb dX3_leaveBy_34 rfl (lv_at hl 2 rfl) ?_
    refine g_ald hx hb hK hG (k := 42) (n := 1024) (show cIA 42 1024 from by decide +kernel).1.1 (cIA_e (show cIA 42 1024 from by decide +kernel) _ _) 0 rfl h dX3_leaveBy_35 (fun v4 h => ?_)
    have h := Option.some.inj h
    subst h
    exact hk_q2 _ _ _ hG hS (lv_sub hl [1, 2, 3, 4, 0] rfl)
  · have h := ite_t h c3
    refine lv_iload_n hx hb dX3_leaveBy_26 rfl (lv_at hl 3 rfl) ?_
    refine lv_goto (tgt := 36) hx hb dX3_leaveBy_27 (by decide) ?_
    have h := Option.some.inj h
    subst h
    exact hk_q2 _ _ _ hG hS (lv_sub hl [1, 2, 3, 4, 0] rfl)
def X3_leave_L2 (x1 : Int32) (x2 : Int32) (x4_2 : Int32) (K6 : xMem → Option (xMem)) : Nat → Int32 → xMem → Option (xMem)
  | 0, _, _ => none
  | n7 + 1, x5_7, I8 => if (I8 39 0) ≤ x5_7 then (K6 I8) else (if (X3_areTogether (x1 - x1 / (64 : Int32) * (64 : Int32)) x4_2 x5_7) = (0 : Int32) then (X3_leave_L2 x1 x2 x4_2 K6 n7 (x5_7 + (1 : Int32)) I8) else ((X3_leaveBy I8 x1 (((6 : Int32) * x4_2) + x5_7) (X3_stonesAt (x1 - x1 / (64 : Int32) * (64 : Int32)) x4_2 (x1 / (64 : Int32)) x2)).bind fun q12 => X3_leave_L2 x1 x2 x4_2 K6 n7 (x5_7 + (1 : Int32)) q12))
def X3_leave_L1 (x1 : Int32) (x2 : Int32) (K1 : xMem → Option (xMem)) : Nat → Int32 → xMem → Option (xMem)
  | 0, _, _ => none
  | n2 + 1, x4_2, I3 => if (I3 39 0) ≤ x4_2 then (K1 I3) else (X3_leave_L2 x1 x2 x4_2 (fun (I9 : xMem) => X3_leave_L1 x1 x2 K1 n2 (x4_2 + (1 : Int32)) I9) bigF (x4_2 + (1 : Int32)) I3)
def X3_leave (I : xMem) (x1 : Int32) (x2 : Int32) : Option (xMem) := X3_leave_L1 x1 x2 (fun (I4 : xMem) => some I4) bigF (0 : Int32) I
abbrev rm_X3_leave : Room := { frames := 2, cells := 0, slots := 0, locals := 50 }
theorem cd_X3_leave : yX3_leave.cls = RX3 ∧ yX3_leave.cls ≠ "java/lang/invoke/MethodHandle" ∧ yX3_leave.cls ≠ "java/lang/invoke/VarHandle" ∧ (parseMethodDescriptor yX3_leave.desc).map (fun d => d.parameters.length) = some 2 := by decide +kernel
set_option maxHeartbeats 4000000 in
set_option maxRecDepth 100000 in
theorem k_X3_leave (l : Launch) (D : va_G) (cy : Nat → ClassId) (ad : Nat → Nat) (P Dr : Nat) (tI : xTab) (hX : cOk ad P Dr) (I : xMem) (L : xLon) (x1 : Int32) (x2 : Int32) (r : xMem) (h : X3_leave I x1 x2 = some r) : Met l yX3_leave wsX3_leave rm_X3_leave (va_Pc [.ref (ad 39), .int x1, .int x2] (cW D cy ad P Dr tI I L)) (cPv D cy ad P Dr tI r L) 0 0 (gA 64 ad) := by
  refine g_met (own := RX3) (cc := cX3_leave) (maxL := 6) (ret := none) (by decide) rfl (Nat.le_of_ble_eq_true rfl) rfl ?_
  intro p e s m args below meth c ls hx hb hml hr hlocks hown hts hG hK hZ hl
  generalize hQ : MQ below _ args s 0 0 _ = Q
  have hl : lv_has ls 6 [(0, .ref (ad 39)), (1, .int x1), (2, .int x2)] := hl
  have hS : va_S (gA 64 ad) s.heap s.heap [] := va_S.rf
  obtain ⟨hi, hP, hDr⟩ := id hX
  have l3 : ∀ w ∈ wsX30, w.before args s = true := fun w h => hts w (List.mem_cons_of_mem _ (List.mem_append_right _ h))
  have k1 := hts (.fieldLink RX3 46 "PairStairs$Ways" "people" "I") (by decide +kernel)
  unfold X3_leave at h
  refine lv_iload_n hx hb dX3_leave_0 rfl (lv_at hl 1 rfl) ?_
  refine lv_bipush (v := (64 : Int32)) hx hb dX3_leave_1 (by decide) ?_
  refine lv_irem hx hb dX3_leave_3 (by decide) ?_
  refine lv_istore_n (lv' := [(3, .int (x1 - x1 / (64 : Int32) * (64 : Int32))), (0, .ref (ad 39)), (1, .int x1), (2, .int x2)]) hx hb dX3_leave_4 rfl hl (by decide) rfl (fun ls hl => ?_)
  refine lv_iconst (v := (0 : Int32)) hx hb dX3_leave_5 (by decide) ?_
  refine lv_istore (lv' := [(4, .int (0 : Int32)), (3, .int (x1 - x1 / (64 : Int32) * (64 : Int32))), (0, .ref (ad 39)), (1, .int x1), (2, .int x2)]) hx hb dX3_leave_6 hl (by decide) rfl (fun ls hl => ?_)
  have keyK1 : ∀ (K1 : xMem → Option (xMem)), (∀ (I4 : xMem) (H : Heap) (locs : List Loc) (ls : Array Slot), K1 I4 = some r → cG D cy ad P Dr I4 L H → va_S (gA 64 ad) s.heap H locs → lv_has ls 6 [] → W p l e rm_X3_leave s m args below meth c H locs 0 0 Q (F0 m 79 ls [])) → ∀ (n2 : Nat) (x4_2 : Int32) (I3 : xMem) (H : Heap) (locs : List Loc) (ls : Array Slot), X3_leave_L1 x1 x2 K1 n2 x4_2 I3 = some r → cG D cy ad P Dr I3 L H → va_S (gA 64 ad) s.heap H locs → lv_has ls 6 [(0, .ref (ad 39)), (1, .int x1), (2, .int x2), (3, .int (x1 - x1 / (64 : Int32) * (64 : Int32))), (4, .int x4_2)] → W p l e rm_X3_leave s m args below meth c H locs 0 0 Q (F0 m 8 ls []) := by
    intro K1 hkK1 n2
    induction n2 with
    | zero =>
      intro x4_2 I3 H locs ls h
      exact ono h
    | succ n2 ihn2 =>
      intro x4_2 I3 H locs ls h hG hS hl
      rw [X3_leave_L1] at h
      refine lv_iload hx hb dX3_leave_8 (lv_at hl 4 rfl) ?_
      refine lv_aload_n hx hb dX3_leave_10 rfl (lv_at hl 0 rfl) ?_
      refine g_get hx hb l3 hown hK hG (k := 39) (by decide) (cE_3 _ _) vwCl_3 0 (by decide) k1 (fun _ h9 => h9) rfl dX3_leave_11 ?_
      refine lv_icmp_ge (tgt := 79) hx hb dX3_leave_14 (by decide) (fun c5 => ?_) (fun c5 => ?_)
      · have h := ite_t h c5
        exact hkK1 I3 _ _ _ h hG hS (lv_sub hl [] rfl)
      · have h := ite_f h c5
        refine lv_iload hx hb dX3_leave_17 (lv_at hl 4 rfl) ?_
        refine lv_iconst (v := (1 : Int32)) hx hb dX3_leave_19 (by decide) ?_
        refine lv_iadd hx hb dX3_leave_20 ?_
        refine lv_istore (lv' := [(5, .int (x4_2 + (1 : Int32))), (0, .ref (ad 39)), (1, .int x1), (2, .int x2), (3, .int (x1 - x1 / (64 : Int32) * (64 : Int32))), (4, .int x4_2)]) hx hb dX3_leave_21 hl (by decide) rfl (fun ls hl => ?_)
        have keyK6 : ∀ (K6 : xMem → Option (xMem)), (∀ (I9 : xMem) (H : Heap) (locs : List Loc) (ls : Array Slot), K6 I9 = some r → cG D cy ad P Dr I9 L H → va_S (gA 64 ad) s.heap H locs → lv_has ls 6 [(0, .ref (ad 39)), (1, .int x1), (2, .int x2), (3, .int (x1 - x1 / (64 : Int32) * (64 : Int32))), (4, .int x4_2)] → W p l e rm_X3_leave s m args below meth c H locs 0 0 Q (F0 m 73 ls [])) → ∀ (n7 : Nat) (x5_7 : Int32) (I8 : xMem) (H : Heap) (locs : List Loc) (ls : Array Slot), X3_leave_L2 x1 x2 x4_2 K6 n7 x5_7 I8 = some r → cG D cy ad P Dr I8 L H → va_S (gA 64 ad) s.heap H locs → lv_has ls 6 [(0, .ref (ad 39)), (1, .int x1), (2, .int x2), (3, .int (x1 - x1 / (64 : Int32) * (64 : Int32))), (4, .int x4_2), (5, .int x5_7)] → W p l e rm_X3_leave s m args below meth c H locs 0 0 Q (F0 m 23 ls []) := by
          intro K6 hkK6 n7
          induction n7 with
          | zero =>
            intro x5_7 I8 H locs ls h
            exact ono h
          | succ n7 ihn7 =>
            intro x5_7 I8 H locs ls h hG hS hl
            rw [X3_leave_L2] at h
            refine lv_iload hx hb dX3_leave_23 (lv_at hl 5 rfl) ?_
            refine lv_aload_n hx hb dX3_leave_25 rfl (lv_at hl 0 rfl) ?_
            refine g_get hx hb l3 hown hK hG (k := 39) (by decide) (cE_3 _ _) vwCl_3 0 (by decide) k1 (fun _ h9 => h9) rfl dX3_leave_26 ?_
            refine lv_icmp_ge (tgt := 73) hx hb dX3_leave_29 (by decide) (fun c10 => ?_) (fun c10 => ?_)
            · have h := ite_t h c10
              exact hkK6 I8 _ _ _ h hG hS (lv_sub hl [0, 1, 2, 3, 4] rfl)
            · have h := ite_f h c10
              refine lv_iload_n hx hb dX3_leave_32 rfl (lv_at hl 3 rfl) ?_
              refine lv_iload hx hb dX3_leave_33 (lv_at hl 4 rfl) ?_
              refine lv_iload hx hb dX3_leave_35 (lv_at hl 5 rfl) ?_
              refine g_endi (va_runS (As := [.int (x1 - x1 / (64 : Int32) * (64 : Int32)), .int x4_2, .int x5_7]) (rest := []) ⟨hx, hb, hml, hown, hts⟩ (k_X3_areTogether l D cy ad P Dr tI hX I8 L (x1 - x1 / (64 : Int32) * (64 : Int32)) x4_2 x5_7 _ rfl) (va_cwS 3 hts gX3_leave_X3_areTogether rfl rfl rfl cd_X3_areTogether.2 ⟨Nat.le_of_ble_eq_true rfl, Nat.le_of_ble_eq_true rfl⟩) ⟨g_blind cZm, g_pre cZm hK hG hZ hS⟩ rfl rfl hl.1 rfl (lv_room (Nat.le_of_ble_eq_true rfl)) dX3_leave_37 ⟨Nat.le_refl _, Nat.le_refl _⟩) hS (fun H locs hG hS => ?_)
              refine lv_if_eq (tgt := 67) hx hb dX3_leave_40 (by decide) (fun c11 => ?_) (fun c11 => ?_)
              · have h := ite_t h c11
                refine lv_iinc (v := (x5_7 + (1 : Int32))) (lv' := [(5, .int (x5_7 + (1 : Int32))), (0, .ref (ad 39)), (1, .int x1), (2, .int x2), (3, .int (x1 - x1 / (64 : Int32) * (64 : Int32))), (4, .int x4_2)]) hx hb dX3_leave_67 hl (k := 5) rfl rfl (by decide) rfl (fun ls hl => ?_)
                refine lv_goto (tgt := 23) hx hb dX3_leave_70 (by decide) ?_
                exact ihn7 (x5_7 + (1 : Int32)) I8 _ _ _ h hG hS (lv_sub hl [1, 2, 3, 4, 5, 0] rfl)
              · have h := ite_f h c11
                refine lv_aload_n hx hb dX3_leave_43 rfl (lv_at hl 0 rfl) ?_
                refine lv_iload_n hx hb dX3_leave_44 rfl (lv_at hl 1 rfl) ?_
                refine lv_bipush (v := (6 : Int32)) hx hb dX3_leave_45 (by decide) ?_
                refine lv_iload hx hb dX3_leave_47 (lv_at hl 4 rfl) ?_
                refine lv_imul hx hb dX3_leave_49 ?_
                refine lv_iload hx hb dX3_leave_50 (lv_at hl 5 rfl) ?_
                refine lv_iadd hx hb dX3_leave_52 ?_
                refine lv_iload_n hx hb dX3_leave_53 rfl (lv_at hl 3 rfl) ?_
                refine lv_iload hx hb dX3_leave_54 (lv_at hl 4 rfl) ?_
                refine lv_iload_n hx hb dX3_leave_56 rfl (lv_at hl 1 rfl) ?_
                refine lv_bipush (v := (64 : Int32)) hx hb dX3_leave_57 (by decide) ?_
                refine lv_idiv hx hb dX3_leave_59 (by decide) ?_
                refine lv_iload_n hx hb dX3_leave_60 rfl (lv_at hl 2 rfl) ?_
                refine g_endi (va_runS (As := [.int (x1 - x1 / (64 : Int32) * (64 : Int32)), .int x4_2, .int (x1 / (64 : Int32)), .int x2]) (rest := [.int (((6 : Int32) * x4_2) + x5_7), .int x1, .ref (ad 39)]) ⟨hx, hb, hml, hown, hts⟩ (k_X3_stonesAt l D cy ad P Dr tI hX I8 L (x1 - x1 / (64 : Int32) * (64 : Int32)) x4_2 (x1 / (64 : Int32)) x2 _ rfl) (va_cwS 4 hts gX3_leave_X3_stonesAt rfl rfl rfl cd_X3_stonesAt.2 ⟨Nat.le_of_ble_eq_true rfl, Nat.le_of_ble_eq_true rfl⟩) ⟨g_blind cZm, g_pre cZm hK hG hZ hS⟩ rfl rfl hl.1 rfl (lv_room (Nat.le_of_ble_eq_true rfl)) dX3_leave_61 ⟨Nat.le_refl _, Nat.le_refl _⟩) hS (fun H locs hG hS => ?_)
                obtain ⟨q12, eq12, h⟩ := obind h
                refine g_endv (va_runV (As := [.int x1, .int (((6 : Int32) * x4_2) + x5_7), .int (X3_stonesAt (x1 - x1 / (64 : Int32) * (64 : Int32)) x4_2 (x1 / (64 : Int32)) x2)]) (rest := []) ⟨hx, hb, hml, hown, hts⟩ (k_X3_leaveBy l D cy ad P Dr tI hX I8 L x1 (((6 : Int32) * x4_2) + x5_7) (X3_stonesAt (x1 - x1 / (64 : Int32) * (64 : Int32)) x4_2 (x1 / (64 : Int32)) x2) q12 eq12) (cwV 3 hts gX3_leave_X3_leaveBy rfl rfl rfl cd_X3_leaveBy ⟨Nat.le_of_ble_eq_true rfl, Nat.le_of_ble_eq_true rfl⟩) ⟨g_blind cZm, g_recv hK hG (k := 39) (by decide) (cE_3 _ _) vwCl_3, g_pre cZm hK hG hZ hS⟩ rfl rfl hl.1 rfl (lv_room (Nat.le_of_ble_eq_true rfl)) dX3_leave_64 ⟨Nat.le_refl _, Nat.le_refl _⟩) hS (fun H locs hG hS => ?_)
                refine lv_iinc (v := (x5_7 + (1 : Int32))) (lv' := [(5, .int (x5_7 + (1 : Int32))), (0, .ref (ad 39)), (1, .int x1), (2, .int x2), (3, .int (x1 - x1 / (64 : Int32) * (64 : Int32))), (4, .int x4_2)]) hx hb dX3_leave_67 hl (k := 5) rfl rfl (by decide) rfl (fun ls hl => ?_)
                refine lv_goto (tgt := 23) hx hb dX3_leave_70 (by decide) ?_
                exact ihn7 (x5_7 + (1 : Int32)) q12 _ _ _ h hG hS (lv_sub hl [1, 2, 3, 4, 5, 0] rfl)
        refine keyK6 _ (fun I9 H locs ls h hG hS hl => ?_) bigF (x4_2 + (1 : Int32)) I3 _ _ _ h hG hS (lv_sub hl [1, 2, 3, 4, 5, 0] rfl)
        clear keyK6
        refine lv_iinc (v := (x4_2 + (1 : Int32))) (lv' := [(4, .int (x4_2 + (1 : Int32))), (0, .ref (ad 39)), (1, .int x1), (2, .int x2), (3, .int (x1 - x1 / (64 : Int32) * (64 : Int32)))]) hx hb dX3_leave_73 hl (k := 4) rfl rfl (by decide) rfl (fun ls hl => ?_)
        refine lv_goto (tgt := 8) hx hb dX3_leave_76 (by decide) ?_
        exact ihn2 (x4_2 + (1 : Int32)) I9 _ _ _ h hG hS (lv_sub hl [1, 2, 3, 4, 0] rfl)
  refine keyK1 _ (fun I4 H locs ls h hG hS hl => ?_) bigF (0 : Int32) I _ _ _ h hG hS (lv_sub hl [2, 3, 4, 1, 0] rfl)
  clear keyK1
  have h := Option.some.inj h
  subst h
  subst hQ
  exact g_vret hx hb hr hlocks cZm hK hZ hG hS dX3_leave_79
def X3_spread_L1 (x3 : Int32) (K6 : xMem → Option (xMem)) : Nat → Int32 → xMem → Option (xMem)
  | 0, _, _ => none
  | n7 + 1, x5_7, I8 => if (I8 39 5) ≤ x5_7 then (K6 I8) else (if (1024 : Int32) ≤ x5_7 then (K6 I8) else ((rdI I8 43 1024 x5_7).bind fun v12 => (X3_leave I8 v12 x3).bind fun q13 => X3_spread_L1 x3 K6 n7 (x5_7 + (1 : Int32)) q13))
def X3_spread (I : xMem) (x1 : Int32) (x2 : Int32) (x3 : Int32) : Option (xMem) := (J7_fill_53178 I 41 1024 (-9 : Int32)).bind fun q1 => (wrI q1 41 1024 (x1 + ((64 : Int32) * x2)) (0 : Int32)).bind fun I2 => (wrI I2 42 1024 (x1 + ((64 : Int32) * x2)) (-9 : Int32)).bind fun I3 => (wrI I3 43 1024 (0 : Int32) (x1 + ((64 : Int32) * x2))).bind fun I4 => (some (wr I4 39 5 (1 : Int32))).bind fun I5 => X3_spread_L1 x3 (fun (I9 : xMem) => some I9) bigF (0 : Int32) I5
abbrev rm_X3_spread : Room := { frames := 3, cells := 0, slots := 0, locals := 75 }
theorem cd_X3_spread : yX3_spread.cls = RX3 ∧ yX3_spread.cls ≠ "java/lang/invoke/MethodHandle" ∧ yX3_spread.cls ≠ "java/lang/invoke/VarHandle" ∧ (parseMethodDescriptor yX3_spread.desc).map (fun d => d.parameters.length) = some 3 := by decide +kernel
set_option maxHeartbeats 4000000 in
set_option maxRecDepth 100000 in
theorem k_X3_spread (l : Launch) (D : va_G) (cy : Nat → ClassId) (ad : Nat → Nat) (P Dr : Nat) (tI : xTab) (hX : cOk ad P Dr) (I : xMem) (L : xLon) (x1 : Int32) (x2 : Int32) (x3 : Int32) (r : xMem) (h : X3_spread I x1 x2 x3 = some r) : Met l yX3_spread wsX3_spread rm_X3_spread (va_Pc [.ref (ad 39), .int x1, .int x2, .int x3] (cW D cy ad P Dr tI I L)) (cPv D cy ad P Dr tI r L) 0 0 (gA 64 ad) := by
  refine g_met (own := RX3) (cc := cX3_spread) (maxL := 6) (ret := none) (by decide) rfl (Nat.le_of_ble_eq_true rfl) rfl ?_
  intro p e s m args below meth c ls hx hb hml hr hlocks hown hts hG hK hZ hl
  generalize hQ : MQ below _ args s 0 0 _ = Q
  have hl : lv_has ls 6 [(0, .ref (ad 39)), (1, .int x1), (2, .int x2), (3, .int x3)] := hl
  have hS : va_S (gA 64 ad) s.heap s.heap [] := va_S.rf
  obtain ⟨hi, hP, hDr⟩ := id hX
  have l3 : ∀ w ∈ wsX30, w.before args s = true := fun w h => hts w (List.mem_cons_of_mem _ (List.mem_append_right _ h))
  have k1 := hts (.fieldLink RX3 15 "PairStairs$Ways" "distance" "[I") (by decide +kernel)
  have k2 := hts (.fieldLink RX3 18 "PairStairs$Ways" "first" "[I") (by decide +kernel)
  have k3 := hts (.fieldLink RX3 21 "PairStairs$Ways" "line" "[I") (by decide +kernel)
  have k4 := hts (.fieldLink RX3 38 "PairStairs$Ways" "lineEnd" "I") (by decide +kernel)
  unfold X3_spread at h
  refine lv_aload_n hx hb dX3_spread_0 rfl (lv_at hl 0 rfl) ?_
  refine g_get hx hb l3 hown hK hG (k := 39) (by decide) (cE_3 _ _) vwCl_3 2 (by decide) k1 (fun _ h9 => h9) rfl dX3_spread_1 ?_
  refine lv_bipush (v := (-9 : Int32)) hx hb dX3_spread_4 (by decide) ?_
  obtain ⟨q1, eq1, h⟩ := obind h
  refine g_endv (va_runS (As := [.ref (ad 41), .int (-9 : Int32)]) (rest := []) ⟨hx, hb, hml, hown, hts⟩ (k_J7_fill_53178 l D cy ad P Dr tI hX I L (y1 := 41) (n1 := 1024) (show cIA 41 1024 from by decide +kernel) (-9 : Int32) q1 eq1) (va_cwS 2 hts gX3_spread_J7_fill_53178 rfl rfl rfl cd_J7_fill_53178.2 ⟨Nat.le_of_ble_eq_true rfl, Nat.le_of_ble_eq_true rfl⟩) ⟨g_blind cZm, g_pre cZm hK hG hZ hS⟩ rfl rfl hl.1 rfl (lv_room (Nat.le_of_ble_eq_true rfl)) dX3_spread_6 ⟨Nat.le_refl _, Nat.le_refl _⟩) hS (fun H locs hG hS => ?_)
  refine lv_iload_n hx hb dX3_spread_9 rfl (lv_at hl 1 rfl) ?_
  refine lv_bipush (v := (64 : Int32)) hx hb dX3_spread_10 (by decide) ?_
  refine lv_iload_n hx hb dX3_spread_12 rfl (lv_at hl 2 rfl) ?_
  refine lv_imul hx hb dX3_spread_13 ?_
  refine lv_iadd hx hb dX3_spread_14 ?_
  refine lv_istore (lv' := [(4, .int (x1 + ((64 : Int32) * x2))), (0, .ref (ad 39)), (1, .int x1), (2, .int x2), (3, .int x3)]) hx hb dX3_spread_15 hl (by decide) rfl (fun ls hl => ?_)
  refine lv_aload_n hx hb dX3_spread_17 rfl (lv_at hl 1 rfl) ?_
  refine g_get hx hb l3 hown hK hG (k := 39) (by decide) (cE_3 _ _) vwCl_3 2 (by decide) k1 (fun _ h9 => h9) rfl dX3_spread_18 ?_
  refine lv_iload hx hb dX3_spread_21 (lv_at hl 0 rfl) ?_
  refine lv_iconst (v := (0 : Int32)) hx hb dX3_spread_23 (by decide) ?_
  refine g_ast hx hb hK hG hi hS (k := 41) (n := 1024) (show cIA 41 1024 from by decide +kernel).1.1 (fun f => cIA_e (show cIA 41 1024 from by decide +kernel) f _) 0 rfl h dX3_spread_24 (fun I2 H locs h hG hS => ?_)
  refine lv_aload_n hx hb dX3_spread_25 rfl (lv_at hl 1 rfl) ?_
  refine g_get hx hb l3 hown hK hG (k := 39) (by decide) (cE_3 _ _) vwCl_3 3 (by decide) k2 (fun _ h9 => h9) rfl dX3_spread_26 ?_
  refine lv_iload hx hb dX3_spread_29 (lv_at hl 0 rfl) ?_
  refine lv_bipush (v := (-9 : Int32)) hx hb dX3_spread_31 (by decide) ?_
  refine g_ast hx hb hK hG hi hS (k := 42) (n := 1024) (show cIA 42 1024 from by decide +kernel).1.1 (fun f => cIA_e (show cIA 42 1024 from by decide +kernel) f _) 0 rfl h dX3_spread_33 (fun I3 H locs h hG hS => ?_)
  refine lv_aload_n hx hb dX3_spread_34 rfl (lv_at hl 1 rfl) ?_
  refine g_get hx hb l3 hown hK hG (k := 39) (by decide) (cE_3 _ _) vwCl_3 4 (by decide) k3 (fun _ h9 => h9) rfl dX3_spread_35 ?_
  refine lv_iconst (v := (0 : Int32)) hx hb dX3_spread_38 (by decide) ?_
  refine lv_iload hx hb dX3_spread_39 (lv_at hl 0 rfl) ?_
  refine g_ast hx hb hK hG hi hS (k := 43) (n := 1024) (show cIA 43 1024 from by decide +kernel).1.1 (fun f => cIA_e (show cIA 43 1024 from by decide +kernel) f _) 0 rfl h dX3_spread_41 (fun I4 H locs h hG hS => ?_)
  refine lv_aload_n hx hb dX3_spread_42 rfl (lv_at hl 1 rfl) ?_
  refine lv_iconst (v := (1 : Int32)) hx hb dX3_spread_43 (by decide) ?_
  obtain ⟨I5, eI5, h⟩ := obind h
  refine g_put hx hb l3 tyX3_ok nmX3 hown hK hG hi hS (k := 39) (by decide) (cE_3 _ _) vwCl_3 5 (by decide) k4 (fun _ h9 => h9) rfl rfl (Nat.le_of_ble_eq_true rfl) (by rw [cE_3 _ _]; rfl) dX3_spread_44 (fun H locs hG hS => ?_)
  rw [Option.some.inj eI5] at hG
  refine lv_iconst (v := (0 : Int32)) hx hb dX3_spread_47 (by decide) ?_
  refine lv_istore (lv' := [(5, .int (0 : Int32)), (4, .int (x1 + ((64 : Int32) * x2))), (0, .ref (ad 39)), (1, .int x1), (2, .int x2), (3, .int x3)]) hx hb dX3_spread_48 hl (by decide) rfl (fun ls hl => ?_)
  have keyK6 : ∀ (K6 : xMem → Option (xMem)), (∀ (I9 : xMem) (H : Heap) (locs : List Loc) (ls : Array Slot), K6 I9 = some r → cG D cy ad P Dr I9 L H → va_S (gA 64 ad) s.heap H locs → lv_has ls 6 [] → W p l e rm_X3_spread s m args below meth c H locs 0 0 Q (F0 m 85 ls [])) → ∀ (n7 : Nat) (x5_7 : Int32) (I8 : xMem) (H : Heap) (locs : List Loc) (ls : Array Slot), X3_spread_L1 x3 K6 n7 x5_7 I8 = some r → cG D cy ad P Dr I8 L H → va_S (gA 64 ad) s.heap H locs → lv_has ls 6 [(0, .ref (ad 39)), (3, .int x3), (5, .int x5_7)] → W p l e rm_X3_spread s m args below meth c H locs 0 0 Q (F0 m 50 ls []) := by
    intro K6 hkK6 n7
    induction n7 with
    | zero =>
      intro x5_7 I8 H locs ls h
      exact ono h
    | succ n7 ihn7 =>
      intro x5_7 I8 H locs ls h hG hS hl
      rw [X3_spread_L1] at h
      refine lv_iload hx hb dX3_spread_50 (lv_at hl 2 rfl) ?_
      refine lv_aload_n hx hb dX3_spread_52 rfl (lv_at hl 0 rfl) ?_
      refine g_get hx hb l3 hown hK hG (k := 39) (by decide) (cE_3 _ _) vwCl_3 5 (by decide) k4 (fun _ h9 => h9) rfl dX3_spread_53 ?_
      refine lv_icmp_ge (tgt := 85) hx hb dX3_spread_56 (by decide) (fun c10 => ?_) (fun c10 => ?_)
      · have h := ite_t h c10
        exact hkK6 I8 _ _ _ h hG hS (lv_sub hl [] rfl)
      · have h := ite_f h c10
        refine lv_iload hx hb dX3_spread_59 (lv_at hl 2 rfl) ?_
        refine lv_sipush (v := (1024 : Int32)) hx hb dX3_spread_61 (by decide) ?_
        refine lv_icmp_ge (tgt := 85) hx hb dX3_spread_64 (by decide) (fun c11 => ?_) (fun c11 => ?_)
        · have h := ite_t h c11
          exact hkK6 I8 _ _ _ h hG hS (lv_sub hl [] rfl)
        · have h := ite_f h c11
          refine lv_aload_n hx hb dX3_spread_67 rfl (lv_at hl 0 rfl) ?_
          refine lv_aload_n hx hb dX3_spread_68 rfl (lv_at hl 0 rfl) ?_
          refine g_get hx hb l3 hown hK hG (k := 39) (by decide) (cE_3 _ _) vwCl_3 4 (by decide) k3 (fun _ h9 => h9) rfl dX3_spread_69 ?_
          refine lv_iload hx hb dX3_spread_72 (lv_at hl 2 rfl) ?_
          refine g_ald hx hb hK hG (k := 43) (n := 1024) (show cIA 43 1024 from by decide +kernel).1.1 (cIA_e (show cIA 43 1024 from by decide +kernel) _ _) 0 rfl h dX3_spread_74 (fun v12 h => ?_)
          refine lv_iload_n hx hb dX3_spread_75 rfl (lv_at hl 1 rfl) ?_
          obtain ⟨q13, eq13, h⟩ := obind h
          refine g_endv (va_runV (As := [.int v12, .int x3]) (rest := []) ⟨hx, hb, hml, hown, hts⟩ (k_X3_leave l D cy ad P Dr tI hX I8 L v12 x3 q13 eq13) (cwV 2 hts gX3_spread_X3_leave rfl rfl rfl cd_X3_leave ⟨Nat.le_of_ble_eq_true rfl, Nat.le_of_ble_eq_true rfl⟩) ⟨g_blind cZm, g_recv hK hG (k := 39) (by decide) (cE_3 _ _) vwCl_3, g_pre cZm hK hG hZ hS⟩ rfl rfl hl.1 rfl (lv_room (Nat.le_of_ble_eq_true rfl)) dX3_spread_76 ⟨Nat.le_refl _, Nat.le_refl _⟩) hS (fun H locs hG hS => ?_)
          refine lv_iinc (v := (x5_7 + (1 : Int32))) (lv' := [(5, .int (x5_7 + (1 : Int32))), (0, .ref (ad 39)), (3, .int x3)]) hx hb dX3_spread_79 hl (k := 2) rfl rfl (by decide) rfl (fun ls hl => ?_)
          refine lv_goto (tgt := 50) hx hb dX3_spread_82 (by decide) ?_
          exact ihn7 (x5_7 + (1 : Int32)) q13 _ _ _ h hG hS (lv_sub hl [1, 2, 0] rfl)
  refine keyK6 _ (fun I9 H locs ls h hG hS hl => ?_) bigF (0 : Int32) I5 _ _ _ h hG hS (lv_sub hl [2, 5, 0] rfl)
  clear keyK6
  have h := Option.some.inj h
  subst h
  subst hQ
  exact g_vret hx hb hr hlocks cZm hK hZ hG hS dX3_spread_85
def X3_moved_L1 (I : xMem) (x1 : Int32) (K1 : Int32 → Option (Int32)) : Nat → Int32 → Int32 → Option (Int32)
  | 0, _, _ => none
  | n2 + 1, x2_2, x3_2 => if (I 39 5) ≤ x3_2 then (K1 x2_2) else (if (1024 : Int32) ≤ x3_2 then (K1 x2_2) else ((rdI I 43 1024 x3_2).bind fun v5 => X3_moved_L1 I x1 K1 n2 (x2_2 ||| ((v5 - v5 / (64 : Int32) * (64 : Int32)) ^^^ x1)) (x3_2 + (1 : Int32))))
def X3_moved (I : xMem) (x1 : Int32) : Option (Int32) := X3_moved_L1 I x1 (fun (z2_2 : Int32) => some z2_2) bigF (0 : Int32) (0 : Int32)
abbrev rm_X3_moved : Room := { frames := 0, cells := 0, slots := 0, locals := 0 }
theorem cd_X3_moved : yX3_moved.cls = RX3 ∧ yX3_moved.cls ≠ "java/lang/invoke/MethodHandle" ∧ yX3_moved.cls ≠ "java/lang/invoke/VarHandle" ∧ (parseMethodDescriptor yX3_moved.desc).map (fun d => d.parameters.length) = some 1 := by decide +kernel
set_option maxHeartbeats 4000000 in
set_option maxRecDepth 100000 in
theorem k_X3_moved (l : Launch) (D : va_G) (cy : Nat → ClassId) (ad : Nat → Nat) (P Dr : Nat) (tI : xTab) (hX : cOk ad P Dr) (I : xMem) (L : xLon) (x1 : Int32) (r : Int32) (h : X3_moved I x1 = some r) : Met l yX3_moved wsX3_moved rm_X3_moved (va_Pc [.ref (ad 39), .int x1] (cW D cy ad P Dr tI I L)) (cPi D cy ad P Dr tI I L r) 0 0 (gA 64 ad) := by
  refine g_met (own := RX3) (cc := cX3_moved) (maxL := 4) (ret := (some .int)) (by decide) rfl (Nat.le_of_ble_eq_true rfl) rfl ?_
  intro p e s m args below meth c ls hx hb hml hr hlocks hown hts hG hK hZ hl
  generalize hQ : MQ below _ args s 0 0 _ = Q
  have hl : lv_has ls 4 [(0, .ref (ad 39)), (1, .int x1)] := hl
  have hS : va_S (gA 64 ad) s.heap s.heap [] := va_S.rf
  obtain ⟨hi, hP, hDr⟩ := id hX
  have l3 : ∀ w ∈ wsX30, w.before args s = true := fun w h => hts w (List.mem_cons_of_mem _ (List.mem_append_right _ h))
  have k1 := hts (.fieldLink RX3 38 "PairStairs$Ways" "lineEnd" "I") (by decide +kernel)
  have k2 := hts (.fieldLink RX3 21 "PairStairs$Ways" "line" "[I") (by decide +kernel)
  unfold X3_moved at h
  refine lv_iconst (v := (0 : Int32)) hx hb dX3_moved_0 (by decide) ?_
  refine lv_istore_n (lv' := [(2, .int (0 : Int32)), (0, .ref (ad 39)), (1, .int x1)]) hx hb dX3_moved_1 rfl hl (by decide) rfl (fun ls hl => ?_)
  refine lv_iconst (v := (0 : Int32)) hx hb dX3_moved_2 (by decide) ?_
  refine lv_istore_n (lv' := [(3, .int (0 : Int32)), (2, .int (0 : Int32)), (0, .ref (ad 39)), (1, .int x1)]) hx hb dX3_moved_3 rfl hl (by decide) rfl (fun ls hl => ?_)
  have keyK1 : ∀ (K1 : Int32 → Option (Int32)), (∀ (z2_2 : Int32) (H : Heap) (locs : List Loc) (ls : Array Slot), K1 z2_2 = some r → cG D cy ad P Dr I L H → va_S (gA 64 ad) s.heap H locs → lv_has ls 4 [(2, .int z2_2)] → W p l e rm_X3_moved s m args below meth c H locs 0 0 Q (F0 m 39 ls [])) → ∀ (n2 : Nat) (x2_2 : Int32) (x3_2 : Int32) (H : Heap) (locs : List Loc) (ls : Array Slot), X3_moved_L1 I x1 K1 n2 x2_2 x3_2 = some r → cG D cy ad P Dr I L H → va_S (gA 64 ad) s.heap H locs → lv_has ls 4 [(0, .ref (ad 39)), (1, .int x1), (2, .int x2_2), (3, .int x3_2)] → W p l e rm_X3_moved s m args below meth c H locs 0 0 Q (F0 m 4 ls []) := by
    intro K1 hkK1 n2
    induction n2 with
    | zero =>
      intro x2_2 x3_2 H locs ls h
      exact ono h
    | succ n2 ihn2 =>
      intro x2_2 x3_2 H locs ls h hG hS hl
      rw [X3_moved_L1] at h
      refine lv_iload_n hx hb dX3_moved_4 rfl (lv_at hl 3 rfl) ?_
      refine lv_aload_n hx hb dX3_moved_5 rfl (lv_at hl 0 rfl) ?_
      refine g_get hx hb l3 hown hK hG (k := 39) (by decide) (cE_3 _ _) vwCl_3 5 (by decide) k1 (fun _ h9 => h9) rfl dX3_moved_6 ?_
      refine lv_icmp_ge (tgt := 39) hx hb dX3_moved_9 (by decide) (fun c3 => ?_) (fun c3 => ?_)
      · have h := ite_t h c3
        exact hkK1 x2_2 _ _ _ h hG hS (lv_sub hl [2] rfl)
      · have h := ite_f h c3
        refine lv_iload_n hx hb dX3_moved_12 rfl (lv_at hl 3 rfl) ?_
        refine lv_sipush (v := (1024 : Int32)) hx hb dX3_moved_13 (by decide) ?_
        refine lv_icmp_ge (tgt := 39) hx hb dX3_moved_16 (by decide) (fun c4 => ?_) (fun c4 => ?_)
        · have h := ite_t h c4
          exact hkK1 x2_2 _ _ _ h hG hS (lv_sub hl [2] rfl)
        · have h := ite_f h c4
          refine lv_iload_n hx hb dX3_moved_19 rfl (lv_at hl 2 rfl) ?_
          refine lv_aload_n hx hb dX3_moved_20 rfl (lv_at hl 0 rfl) ?_
          refine g_get hx hb l3 hown hK hG (k := 39) (by decide) (cE_3 _ _) vwCl_3 4 (by decide) k2 (fun _ h9 => h9) rfl dX3_moved_21 ?_
          refine lv_iload_n hx hb dX3_moved_24 rfl (lv_at hl 3 rfl) ?_
          refine g_ald hx hb hK hG (k := 43) (n := 1024) (show cIA 43 1024 from by decide +kernel).1.1 (cIA_e (show cIA 43 1024 from by decide +kernel) _ _) 0 rfl h dX3_moved_25 (fun v5 h => ?_)
          refine lv_bipush (v := (64 : Int32)) hx hb dX3_moved_26 (by decide) ?_
          refine lv_irem hx hb dX3_moved_28 (by decide) ?_
          refine lv_iload_n hx hb dX3_moved_29 rfl (lv_at hl 1 rfl) ?_
          refine lv_ixor hx hb dX3_moved_30 ?_
          refine lv_ior hx hb dX3_moved_31 ?_
          refine lv_istore_n (lv' := [(2, .int (x2_2 ||| ((v5 - v5 / (64 : Int32) * (64 : Int32)) ^^^ x1))), (0, .ref (ad 39)), (1, .int x1), (3, .int x3_2)]) hx hb dX3_moved_32 rfl hl (by decide) rfl (fun ls hl => ?_)
          refine lv_iinc (v := (x3_2 + (1 : Int32))) (lv' := [(3, .int (x3_2 + (1 : Int32))), (2, .int (x2_2 ||| ((v5 - v5 / (64 : Int32) * (64 : Int32)) ^^^ x1))), (0, .ref (ad 39)), (1, .int x1)]) hx hb dX3_moved_33 hl (k := 3) rfl rfl (by decide) rfl (fun ls hl => ?_)
          refine lv_goto (tgt := 4) hx hb dX3_moved_36 (by decide) ?_
          exact ihn2 (x2_2 ||| ((v5 - v5 / (64 : Int32) * (64 : Int32)) ^^^ x1)) (x3_2 + (1 : Int32)) _ _ _ h hG hS (lv_sub hl [2, 3, 1, 0] rfl)
  refine keyK1 _ (fun z2_2 H locs ls h hG hS hl => ?_) bigF (0 : Int32) (0 : Int32) _ _ _ h hG hS (lv_sub hl [2, 3, 1, 0] rfl)
  clear keyK1
  refine lv_iload_n hx hb dX3_moved_39 rfl (lv_at hl 0 rfl) ?_
  have h := Option.some.inj h
  subst h
  subst hQ
  exact g_iret hx hb hr hlocks cZm hK hZ hG hS rfl dX3_moved_40
def X3_wanted_L2 (I : xMem) (y1 : Nat) (x2 : Int32) (x3 : Int32) (x5_3 : Int32) (K5 : Int32 → Option (Int32)) : Nat → Int32 → Int32 → Option (Int32)
  | 0, _, _ => none
  | n6 + 1, x4_6, x6_6 => if (I 39 0) ≤ x6_6 then (K5 x4_6) else (if (X3_areTogether x2 x5_3 x6_6) = (0 : Int32) then (X3_wanted_L2 I y1 x2 x3 x5_3 K5 n6 x4_6 (x6_6 + (1 : Int32))) else ((rdI I 40 36 (((6 : Int32) * x5_3) + x6_6)).bind fun v9 => if (v9 &&& (1 : Int32)) = (1 : Int32) then ((rdI I y1 64 (x2 ^^^ (((1 : Int32) <<< (x5_3 &&& 31)) ||| ((1 : Int32) <<< (x6_6 &&& 31))))).bind fun v11 => if x3 = (0 : Int32) then (X3_wanted_L2 I y1 x2 x3 x5_3 K5 n6 (if v11 < x4_6 then v11 else x4_6) (x6_6 + (1 : Int32))) else (X3_wanted_L2 I y1 x2 x3 x5_3 K5 n6 (if x4_6 < v11 then v11 else x4_6) (x6_6 + (1 : Int32)))) else (X3_wanted_L2 I y1 x2 x3 x5_3 K5 n6 x4_6 (x6_6 + (1 : Int32)))))
def X3_wanted_L1 (I : xMem) (y1 : Nat) (x2 : Int32) (x3 : Int32) (K2 : Int32 → Option (Int32)) : Nat → Int32 → Int32 → Option (Int32)
  | 0, _, _ => none
  | n3 + 1, x4_3, x5_3 => if (I 39 0) ≤ x5_3 then (K2 x4_3) else (X3_wanted_L2 I y1 x2 x3 x5_3 (fun (z4_6 : Int32) => X3_wanted_L1 I y1 x2 x3 K2 n3 z4_6 (x5_3 + (1 : Int32))) bigF x4_3 (x5_3 + (1 : Int32)))
def X3_wanted (I : xMem) (y1 : Nat) (x2 : Int32) (x3 : Int32) : Option (Int32) := (rdI I y1 64 x2).bind fun v1 => X3_wanted_L1 I y1 x2 x3 (fun (z4_3 : Int32) => some z4_3) bigF v1 (0 : Int32)
abbrev rm_X3_wanted : Room := { frames := 1, cells := 0, slots := 0, locals := 22 }
theorem cd_X3_wanted : yX3_wanted.cls = RX3 ∧ yX3_wanted.cls ≠ "java/lang/invoke/MethodHandle" ∧ yX3_wanted.cls ≠ "java/lang/invoke/VarHandle" ∧ (parseMethodDescriptor yX3_wanted.desc).map (fun d => d.parameters.length) = some 3 := by decide +kernel
set_option maxHeartbeats 4000000 in
set_option maxRecDepth 100000 in
theorem k_X3_wanted (l : Launch) (D : va_G) (cy : Nat → ClassId) (ad : Nat → Nat) (P Dr : Nat) (tI : xTab) (hX : cOk ad P Dr) (I : xMem) (L : xLon) {y1 : Nat} (hY1 : cIA y1 64) (x2 : Int32) (x3 : Int32) (r : Int32) (h : X3_wanted I y1 x2 x3 = some r) : Met l yX3_wanted wsX3_wanted rm_X3_wanted (va_Pc [.ref (ad 39), .ref (ad y1), .int x2, .int x3] (cW D cy ad P Dr tI I L)) (cPi D cy ad P Dr tI I L r) 0 0 (gA 64 ad) := by
  refine g_met (own := RX3) (cc := cX3_wanted) (maxL := 8) (ret := (some .int)) (by decide) rfl (Nat.le_of_ble_eq_true rfl) rfl ?_
  intro p e s m args below meth c ls hx hb hml hr hlocks hown hts hG hK hZ hl
  generalize hQ : MQ below _ args s 0 0 _ = Q
  have hl : lv_has ls 8 [(0, .ref (ad 39)), (1, .ref (ad y1)), (2, .int x2), (3, .int x3)] := hl
  have hS : va_S (gA 64 ad) s.heap s.heap [] := va_S.rf
  obtain ⟨hi, hP, hDr⟩ := id hX
  have l3 : ∀ w ∈ wsX30, w.before args s = true := fun w h => hts w (List.mem_cons_of_mem _ (List.mem_append_right _ h))
  have k1 := hts (.fieldLink RX3 46 "PairStairs$Ways" "people" "I") (by decide +kernel)
  have k2 := hts (.fieldLink RX3 11 "PairStairs$Ways" "open" "[I") (by decide +kernel)
  have k3 := hts (.methodLink RX3 91 Lib.Math.min.name) (by decide +kernel)
  have k4 := hts (.static Lib.Math.min.name) (by decide +kernel)
  have k5 := hts (.initialized "java/lang/Math") (by decide +kernel)
  have k6 := hts (.code Lib.Math.min.name Lib.Math.min.code 2 (some .int)) (by decide +kernel)
  have k7 := hts (.methodLink RX3 85 Lib.Math.max.name) (by decide +kernel)
  have k8 := hts (.static Lib.Math.max.name) (by decide +kernel)
  have k9 := hts (.code Lib.Math.max.name Lib.Math.max.code 2 (some .int)) (by decide +kernel)
  unfold X3_wanted at h
  refine lv_aload_n hx hb dX3_wanted_0 rfl (lv_at hl 1 rfl) ?_
  refine lv_iload_n hx hb dX3_wanted_1 rfl (lv_at hl 2 rfl) ?_
  refine g_ald hx hb hK hG (k := y1) (n := 64) hY1.1.1 (cIA_e hY1 _ _) 0 rfl h dX3_wanted_2 (fun v1 h => ?_)
  refine lv_istore (lv' := [(4, .int v1), (0, .ref (ad 39)), (1, .ref (ad y1)), (2, .int x2), (3, .int x3)]) hx hb dX3_wanted_3 hl (by decide) rfl (fun ls hl => ?_)
  refine lv_iconst (v := (0 : Int32)) hx hb dX3_wanted_5 (by decide) ?_
  refine lv_istore (lv' := [(5, .int (0 : Int32)), (4, .int v1), (0, .ref (ad 39)), (1, .ref (ad y1)), (2, .int x2), (3, .int x3)]) hx hb dX3_wanted_6 hl (by decide) rfl (fun ls hl => ?_)
  have keyK2 : ∀ (K2 : Int32 → Option (Int32)), (∀ (z4_3 : Int32) (H : Heap) (locs : List Loc) (ls : Array Slot), K2 z4_3 = some r → cG D cy ad P Dr I L H → va_S (gA 64 ad) s.heap H locs → lv_has ls 8 [(4, .int z4_3)] → W p l e rm_X3_wanted s m args below meth c H locs 0 0 Q (F0 m 112 ls [])) → ∀ (n3 : Nat) (x4_3 : Int32) (x5_3 : Int32) (H : Heap) (locs : List Loc) (ls : Array Slot), X3_wanted_L1 I y1 x2 x3 K2 n3 x4_3 x5_3 = some r → cG D cy ad P Dr I L H → va_S (gA 64 ad) s.heap H locs → lv_has ls 8 [(0, .ref (ad 39)), (1, .ref (ad y1)), (2, .int x2), (3, .int x3), (4, .int x4_3), (5, .int x5_3)] → W p l e rm_X3_wanted s m args below meth c H locs 0 0 Q (F0 m 8 ls []) := by
    intro K2 hkK2 n3
    induction n3 with
    | zero =>
      intro x4_3 x5_3 H locs ls h
      exact ono h
    | succ n3 ihn3 =>
      intro x4_3 x5_3 H locs ls h hG hS hl
      rw [X3_wanted_L1] at h
      refine lv_iload hx hb dX3_wanted_8 (lv_at hl 5 rfl) ?_
      refine lv_aload_n hx hb dX3_wanted_10 rfl (lv_at hl 0 rfl) ?_
      refine g_get hx hb l3 hown hK hG (k := 39) (by decide) (cE_3 _ _) vwCl_3 0 (by decide) k1 (fun _ h9 => h9) rfl dX3_wanted_11 ?_
      refine lv_icmp_ge (tgt := 112) hx hb dX3_wanted_14 (by decide) (fun c4 => ?_) (fun c4 => ?_)
      · have h := ite_t h c4
        exact hkK2 x4_3 _ _ _ h hG hS (lv_sub hl [4] rfl)
      · have h := ite_f h c4
        refine lv_iload hx hb dX3_wanted_17 (lv_at hl 5 rfl) ?_
        refine lv_iconst (v := (1 : Int32)) hx hb dX3_wanted_19 (by decide) ?_
        refine lv_iadd hx hb dX3_wanted_20 ?_
        refine lv_istore (lv' := [(6, .int (x5_3 + (1 : Int32))), (0, .ref (ad 39)), (1, .ref (ad y1)), (2, .int x2), (3, .int x3), (4, .int x4_3), (5, .int x5_3)]) hx hb dX3_wanted_21 hl (by decide) rfl (fun ls hl => ?_)
        have keyK5 : ∀ (K5 : Int32 → Option (Int32)), (∀ (z4_6 : Int32) (H : Heap) (locs : List Loc) (ls : Array Slot), K5 z4_6 = some r → cG D cy ad P Dr I L H → va_S (gA 64 ad) s.heap H locs → lv_has ls 8 [(0, .ref (ad 39)), (1, .ref (ad y1)), (2, .int x2), (3, .int x3), (4, .int z4_6), (5, .int x5_3)] → W p l e rm_X3_wanted s m args below meth c H locs 0 0 Q (F0 m 106 ls [])) → ∀ (n6 : Nat) (x4_6 : Int32) (x6_6 : Int32) (H : Heap) (locs : List Loc) (ls : Array Slot), X3_wanted_L2 I y1 x2 x3 x5_3 K5 n6 x4_6 x6_6 = some r → cG D cy ad P Dr I L H → va_S (gA 64 ad) s.heap H locs → lv_has ls 8 [(0, .ref (ad 39)), (1, .ref (ad y1)), (2, .int x2), (3, .int x3), (4, .int x4_6), (5, .int x5_3), (6, .int x6_6)] → W p l e rm_X3_wanted s m args below meth c H locs 0 0 Q (F0 m 23 ls []) := by
          intro K5 hkK5 n6
          induction n6 with
          | zero =>
            intro x4_6 x6_6 H locs ls h
            exact ono h
          | succ n6 ihn6 =>
            intro x4_6 x6_6 H locs ls h hG hS hl
            rw [X3_wanted_L2] at h
            refine lv_iload hx hb dX3_wanted_23 (lv_at hl 6 rfl) ?_
            refine lv_aload_n hx hb dX3_wanted_25 rfl (lv_at hl 0 rfl) ?_
            refine g_get hx hb l3 hown hK hG (k := 39) (by decide) (cE_3 _ _) vwCl_3 0 (by decide) k1 (fun _ h9 => h9) rfl dX3_wanted_26 ?_
            refine lv_icmp_ge (tgt := 106) hx hb dX3_wanted_29 (by decide) (fun c7 => ?_) (fun c7 => ?_)
            · have h := ite_t h c7
              exact hkK5 x4_6 _ _ _ h hG hS (lv_sub hl [0, 1, 2, 3, 4, 5] rfl)
            · have h := ite_f h c7
              refine lv_iload_n hx hb dX3_wanted_32 rfl (lv_at hl 2 rfl) ?_
              refine lv_iload hx hb dX3_wanted_33 (lv_at hl 5 rfl) ?_
              refine lv_iload hx hb dX3_wanted_35 (lv_at hl 6 rfl) ?_
              refine g_endi (va_runS (As := [.int x2, .int x5_3, .int x6_6]) (rest := []) ⟨hx, hb, hml, hown, hts⟩ (k_X3_areTogether l D cy ad P Dr tI hX I L x2 x5_3 x6_6 _ rfl) (va_cwS 3 hts gX3_wanted_X3_areTogether rfl rfl rfl cd_X3_areTogether.2 ⟨Nat.le_of_ble_eq_true rfl, Nat.le_of_ble_eq_true rfl⟩) ⟨g_blind cZm, g_pre cZm hK hG hZ hS⟩ rfl rfl hl.1 rfl (lv_room (Nat.le_of_ble_eq_true rfl)) dX3_wanted_37 ⟨Nat.le_refl _, Nat.le_refl _⟩) hS (fun H locs hG hS => ?_)
              refine lv_if_eq (tgt := 100) hx hb dX3_wanted_40 (by decide) (fun c8 => ?_) (fun c8 => ?_)
              · have h := ite_t h c8
                refine lv_iinc (v := (x6_6 + (1 : Int32))) (lv' := [(6, .int (x6_6 + (1 : Int32))), (0, .ref (ad 39)), (1, .ref (ad y1)), (2, .int x2), (3, .int x3), (4, .int x4_6), (5, .int x5_3)]) hx hb dX3_wanted_100 hl (k := 6) rfl rfl (by decide) rfl (fun ls hl => ?_)
                refine lv_goto (tgt := 23) hx hb dX3_wanted_103 (by decide) ?_
                exact ihn6 x4_6 (x6_6 + (1 : Int32)) _ _ _ h hG hS (lv_sub hl [1, 2, 3, 4, 5, 6, 0] rfl)
              · have h := ite_f h c8
                refine lv_aload_n hx hb dX3_wanted_43 rfl (lv_at hl 0 rfl) ?_
                refine g_get hx hb l3 hown hK hG (k := 39) (by decide) (cE_3 _ _) vwCl_3 1 (by decide) k2 (fun _ h9 => h9) rfl dX3_wanted_44 ?_
                refine lv_bipush (v := (6 : Int32)) hx hb dX3_wanted_47 (by decide) ?_
                refine lv_iload hx hb dX3_wanted_49 (lv_at hl 5 rfl) ?_
                refine lv_imul hx hb dX3_wanted_51 ?_
                refine lv_iload hx hb dX3_wanted_52 (lv_at hl 6 rfl) ?_
                refine lv_iadd hx hb dX3_wanted_54 ?_
                refine g_ald hx hb hK hG (k := 40) (n := 36) (show cIA 40 36 from by decide +kernel).1.1 (cIA_e (show cIA 40 36 from by decide +kernel) _ _) 0 rfl h dX3_wanted_55 (fun v9 h => ?_)
                refine lv_iconst (v := (1 : Int32)) hx hb dX3_wanted_56 (by decide) ?_
                refine lv_iand hx hb dX3_wanted_57 ?_
                refine lv_iconst (v := (1 : Int32)) hx hb dX3_wanted_58 (by decide) ?_
                refine lv_icmp_ne (tgt := 100) hx hb dX3_wanted_59 (by decide) (fun c10 => ?_) (fun c10 => ?_)
                · have h := ite_f h c10
                  refine lv_iinc (v := (x6_6 + (1 : Int32))) (lv' := [(6, .int (x6_6 + (1 : Int32))), (0, .ref (ad 39)), (1, .ref (ad y1)), (2, .int x2), (3, .int x3), (4, .int x4_6), (5, .int x5_3)]) hx hb dX3_wanted_100 hl (k := 6) rfl rfl (by decide) rfl (fun ls hl => ?_)
                  refine lv_goto (tgt := 23) hx hb dX3_wanted_103 (by decide) ?_
                  exact ihn6 x4_6 (x6_6 + (1 : Int32)) _ _ _ h hG hS (lv_sub hl [1, 2, 3, 4, 5, 6, 0] rfl)
                · have h := ite_t h c10
                  refine lv_aload_n hx hb dX3_wanted_62 rfl (lv_at hl 1 rfl) ?_
                  refine lv_iload_n hx hb dX3_wanted_63 rfl (lv_at hl 2 rfl) ?_
                  refine lv_iconst (v := (1 : Int32)) hx hb dX3_wanted_64 (by decide) ?_
                  refine lv_iload hx hb dX3_wanted_65 (lv_at hl 5 rfl) ?_
                  refine lv_ishl hx hb dX3_wanted_67 ?_
                  refine lv_iconst (v := (1 : Int32)) hx hb dX3_wanted_68 (by decide) ?_
                  refine lv_iload hx hb dX3_wanted_69 (lv_at hl 6 rfl) ?_
                  refine lv_ishl hx hb dX3_wanted_71 ?_
                  refine lv_ior hx hb dX3_wanted_72 ?_
                  refine lv_ixor hx hb dX3_wanted_73 ?_
                  refine g_ald hx hb hK hG (k := y1) (n := 64) hY1.1.1 (cIA_e hY1 _ _) 0 rfl h dX3_wanted_74 (fun v11 h => ?_)
                  refine lv_istore (lv' := [(7, .int v11), (0, .ref (ad 39)), (1, .ref (ad y1)), (2, .int x2), (3, .int x3), (4, .int x4_6), (5, .int x5_3), (6, .int x6_6)]) hx hb dX3_wanted_75 hl (by decide) rfl (fun ls hl => ?_)
                  refine lv_iload_n hx hb dX3_wanted_77 rfl (lv_at hl 4 rfl) ?_
                  refine lv_if_eq (tgt := 91) hx hb dX3_wanted_78 (by decide) (fun c12 => ?_) (fun c12 => ?_)
                  · have h := ite_t h c12
                    refine lv_iload hx hb dX3_wanted_91 (lv_at hl 5 rfl) ?_
                    refine lv_iload hx hb dX3_wanted_93 (lv_at hl 0 rfl) ?_
                    refine va_mmin hx hb (hml.trans hl.1.symm) hown k3 k4 k5 k6 (Nat.le_of_ble_eq_true rfl) (Nat.le_of_ble_eq_true rfl) (Nat.le_refl _) (Nat.le_refl _) dX3_wanted_95 ?_
                    refine lv_istore (lv' := [(4, .int (if v11 < x4_6 then v11 else x4_6)), (7, .int v11), (0, .ref (ad 39)), (1, .ref (ad y1)), (2, .int x2), (3, .int x3), (5, .int x5_3), (6, .int x6_6)]) hx hb dX3_wanted_98 hl (by decide) rfl (fun ls hl => ?_)
                    refine lv_iinc (v := (x6_6 + (1 : Int32))) (lv' := [(6, .int (x6_6 + (1 : Int32))), (4, .int (if v11 < x4_6 then v11 else x4_6)), (7, .int v11), (0, .ref (ad 39)), (1, .ref (ad y1)), (2, .int x2), (3, .int x3), (5, .int x5_3)]) hx hb dX3_wanted_100 hl (k := 7) rfl rfl (by decide) rfl (fun ls hl => ?_)
                    refine lv_goto (tgt := 23) hx hb dX3_wanted_103 (by decide) ?_
                    exact ihn6 (if v11 < x4_6 then v11 else x4_6) (x6_6 + (1 : Int32)) _ _ _ h hG hS (lv_sub hl [3, 4, 5, 6, 1, 7, 0] rfl)
                  · have h := ite_f h c12
                    refine lv_iload hx hb dX3_wanted_81 (lv_at hl 5 rfl) ?_
                    refine lv_iload hx hb dX3_wanted_83 (lv_at hl 0 rfl) ?_
                    refine va_mmax hx hb (hml.trans hl.1.symm) hown k7 k8 k5 k9 (Nat.le_of_ble_eq_true rfl) (Nat.le_of_ble_eq_true rfl) (Nat.le_refl _) (Nat.le_refl _) dX3_wanted_85 ?_
                    refine lv_goto (tgt := 98) hx hb dX3_wanted_88 (by decide) ?_
                    refine lv_istore (lv' := [(4, .int (if x4_6 < v11 then v11 else x4_6)), (7, .int v11), (0, .ref (ad 39)), (1, .ref (ad y1)), (2, .int x2), (3, .int x3), (5, .int x5_3), (6, .int x6_6)]) hx hb dX3_wanted_98 hl (by decide) rfl (fun ls hl => ?_)
                    refine lv_iinc (v := (x6_6 + (1 : Int32))) (lv' := [(6, .int (x6_6 + (1 : Int32))), (4, .int (if x4_6 < v11 then v11 else x4_6)), (7, .int v11), (0, .ref (ad 39)), (1, .ref (ad y1)), (2, .int x2), (3, .int x3), (5, .int x5_3)]) hx hb dX3_wanted_100 hl (k := 7) rfl rfl (by decide) rfl (fun ls hl => ?_)
                    refine lv_goto (tgt := 23) hx hb dX3_wanted_103 (by decide) ?_
                    exact ihn6 (if x4_6 < v11 then v11 else x4_6) (x6_6 + (1 : Int32)) _ _ _ h hG hS (lv_sub hl [3, 4, 5, 6, 1, 7, 0] rfl)
        refine keyK5 _ (fun z4_6 H locs ls h hG hS hl => ?_) bigF x4_3 (x5_3 + (1 : Int32)) _ _ _ h hG hS (lv_sub hl [1, 2, 3, 4, 5, 6, 0] rfl)
        clear keyK5
        refine lv_iinc (v := (x5_3 + (1 : Int32))) (lv' := [(5, .int (x5_3 + (1 : Int32))), (0, .ref (ad 39)), (1, .ref (ad y1)), (2, .int x2), (3, .int x3), (4, .int z4_6)]) hx hb dX3_wanted_106 hl (k := 5) rfl rfl (by decide) rfl (fun ls hl => ?_)
        refine lv_goto (tgt := 8) hx hb dX3_wanted_109 (by decide) ?_
        exact ihn3 z4_6 (x5_3 + (1 : Int32)) _ _ _ h hG hS (lv_sub hl [1, 2, 3, 4, 5, 0] rfl)
  refine keyK2 _ (fun z4_3 H locs ls h hG hS hl => ?_) bigF v1 (0 : Int32) _ _ _ h hG hS (lv_sub hl [2, 3, 4, 5, 1, 0] rfl)
  clear keyK2
  refine lv_iload hx hb dX3_wanted_112 (lv_at hl 0 rfl) ?_
  have h := Option.some.inj h
  subst h
  subst hQ
  exact g_iret hx hb hr hlocks cZm hK hZ hG hS rfl dX3_wanted_114
def X3_byTurns_L1 (K1 : xMem → Option (Int32 × xMem)) : Nat → Int32 → xMem → Option (Int32 × xMem)
  | 0, _, _ => none
  | n2 + 1, x3_2, I3 => if (64 : Int32) ≤ x3_2 then (K1 I3) else ((rdX 5 (0 : Int32)).bind fun j6 => (wrI I3 (45 + 1 + j6) 64 x3_2 (J6_bitCount_0f7a4 x3_2)).bind fun I7 => X3_byTurns_L1 K1 n2 (x3_2 + (1 : Int32)) I7)
def X3_byTurns_L3 (x3_9 : Int32) (K14 : xMem → Option (Int32 × xMem)) : Nat → Int32 → xMem → Option (Int32 × xMem)
  | 0, _, _ => none
  | n15 + 1, x4_15, I16 => if (64 : Int32) ≤ x4_15 then (K14 I16) else ((rdX 5 x3_9).bind fun j19 => (rdX 5 (x3_9 - (1 : Int32))).bind fun j20 => (if (x3_9 - x3_9 / (2 : Int32) * (2 : Int32)) = (0 : Int32) then (some (1 : Int32)) else (some (0 : Int32))).bind fun q21 => (X3_wanted I16 (45 + 1 + j20) x4_15 q21).bind fun v23 => (wrI I16 (45 + 1 + j19) 64 x4_15 v23).bind fun I24 => X3_byTurns_L3 x3_9 K14 n15 (x4_15 + (1 : Int32)) I24)
def X3_byTurns_L2 (x1 : Int32) (K8 : xMem → Option (Int32 × xMem)) : Nat → Int32 → xMem → Option (Int32 × xMem)
  | 0, _, _ => none
  | n9 + 1, x3_9, I10 => if x1 < x3_9 then (K8 I10) else (if (5 : Int32) ≤ x3_9 then (K8 I10) else (X3_byTurns_L3 x3_9 (fun (I17 : xMem) => X3_byTurns_L2 x1 K8 n9 (x3_9 + (1 : Int32)) I17) bigF (0 : Int32) I10))
def X3_byTurns (I : xMem) (x1 : Int32) (x2 : Int32) : Option (Int32 × xMem) := X3_byTurns_L1 (fun (I4 : xMem) => X3_byTurns_L2 x1 (fun (I11 : xMem) => (rdX 5 x1).bind fun j25 => (rdI I11 (45 + 1 + j25) 64 x2).bind fun v26 => some (v26, I11)) bigF (1 : Int32) I4) bigF (0 : Int32) I
abbrev rm_X3_byTurns : Room := { frames := 2, cells := 0, slots := 0, locals := 49 }
theorem cd_X3_byTurns : yX3_byTurns.cls = RX3 ∧ yX3_byTurns.cls ≠ "java/lang/invoke/MethodHandle" ∧ yX3_byTurns.cls ≠ "java/lang/invoke/VarHandle" ∧ (parseMethodDescriptor yX3_byTurns.desc).map (fun d => d.parameters.length) = some 2 := by decide +kernel
set_option maxHeartbeats 4000000 in
set_option maxRecDepth 100000 in
theorem k_X3_byTurns (l : Launch) (D : va_G) (cy : Nat → ClassId) (ad : Nat → Nat) (P Dr : Nat) (tI : xTab) (hX : cOk ad P Dr) (I : xMem) (L : xLon) (x1 : Int32) (x2 : Int32) (r : Int32 × xMem) (h : X3_byTurns I x1 x2 = some r) : Met l yX3_byTurns wsX3_byTurns rm_X3_byTurns (va_Pc [.ref (ad 39), .int x1, .int x2] (cW D cy ad P Dr tI I L)) (cPi D cy ad P Dr tI r.2 L r.1) 0 0 (gA 64 ad) := by
  refine g_met (own := RX3) (cc := cX3_byTurns) (maxL := 5) (ret := (some .int)) (by decide) rfl (Nat.le_of_ble_eq_true rfl) rfl ?_
  intro p e s m args below meth c ls hx hb hml hr hlocks hown hts hG hK hZ hl
  generalize hQ : MQ below _ args s 0 0 _ = Q
  have hl : lv_has ls 5 [(0, .ref (ad 39)), (1, .int x1), (2, .int x2)] := hl
  have hS : va_S (gA 64 ad) s.heap s.heap [] := va_S.rf
  obtain ⟨hi, hP, hDr⟩ := id hX
  have l3 : ∀ w ∈ wsX30, w.before args s = true := fun w h => hts w (List.mem_cons_of_mem _ (List.mem_append_right _ h))
  have k1 := hts (.fieldLink RX3 29 "PairStairs$Ways" "values" "[[I") (by decide +kernel)
  unfold X3_byTurns at h
  refine lv_iconst (v := (0 : Int32)) hx hb dX3_byTurns_0 (by decide) ?_
  refine lv_istore_n (lv' := [(3, .int (0 : Int32)), (0, .ref (ad 39)), (1, .int x1), (2, .int x2)]) hx hb dX3_byTurns_1 rfl hl (by decide) rfl (fun ls hl => ?_)
  have keyK1 : ∀ (K1 : xMem → Option (Int32 × xMem)), (∀ (I4 : xMem) (H : Heap) (locs : List Loc) (ls : Array Slot), K1 I4 = some r → cG D cy ad P Dr I4 L H → va_S (gA 64 ad) s.heap H locs → lv_has ls 5 [(0, .ref (ad 39)), (1, .int x1), (2, .int x2)] → W p l e rm_X3_byTurns s m args below meth c H locs 0 0 Q (F0 m 26 ls [])) → ∀ (n2 : Nat) (x3_2 : Int32) (I3 : xMem) (H : Heap) (locs : List Loc) (ls : Array Slot), X3_byTurns_L1 K1 n2 x3_2 I3 = some r → cG D cy ad P Dr I3 L H → va_S (gA 64 ad) s.heap H locs → lv_has ls 5 [(0, .ref (ad 39)), (1, .int x1), (2, .int x2), (3, .int x3_2)] → W p l e rm_X3_byTurns s m args below meth c H locs 0 0 Q (F0 m 2 ls []) := by
    intro K1 hkK1 n2
    induction n2 with
    | zero =>
      intro x3_2 I3 H locs ls h
      exact ono h
    | succ n2 ihn2 =>
      intro x3_2 I3 H locs ls h hG hS hl
      rw [X3_byTurns_L1] at h
      refine lv_iload_n hx hb dX3_byTurns_2 rfl (lv_at hl 3 rfl) ?_
      refine lv_bipush (v := (64 : Int32)) hx hb dX3_byTurns_3 (by decide) ?_
      refine lv_icmp_ge (tgt := 26) hx hb dX3_byTurns_5 (by decide) (fun c5 => ?_) (fun c5 => ?_)
      · have h := ite_t h c5
        exact hkK1 I3 _ _ _ h hG hS (lv_sub hl [0, 1, 2] rfl)
      · have h := ite_f h c5
        refine lv_aload_n hx hb dX3_byTurns_8 rfl (lv_at hl 0 rfl) ?_
        refine g_get hx hb l3 hown hK hG (k := 39) (by decide) (cE_3 _ _) vwCl_3 7 (by decide) k1 (fun _ h9 => h9) rfl dX3_byTurns_9 ?_
        refine lv_iconst (v := (0 : Int32)) hx hb dX3_byTurns_12 (by decide) ?_
        refine g_aldq hx hb hK hG (k := 45) (n := 5) (g := fun j => 45 + 1 + j) (by decide) (cE_9 (show 45 < 64 ∧ cTy 45 = 9 by decide +kernel) _ _) 3 rfl rfl h dX3_byTurns_13 (fun j6 hj6 h => ?_)
        refine lv_iload_n hx hb dX3_byTurns_14 rfl (lv_at hl 3 rfl) ?_
        refine lv_iload_n hx hb dX3_byTurns_15 rfl (lv_at hl 3 rfl) ?_
        refine g_endi (va_runS (As := [.int x3_2]) (rest := [.int x3_2, .ref (ad (45 + 1 + j6))]) ⟨hx, hb, hml, hown, hts⟩ (k_J6_bitCount_0f7a4 l D cy ad P Dr tI hX I3 L x3_2 _ rfl) (va_cwS 1 hts gX3_byTurns_J6_bitCount_0f7a4 rfl rfl rfl cd_J6_bitCount_0f7a4.2 ⟨Nat.le_of_ble_eq_true rfl, Nat.le_of_ble_eq_true rfl⟩) ⟨g_blind cZm, g_pre cZm hK hG hZ hS⟩ rfl rfl hl.1 rfl (lv_room (Nat.le_of_ble_eq_true rfl)) dX3_byTurns_16 ⟨Nat.le_refl _, Nat.le_refl _⟩) hS (fun H locs hG hS => ?_)
        refine g_ast hx hb hK hG hi hS (k := (45 + 1 + j6)) (n := 64) (cVal_k j6 hj6).1.1 (fun f => cIA_e (cVal_k j6 hj6) f _) 0 rfl h dX3_byTurns_19 (fun I7 H locs h hG hS => ?_)
        refine lv_iinc (v := (x3_2 + (1 : Int32))) (lv' := [(3, .int (x3_2 + (1 : Int32))), (0, .ref (ad 39)), (1, .int x1), (2, .int x2)]) hx hb dX3_byTurns_20 hl (k := 3) rfl rfl (by decide) rfl (fun ls hl => ?_)
        refine lv_goto (tgt := 2) hx hb dX3_byTurns_23 (by decide) ?_
        exact ihn2 (x3_2 + (1 : Int32)) I7 _ _ _ h hG hS (lv_sub hl [1, 2, 3, 0] rfl)
  refine keyK1 _ (fun I4 H locs ls h hG hS hl => ?_) bigF (0 : Int32) I _ _ _ h hG hS (lv_sub hl [1, 2, 3, 0] rfl)
  clear keyK1
  refine lv_iconst (v := (1 : Int32)) hx hb dX3_byTurns_26 (by decide) ?_
  refine lv_istore_n (lv' := [(3, .int (1 : Int32)), (0, .ref (ad 39)), (1, .int x1), (2, .int x2)]) hx hb dX3_byTurns_27 rfl hl (by decide) rfl (fun ls hl => ?_)
  have keyK8 : ∀ (K8 : xMem → Option (Int32 × xMem)), (∀ (I11 : xMem) (H : Heap) (locs : List Loc) (ls : Array Slot), K8 I11 = some r → cG D cy ad P Dr I11 L H → va_S (gA 64 ad) s.heap H locs → lv_has ls 5 [(0, .ref (ad 39)), (1, .int x1), (2, .int x2)] → W p l e rm_X3_byTurns s m args below meth c H locs 0 0 Q (F0 m 98 ls [])) → ∀ (n9 : Nat) (x3_9 : Int32) (I10 : xMem) (H : Heap) (locs : List Loc) (ls : Array Slot), X3_byTurns_L2 x1 K8 n9 x3_9 I10 = some r → cG D cy ad P Dr I10 L H → va_S (gA 64 ad) s.heap H locs → lv_has ls 5 [(0, .ref (ad 39)), (1, .int x1), (2, .int x2), (3, .int x3_9)] → W p l e rm_X3_byTurns s m args below meth c H locs 0 0 Q (F0 m 28 ls []) := by
    intro K8 hkK8 n9
    induction n9 with
    | zero =>
      intro x3_9 I10 H locs ls h
      exact ono h
    | succ n9 ihn9 =>
      intro x3_9 I10 H locs ls h hG hS hl
      rw [X3_byTurns_L2] at h
      refine lv_iload_n hx hb dX3_byTurns_28 rfl (lv_at hl 3 rfl) ?_
      refine lv_iload_n hx hb dX3_byTurns_29 rfl (lv_at hl 1 rfl) ?_
      refine lv_icmp_gt (tgt := 98) hx hb dX3_byTurns_30 (by decide) (fun c12 => ?_) (fun c12 => ?_)
      · have h := ite_t h c12
        exact hkK8 I10 _ _ _ h hG hS (lv_sub hl [0, 1, 2] rfl)
      · have h := ite_f h c12
        refine lv_iload_n hx hb dX3_byTurns_33 rfl (lv_at hl 3 rfl) ?_
        refine lv_aload_n hx hb dX3_byTurns_34 rfl (lv_at hl 0 rfl) ?_
        refine g_get hx hb l3 hown hK hG (k := 39) (by decide) (cE_3 _ _) vwCl_3 7 (by decide) k1 (fun _ h9 => h9) rfl dX3_byTurns_35 ?_
        refine g_len hx hb hK hG (k := 45) (x := (5, _)) (by decide) (cE_9 (show 45 < 64 ∧ cTy 45 = 9 by decide +kernel) _ _) 3 rfl rfl dX3_byTurns_38 ?_
        refine lv_icmp_ge (tgt := 98) hx hb dX3_byTurns_39 (by decide) (fun c13 => ?_) (fun c13 => ?_)
        · have h := ite_t h c13
          exact hkK8 I10 _ _ _ h hG hS (lv_sub hl [0, 1, 2] rfl)
        · have h := ite_f h c13
          refine lv_iconst (v := (0 : Int32)) hx hb dX3_byTurns_42 (by decide) ?_
          refine lv_istore (lv' := [(4, .int (0 : Int32)), (0, .ref (ad 39)), (1, .int x1), (2, .int x2), (3, .int x3_9)]) hx hb dX3_byTurns_43 hl (by decide) rfl (fun ls hl => ?_)
          have keyK14 : ∀ (K14 : xMem → Option (Int32 × xMem)), (∀ (I17 : xMem) (H : Heap) (locs : List Loc) (ls : Array Slot), K14 I17 = some r → cG D cy ad P Dr I17 L H → va_S (gA 64 ad) s.heap H locs → lv_has ls 5 [(0, .ref (ad 39)), (1, .int x1), (2, .int x2), (3, .int x3_9)] → W p l e rm_X3_byTurns s m args below meth c H locs 0 0 Q (F0 m 92 ls [])) → ∀ (n15 : Nat) (x4_15 : Int32) (I16 : xMem) (H : Heap) (locs : List Loc) (ls : Array Slot), X3_byTurns_L3 x3_9 K14 n15 x4_15 I16 = some r → cG D cy ad P Dr I16 L H → va_S (gA 64 ad) s.heap H locs → lv_has ls 5 [(0, .ref (ad 39)), (1, .int x1), (2, .int x2), (3, .int x3_9), (4, .int x4_15)] → W p l e rm_X3_byTurns s m args below meth c H locs 0 0 Q (F0 m 45 ls []) := by
            intro K14 hkK14 n15
            induction n15 with
            | zero =>
              intro x4_15 I16 H locs ls h
              exact ono h
            | succ n15 ihn15 =>
              intro x4_15 I16 H locs ls h hG hS hl
              rw [X3_byTurns_L3] at h
              refine lv_iload hx hb dX3_byTurns_45 (lv_at hl 4 rfl) ?_
              refine lv_bipush (v := (64 : Int32)) hx hb dX3_byTurns_47 (by decide) ?_
              refine lv_icmp_ge (tgt := 92) hx hb dX3_byTurns_49 (by decide) (fun c18 => ?_) (fun c18 => ?_)
              · have h := ite_t h c18
                exact hkK14 I16 _ _ _ h hG hS (lv_sub hl [0, 1, 2, 3] rfl)
              · have h := ite_f h c18
                refine lv_aload_n hx hb dX3_byTurns_52 rfl (lv_at hl 0 rfl) ?_
                refine g_get hx hb l3 hown hK hG (k := 39) (by decide) (cE_3 _ _) vwCl_3 7 (by decide) k1 (fun _ h9 => h9) rfl dX3_byTurns_53 ?_
                refine lv_iload_n hx hb dX3_byTurns_56 rfl (lv_at hl 3 rfl) ?_
                refine g_aldq hx hb hK hG (k := 45) (n := 5) (g := fun j => 45 + 1 + j) (by decide) (cE_9 (show 45 < 64 ∧ cTy 45 = 9 by decide +kernel) _ _) 3 rfl rfl h dX3_byTurns_57 (fun j19 hj19 h => ?_)
                refine lv_iload hx hb dX3_byTurns_58 (lv_at hl 4 rfl) ?_
                refine lv_aload_n hx hb dX3_byTurns_60 rfl (lv_at hl 0 rfl) ?_
                refine lv_aload_n hx hb dX3_byTurns_61 rfl (lv_at hl 0 rfl) ?_
                refine g_get hx hb l3 hown hK hG (k := 39) (by decide) (cE_3 _ _) vwCl_3 7 (by decide) k1 (fun _ h9 => h9) rfl dX3_byTurns_62 ?_
                refine lv_iload_n hx hb dX3_byTurns_65 rfl (lv_at hl 3 rfl) ?_
                refine lv_iconst (v := (1 : Int32)) hx hb dX3_byTurns_66 (by decide) ?_
                refine lv_isub hx hb dX3_byTurns_67 ?_
                refine g_aldq hx hb hK hG (k := 45) (n := 5) (g := fun j => 45 + 1 + j) (by decide) (cE_9 (show 45 < 64 ∧ cTy 45 = 9 by decide +kernel) _ _) 3 rfl rfl h dX3_byTurns_68 (fun j20 hj20 h => ?_)
                refine lv_iload hx hb dX3_byTurns_69 (lv_at hl 4 rfl) ?_
                refine lv_iload_n hx hb dX3_byTurns_71 rfl (lv_at hl 3 rfl) ?_
                refine lv_iconst (v := (2 : Int32)) hx hb dX3_byTurns_72 (by decide) ?_
                refine lv_irem hx hb dX3_byTurns_73 (by decide) ?_
                obtain ⟨q21, h9, h⟩ := obind h
                have hk_q21 : ∀ (H : Heap) (locs : List Loc) (ls : Array Slot), cG D cy ad P Dr I16 L H → va_S (gA 64 ad) s.heap H locs → lv_has ls 5 [(0, .ref (ad 39)), (1, .int x1), (2, .int x2), (3, .int x3_9), (4, .int x4_15)] → W p l e rm_X3_byTurns s m args below meth c H locs 0 0 Q (F0 m 82 ls [.int q21, .int x4_15, .ref (ad (45 + 1 + j20)), .ref (ad 39), .int x4_15, .ref (ad (45 + 1 + j19))]) := by
                  intro H locs ls hG hS hl
                  obtain ⟨v23, ev23, h⟩ := obind h
                  refine g_endi (va_runV (As := [.ref (ad (45 + 1 + j20)), .int x4_15, .int q21]) (rest := [.int x4_15, .ref (ad (45 + 1 + j19))]) ⟨hx, hb, hml, hown, hts⟩ (k_X3_wanted l D cy ad P Dr tI hX I16 L (y1 := (45 + 1 + j20)) (cVal_k j20 hj20) x4_15 q21 v23 ev23) (cwV 3 hts gX3_byTurns_X3_wanted rfl rfl rfl cd_X3_wanted ⟨Nat.le_of_ble_eq_true rfl, Nat.le_of_ble_eq_true rfl⟩) ⟨g_blind cZm, g_recv hK hG (k := 39) (by decide) (cE_3 _ _) vwCl_3, g_pre cZm hK hG hZ hS⟩ rfl rfl hl.1 rfl (lv_room (Nat.le_of_ble_eq_true rfl)) dX3_byTurns_82 ⟨Nat.le_refl _, Nat.le_refl _⟩) hS (fun H locs hG hS => ?_)
                  refine g_ast hx hb hK hG hi hS (k := (45 + 1 + j19)) (n := 64) (cVal_k j19 hj19).1.1 (fun f => cIA_e (cVal_k j19 hj19) f _) 0 rfl h dX3_byTurns_85 (fun I24 H locs h hG hS => ?_)
                  refine lv_iinc (v := (x4_15 + (1 : Int32))) (lv' := [(4, .int (x4_15 + (1 : Int32))), (0, .ref (ad 39)), (1, .int x1), (2, .int x2), (3, .int x3_9)]) hx hb dX3_byTurns_86 hl (k := 4) rfl rfl (by decide) rfl (fun ls hl => ?_)
                  refine lv_goto (tgt := 45) hx hb dX3_byTurns_89 (by decide) ?_
                  exact ihn15 (x4_15 + (1 : Int32)) I24 _ _ _ h hG hS (lv_sub hl [1, 2, 3, 4, 0] rfl)
                clear h
                have h := h9
                clear h9
                refine lv_if_ne (tgt := 81) hx hb dX3_byTurns_74 (by decide) (fun c22 => ?_) (fun c22 => ?_)
                · have h := ite_f h c22
                  refine lv_iconst (v := (0 : Int32)) hx hb dX3_byTurns_81 (by decide) ?_
                  have h := Option.some.inj h
                  subst h
                  exact hk_q21 _ _ _ hG hS (lv_sub hl [0, 1, 2, 3, 4] rfl)
                · have h := ite_t h c22
                  refine lv_iconst (v := (1 : Int32)) hx hb dX3_byTurns_77 (by decide) ?_
                  refine lv_goto (tgt := 82) hx hb dX3_byTurns_78 (by decide) ?_
                  have h := Option.some.inj h
                  subst h
                  exact hk_q21 _ _ _ hG hS (lv_sub hl [0, 1, 2, 3, 4] rfl)
          refine keyK14 _ (fun I17 H locs ls h hG hS hl => ?_) bigF (0 : Int32) I10 _ _ _ h hG hS (lv_sub hl [1, 2, 3, 4, 0] rfl)
          clear keyK14
          refine lv_iinc (v := (x3_9 + (1 : Int32))) (lv' := [(3, .int (x3_9 + (1 : Int32))), (0, .ref (ad 39)), (1, .int x1), (2, .int x2)]) hx hb dX3_byTurns_92 hl (k := 3) rfl rfl (by decide) rfl (fun ls hl => ?_)
          refine lv_goto (tgt := 28) hx hb dX3_byTurns_95 (by decide) ?_
          exact ihn9 (x3_9 + (1 : Int32)) I17 _ _ _ h hG hS (lv_sub hl [1, 2, 3, 0] rfl)
  refine keyK8 _ (fun I11 H locs ls h hG hS hl => ?_) bigF (1 : Int32) I4 _ _ _ h hG hS (lv_sub hl [1, 2, 3, 0] rfl)
  clear keyK8
  refine lv_aload_n hx hb dX3_byTurns_98 rfl (lv_at hl 0 rfl) ?_
  refine g_get hx hb l3 hown hK hG (k := 39) (by decide) (cE_3 _ _) vwCl_3 7 (by decide) k1 (fun _ h9 => h9) rfl dX3_byTurns_99 ?_
  refine lv_iload_n hx hb dX3_byTurns_102 rfl (lv_at hl 1 rfl) ?_
  refine g_aldq hx hb hK hG (k := 45) (n := 5) (g := fun j => 45 + 1 + j) (by decide) (cE_9 (show 45 < 64 ∧ cTy 45 = 9 by decide +kernel) _ _) 3 rfl rfl h dX3_byTurns_103 (fun j25 hj25 h => ?_)
  refine lv_iload_n hx hb dX3_byTurns_104 rfl (lv_at hl 2 rfl) ?_
  refine g_ald hx hb hK hG (k := (45 + 1 + j25)) (n := 64) (cVal_k j25 hj25).1.1 (cIA_e (cVal_k j25 hj25) _ _) 0 rfl h dX3_byTurns_105 (fun v26 h => ?_)
  have h := Option.some.inj h
  subst h
  subst hQ
  exact g_iret hx hb hr hlocks cZm hK hZ hG hS rfl dX3_byTurns_106
