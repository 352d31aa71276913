def L_cell (I : xMem) (tI : xTab) (x2 : Int32) : Option (Int32) := if (Int32.ofNat tI.2.2.1) ≤ x2 then (some ((40503 : Int32) * (x2 + (7 : Int32)))) else ((rdT tI.2.2.2 tI.2.2.1 x2).bind fun v2 => some v2)
abbrev rm_L_cell : Room := { frames := 0, cells := 0, slots := 0, locals := 0 }
theorem cd_L_cell : yL_cell.cls = RL ∧ yL_cell.cls ≠ "java/lang/invoke/MethodHandle" ∧ yL_cell.cls ≠ "java/lang/invoke/VarHandle" ∧ (parseMethodDescriptor yL_cell.desc).map (fun d => d.parameters.length) = some 2 := by decide +kernel
set_option maxHeartbeats 4000000 in
set_option maxRecDepth 100000 in
theorem k_L_cell (l : Launch) (D : va_G) (cy : Nat → ClassId) (ad : Nat → Nat) (P Dr : Nat) (tI : xTab) (hX : cOk ad P Dr) (I : xMem) (L : xLon) (x2 : Int32) (r : Int32) (h : L_cell I tI x2 = some r) : Met l yL_cell wsL_cell rm_L_cell (va_Pc [.ref tI.2.1, .int x2] (cW D cy ad P Dr tI I L)) (cPi D cy ad P Dr tI I L r) 0 0 (gA 64 ad) := by
  refine g_met (own := RL) (cc := cL_cell) (maxL := 2) (ret := (some .int)) (by decide) rfl (Nat.le_of_ble_eq_true rfl) rfl ?_
  intro p e s m args below meth c ls hx hb hml hr hlocks hown hts hG hK hZ hl
  generalize hQ : MQ below _ args s 0 0 _ = Q
  have hl : lv_has ls 2 [(0, .ref tI.2.1), (1, .int x2)] := hl
  have hS : va_S (gA 64 ad) s.heap s.heap [] := va_S.rf
  obtain ⟨hi, hP, hDr⟩ := id hX
  have k1 := hts (.constant RL 7 (40503)) (by decide +kernel)
  unfold L_cell at h
  refine lv_iload_n hx hb dL_cell_0 rfl (lv_at hl 1 rfl) ?_
  refine lv_aload_n hx hb dL_cell_1 rfl (lv_at hl 0 rfl) ?_
  refine g_slen hx hb hZ.2.2.2.2.2.1 hZ.2.2.2.2.2.2 hS dL_cell_2 ?_
  refine lv_icmp_ge (tgt := 12) hx hb dL_cell_3 (by decide) (fun c1 => ?_) (fun c1 => ?_)
  · have h := ite_t h c1
    refine lv_ldc (v := (40503 : Int32)) hx hb hown k1 dL_cell_12 ?_
    refine lv_iload_n hx hb dL_cell_14 rfl (lv_at hl 1 rfl) ?_
    refine lv_bipush (v := (7 : Int32)) hx hb dL_cell_15 (by decide) ?_
    refine lv_iadd hx hb dL_cell_17 ?_
    refine lv_imul hx hb dL_cell_18 ?_
    have h := Option.some.inj h
    subst h
    subst hQ
    exact g_iret hx hb hr hlocks cZm hK hZ hG hS rfl dL_cell_19
  · have h := ite_f h c1
    refine lv_aload_n hx hb dL_cell_6 rfl (lv_at hl 0 rfl) ?_
    refine lv_iload_n hx hb dL_cell_7 rfl (lv_at hl 1 rfl) ?_
    refine g_sld hx hb hZ.2.2.2.2.2.1 hZ.2.2.2.2.2.2 hS h dL_cell_8 (fun v2 h => ?_)
    refine lv_goto (tgt := 19) hx hb dL_cell_9 (by decide) ?_
    have h := Option.some.inj h
    subst h
    subst hQ
    exact g_iret hx hb hr hlocks cZm hK hZ hG hS rfl dL_cell_19
def L_low (x1 : Int32) (x2 : Int32) : Option (Int32) := (rmI (x1 &&& (2147483647 : Int32)) x2).bind fun v1 => some v1
abbrev rm_L_low : Room := { frames := 0, cells := 0, slots := 0, locals := 0 }
theorem cd_L_low : yL_low.cls = RL ∧ yL_low.cls ≠ "java/lang/invoke/MethodHandle" ∧ yL_low.cls ≠ "java/lang/invoke/VarHandle" ∧ (parseMethodDescriptor yL_low.desc).map (fun d => d.parameters.length) = some 2 := by decide +kernel
set_option maxHeartbeats 4000000 in
set_option maxRecDepth 100000 in
theorem k_L_low (l : Launch) (D : va_G) (cy : Nat → ClassId) (ad : Nat → Nat) (P Dr : Nat) (tI : xTab) (hX : cOk ad P Dr) (I : xMem) (L : xLon) (x1 : Int32) (x2 : Int32) (r : Int32) (h : L_low x1 x2 = some r) : Met l yL_low wsL_low rm_L_low (va_Pc [.int x1, .int x2] (cW D cy ad P Dr tI I L)) (cPi D cy ad P Dr tI I L r) 0 0 (gA 64 ad) := by
  refine g_met (own := RL) (cc := cL_low) (maxL := 2) (ret := (some .int)) (by decide) rfl (Nat.le_of_ble_eq_true rfl) rfl ?_
  intro p e s m args below meth c ls hx hb hml hr hlocks hown hts hG hK hZ hl
  generalize hQ : MQ below _ args s 0 0 _ = Q
  have hl : lv_has ls 2 [(0, .int x1), (1, .int x2)] := hl
  have hS : va_S (gA 64 ad) s.heap s.heap [] := va_S.rf
  obtain ⟨hi, hP, hDr⟩ := id hX
  have k1 := hts (.constant RL 8 (2147483647)) (by decide +kernel)
  unfold L_low at h
  refine lv_iload_n hx hb dL_low_0 rfl (lv_at hl 0 rfl) ?_
  refine lv_ldc (v := (2147483647 : Int32)) hx hb hown k1 dL_low_1 ?_
  refine lv_iand hx hb dL_low_3 ?_
  refine lv_iload_n hx hb dL_low_4 rfl (lv_at hl 1 rfl) ?_
  refine g_irem hx hb h dL_low_5 (fun v1 h => ?_)
  have h := Option.some.inj h
  subst h
  subst hQ
  exact g_iret hx hb hr hlocks cZm hK hZ hG hS rfl dL_low_6
def L_letter (x1 : Int32) : Int32 := if x1 = (0 : Int32) then ((103 : Int32)) else (if x1 = (1 : Int32) then ((116 : Int32)) else (if x1 = (2 : Int32) then ((99 : Int32)) else (if x1 = (3 : Int32) then ((108 : Int32)) else (if x1 = (4 : Int32) then ((110 : Int32)) else ((98 : Int32))))))
abbrev rm_L_letter : Room := { frames := 0, cells := 0, slots := 0, locals := 0 }
theorem cd_L_letter : yL_letter.cls = RL ∧ yL_letter.cls ≠ "java/lang/invoke/MethodHandle" ∧ yL_letter.cls ≠ "java/lang/invoke/VarHandle" ∧ (parseMethodDescriptor yL_letter.desc).map (fun d => d.parameters.length) = some 1 := by decide +kernel
set_option maxHeartbeats 4000000 in
set_option maxRecDepth 100000 in
theorem k_L_letter (l : Launch) (D : va_G) (cy : Nat → ClassId) (ad : Nat → Nat) (P Dr : Nat) (tI : xTab) (hX : cOk ad P Dr) (I : xMem) (L : xLon) (x1 : Int32) (r : Int32) (h : L_letter x1 = r) : Met l yL_letter wsL_letter rm_L_letter (va_Pc [.int x1] (cW D cy ad P Dr tI I L)) (cPi D cy ad P Dr tI I L r) 0 0 (gA 64 ad) := by
  refine g_met (own := RL) (cc := cL_letter) (maxL := 1) (ret := (some .int)) (by decide) rfl (Nat.le_of_ble_eq_true rfl) rfl ?_
  intro p e s m args below meth c ls hx hb hml hr hlocks hown hts hG hK hZ hl
  generalize hQ : MQ below _ args s 0 0 _ = Q
  have hl : lv_has ls 1 [(0, .int x1)] := hl
  have hS : va_S (gA 64 ad) s.heap s.heap [] := va_S.rf
  obtain ⟨hi, hP, hDr⟩ := id hX
  unfold L_letter at h
  refine lv_iload_n hx hb dL_letter_0 rfl (lv_at hl 0 rfl) ?_
  refine lv_if_ne (tgt := 9) hx hb dL_letter_1 (by decide) (fun c1 => ?_) (fun c1 => ?_)
  · have h := ite_f h c1
    refine lv_iload_n hx hb dL_letter_9 rfl (lv_at hl 0 rfl) ?_
    refine lv_iconst (v := (1 : Int32)) hx hb dL_letter_10 (by decide) ?_
    refine lv_icmp_ne (tgt := 19) hx hb dL_letter_11 (by decide) (fun c2 => ?_) (fun c2 => ?_)
    · have h := ite_f h c2
      refine lv_iload_n hx hb dL_letter_19 rfl (lv_at hl 0 rfl) ?_
      refine lv_iconst (v := (2 : Int32)) hx hb dL_letter_20 (by decide) ?_
      refine lv_icmp_ne (tgt := 29) hx hb dL_letter_21 (by decide) (fun c3 => ?_) (fun c3 => ?_)
      · have h := ite_f h c3
        refine lv_iload_n hx hb dL_letter_29 rfl (lv_at hl 0 rfl) ?_
        refine lv_iconst (v := (3 : Int32)) hx hb dL_letter_30 (by decide) ?_
        refine lv_icmp_ne (tgt := 39) hx hb dL_letter_31 (by decide) (fun c4 => ?_) (fun c4 => ?_)
        · have h := ite_f h c4
          refine lv_iload_n hx hb dL_letter_39 rfl (lv_at hl 0 rfl) ?_
          refine lv_iconst (v := (4 : Int32)) hx hb dL_letter_40 (by decide) ?_
          refine lv_icmp_ne (tgt := 49) hx hb dL_letter_41 (by decide) (fun c5 => ?_) (fun c5 => ?_)
          · have h := ite_f h c5
            refine lv_bipush (v := (98 : Int32)) hx hb dL_letter_49 (by decide) ?_
            subst h
            subst hQ
            exact g_iret hx hb hr hlocks cZm hK hZ hG hS rfl dL_letter_51
          · have h := ite_t h c5
            refine lv_bipush (v := (110 : Int32)) hx hb dL_letter_44 (by decide) ?_
            refine lv_goto (tgt := 51) hx hb dL_letter_46 (by decide) ?_
            subst h
            subst hQ
            exact g_iret hx hb hr hlocks cZm hK hZ hG hS rfl dL_letter_51
        · have h := ite_t h c4
          refine lv_bipush (v := (108 : Int32)) hx hb dL_letter_34 (by decide) ?_
          refine lv_goto (tgt := 51) hx hb dL_letter_36 (by decide) ?_
          subst h
          subst hQ
          exact g_iret hx hb hr hlocks cZm hK hZ hG hS rfl dL_letter_51
      · have h := ite_t h c3
        refine lv_bipush (v := (99 : Int32)) hx hb dL_letter_24 (by decide) ?_
        refine lv_goto (tgt := 51) hx hb dL_letter_26 (by decide) ?_
        subst h
        subst hQ
        exact g_iret hx hb hr hlocks cZm hK hZ hG hS rfl dL_letter_51
    · have h := ite_t h c2
      refine lv_bipush (v := (116 : Int32)) hx hb dL_letter_14 (by decide) ?_
      refine lv_goto (tgt := 51) hx hb dL_letter_16 (by decide) ?_
      subst h
      subst hQ
      exact g_iret hx hb hr hlocks cZm hK hZ hG hS rfl dL_letter_51
  · have h := ite_t h c1
    refine lv_bipush (v := (103 : Int32)) hx hb dL_letter_4 (by decide) ?_
    refine lv_goto (tgt := 51) hx hb dL_letter_6 (by decide) ?_
    subst h
    subst hQ
    exact g_iret hx hb hr hlocks cZm hK hZ hG hS rfl dL_letter_51
def L_tower_L1 (K8 : xMem → Option (Int32 × xMem × Nat × Nat)) : Nat → Int32 → xMem → Option (Int32 × xMem × Nat × Nat)
  | 0, _, _ => none
  | n9 + 1, x5_9, I10 => if (4 : Int32) ≤ x5_9 then (K8 I10) else ((wrI I10 63 4 x5_9 (0 : Int32)).bind fun I13 => L_tower_L1 K8 n9 (x5_9 + (1 : Int32)) I13)
def L_tower_L2 (tI : xTab) (K22 : Int32 → xMem → Option (Int32 × xMem × Nat × Nat)) : Nat → Int32 → Int32 → xMem → Option (Int32 × xMem × Nat × Nat)
  | 0, _, _, _ => none
  | n23 + 1, x5_23, x6_23, I24 => (rdI I24 62 19 (1 : Int32)).bind fun v26 => if v26 ≤ x6_23 then (K22 x5_23 I24) else ((L_cell I24 tI (1 : Int32)).bind fun v28 => (L_low (v28 >>> (((5 : Int32) * x6_23) &&& 31)) (9 : Int32)).bind fun v29 => (wrI I24 62 19 ((3 : Int32) + x6_23) ((1 : Int32) + v29)).bind fun I30 => if x5_23 = (0 : Int32) then (L_tower_L2 tI K22 n23 (0 : Int32) (x6_23 + (1 : Int32)) I30) else ((X4_put I30 (0 : Int32) ((3 : Int32) + ((2 : Int32) * x6_23)) (111 : Int32)).bind fun q32 => if q32.1 = (1032 : Int32) then ((rdI q32.2 62 19 ((3 : Int32) + x6_23)).bind fun v34 => (X4_put q32.2 (0 : Int32) ((4 : Int32) + ((2 : Int32) * x6_23)) ((48 : Int32) + v34)).bind fun q35 => if q35.1 = (1032 : Int32) then (L_tower_L2 tI K22 n23 (1 : Int32) (x6_23 + (1 : Int32)) q35.2) else (L_tower_L2 tI K22 n23 (0 : Int32) (x6_23 + (1 : Int32)) q35.2)) else (L_tower_L2 tI K22 n23 (0 : Int32) (x6_23 + (1 : Int32)) q32.2)))
def L_tower_L3 (tI : xTab) (v1 : Int32) (K37 : Int32 → xMem → Option (Int32 × xMem × Nat × Nat)) : Nat → Int32 → Int32 → xMem → Option (Int32 × xMem × Nat × Nat)
  | 0, _, _, _ => none
  | n38 + 1, x5_38, x6_38, I39 => (rdI I39 62 19 (0 : Int32)).bind fun v41 => if v41 ≤ x6_38 then (K37 x5_38 I39) else ((L_cell I39 tI ((2 : Int32) + x6_38)).bind fun v43 => (L_low v43 (6 : Int32)).bind fun v44 => (wrI I39 62 19 ((7 : Int32) + x6_38) v44).bind fun I45 => (if ((v1 >>> ((20 : Int32) &&& 31)) &&& (1 : Int32)) = (0 : Int32) then ((L_low (v43 >>> ((3 : Int32) &&& 31)) (30 : Int32)).bind fun v49 => some ((1 : Int32) + v49)) else ((L_low (v43 >>> ((3 : Int32) &&& 31)) (99 : Int32)).bind fun v48 => some ((1 : Int32) + v48))).bind fun q46 => (wrI I45 62 19 ((13 : Int32) + x6_38) q46).bind fun I50 => if x5_38 = (0 : Int32) then (L_tower_L3 tI v1 K37 n38 (0 : Int32) (x6_38 + (1 : Int32)) I50) else ((rdI I50 62 19 ((7 : Int32) + x6_38)).bind fun v52 => (X4_put I50 (0 : Int32) ((12 : Int32) + ((4 : Int32) * x6_38)) (L_letter v52)).bind fun q53 => if q53.1 = (1032 : Int32) then ((rdI q53.2 62 19 ((13 : Int32) + x6_38)).bind fun v55 => (X4_put q53.2 (0 : Int32) (((12 : Int32) + ((4 : Int32) * x6_38)) + (1 : Int32)) ((48 : Int32) + (v55 / (10 : Int32)))).bind fun q56 => if q56.1 = (1032 : Int32) then ((rdI q56.2 62 19 ((13 : Int32) + x6_38)).bind fun v58 => (X4_put q56.2 (0 : Int32) (((12 : Int32) + ((4 : Int32) * x6_38)) + (2 : Int32)) ((48 : Int32) + (v58 - v58 / (10 : Int32) * (10 : Int32)))).bind fun q59 => if q59.1 = (1032 : Int32) then (L_tower_L3 tI v1 K37 n38 (1 : Int32) (x6_38 + (1 : Int32)) q59.2) else (L_tower_L3 tI v1 K37 n38 (0 : Int32) (x6_38 + (1 : Int32)) q59.2)) else (L_tower_L3 tI v1 K37 n38 (0 : Int32) (x6_38 + (1 : Int32)) q56.2)) else (L_tower_L3 tI v1 K37 n38 (0 : Int32) (x6_38 + (1 : Int32)) q53.2)))
def L_tower (P : Nat) (Dr : Nat) (I : xMem) (tI : xTab) : Option (Int32 × xMem × Nat × Nat) := (L_cell I tI (0 : Int32)).bind fun v1 => (L_low v1 (5 : Int32)).bind fun v2 => (wrI I 62 19 (0 : Int32) ((2 : Int32) + v2)).bind fun I3 => (L_low (v1 >>> ((3 : Int32) &&& 31)) (5 : Int32)).bind fun v4 => (wrI I3 62 19 (1 : Int32) v4).bind fun I5 => (L_low (v1 >>> ((6 : Int32) &&& 31)) (10 : Int32)).bind fun v6 => (wrI I5 62 19 (2 : Int32) v6).bind fun I7 => L_tower_L1 (fun (I11 : xMem) => (X4_text I11 (0 : Int32) (40 : Int32)).bind fun q14 => (if q14.1 = (40 : Int32) then ((X4_put q14.2 (0 : Int32) (0 : Int32) (120 : Int32)).bind fun q17 => if q17.1 = (1032 : Int32) then ((rdI q17.2 62 19 (2 : Int32)).bind fun v19 => (X4_put q17.2 (0 : Int32) (1 : Int32) ((48 : Int32) + v19)).bind fun q20 => if q20.1 = (1032 : Int32) then (some ((1 : Int32), q20.2)) else (some ((0 : Int32), q20.2))) else (some ((0 : Int32), q17.2))) else (some ((0 : Int32), q14.2))).bind fun q15 => L_tower_L2 tI (fun (z5_24 : Int32) (I25 : xMem) => L_tower_L3 tI v1 (fun (z5_39 : Int32) (I40 : xMem) => if z5_39 = (0 : Int32) then (some ((nz (0 : Int32)), I40, P, Dr)) else ((X4_fault Dr I40 (0 : Int32)).bind fun q62 => if q62.1 = (-9 : Int32) then ((X4_tower P Dr q62.2 (0 : Int32)).bind fun q64 => (rdI q64.2.1 62 19 (0 : Int32)).bind fun v65 => if q64.1 = v65 then (some ((nz (1 : Int32)), q64.2.1, q64.2.2.1, q64.2.2.2)) else (some ((nz (0 : Int32)), q64.2.1, q64.2.2.1, q64.2.2.2))) else (some ((nz (0 : Int32)), q62.2, P, Dr)))) bigF z5_24 (0 : Int32) I25) bigF q15.1 (0 : Int32) q15.2) bigF (0 : Int32) I7
abbrev rm_L_tower : Room := { frames := 5, cells := 0, slots := 0, locals := 112 }
theorem cd_L_tower : yL_tower.cls = RL ∧ yL_tower.cls ≠ "java/lang/invoke/MethodHandle" ∧ yL_tower.cls ≠ "java/lang/invoke/VarHandle" ∧ (parseMethodDescriptor yL_tower.desc).map (fun d => d.parameters.length) = some 4 := by decide +kernel
set_option maxHeartbeats 4000000 in
set_option maxRecDepth 100000 in
theorem k_L_tower (l : Launch) (D : va_G) (cy : Nat → ClassId) (ad : Nat → Nat) (P Dr : Nat) (tI : xTab) (hX : cOk ad P Dr) (I : xMem) (L : xLon)  (r : Int32 × xMem × Nat × Nat) (h : L_tower P Dr I tI = some r) : Met l yL_tower wsL_tower rm_L_tower (va_Pc [.ref (ad 0), .ref tI.2.1, .ref (ad 62), .ref (ad 63)] (cW D cy ad P Dr tI I L)) (cPi D cy ad r.2.2.1 r.2.2.2 tI r.2.1 L r.1) 0 0 (gA 64 ad) := by
  refine g_met (own := RL) (cc := cL_tower) (maxL := 9) (ret := (some .boolean)) (by decide) rfl (Nat.le_of_ble_eq_true rfl) rfl ?_
  intro p e s m args below meth c ls hx hb hml hr hlocks hown hts hG hK hZ hl
  generalize hQ : MQ below _ args s 0 0 _ = Q
  have hl : lv_has ls 9 [(0, .ref (ad 0)), (1, .ref tI.2.1), (2, .ref (ad 62)), (3, .ref (ad 63))] := hl
  have hS : va_S (gA 64 ad) s.heap s.heap [] := va_S.rf
  obtain ⟨hi, hP, hDr⟩ := id hX
  unfold L_tower at h
  refine lv_aload_n hx hb dL_tower_0 rfl (lv_at hl 1 rfl) ?_
  refine lv_iconst (v := (0 : Int32)) hx hb dL_tower_1 (by decide) ?_
  obtain ⟨v1, ev1, h⟩ := obind h
  refine g_endi (va_runS (As := [.ref tI.2.1, .int (0 : Int32)]) (rest := []) ⟨hx, hb, hml, hown, hts⟩ (k_L_cell l D cy ad P Dr tI hX I L (0 : Int32) v1 ev1) (va_cwS 2 hts gL_tower_L_cell rfl rfl rfl cd_L_cell.2 ⟨Nat.le_of_ble_eq_true rfl, Nat.le_of_ble_eq_true rfl⟩) ⟨g_blind cZm, g_pre cZm hK hG hZ hS⟩ rfl rfl hl.1 rfl (lv_room (Nat.le_of_ble_eq_true rfl)) dL_tower_2 ⟨Nat.le_refl _, Nat.le_refl _⟩) hS (fun H locs hG hS => ?_)
  refine lv_istore (lv' := [(4, .int v1), (0, .ref (ad 0)), (1, .ref tI.2.1), (2, .ref (ad 62)), (3, .ref (ad 63))]) hx hb dL_tower_5 hl (by decide) rfl (fun ls hl => ?_)
  refine lv_aload_n hx hb dL_tower_7 rfl (lv_at hl 3 rfl) ?_
  refine lv_iconst (v := (0 : Int32)) hx hb dL_tower_8 (by decide) ?_
  refine lv_iconst (v := (2 : Int32)) hx hb dL_tower_9 (by decide) ?_
  refine lv_iload hx hb dL_tower_10 (lv_at hl 0 rfl) ?_
  refine lv_iconst (v := (5 : Int32)) hx hb dL_tower_12 (by decide) ?_
  obtain ⟨v2, ev2, h⟩ := obind h
  refine g_endi (va_runS (As := [.int v1, .int (5 : Int32)]) (rest := [.int (2 : Int32), .int (0 : Int32), .ref (ad 62)]) ⟨hx, hb, hml, hown, hts⟩ (k_L_low l D cy ad P Dr tI hX I L v1 (5 : Int32) v2 ev2) (va_cwS 2 hts gL_tower_L_low rfl rfl rfl cd_L_low.2 ⟨Nat.le_of_ble_eq_true rfl, Nat.le_of_ble_eq_true rfl⟩) ⟨g_blind cZm, g_pre cZm hK hG hZ hS⟩ rfl rfl hl.1 rfl (lv_room (Nat.le_of_ble_eq_true rfl)) dL_tower_13 ⟨Nat.le_refl _, Nat.le_refl _⟩) hS (fun H locs hG hS => ?_)
  refine lv_iadd hx hb dL_tower_16 ?_
  refine g_ast hx hb hK hG hi hS (k := 62) (n := 19) (show cIA 62 19 from by decide +kernel).1.1 (fun f => cIA_e (show cIA 62 19 from by decide +kernel) f _) 0 rfl h dL_tower_17 (fun I3 H locs h hG hS => ?_)
  refine lv_aload_n hx hb dL_tower_18 rfl (lv_at hl 3 rfl) ?_
  refine lv_iconst (v := (1 : Int32)) hx hb dL_tower_19 (by decide) ?_
  refine lv_iload hx hb dL_tower_20 (lv_at hl 0 rfl) ?_
  refine lv_iconst (v := (3 : Int32)) hx hb dL_tower_22 (by decide) ?_
  refine lv_ishr hx hb dL_tower_23 ?_
  refine lv_iconst (v := (5 : Int32)) hx hb dL_tower_24 (by decide) ?_
  obtain ⟨v4, ev4, h⟩ := obind h
  refine g_endi (va_runS (As := [.int (v1 >>> ((3 : Int32) &&& 31)), .int (5 : Int32)]) (rest := [.int (1 : Int32), .ref (ad 62)]) ⟨hx, hb, hml, hown, hts⟩ (k_L_low l D cy ad P Dr tI hX I3 L (v1 >>> ((3 : Int32) &&& 31)) (5 : Int32) v4 ev4) (va_cwS 2 hts gL_tower_L_low rfl rfl rfl cd_L_low.2 ⟨Nat.le_of_ble_eq_true rfl, Nat.le_of_ble_eq_true rfl⟩) ⟨g_blind cZm, g_pre cZm hK hG hZ hS⟩ rfl rfl hl.1 rfl (lv_room (Nat.le_of_ble_eq_true rfl)) dL_tower_25 ⟨Nat.le_refl _, Nat.le_refl _⟩) hS (fun H locs hG hS => ?_)
  refine g_ast hx hb hK hG hi hS (k := 62) (n := 19) (show cIA 62 19 from by decide +kernel).1.1 (fun f => cIA_e (show cIA 62 19 from by decide +kernel) f _) 0 rfl h dL_tower_28 (fun I5 H locs h hG hS => ?_)
  refine lv_aload_n hx hb dL_tower_29 rfl (lv_at hl 3 rfl) ?_
  refine lv_iconst (v := (2 : Int32)) hx hb dL_tower_30 (by decide) ?_
  refine lv_iload hx hb dL_tower_31 (lv_at hl 0 rfl) ?_
  refine lv_bipush (v := (6 : Int32)) hx hb dL_tower_33 (by decide) ?_
  refine lv_ishr hx hb dL_tower_35 ?_
  refine lv_bipush (v := (10 : Int32)) hx hb dL_tower_36 (by decide) ?_
  obtain ⟨v6, ev6, h⟩ := obind h
  refine g_endi (va_runS (As := [.int (v1 >>> ((6 : Int32) &&& 31)), .int (10 : Int32)]) (rest := [.int (2 : Int32), .ref (ad 62)]) ⟨hx, hb, hml, hown, hts⟩ (k_L_low l D cy ad P Dr tI hX I5 L (v1 >>> ((6 : Int32) &&& 31)) (10 : Int32) v6 ev6) (va_cwS 2 hts gL_tower_L_low rfl rfl rfl cd_L_low.2 ⟨Nat.le_of_ble_eq_true rfl, Nat.le_of_ble_eq_true rfl⟩) ⟨g_blind cZm, g_pre cZm hK hG hZ hS⟩ rfl rfl hl.1 rfl (lv_room (Nat.le_of_ble_eq_true rfl)) dL_tower_38 ⟨Nat.le_refl _, Nat.le_refl _⟩) hS (fun H locs hG hS => ?_)
  refine g_ast hx hb hK hG hi hS (k := 62) (n := 19) (show cIA 62 19 from by decide +kernel).1.1 (fun f => cIA_e (show cIA 62 19 from by decide +kernel) f _) 0 rfl h dL_tower_41 (fun I7 H locs h hG hS => ?_)
  refine lv_iconst (v := (0 : Int32)) hx hb dL_tower_42 (by decide) ?_
  refine lv_istore (lv' := [(5, .int (0 : Int32)), (4, .int v1), (0, .ref (ad 0)), (1, .ref tI.2.1), (2, .ref (ad 62)), (3, .ref (ad 63))]) hx hb dL_tower_43 hl (by decide) rfl (fun ls hl => ?_)
  have keyK8 : ∀ (K8 : xMem → Option (Int32 × xMem × Nat × Nat)), (∀ (I11 : xMem) (H : Heap) (locs : List Loc) (ls : Array Slot), K8 I11 = some r → cG D cy ad P Dr I11 L H → va_S (gA 64 ad) s.heap H locs → lv_has ls 9 [(0, .ref (ad 0)), (1, .ref tI.2.1), (2, .ref (ad 62)), (4, .int v1)] → W p l e rm_L_tower s m args below meth c H locs 0 0 Q (F0 m 62 ls [])) → ∀ (n9 : Nat) (x5_9 : Int32) (I10 : xMem) (H : Heap) (locs : List Loc) (ls : Array Slot), L_tower_L1 K8 n9 x5_9 I10 = some r → cG D cy ad P Dr I10 L H → va_S (gA 64 ad) s.heap H locs → lv_has ls 9 [(0, .ref (ad 0)), (1, .ref tI.2.1), (2, .ref (ad 62)), (3, .ref (ad 63)), (4, .int v1), (5, .int x5_9)] → W p l e rm_L_tower s m args below meth c H locs 0 0 Q (F0 m 45 ls []) := by
    intro K8 hkK8 n9
    induction n9 with
    | zero =>
      intro x5_9 I10 H locs ls h
      exact ono h
    | succ n9 ihn9 =>
      intro x5_9 I10 H locs ls h hG hS hl
      rw [L_tower_L1] at h
      refine lv_iload hx hb dL_tower_45 (lv_at hl 5 rfl) ?_
      refine lv_iconst (v := (4 : Int32)) hx hb dL_tower_47 (by decide) ?_
      refine lv_icmp_ge (tgt := 62) hx hb dL_tower_48 (by decide) (fun c12 => ?_) (fun c12 => ?_)
      · have h := ite_t h c12
        exact hkK8 I10 _ _ _ h hG hS (lv_sub hl [0, 1, 2, 4] rfl)
      · have h := ite_f h c12
        refine lv_aload_n hx hb dL_tower_51 rfl (lv_at hl 3 rfl) ?_
        refine lv_iload hx hb dL_tower_52 (lv_at hl 5 rfl) ?_
        refine lv_iconst (v := (0 : Int32)) hx hb dL_tower_54 (by decide) ?_
        refine g_ast hx hb hK hG hi hS (k := 63) (n := 4) (show cIA 63 4 from by decide +kernel).1.1 (fun f => cIA_e (show cIA 63 4 from by decide +kernel) f _) 0 rfl h dL_tower_55 (fun I13 H locs h hG hS => ?_)
        refine lv_iinc (v := (x5_9 + (1 : Int32))) (lv' := [(5, .int (x5_9 + (1 : Int32))), (0, .ref (ad 0)), (1, .ref tI.2.1), (2, .ref (ad 62)), (3, .ref (ad 63)), (4, .int v1)]) hx hb dL_tower_56 hl (k := 5) rfl rfl (by decide) rfl (fun ls hl => ?_)
        refine lv_goto (tgt := 45) hx hb dL_tower_59 (by decide) ?_
        exact ihn9 (x5_9 + (1 : Int32)) I13 _ _ _ h hG hS (lv_sub hl [1, 2, 3, 4, 5, 0] rfl)
  refine keyK8 _ (fun I11 H locs ls h hG hS hl => ?_) bigF (0 : Int32) I7 _ _ _ h hG hS (lv_sub hl [2, 3, 4, 5, 1, 0] rfl)
  clear keyK8
  refine lv_aload_n hx hb dL_tower_62 rfl (lv_at hl 0 rfl) ?_
  refine lv_iconst (v := (0 : Int32)) hx hb dL_tower_63 (by decide) ?_
  refine lv_bipush (v := (40 : Int32)) hx hb dL_tower_64 (by decide) ?_
  obtain ⟨q14, eq14, h⟩ := obind h
  refine g_endi (va_runV (As := [.int (0 : Int32), .int (40 : Int32)]) (rest := []) ⟨hx, hb, hml, hown, hts⟩ (k_X4_text l D cy ad P Dr tI hX I11 L (0 : Int32) (40 : Int32) q14 eq14) (cwV 2 hts gL_tower_X4_text rfl rfl rfl cd_X4_text ⟨Nat.le_of_ble_eq_true rfl, Nat.le_of_ble_eq_true rfl⟩) ⟨g_blind cZm, g_recv hK hG (k := 0) (by decide) (cE_4 _ _) vwCl_4, g_pre cZm hK hG hZ hS⟩ rfl rfl hl.1 rfl (lv_room (Nat.le_of_ble_eq_true rfl)) dL_tower_66 ⟨Nat.le_refl _, Nat.le_refl _⟩) hS (fun H locs hG hS => ?_)
  refine lv_bipush (v := (40 : Int32)) hx hb dL_tower_69 (by decide) ?_
  obtain ⟨q15, h9, h⟩ := obind h
  have hk_q15 : ∀ (H : Heap) (locs : List Loc) (ls : Array Slot), cG D cy ad P Dr q15.2 L H → va_S (gA 64 ad) s.heap H locs → lv_has ls 9 [(0, .ref (ad 0)), (1, .ref tI.2.1), (2, .ref (ad 62)), (4, .int v1)] → W p l e rm_L_tower s m args below meth c H locs 0 0 Q (F0 m 111 ls [.int q15.1]) := by
    intro H locs ls hG hS hl
    refine lv_istore (lv' := [(5, .int q15.1), (0, .ref (ad 0)), (1, .ref tI.2.1), (2, .ref (ad 62)), (4, .int v1)]) hx hb dL_tower_111 hl (by decide) rfl (fun ls hl => ?_)
    refine lv_iconst (v := (0 : Int32)) hx hb dL_tower_113 (by decide) ?_
    refine lv_istore (lv' := [(6, .int (0 : Int32)), (5, .int q15.1), (0, .ref (ad 0)), (1, .ref tI.2.1), (2, .ref (ad 62)), (4, .int v1)]) hx hb dL_tower_114 hl (by decide) rfl (fun ls hl => ?_)
    have keyK22 : ∀ (K22 : Int32 → xMem → Option (Int32 × xMem × Nat × Nat)), (∀ (z5_24 : Int32) (I25 : xMem) (H : Heap) (locs : List Loc) (ls : Array Slot), K22 z5_24 I25 = some r → cG D cy ad P Dr I25 L H → va_S (gA 64 ad) s.heap H locs → lv_has ls 9 [(0, .ref (ad 0)), (1, .ref tI.2.1), (2, .ref (ad 62)), (4, .int v1), (5, .int z5_24)] → W p l e rm_L_tower s m args below meth c H locs 0 0 Q (F0 m 210 ls [])) → ∀ (n23 : Nat) (x5_23 : Int32) (x6_23 : Int32) (I24 : xMem) (H : Heap) (locs : List Loc) (ls : Array Slot), L_tower_L2 tI K22 n23 x5_23 x6_23 I24 = some r → cG D cy ad P Dr I24 L H → va_S (gA 64 ad) s.heap H locs → lv_has ls 9 [(0, .ref (ad 0)), (1, .ref tI.2.1), (2, .ref (ad 62)), (4, .int v1), (5, .int x5_23), (6, .int x6_23)] → W p l e rm_L_tower s m args below meth c H locs 0 0 Q (F0 m 116 ls []) := by
      intro K22 hkK22 n23
      induction n23 with
      | zero =>
        intro x5_23 x6_23 I24 H locs ls h
        exact ono h
      | succ n23 ihn23 =>
        intro x5_23 x6_23 I24 H locs ls h hG hS hl
        rw [L_tower_L2] at h
        refine lv_iload hx hb dL_tower_116 (lv_at hl 5 rfl) ?_
        refine lv_aload_n hx hb dL_tower_118 rfl (lv_at hl 2 rfl) ?_
        refine lv_iconst (v := (1 : Int32)) hx hb dL_tower_119 (by decide) ?_
        refine g_ald hx hb hK hG (k := 62) (n := 19) (show cIA 62 19 from by decide +kernel).1.1 (cIA_e (show cIA 62 19 from by decide +kernel) _ _) 0 rfl h dL_tower_120 (fun v26 h => ?_)
        refine lv_icmp_ge (tgt := 210) hx hb dL_tower_121 (by decide) (fun c27 => ?_) (fun c27 => ?_)
        · have h := ite_t h c27
          exact hkK22 x5_23 I24 _ _ _ h hG hS (lv_sub hl [0, 1, 2, 3, 4] rfl)
        · have h := ite_f h c27
          refine lv_aload_n hx hb dL_tower_124 rfl (lv_at hl 2 rfl) ?_
          refine lv_iconst (v := (3 : Int32)) hx hb dL_tower_125 (by decide) ?_
          refine lv_iload hx hb dL_tower_126 (lv_at hl 5 rfl) ?_
          refine lv_iadd hx hb dL_tower_128 ?_
          refine lv_iconst (v := (1 : Int32)) hx hb dL_tower_129 (by decide) ?_
          refine lv_aload_n hx hb dL_tower_130 rfl (lv_at hl 1 rfl) ?_
          refine lv_iconst (v := (1 : Int32)) hx hb dL_tower_131 (by decide) ?_
          obtain ⟨v28, ev28, h⟩ := obind h
          refine g_endi (va_runS (As := [.ref tI.2.1, .int (1 : Int32)]) (rest := [.int (1 : Int32), .int ((3 : Int32) + x6_23), .ref (ad 62)]) ⟨hx, hb, hml, hown, hts⟩ (k_L_cell l D cy ad P Dr tI hX I24 L (1 : Int32) v28 ev28) (va_cwS 2 hts gL_tower_L_cell rfl rfl rfl cd_L_cell.2 ⟨Nat.le_of_ble_eq_true rfl, Nat.le_of_ble_eq_true rfl⟩) ⟨g_blind cZm, g_pre cZm hK hG hZ hS⟩ rfl rfl hl.1 rfl (lv_room (Nat.le_of_ble_eq_true rfl)) dL_tower_132 ⟨Nat.le_refl _, Nat.le_refl _⟩) hS (fun H locs hG hS => ?_)
          refine lv_iconst (v := (5 : Int32)) hx hb dL_tower_135 (by decide) ?_
          refine lv_iload hx hb dL_tower_136 (lv_at hl 5 rfl) ?_
          refine lv_imul hx hb dL_tower_138 ?_
          refine lv_ishr hx hb dL_tower_139 ?_
          refine lv_bipush (v := (9 : Int32)) hx hb dL_tower_140 (by decide) ?_
          obtain ⟨v29, ev29, h⟩ := obind h
          refine g_endi (va_runS (As := [.int (v28 >>> (((5 : Int32) * x6_23) &&& 31)), .int (9 : Int32)]) (rest := [.int (1 : Int32), .int ((3 : Int32) + x6_23), .ref (ad 62)]) ⟨hx, hb, hml, hown, hts⟩ (k_L_low l D cy ad P Dr tI hX I24 L (v28 >>> (((5 : Int32) * x6_23) &&& 31)) (9 : Int32) v29 ev29) (va_cwS 2 hts gL_tower_L_low rfl rfl rfl cd_L_low.2 ⟨Nat.le_of_ble_eq_true rfl, Nat.le_of_ble_eq_true rfl⟩) ⟨g_blind cZm, g_pre cZm hK hG hZ hS⟩ rfl rfl hl.1 rfl (lv_room (Nat.le_of_ble_eq_true rfl)) dL_tower_142 ⟨Nat.le_refl _, Nat.le_refl _⟩) hS (fun H locs hG hS => ?_)
          refine lv_iadd hx hb dL_tower_145 ?_
          refine g_ast hx hb hK hG hi hS (k := 62) (n := 19) (show cIA 62 19 from by decide +kernel).1.1 (fun f => cIA_e (show cIA 62 19 from by decide +kernel) f _) 0 rfl h dL_tower_146 (fun I30 H locs h hG hS => ?_)
          refine lv_iload hx hb dL_tower_147 (lv_at hl 4 rfl) ?_
          refine lv_if_eq (tgt := 201) hx hb dL_tower_149 (by decide) (fun c31 => ?_) (fun c31 => ?_)
          · have h := ite_t h c31
            refine lv_iconst (v := (0 : Int32)) hx hb dL_tower_201 (by decide) ?_
            refine lv_istore (lv' := [(5, .int (0 : Int32)), (0, .ref (ad 0)), (1, .ref tI.2.1), (2, .ref (ad 62)), (4, .int v1), (6, .int x6_23)]) hx hb dL_tower_202 hl (by decide) rfl (fun ls hl => ?_)
            refine lv_iinc (v := (x6_23 + (1 : Int32))) (lv' := [(6, .int (x6_23 + (1 : Int32))), (5, .int (0 : Int32)), (0, .ref (ad 0)), (1, .ref tI.2.1), (2, .ref (ad 62)), (4, .int v1)]) hx hb dL_tower_204 hl (k := 5) rfl rfl (by decide) rfl (fun ls hl => ?_)
            refine lv_goto (tgt := 116) hx hb dL_tower_207 (by decide) ?_
            exact ihn23 (0 : Int32) (x6_23 + (1 : Int32)) I30 _ _ _ h hG hS (lv_sub hl [2, 3, 4, 5, 1, 0] rfl)
          · have h := ite_f h c31
            refine lv_aload_n hx hb dL_tower_152 rfl (lv_at hl 0 rfl) ?_
            refine lv_iconst (v := (0 : Int32)) hx hb dL_tower_153 (by decide) ?_
            refine lv_iconst (v := (3 : Int32)) hx hb dL_tower_154 (by decide) ?_
            refine lv_iconst (v := (2 : Int32)) hx hb dL_tower_155 (by decide) ?_
            refine lv_iload hx hb dL_tower_156 (lv_at hl 5 rfl) ?_
            refine lv_imul hx hb dL_tower_158 ?_
            refine lv_iadd hx hb dL_tower_159 ?_
            refine lv_bipush (v := (111 : Int32)) hx hb dL_tower_160 (by decide) ?_
            obtain ⟨q32, eq32, h⟩ := obind h
            refine g_endi (va_runV (As := [.int (0 : Int32), .int ((3 : Int32) + ((2 : Int32) * x6_23)), .int (111 : Int32)]) (rest := []) ⟨hx, hb, hml, hown, hts⟩ (k_X4_put l D cy ad P Dr tI hX I30 L (0 : Int32) ((3 : Int32) + ((2 : Int32) * x6_23)) (111 : Int32) q32 eq32) (cwV 3 hts gL_tower_X4_put rfl rfl rfl cd_X4_put ⟨Nat.le_of_ble_eq_true rfl, Nat.le_of_ble_eq_true rfl⟩) ⟨g_blind cZm, g_recv hK hG (k := 0) (by decide) (cE_4 _ _) vwCl_4, g_pre cZm hK hG hZ hS⟩ rfl rfl hl.1 rfl (lv_room (Nat.le_of_ble_eq_true rfl)) dL_tower_162 ⟨Nat.le_refl _, Nat.le_refl _⟩) hS (fun H locs hG hS => ?_)
            refine lv_sipush (v := (1032 : Int32)) hx hb dL_tower_165 (by decide) ?_
            refine lv_icmp_ne (tgt := 201) hx hb dL_tower_168 (by decide) (fun c33 => ?_) (fun c33 => ?_)
            · have h := ite_f h c33
              refine lv_iconst (v := (0 : Int32)) hx hb dL_tower_201 (by decide) ?_
              refine lv_istore (lv' := [(5, .int (0 : Int32)), (0, .ref (ad 0)), (1, .ref tI.2.1), (2, .ref (ad 62)), (4, .int v1), (6, .int x6_23)]) hx hb dL_tower_202 hl (by decide) rfl (fun ls hl => ?_)
              refine lv_iinc (v := (x6_23 + (1 : Int32))) (lv' := [(6, .int (x6_23 + (1 : Int32))), (5, .int (0 : Int32)), (0, .ref (ad 0)), (1, .ref tI.2.1), (2, .ref (ad 62)), (4, .int v1)]) hx hb dL_tower_204 hl (k := 5) rfl rfl (by decide) rfl (fun ls hl => ?_)
              refine lv_goto (tgt := 116) hx hb dL_tower_207 (by decide) ?_
              exact ihn23 (0 : Int32) (x6_23 + (1 : Int32)) q32.2 _ _ _ h hG hS (lv_sub hl [2, 3, 4, 5, 1, 0] rfl)
            · have h := ite_t h c33
              refine lv_aload_n hx hb dL_tower_171 rfl (lv_at hl 0 rfl) ?_
              refine lv_iconst (v := (0 : Int32)) hx hb dL_tower_172 (by decide) ?_
              refine lv_iconst (v := (4 : Int32)) hx hb dL_tower_173 (by decide) ?_
              refine lv_iconst (v := (2 : Int32)) hx hb dL_tower_174 (by decide) ?_
              refine lv_iload hx hb dL_tower_175 (lv_at hl 5 rfl) ?_
              refine lv_imul hx hb dL_tower_177 ?_
              refine lv_iadd hx hb dL_tower_178 ?_
              refine lv_bipush (v := (48 : Int32)) hx hb dL_tower_179 (by decide) ?_
              refine lv_aload_n hx hb dL_tower_181 rfl (lv_at hl 2 rfl) ?_
              refine lv_iconst (v := (3 : Int32)) hx hb dL_tower_182 (by decide) ?_
              refine lv_iload hx hb dL_tower_183 (lv_at hl 5 rfl) ?_
              refine lv_iadd hx hb dL_tower_185 ?_
              refine g_ald hx hb hK hG (k := 62) (n := 19) (show cIA 62 19 from by decide +kernel).1.1 (cIA_e (show cIA 62 19 from by decide +kernel) _ _) 0 rfl h dL_tower_186 (fun v34 h => ?_)
              refine lv_iadd hx hb dL_tower_187 ?_
              obtain ⟨q35, eq35, h⟩ := obind h
              refine g_endi (va_runV (As := [.int (0 : Int32), .int ((4 : Int32) + ((2 : Int32) * x6_23)), .int ((48 : Int32) + v34)]) (rest := []) ⟨hx, hb, hml, hown, hts⟩ (k_X4_put l D cy ad P Dr tI hX q32.2 L (0 : Int32) ((4 : Int32) + ((2 : Int32) * x6_23)) ((48 : Int32) + v34) q35 eq35) (cwV 3 hts gL_tower_X4_put rfl rfl rfl cd_X4_put ⟨Nat.le_of_ble_eq_true rfl, Nat.le_of_ble_eq_true rfl⟩) ⟨g_blind cZm, g_recv hK hG (k := 0) (by decide) (cE_4 _ _) vwCl_4, g_pre cZm hK hG hZ hS⟩ rfl rfl hl.1 rfl (lv_room (Nat.le_of_ble_eq_true rfl)) dL_tower_188 ⟨Nat.le_refl _, Nat.le_refl _⟩) hS (fun H locs hG hS => ?_)
              refine lv_sipush (v := (1032 : Int32)) hx hb dL_tower_191 (by decide) ?_
              refine lv_icmp_ne (tgt := 201) hx hb dL_tower_194 (by decide) (fun c36 => ?_) (fun c36 => ?_)
              · have h := ite_f h c36
                refine lv_iconst (v := (0 : Int32)) hx hb dL_tower_201 (by decide) ?_
                refine lv_istore (lv' := [(5, .int (0 : Int32)), (0, .ref (ad 0)), (1, .ref tI.2.1), (2, .ref (ad 62)), (4, .int v1), (6, .int x6_23)]) hx hb dL_tower_202 hl (by decide) rfl (fun ls hl => ?_)
                refine lv_iinc (v := (x6_23 + (1 : Int32))) (lv' := [(6, .int (x6_23 + (1 : Int32))), (5, .int (0 : Int32)), (0, .ref (ad 0)), (1, .ref tI.2.1), (2, .ref (ad 62)), (4, .int v1)]) hx hb dL_tower_204 hl (k := 5) rfl rfl (by decide) rfl (fun ls hl => ?_)
                refine lv_goto (tgt := 116) hx hb dL_tower_207 (by decide) ?_
                exact ihn23 (0 : Int32) (x6_23 + (1 : Int32)) q35.2 _ _ _ h hG hS (lv_sub hl [2, 3, 4, 5, 1, 0] rfl)
              · have h := ite_t h c36
                refine lv_iconst (v := (1 : Int32)) hx hb dL_tower_197 (by decide) ?_
                refine lv_goto (tgt := 202) hx hb dL_tower_198 (by decide) ?_
                refine lv_istore (lv' := [(5, .int (1 : Int32)), (0, .ref (ad 0)), (1, .ref tI.2.1), (2, .ref (ad 62)), (4, .int v1), (6, .int x6_23)]) hx hb dL_tower_202 hl (by decide) rfl (fun ls hl => ?_)
                refine lv_iinc (v := (x6_23 + (1 : Int32))) (lv' := [(6, .int (x6_23 + (1 : Int32))), (5, .int (1 : Int32)), (0, .ref (ad 0)), (1, .ref tI.2.1), (2, .ref (ad 62)), (4, .int v1)]) hx hb dL_tower_204 hl (k := 5) rfl rfl (by decide) rfl (fun ls hl => ?_)
                refine lv_goto (tgt := 116) hx hb dL_tower_207 (by decide) ?_
                exact ihn23 (1 : Int32) (x6_23 + (1 : Int32)) q35.2 _ _ _ h hG hS (lv_sub hl [2, 3, 4, 5, 1, 0] rfl)
    refine keyK22 _ (fun z5_24 I25 H locs ls h hG hS hl => ?_) bigF q15.1 (0 : Int32) q15.2 _ _ _ h hG hS (lv_sub hl [2, 3, 4, 5, 1, 0] rfl)
    clear keyK22
    refine lv_iconst (v := (0 : Int32)) hx hb dL_tower_210 (by decide) ?_
    refine lv_istore (lv' := [(6, .int (0 : Int32)), (0, .ref (ad 0)), (1, .ref tI.2.1), (2, .ref (ad 62)), (4, .int v1), (5, .int z5_24)]) hx hb dL_tower_211 hl (by decide) rfl (fun ls hl => ?_)
    have keyK37 : ∀ (K37 : Int32 → xMem → Option (Int32 × xMem × Nat × Nat)), (∀ (z5_39 : Int32) (I40 : xMem) (H : Heap) (locs : List Loc) (ls : Array Slot), K37 z5_39 I40 = some r → cG D cy ad P Dr I40 L H → va_S (gA 64 ad) s.heap H locs → lv_has ls 9 [(0, .ref (ad 0)), (2, .ref (ad 62)), (5, .int z5_39)] → W p l e rm_L_tower s m args below meth c H locs 0 0 Q (F0 m 393 ls [])) → ∀ (n38 : Nat) (x5_38 : Int32) (x6_38 : Int32) (I39 : xMem) (H : Heap) (locs : List Loc) (ls : Array Slot), L_tower_L3 tI v1 K37 n38 x5_38 x6_38 I39 = some r → cG D cy ad P Dr I39 L H → va_S (gA 64 ad) s.heap H locs → lv_has ls 9 [(0, .ref (ad 0)), (1, .ref tI.2.1), (2, .ref (ad 62)), (4, .int v1), (5, .int x5_38), (6, .int x6_38)] → W p l e rm_L_tower s m args below meth c H locs 0 0 Q (F0 m 213 ls []) := by
      intro K37 hkK37 n38
      induction n38 with
      | zero =>
        intro x5_38 x6_38 I39 H locs ls h
        exact ono h
      | succ n38 ihn38 =>
        intro x5_38 x6_38 I39 H locs ls h hG hS hl
        rw [L_tower_L3] at h
        refine lv_iload hx hb dL_tower_213 (lv_at hl 5 rfl) ?_
        refine lv_aload_n hx hb dL_tower_215 rfl (lv_at hl 2 rfl) ?_
        refine lv_iconst (v := (0 : Int32)) hx hb dL_tower_216 (by decide) ?_
        refine g_ald hx hb hK hG (k := 62) (n := 19) (show cIA 62 19 from by decide +kernel).1.1 (cIA_e (show cIA 62 19 from by decide +kernel) _ _) 0 rfl h dL_tower_217 (fun v41 h => ?_)
        refine lv_icmp_ge (tgt := 393) hx hb dL_tower_218 (by decide) (fun c42 => ?_) (fun c42 => ?_)
        · have h := ite_t h c42
          exact hkK37 x5_38 I39 _ _ _ h hG hS (lv_sub hl [0, 2, 4] rfl)
        · have h := ite_f h c42
          refine lv_aload_n hx hb dL_tower_221 rfl (lv_at hl 1 rfl) ?_
          refine lv_iconst (v := (2 : Int32)) hx hb dL_tower_222 (by decide) ?_
          refine lv_iload hx hb dL_tower_223 (lv_at hl 5 rfl) ?_
          refine lv_iadd hx hb dL_tower_225 ?_
          obtain ⟨v43, ev43, h⟩ := obind h
          refine g_endi (va_runS (As := [.ref tI.2.1, .int ((2 : Int32) + x6_38)]) (rest := []) ⟨hx, hb, hml, hown, hts⟩ (k_L_cell l D cy ad P Dr tI hX I39 L ((2 : Int32) + x6_38) v43 ev43) (va_cwS 2 hts gL_tower_L_cell rfl rfl rfl cd_L_cell.2 ⟨Nat.le_of_ble_eq_true rfl, Nat.le_of_ble_eq_true rfl⟩) ⟨g_blind cZm, g_pre cZm hK hG hZ hS⟩ rfl rfl hl.1 rfl (lv_room (Nat.le_of_ble_eq_true rfl)) dL_tower_226 ⟨Nat.le_refl _, Nat.le_refl _⟩) hS (fun H locs hG hS => ?_)
          refine lv_istore (lv' := [(7, .int v43), (0, .ref (ad 0)), (1, .ref tI.2.1), (2, .ref (ad 62)), (4, .int v1), (5, .int x5_38), (6, .int x6_38)]) hx hb dL_tower_229 hl (by decide) rfl (fun ls hl => ?_)
          refine lv_bipush (v := (12 : Int32)) hx hb dL_tower_231 (by decide) ?_
          refine lv_iconst (v := (4 : Int32)) hx hb dL_tower_233 (by decide) ?_
          refine lv_iload hx hb dL_tower_234 (lv_at hl 6 rfl) ?_
          refine lv_imul hx hb dL_tower_236 ?_
          refine lv_iadd hx hb dL_tower_237 ?_
          refine lv_istore (lv' := [(8, .int ((12 : Int32) + ((4 : Int32) * x6_38))), (7, .int v43), (0, .ref (ad 0)), (1, .ref tI.2.1), (2, .ref (ad 62)), (4, .int v1), (5, .int x5_38), (6, .int x6_38)]) hx hb dL_tower_238 hl (by decide) rfl (fun ls hl => ?_)
          refine lv_aload_n hx hb dL_tower_240 rfl (lv_at hl 4 rfl) ?_
          refine lv_bipush (v := (7 : Int32)) hx hb dL_tower_241 (by decide) ?_
          refine lv_iload hx hb dL_tower_243 (lv_at hl 7 rfl) ?_
          refine lv_iadd hx hb dL_tower_245 ?_
          refine lv_iload hx hb dL_tower_246 (lv_at hl 1 rfl) ?_
          refine lv_bipush (v := (6 : Int32)) hx hb dL_tower_248 (by decide) ?_
          obtain ⟨v44, ev44, h⟩ := obind h
          refine g_endi (va_runS (As := [.int v43, .int (6 : Int32)]) (rest := [.int ((7 : Int32) + x6_38), .ref (ad 62)]) ⟨hx, hb, hml, hown, hts⟩ (k_L_low l D cy ad P Dr tI hX I39 L v43 (6 : Int32) v44 ev44) (va_cwS 2 hts gL_tower_L_low rfl rfl rfl cd_L_low.2 ⟨Nat.le_of_ble_eq_true rfl, Nat.le_of_ble_eq_true rfl⟩) ⟨g_blind cZm, g_pre cZm hK hG hZ hS⟩ rfl rfl hl.1 rfl (lv_room (Nat.le_of_ble_eq_true rfl)) dL_tower_250 ⟨Nat.le_refl _, Nat.le_refl _⟩) hS (fun H locs hG hS => ?_)
          refine g_ast hx hb hK hG hi hS (k := 62) (n := 19) (show cIA 62 19 from by decide +kernel).1.1 (fun f => cIA_e (show cIA 62 19 from by decide +kernel) f _) 0 rfl h dL_tower_253 (fun I45 H locs h hG hS => ?_)
          refine lv_aload_n hx hb dL_tower_254 rfl (lv_at hl 4 rfl) ?_
          refine lv_bipush (v := (13 : Int32)) hx hb dL_tower_255 (by decide) ?_
          refine lv_iload hx hb dL_tower_257 (lv_at hl 7 rfl) ?_
          refine lv_iadd hx hb dL_tower_259 ?_
          refine lv_iload hx hb dL_tower_260 (lv_at hl 5 rfl) ?_
          refine lv_bipush (v := (20 : Int32)) hx hb dL_tower_262 (by decide) ?_
          refine lv_ishr hx hb dL_tower_264 ?_
          refine lv_iconst (v := (1 : Int32)) hx hb dL_tower_265 (by decide) ?_
          refine lv_iand hx hb dL_tower_266 ?_
          obtain ⟨q46, h9, h⟩ := obind h
          have hk_q46 : ∀ (H : Heap) (locs : List Loc) (ls : Array Slot), cG D cy ad P Dr I45 L H → va_S (gA 64 ad) s.heap H locs → lv_has ls 9 [(0, .ref (ad 0)), (1, .ref tI.2.1), (2, .ref (ad 62)), (4, .int v1), (5, .int x5_38), (6, .int x6_38), (8, .int ((12 : Int32) + ((4 : Int32) * x6_38)))] → W p l e rm_L_tower s m args below meth c H locs 0 0 Q (F0 m 295 ls [.int q46, .int ((13 : Int32) + x6_38), .ref (ad 62)]) := by
            intro H locs ls hG hS hl
            refine g_ast hx hb hK hG hi hS (k := 62) (n := 19) (show cIA 62 19 from by decide +kernel).1.1 (fun f => cIA_e (show cIA 62 19 from by decide +kernel) f _) 0 rfl h dL_tower_295 (fun I50 H locs h hG hS => ?_)
            refine lv_iload hx hb dL_tower_296 (lv_at hl 4 rfl) ?_
            refine lv_if_eq (tgt := 384) hx hb dL_tower_298 (by decide) (fun c51 => ?_) (fun c51 => ?_)
            · have h := ite_t h c51
              refine lv_iconst (v := (0 : Int32)) hx hb dL_tower_384 (by decide) ?_
              refine lv_istore (lv' := [(5, .int (0 : Int32)), (0, .ref (ad 0)), (1, .ref tI.2.1), (2, .ref (ad 62)), (4, .int v1), (6, .int x6_38), (8, .int ((12 : Int32) + ((4 : Int32) * x6_38)))]) hx hb dL_tower_385 hl (by decide) rfl (fun ls hl => ?_)
              refine lv_iinc (v := (x6_38 + (1 : Int32))) (lv' := [(6, .int (x6_38 + (1 : Int32))), (5, .int (0 : Int32)), (0, .ref (ad 0)), (1, .ref tI.2.1), (2, .ref (ad 62)), (4, .int v1), (8, .int ((12 : Int32) + ((4 : Int32) * x6_38)))]) hx hb dL_tower_387 hl (k := 5) rfl rfl (by decide) rfl (fun ls hl => ?_)
              refine lv_goto (tgt := 213) hx hb dL_tower_390 (by decide) ?_
              exact ihn38 (0 : Int32) (x6_38 + (1 : Int32)) I50 _ _ _ h hG hS (lv_sub hl [2, 3, 4, 5, 1, 0] rfl)
            · have h := ite_f h c51
              refine lv_aload_n hx hb dL_tower_301 rfl (lv_at hl 0 rfl) ?_
              refine lv_iconst (v := (0 : Int32)) hx hb dL_tower_302 (by decide) ?_
              refine lv_iload hx hb dL_tower_303 (lv_at hl 6 rfl) ?_
              refine lv_aload_n hx hb dL_tower_305 rfl (lv_at hl 2 rfl) ?_
              refine lv_bipush (v := (7 : Int32)) hx hb dL_tower_306 (by decide) ?_
              refine lv_iload hx hb dL_tower_308 (lv_at hl 5 rfl) ?_
              refine lv_iadd hx hb dL_tower_310 ?_
              refine g_ald hx hb hK hG (k := 62) (n := 19) (show cIA 62 19 from by decide +kernel).1.1 (cIA_e (show cIA 62 19 from by decide +kernel) _ _) 0 rfl h dL_tower_311 (fun v52 h => ?_)
              refine g_endi (va_runS (As := [.int v52]) (rest := [.int ((12 : Int32) + ((4 : Int32) * x6_38)), .int (0 : Int32), .ref (ad 0)]) ⟨hx, hb, hml, hown, hts⟩ (k_L_letter l D cy ad P Dr tI hX I50 L v52 _ rfl) (va_cwS 1 hts gL_tower_L_letter rfl rfl rfl cd_L_letter.2 ⟨Nat.le_of_ble_eq_true rfl, Nat.le_of_ble_eq_true rfl⟩) ⟨g_blind cZm, g_pre cZm hK hG hZ hS⟩ rfl rfl hl.1 rfl (lv_room (Nat.le_of_ble_eq_true rfl)) dL_tower_312 ⟨Nat.le_refl _, Nat.le_refl _⟩) hS (fun H locs hG hS => ?_)
              obtain ⟨q53, eq53, h⟩ := obind h
              refine g_endi (va_runV (As := [.int (0 : Int32), .int ((12 : Int32) + ((4 : Int32) * x6_38)), .int (L_letter v52)]) (rest := []) ⟨hx, hb, hml, hown, hts⟩ (k_X4_put l D cy ad P Dr tI hX I50 L (0 : Int32) ((12 : Int32) + ((4 : Int32) * x6_38)) (L_letter v52) q53 eq53) (cwV 3 hts gL_tower_X4_put rfl rfl rfl cd_X4_put ⟨Nat.le_of_ble_eq_true rfl, Nat.le_of_ble_eq_true rfl⟩) ⟨g_blind cZm, g_recv hK hG (k := 0) (by decide) (cE_4 _ _) vwCl_4, g_pre cZm hK hG hZ hS⟩ rfl rfl hl.1 rfl (lv_room (Nat.le_of_ble_eq_true rfl)) dL_tower_315 ⟨Nat.le_refl _, Nat.le_refl _⟩) hS (fun H locs hG hS => ?_)
              refine lv_sipush (v := (1032 : Int32)) hx hb dL_tower_318 (by decide) ?_
              refine lv_icmp_ne (tgt := 384) hx hb dL_tower_321 (by decide) (fun c54 => ?_) (fun c54 => ?_)
              · have h := ite_f h c54
                refine lv_iconst (v := (0 : Int32)) hx hb dL_tower_384 (by decide) ?_
                refine lv_istore (lv' := [(5, .int (0 : Int32)), (0, .ref (ad 0)), (1, .ref tI.2.1), (2, .ref (ad 62)), (4, .int v1), (6, .int x6_38), (8, .int ((12 : Int32) + ((4 : Int32) * x6_38)))]) hx hb dL_tower_385 hl (by decide) rfl (fun ls hl => ?_)
                refine lv_iinc (v := (x6_38 + (1 : Int32))) (lv' := [(6, .int (x6_38 + (1 : Int32))), (5, .int (0 : Int32)), (0, .ref (ad 0)), (1, .ref tI.2.1), (2, .ref (ad 62)), (4, .int v1), (8, .int ((12 : Int32) + ((4 : Int32) * x6_38)))]) hx hb dL_tower_387 hl (k := 5) rfl rfl (by decide) rfl (fun ls hl => ?_)
                refine lv_goto (tgt := 213) hx hb dL_tower_390 (by decide) ?_
                exact ihn38 (0 : Int32) (x6_38 + (1 : Int32)) q53.2 _ _ _ h hG hS (lv_sub hl [2, 3, 4, 5, 1, 0] rfl)
              · have h := ite_t h c54
                refine lv_aload_n hx hb dL_tower_324 rfl (lv_at hl 0 rfl) ?_
                refine lv_iconst (v := (0 : Int32)) hx hb dL_tower_325 (by decide) ?_
                refine lv_iload hx hb dL_tower_326 (lv_at hl 6 rfl) ?_
                refine lv_iconst (v := (1 : Int32)) hx hb dL_tower_328 (by decide) ?_
                refine lv_iadd hx hb dL_tower_329 ?_
                refine lv_bipush (v := (48 : Int32)) hx hb dL_tower_330 (by decide) ?_
                refine lv_aload_n hx hb dL_tower_332 rfl (lv_at hl 2 rfl) ?_
                refine lv_bipush (v := (13 : Int32)) hx hb dL_tower_333 (by decide) ?_
                refine lv_iload hx hb dL_tower_335 (lv_at hl 5 rfl) ?_
                refine lv_iadd hx hb dL_tower_337 ?_
                refine g_ald hx hb hK hG (k := 62) (n := 19) (show cIA 62 19 from by decide +kernel).1.1 (cIA_e (show cIA 62 19 from by decide +kernel) _ _) 0 rfl h dL_tower_338 (fun v55 h => ?_)
                refine lv_bipush (v := (10 : Int32)) hx hb dL_tower_339 (by decide) ?_
                refine lv_idiv hx hb dL_tower_341 (by decide) ?_
                refine lv_iadd hx hb dL_tower_342 ?_
                obtain ⟨q56, eq56, h⟩ := obind h
                refine g_endi (va_runV (As := [.int (0 : Int32), .int (((12 : Int32) + ((4 : Int32) * x6_38)) + (1 : Int32)), .int ((48 : Int32) + (v55 / (10 : Int32)))]) (rest := []) ⟨hx, hb, hml, hown, hts⟩ (k_X4_put l D cy ad P Dr tI hX q53.2 L (0 : Int32) (((12 : Int32) + ((4 : Int32) * x6_38)) + (1 : Int32)) ((48 : Int32) + (v55 / (10 : Int32))) q56 eq56) (cwV 3 hts gL_tower_X4_put rfl rfl rfl cd_X4_put ⟨Nat.le_of_ble_eq_true rfl, Nat.le_of_ble_eq_true rfl⟩) ⟨g_blind cZm, g_recv hK hG (k := 0) (by decide) (cE_4 _ _) vwCl_4, g_pre cZm hK hG hZ hS⟩ rfl rfl hl.1 rfl (lv_room (Nat.le_of_ble_eq_true rfl)) dL_tower_343 ⟨Nat.le_refl _, Nat.le_refl _⟩) hS (fun H locs hG hS => ?_)
                refine lv_sipush (v := (1032 : Int32)) hx hb dL_tower_346 (by decide) ?_
                refine lv_icmp_ne (tgt := 384) hx hb dL_tower_349 (by decide) (fun c57 => ?_) (fun c57 => ?_)
                · have h := ite_f h c57
                  refine lv_iconst (v := (0 : Int32)) hx hb dL_tower_384 (by decide) ?_
                  refine lv_istore (lv' := [(5, .int (0 : Int32)), (0, .ref (ad 0)), (1, .ref tI.2.1), (2, .ref (ad 62)), (4, .int v1), (6, .int x6_38), (8, .int ((12 : Int32) + ((4 : Int32) * x6_38)))]) hx hb dL_tower_385 hl (by decide) rfl (fun ls hl => ?_)
                  refine lv_iinc (v := (x6_38 + (1 : Int32))) (lv' := [(6, .int (x6_38 + (1 : Int32))), (5, .int (0 : Int32)), (0, .ref (ad 0)), (1, .ref tI.2.1), (2, .ref (ad 62)), (4, .int v1), (8, .int ((12 : Int32) + ((4 : Int32) * x6_38)))]) hx hb dL_tower_387 hl (k := 5) rfl rfl (by decide) rfl (fun ls hl => ?_)
                  refine lv_goto (tgt := 213) hx hb dL_tower_390 (by decide) ?_
                  exact ihn38 (0 : Int32) (x6_38 + (1 : Int32)) q56.2 _ _ _ h hG hS (lv_sub hl [2, 3, 4, 5, 1, 0] rfl)
                · have h := ite_t h c57
                  refine lv_aload_n hx hb dL_tower_352 rfl (lv_at hl 0 rfl) ?_
                  refine lv_iconst (v := (0 : Int32)) hx hb dL_tower_353 (by decide) ?_
                  refine lv_iload hx hb dL_tower_354 (lv_at hl 6 rfl) ?_
                  refine lv_iconst (v := (2 : Int32)) hx hb dL_tower_356 (by decide) ?_
                  refine lv_iadd hx hb dL_tower_357 ?_
                  refine lv_bipush (v := (48 : Int32)) hx hb dL_tower_358 (by decide) ?_
                  refine lv_aload_n hx hb dL_tower_360 rfl (lv_at hl 2 rfl) ?_
                  refine lv_bipush (v := (13 : Int32)) hx hb dL_tower_361 (by decide) ?_
                  refine lv_iload hx hb dL_tower_363 (lv_at hl 5 rfl) ?_
                  refine lv_iadd hx hb dL_tower_365 ?_
                  refine g_ald hx hb hK hG (k := 62) (n := 19) (show cIA 62 19 from by decide +kernel).1.1 (cIA_e (show cIA 62 19 from by decide +kernel) _ _) 0 rfl h dL_tower_366 (fun v58 h => ?_)
                  refine lv_bipush (v := (10 : Int32)) hx hb dL_tower_367 (by decide) ?_
                  refine lv_irem hx hb dL_tower_369 (by decide) ?_
                  refine lv_iadd hx hb dL_tower_370 ?_
                  obtain ⟨q59, eq59, h⟩ := obind h
                  refine g_endi (va_runV (As := [.int (0 : Int32), .int (((12 : Int32) + ((4 : Int32) * x6_38)) + (2 : Int32)), .int ((48 : Int32) + (v58 - v58 / (10 : Int32) * (10 : Int32)))]) (rest := []) ⟨hx, hb, hml, hown, hts⟩ (k_X4_put l D cy ad P Dr tI hX q56.2 L (0 : Int32) (((12 : Int32) + ((4 : Int32) * x6_38)) + (2 : Int32)) ((48 : Int32) + (v58 - v58 / (10 : Int32) * (10 : Int32))) q59 eq59) (cwV 3 hts gL_tower_X4_put rfl rfl rfl cd_X4_put ⟨Nat.le_of_ble_eq_true rfl, Nat.le_of_ble_eq_true rfl⟩) ⟨g_blind cZm, g_recv hK hG (k := 0) (by decide) (cE_4 _ _) vwCl_4, g_pre cZm hK hG hZ hS⟩ rfl rfl hl.1 rfl (lv_room (Nat.le_of_ble_eq_true rfl)) dL_tower_371 ⟨Nat.le_refl _, Nat.le_refl _⟩) hS (fun H locs hG hS => ?_)
                  refine lv_sipush (v := (1032 : Int32)) hx hb dL_tower_374 (by decide) ?_
                  refine lv_icmp_ne (tgt := 384) hx hb dL_tower_377 (by decide) (fun c60 => ?_) (fun c60 => ?_)
                  · have h := ite_f h c60
                    refine lv_iconst (v := (0 : Int32)) hx hb dL_tower_384 (by decide) ?_
                    refine lv_istore (lv' := [(5, .int (0 : Int32)), (0, .ref (ad 0)), (1, .ref tI.2.1), (2, .ref (ad 62)), (4, .int v1), (6, .int x6_38), (8, .int ((12 : Int32) + ((4 : Int32) * x6_38)))]) hx hb dL_tower_385 hl (by decide) rfl (fun ls hl => ?_)
                    refine lv_iinc (v := (x6_38 + (1 : Int32))) (lv' := [(6, .int (x6_38 + (1 : Int32))), (5, .int (0 : Int32)), (0, .ref (ad 0)), (1, .ref tI.2.1), (2, .ref (ad 62)), (4, .int v1), (8, .int ((12 : Int32) + ((4 : Int32) * x6_38)))]) hx hb dL_tower_387 hl (k := 5) rfl rfl (by decide) rfl (fun ls hl => ?_)
                    refine lv_goto (tgt := 213) hx hb dL_tower_390 (by decide) ?_
                    exact ihn38 (0 : Int32) (x6_38 + (1 : Int32)) q59.2 _ _ _ h hG hS (lv_sub hl [2, 3, 4, 5, 1, 0] rfl)
                  · have h := ite_t h c60
                    refine lv_iconst (v := (1 : Int32)) hx hb dL_tower_380 (by decide) ?_
                    refine lv_goto (tgt := 385) hx hb dL_tower_381 (by decide) ?_
                    refine lv_istore (lv' := [(5, .int (1 : Int32)), (0, .ref (ad 0)), (1, .ref tI.2.1), (2, .ref (ad 62)), (4, .int v1), (6, .int x6_38), (8, .int ((12 : Int32) + ((4 : Int32) * x6_38)))]) hx hb dL_tower_385 hl (by decide) rfl (fun ls hl => ?_)
                    refine lv_iinc (v := (x6_38 + (1 : Int32))) (lv' := [(6, .int (x6_38 + (1 : Int32))), (5, .int (1 : Int32)), (0, .ref (ad 0)), (1, .ref tI.2.1), (2, .ref (ad 62)), (4, .int v1), (8, .int ((12 : Int32) + ((4 : Int32) * x6_38)))]) hx hb dL_tower_387 hl (k := 5) rfl rfl (by decide) rfl (fun ls hl => ?_)
                    refine lv_goto (tgt := 213) hx hb dL_tower_390 (by decide) ?_
                    exact ihn38 (1 : Int32) (x6_38 + (1 : Int32)) q59.2 _ _ _ h hG hS (lv_sub hl [2, 3, 4, 5, 1, 0] rfl)
          clear h
          have h := h9
          clear h9
          refine lv_if_ne (tgt := 284) hx hb dL_tower_267 (by decide) (fun c47 => ?_) (fun c47 => ?_)
          · have h := ite_f h c47
            refine lv_iconst (v := (1 : Int32)) hx hb dL_tower_284 (by decide) ?_
            refine lv_iload hx hb dL_tower_285 (lv_at hl 1 rfl) ?_
            refine lv_iconst (v := (3 : Int32)) hx hb dL_tower_287 (by decide) ?_
            refine lv_ishr hx hb dL_tower_288 ?_
            refine lv_bipush (v := (99 : Int32)) hx hb dL_tower_289 (by decide) ?_
            obtain ⟨v48, ev48, h⟩ := obind h
            refine g_endi (va_runS (As := [.int (v43 >>> ((3 : Int32) &&& 31)), .int (99 : Int32)]) (rest := [.int (1 : Int32), .int ((13 : Int32) + x6_38), .ref (ad 62)]) ⟨hx, hb, hml, hown, hts⟩ (k_L_low l D cy ad P Dr tI hX I45 L (v43 >>> ((3 : Int32) &&& 31)) (99 : Int32) v48 ev48) (va_cwS 2 hts gL_tower_L_low rfl rfl rfl cd_L_low.2 ⟨Nat.le_of_ble_eq_true rfl, Nat.le_of_ble_eq_true rfl⟩) ⟨g_blind cZm, g_pre cZm hK hG hZ hS⟩ rfl rfl hl.1 rfl (lv_room (Nat.le_of_ble_eq_true rfl)) dL_tower_291 ⟨Nat.le_refl _, Nat.le_refl _⟩) hS (fun H locs hG hS => ?_)
            refine lv_iadd hx hb dL_tower_294 ?_
            have h := Option.some.inj h
            subst h
            exact hk_q46 _ _ _ hG hS (lv_sub hl [2, 3, 4, 5, 6, 7, 0] rfl)
          · have h := ite_t h c47
            refine lv_iconst (v := (1 : Int32)) hx hb dL_tower_270 (by decide) ?_
            refine lv_iload hx hb dL_tower_271 (lv_at hl 1 rfl) ?_
            refine lv_iconst (v := (3 : Int32)) hx hb dL_tower_273 (by decide) ?_
            refine lv_ishr hx hb dL_tower_274 ?_
            refine lv_bipush (v := (30 : Int32)) hx hb dL_tower_275 (by decide) ?_
            obtain ⟨v49, ev49, h⟩ := obind h
            refine g_endi (va_runS (As := [.int (v43 >>> ((3 : Int32) &&& 31)), .int (30 : Int32)]) (rest := [.int (1 : Int32), .int ((13 : Int32) + x6_38), .ref (ad 62)]) ⟨hx, hb, hml, hown, hts⟩ (k_L_low l D cy ad P Dr tI hX I45 L (v43 >>> ((3 : Int32) &&& 31)) (30 : Int32) v49 ev49) (va_cwS 2 hts gL_tower_L_low rfl rfl rfl cd_L_low.2 ⟨Nat.le_of_ble_eq_true rfl, Nat.le_of_ble_eq_true rfl⟩) ⟨g_blind cZm, g_pre cZm hK hG hZ hS⟩ rfl rfl hl.1 rfl (lv_room (Nat.le_of_ble_eq_true rfl)) dL_tower_277 ⟨Nat.le_refl _, Nat.le_refl _⟩) hS (fun H locs hG hS => ?_)
            refine lv_iadd hx hb dL_tower_280 ?_
            refine lv_goto (tgt := 295) hx hb dL_tower_281 (by decide) ?_
            have h := Option.some.inj h
            subst h
            exact hk_q46 _ _ _ hG hS (lv_sub hl [2, 3, 4, 5, 6, 7, 0] rfl)
    refine keyK37 _ (fun z5_39 I40 H locs ls h hG hS hl => ?_) bigF z5_24 (0 : Int32) I25 _ _ _ h hG hS (lv_sub hl [1, 2, 3, 4, 5, 0] rfl)
    clear keyK37
    refine lv_iload hx hb dL_tower_393 (lv_at hl 2 rfl) ?_
    refine lv_if_eq (tgt := 423) hx hb dL_tower_395 (by decide) (fun c61 => ?_) (fun c61 => ?_)
    · have h := ite_t h c61
      refine lv_iconst (v := (0 : Int32)) hx hb dL_tower_423 (by decide) ?_
      have h := Option.some.inj h
      subst h
      subst hQ
      exact g_zret hx hb hr hlocks cZm hK hZ hG hS rfl dL_tower_424
    · have h := ite_f h c61
      refine lv_aload_n hx hb dL_tower_398 rfl (lv_at hl 0 rfl) ?_
      refine lv_iconst (v := (0 : Int32)) hx hb dL_tower_399 (by decide) ?_
      obtain ⟨q62, eq62, h⟩ := obind h
      refine g_endi (va_runV (As := [.int (0 : Int32)]) (rest := []) ⟨hx, hb, hml, hown, hts⟩ (k_X4_fault l D cy ad P Dr tI hX I40 L (0 : Int32) q62 eq62) (cwV 1 hts gL_tower_X4_fault rfl rfl rfl cd_X4_fault ⟨Nat.le_of_ble_eq_true rfl, Nat.le_of_ble_eq_true rfl⟩) ⟨g_blind cZm, g_recv hK hG (k := 0) (by decide) (cE_4 _ _) vwCl_4, g_pre cZm hK hG hZ hS⟩ rfl rfl hl.1 rfl (lv_room (Nat.le_of_ble_eq_true rfl)) dL_tower_400 ⟨Nat.le_refl _, Nat.le_refl _⟩) hS (fun H locs hG hS => ?_)
      refine lv_bipush (v := (-9 : Int32)) hx hb dL_tower_403 (by decide) ?_
      refine lv_icmp_ne (tgt := 423) hx hb dL_tower_405 (by decide) (fun c63 => ?_) (fun c63 => ?_)
      · have h := ite_f h c63
        refine lv_iconst (v := (0 : Int32)) hx hb dL_tower_423 (by decide) ?_
        have h := Option.some.inj h
        subst h
        subst hQ
        exact g_zret hx hb hr hlocks cZm hK hZ hG hS rfl dL_tower_424
      · have h := ite_t h c63
        refine lv_aload_n hx hb dL_tower_408 rfl (lv_at hl 0 rfl) ?_
        refine lv_iconst (v := (0 : Int32)) hx hb dL_tower_409 (by decide) ?_
        obtain ⟨q64, eq64, h⟩ := obind h
        refine g_endi (va_runV (As := [.int (0 : Int32)]) (rest := []) ⟨hx, hb, hml, hown, hts⟩ (k_X4_tower l D cy ad P Dr tI hX q62.2 L (0 : Int32) q64 eq64) (cwV 1 hts gL_tower_X4_tower rfl rfl rfl cd_X4_tower ⟨Nat.le_of_ble_eq_true rfl, Nat.le_of_ble_eq_true rfl⟩) ⟨g_blind cZm, g_recv hK hG (k := 0) (by decide) (cE_4 _ _) vwCl_4, g_pre cZm hK hG hZ hS⟩ rfl rfl hl.1 rfl (lv_room (Nat.le_of_ble_eq_true rfl)) dL_tower_410 ⟨Nat.le_refl _, Nat.le_refl _⟩) hS (fun H locs hG hS => ?_)
        refine lv_aload_n hx hb dL_tower_413 rfl (lv_at hl 1 rfl) ?_
        refine lv_iconst (v := (0 : Int32)) hx hb dL_tower_414 (by decide) ?_
        refine g_ald hx hb hK hG (k := 62) (n := 19) (show cIA 62 19 from by decide +kernel).1.1 (cIA_e (show cIA 62 19 from by decide +kernel) _ _) 0 rfl h dL_tower_415 (fun v65 h => ?_)
        refine lv_icmp_ne (tgt := 423) hx hb dL_tower_416 (by decide) (fun c66 => ?_) (fun c66 => ?_)
        · have h := ite_f h c66
          refine lv_iconst (v := (0 : Int32)) hx hb dL_tower_423 (by decide) ?_
          have h := Option.some.inj h
          subst h
          subst hQ
          exact g_zret hx hb hr hlocks cZm hK hZ hG hS rfl dL_tower_424
        · have h := ite_t h c66
          refine lv_iconst (v := (1 : Int32)) hx hb dL_tower_419 (by decide) ?_
          refine lv_goto (tgt := 424) hx hb dL_tower_420 (by decide) ?_
          have h := Option.some.inj h
          subst h
          subst hQ
          exact g_zret hx hb hr hlocks cZm hK hZ hG hS rfl dL_tower_424
  clear h
  have h := h9
  clear h9
  refine lv_icmp_ne (tgt := 110) hx hb dL_tower_71 (by decide) (fun c16 => ?_) (fun c16 => ?_)
  · have h := ite_f h c16
    refine lv_iconst (v := (0 : Int32)) hx hb dL_tower_110 (by decide) ?_
    have h := Option.some.inj h
    subst h
    exact hk_q15 _ _ _ hG hS (lv_sub hl [0, 1, 2, 3] rfl)
  · have h := ite_t h c16
    refine lv_aload_n hx hb dL_tower_74 rfl (lv_at hl 0 rfl) ?_
    refine lv_iconst (v := (0 : Int32)) hx hb dL_tower_75 (by decide) ?_
    refine lv_iconst (v := (0 : Int32)) hx hb dL_tower_76 (by decide) ?_
    refine lv_bipush (v := (120 : Int32)) hx hb dL_tower_77 (by decide) ?_
    obtain ⟨q17, eq17, h⟩ := obind h
    refine g_endi (va_runV (As := [.int (0 : Int32), .int (0 : Int32), .int (120 : Int32)]) (rest := []) ⟨hx, hb, hml, hown, hts⟩ (k_X4_put l D cy ad P Dr tI hX q14.2 L (0 : Int32) (0 : Int32) (120 : Int32) q17 eq17) (cwV 3 hts gL_tower_X4_put rfl rfl rfl cd_X4_put ⟨Nat.le_of_ble_eq_true rfl, Nat.le_of_ble_eq_true rfl⟩) ⟨g_blind cZm, g_recv hK hG (k := 0) (by decide) (cE_4 _ _) vwCl_4, g_pre cZm hK hG hZ hS⟩ rfl rfl hl.1 rfl (lv_room (Nat.le_of_ble_eq_true rfl)) dL_tower_79 ⟨Nat.le_refl _, Nat.le_refl _⟩) hS (fun H locs hG hS => ?_)
    refine lv_sipush (v := (1032 : Int32)) hx hb dL_tower_82 (by decide) ?_
    refine lv_icmp_ne (tgt := 110) hx hb dL_tower_85 (by decide) (fun c18 => ?_) (fun c18 => ?_)
    · have h := ite_f h c18
      refine lv_iconst (v := (0 : Int32)) hx hb dL_tower_110 (by decide) ?_
      have h := Option.some.inj h
      subst h
      exact hk_q15 _ _ _ hG hS (lv_sub hl [0, 1, 2, 3] rfl)
    · have h := ite_t h c18
      refine lv_aload_n hx hb dL_tower_88 rfl (lv_at hl 0 rfl) ?_
      refine lv_iconst (v := (0 : Int32)) hx hb dL_tower_89 (by decide) ?_
      refine lv_iconst (v := (1 : Int32)) hx hb dL_tower_90 (by decide) ?_
      refine lv_bipush (v := (48 : Int32)) hx hb dL_tower_91 (by decide) ?_
      refine lv_aload_n hx hb dL_tower_93 rfl (lv_at hl 2 rfl) ?_
      refine lv_iconst (v := (2 : Int32)) hx hb dL_tower_94 (by decide) ?_
      refine g_ald hx hb hK hG (k := 62) (n := 19) (show cIA 62 19 from by decide +kernel).1.1 (cIA_e (show cIA 62 19 from by decide +kernel) _ _) 0 rfl h dL_tower_95 (fun v19 h => ?_)
      refine lv_iadd hx hb dL_tower_96 ?_
      obtain ⟨q20, eq20, h⟩ := obind h
      refine g_endi (va_runV (As := [.int (0 : Int32), .int (1 : Int32), .int ((48 : Int32) + v19)]) (rest := []) ⟨hx, hb, hml, hown, hts⟩ (k_X4_put l D cy ad P Dr tI hX q17.2 L (0 : Int32) (1 : Int32) ((48 : Int32) + v19) q20 eq20) (cwV 3 hts gL_tower_X4_put rfl rfl rfl cd_X4_put ⟨Nat.le_of_ble_eq_true rfl, Nat.le_of_ble_eq_true rfl⟩) ⟨g_blind cZm, g_recv hK hG (k := 0) (by decide) (cE_4 _ _) vwCl_4, g_pre cZm hK hG hZ hS⟩ rfl rfl hl.1 rfl (lv_room (Nat.le_of_ble_eq_true rfl)) dL_tower_97 ⟨Nat.le_refl _, Nat.le_refl _⟩) hS (fun H locs hG hS => ?_)
      refine lv_sipush (v := (1032 : Int32)) hx hb dL_tower_100 (by decide) ?_
      refine lv_icmp_ne (tgt := 110) hx hb dL_tower_103 (by decide) (fun c21 => ?_) (fun c21 => ?_)
      · have h := ite_f h c21
        refine lv_iconst (v := (0 : Int32)) hx hb dL_tower_110 (by decide) ?_
        have h := Option.some.inj h
        subst h
        exact hk_q15 _ _ _ hG hS (lv_sub hl [0, 1, 2, 3] rfl)
      · have h := ite_t h c21
        refine lv_iconst (v := (1 : Int32)) hx hb dL_tower_106 (by decide) ?_
        refine lv_goto (tgt := 111) hx hb dL_tower_107 (by decide) ?_
        have h := Option.some.inj h
        subst h
        exact hk_q15 _ _ _ hG hS (lv_sub hl [0, 1, 2, 3] rfl)
def L_counts (x1 : Int32) (x2 : Int32) (x3 : Int32) : Int32 := if x1 = (2 : Int32) then ((x2 >>> ((1 : Int32) &&& 31))) else (if x1 = (5 : Int32) then ((x2 >>> ((2 : Int32) &&& 31))) else (if x1 = (3 : Int32) then ((x2 + (5 : Int32))) else (if x1 = (4 : Int32) then (((x2 + (5 : Int32)) + x3)) else (x2))))
abbrev rm_L_counts : Room := { frames := 0, cells := 0, slots := 0, locals := 0 }
theorem cd_L_counts : yL_counts.cls = RL ∧ yL_counts.cls ≠ "java/lang/invoke/MethodHandle" ∧ yL_counts.cls ≠ "java/lang/invoke/VarHandle" ∧ (parseMethodDescriptor yL_counts.desc).map (fun d => d.parameters.length) = some 3 := by decide +kernel
set_option maxHeartbeats 4000000 in
set_option maxRecDepth 100000 in
theorem k_L_counts (l : Launch) (D : va_G) (cy : Nat → ClassId) (ad : Nat → Nat) (P Dr : Nat) (tI : xTab) (hX : cOk ad P Dr) (I : xMem) (L : xLon) (x1 : Int32) (x2 : Int32) (x3 : Int32) (r : Int32) (h : L_counts x1 x2 x3 = r) : Met l yL_counts wsL_counts rm_L_counts (va_Pc [.int x1, .int x2, .int x3] (cW D cy ad P Dr tI I L)) (cPi D cy ad P Dr tI I L r) 0 0 (gA 64 ad) := by
  refine g_met (own := RL) (cc := cL_counts) (maxL := 3) (ret := (some .int)) (by decide) rfl (Nat.le_of_ble_eq_true rfl) rfl ?_
  intro p e s m args below meth c ls hx hb hml hr hlocks hown hts hG hK hZ hl
  generalize hQ : MQ below _ args s 0 0 _ = Q
  have hl : lv_has ls 3 [(0, .int x1), (1, .int x2), (2, .int x3)] := hl
  have hS : va_S (gA 64 ad) s.heap s.heap [] := va_S.rf
  obtain ⟨hi, hP, hDr⟩ := id hX
  unfold L_counts at h
  refine lv_iload_n hx hb dL_counts_0 rfl (lv_at hl 0 rfl) ?_
  refine lv_iconst (v := (2 : Int32)) hx hb dL_counts_1 (by decide) ?_
  refine lv_icmp_ne (tgt := 11) hx hb dL_counts_2 (by decide) (fun c1 => ?_) (fun c1 => ?_)
  · have h := ite_f h c1
    refine lv_iload_n hx hb dL_counts_11 rfl (lv_at hl 0 rfl) ?_
    refine lv_iconst (v := (5 : Int32)) hx hb dL_counts_12 (by decide) ?_
    refine lv_icmp_ne (tgt := 22) hx hb dL_counts_13 (by decide) (fun c2 => ?_) (fun c2 => ?_)
    · have h := ite_f h c2
      refine lv_iload_n hx hb dL_counts_22 rfl (lv_at hl 0 rfl) ?_
      refine lv_iconst (v := (3 : Int32)) hx hb dL_counts_23 (by decide) ?_
      refine lv_icmp_ne (tgt := 33) hx hb dL_counts_24 (by decide) (fun c3 => ?_) (fun c3 => ?_)
      · have h := ite_f h c3
        refine lv_iload_n hx hb dL_counts_33 rfl (lv_at hl 0 rfl) ?_
        refine lv_iconst (v := (4 : Int32)) hx hb dL_counts_34 (by decide) ?_
        refine lv_icmp_ne (tgt := 46) hx hb dL_counts_35 (by decide) (fun c4 => ?_) (fun c4 => ?_)
        · have h := ite_f h c4
          refine lv_iload_n hx hb dL_counts_46 rfl (lv_at hl 1 rfl) ?_
          subst h
          subst hQ
          exact g_iret hx hb hr hlocks cZm hK hZ hG hS rfl dL_counts_47
        · have h := ite_t h c4
          refine lv_iload_n hx hb dL_counts_38 rfl (lv_at hl 1 rfl) ?_
          refine lv_iconst (v := (5 : Int32)) hx hb dL_counts_39 (by decide) ?_
          refine lv_iadd hx hb dL_counts_40 ?_
          refine lv_iload_n hx hb dL_counts_41 rfl (lv_at hl 2 rfl) ?_
          refine lv_iadd hx hb dL_counts_42 ?_
          refine lv_goto (tgt := 47) hx hb dL_counts_43 (by decide) ?_
          subst h
          subst hQ
          exact g_iret hx hb hr hlocks cZm hK hZ hG hS rfl dL_counts_47
      · have h := ite_t h c3
        refine lv_iload_n hx hb dL_counts_27 rfl (lv_at hl 1 rfl) ?_
        refine lv_iconst (v := (5 : Int32)) hx hb dL_counts_28 (by decide) ?_
        refine lv_iadd hx hb dL_counts_29 ?_
        refine lv_goto (tgt := 47) hx hb dL_counts_30 (by decide) ?_
        subst h
        subst hQ
        exact g_iret hx hb hr hlocks cZm hK hZ hG hS rfl dL_counts_47
    · have h := ite_t h c2
      refine lv_iload_n hx hb dL_counts_16 rfl (lv_at hl 1 rfl) ?_
      refine lv_iconst (v := (2 : Int32)) hx hb dL_counts_17 (by decide) ?_
      refine lv_ishr hx hb dL_counts_18 ?_
      refine lv_goto (tgt := 47) hx hb dL_counts_19 (by decide) ?_
      subst h
      subst hQ
      exact g_iret hx hb hr hlocks cZm hK hZ hG hS rfl dL_counts_47
  · have h := ite_t h c1
    refine lv_iload_n hx hb dL_counts_5 rfl (lv_at hl 1 rfl) ?_
    refine lv_iconst (v := (1 : Int32)) hx hb dL_counts_6 (by decide) ?_
    refine lv_ishr hx hb dL_counts_7 ?_
    refine lv_goto (tgt := 47) hx hb dL_counts_8 (by decide) ?_
    subst h
    subst hQ
    exact g_iret hx hb hr hlocks cZm hK hZ hG hS rfl dL_counts_47
def L_count (I : xMem) (x3 : Int32) : Option (Int32) := (rdI I 62 19 ((7 : Int32) + x3)).bind fun v1 => (rdI I 62 19 ((13 : Int32) + x3)).bind fun v2 => (rdI I 63 4 (0 : Int32)).bind fun v3 => some (L_counts v1 v2 v3)
abbrev rm_L_count : Room := { frames := 1, cells := 0, slots := 0, locals := 22 }
theorem cd_L_count : yL_count.cls = RL ∧ yL_count.cls ≠ "java/lang/invoke/MethodHandle" ∧ yL_count.cls ≠ "java/lang/invoke/VarHandle" ∧ (parseMethodDescriptor yL_count.desc).map (fun d => d.parameters.length) = some 3 := by decide +kernel
set_option maxHeartbeats 4000000 in
set_option maxRecDepth 100000 in
theorem k_L_count (l : Launch) (D : va_G) (cy : Nat → ClassId) (ad : Nat → Nat) (P Dr : Nat) (tI : xTab) (hX : cOk ad P Dr) (I : xMem) (L : xLon) (x3 : Int32) (r : Int32) (h : L_count I x3 = some r) : Met l yL_count wsL_count rm_L_count (va_Pc [.ref (ad 62), .ref (ad 63), .int x3] (cW D cy ad P Dr tI I L)) (cPi D cy ad P Dr tI I L r) 0 0 (gA 64 ad) := by
  refine g_met (own := RL) (cc := cL_count) (maxL := 3) (ret := (some .int)) (by decide) rfl (Nat.le_of_ble_eq_true rfl) rfl ?_
  intro p e s m args below meth c ls hx hb hml hr hlocks hown hts hG hK hZ hl
  generalize hQ : MQ below _ args s 0 0 _ = Q
  have hl : lv_has ls 3 [(0, .ref (ad 62)), (1, .ref (ad 63)), (2, .int x3)] := hl
  have hS : va_S (gA 64 ad) s.heap s.heap [] := va_S.rf
  obtain ⟨hi, hP, hDr⟩ := id hX
  unfold L_count at h
  refine lv_aload_n hx hb dL_count_0 rfl (lv_at hl 0 rfl) ?_
  refine lv_bipush (v := (7 : Int32)) hx hb dL_count_1 (by decide) ?_
  refine lv_iload_n hx hb dL_count_3 rfl (lv_at hl 2 rfl) ?_
  refine lv_iadd hx hb dL_count_4 ?_
  refine g_ald hx hb hK hG (k := 62) (n := 19) (show cIA 62 19 from by decide +kernel).1.1 (cIA_e (show cIA 62 19 from by decide +kernel) _ _) 0 rfl h dL_count_5 (fun v1 h => ?_)
  refine lv_aload_n hx hb dL_count_6 rfl (lv_at hl 0 rfl) ?_
  refine lv_bipush (v := (13 : Int32)) hx hb dL_count_7 (by decide) ?_
  refine lv_iload_n hx hb dL_count_9 rfl (lv_at hl 2 rfl) ?_
  refine lv_iadd hx hb dL_count_10 ?_
  refine g_ald hx hb hK hG (k := 62) (n := 19) (show cIA 62 19 from by decide +kernel).1.1 (cIA_e (show cIA 62 19 from by decide +kernel) _ _) 0 rfl h dL_count_11 (fun v2 h => ?_)
  refine lv_aload_n hx hb dL_count_12 rfl (lv_at hl 1 rfl) ?_
  refine lv_iconst (v := (0 : Int32)) hx hb dL_count_13 (by decide) ?_
  refine g_ald hx hb hK hG (k := 63) (n := 4) (show cIA 63 4 from by decide +kernel).1.1 (cIA_e (show cIA 63 4 from by decide +kernel) _ _) 0 rfl h dL_count_14 (fun v3 h => ?_)
  refine g_endi (va_runS (As := [.int v1, .int v2, .int v3]) (rest := []) ⟨hx, hb, hml, hown, hts⟩ (k_L_counts l D cy ad P Dr tI hX I L v1 v2 v3 _ rfl) (va_cwS 3 hts gL_count_L_counts rfl rfl rfl cd_L_counts.2 ⟨Nat.le_of_ble_eq_true rfl, Nat.le_of_ble_eq_true rfl⟩) ⟨g_blind cZm, g_pre cZm hK hG hZ hS⟩ rfl rfl hl.1 rfl (lv_room (Nat.le_of_ble_eq_true rfl)) dL_count_15 ⟨Nat.le_refl _, Nat.le_refl _⟩) hS (fun H locs hG hS => ?_)
  have h := Option.some.inj h
  subst h
  subst hQ
  exact g_iret hx hb hr hlocks cZm hK hZ hG hS rfl dL_count_18
def L_off (x1 : Int32) (x2 : Int32) : Int32 := if x1 ≤ x2 then ((x2 - x1)) else ((x1 - x2))
abbrev rm_L_off : Room := { frames := 0, cells := 0, slots := 0, locals := 0 }
theorem cd_L_off : yL_off.cls = RL ∧ yL_off.cls ≠ "java/lang/invoke/MethodHandle" ∧ yL_off.cls ≠ "java/lang/invoke/VarHandle" ∧ (parseMethodDescriptor yL_off.desc).map (fun d => d.parameters.length) = some 2 := by decide +kernel
set_option maxHeartbeats 4000000 in
set_option maxRecDepth 100000 in
theorem k_L_off (l : Launch) (D : va_G) (cy : Nat → ClassId) (ad : Nat → Nat) (P Dr : Nat) (tI : xTab) (hX : cOk ad P Dr) (I : xMem) (L : xLon) (x1 : Int32) (x2 : Int32) (r : Int32) (h : L_off x1 x2 = r) : Met l yL_off wsL_off rm_L_off (va_Pc [.int x1, .int x2] (cW D cy ad P Dr tI I L)) (cPi D cy ad P Dr tI I L r) 0 0 (gA 64 ad) := by
  refine g_met (own := RL) (cc := cL_off) (maxL := 2) (ret := (some .int)) (by decide) rfl (Nat.le_of_ble_eq_true rfl) rfl ?_
  intro p e s m args below meth c ls hx hb hml hr hlocks hown hts hG hK hZ hl
  generalize hQ : MQ below _ args s 0 0 _ = Q
  have hl : lv_has ls 2 [(0, .int x1), (1, .int x2)] := hl
  have hS : va_S (gA 64 ad) s.heap s.heap [] := va_S.rf
  obtain ⟨hi, hP, hDr⟩ := id hX
  unfold L_off at h
  refine lv_iload_n hx hb dL_off_0 rfl (lv_at hl 0 rfl) ?_
  refine lv_iload_n hx hb dL_off_1 rfl (lv_at hl 1 rfl) ?_
  refine lv_icmp_le (tgt := 11) hx hb dL_off_2 (by decide) (fun c1 => ?_) (fun c1 => ?_)
  · have h := ite_t h c1
    refine lv_iload_n hx hb dL_off_11 rfl (lv_at hl 1 rfl) ?_
    refine lv_iload_n hx hb dL_off_12 rfl (lv_at hl 0 rfl) ?_
    refine lv_isub hx hb dL_off_13 ?_
    subst h
    subst hQ
    exact g_iret hx hb hr hlocks cZm hK hZ hG hS rfl dL_off_14
  · have h := ite_f h c1
    refine lv_iload_n hx hb dL_off_5 rfl (lv_at hl 0 rfl) ?_
    refine lv_iload_n hx hb dL_off_6 rfl (lv_at hl 1 rfl) ?_
    refine lv_isub hx hb dL_off_7 ?_
    refine lv_goto (tgt := 14) hx hb dL_off_8 (by decide) ?_
    subst h
    subst hQ
    exact g_iret hx hb hr hlocks cZm hK hZ hG hS rfl dL_off_14
def L_weight_L1 (I : xMem) (x2 : Int32) (K1 : Int32 → Option (Int32)) : Nat → Int32 → Int32 → Option (Int32)
  | 0, _, _ => none
  | n2 + 1, x2_2, x3_2 => (rdI I 62 19 (1 : Int32)).bind fun v3 => if v3 ≤ x3_2 then (K1 x2_2) else ((rdI I 62 19 ((3 : Int32) + x3_2)).bind fun v5 => L_weight_L1 I x2 K1 n2 (x2_2 + (((x2 >>> (x3_2 &&& 31)) &&& (1 : Int32)) * v5)) (x3_2 + (1 : Int32)))
def L_weight (I : xMem) (x2 : Int32) : Option (Int32) := L_weight_L1 I x2 (fun (z2_2 : Int32) => some z2_2) bigF (0 : Int32) (0 : Int32)
abbrev rm_L_weight : Room := { frames := 0, cells := 0, slots := 0, locals := 0 }
theorem cd_L_weight : yL_weight.cls = RL ∧ yL_weight.cls ≠ "java/lang/invoke/MethodHandle" ∧ yL_weight.cls ≠ "java/lang/invoke/VarHandle" ∧ (parseMethodDescriptor yL_weight.desc).map (fun d => d.parameters.length) = some 2 := by decide +kernel
set_option maxHeartbeats 4000000 in
set_option maxRecDepth 100000 in
theorem k_L_weight (l : Launch) (D : va_G) (cy : Nat → ClassId) (ad : Nat → Nat) (P Dr : Nat) (tI : xTab) (hX : cOk ad P Dr) (I : xMem) (L : xLon) (x2 : Int32) (r : Int32) (h : L_weight I x2 = some r) : Met l yL_weight wsL_weight rm_L_weight (va_Pc [.ref (ad 62), .int x2] (cW D cy ad P Dr tI I L)) (cPi D cy ad P Dr tI I L r) 0 0 (gA 64 ad) := by
  refine g_met (own := RL) (cc := cL_weight) (maxL := 4) (ret := (some .int)) (by decide) rfl (Nat.le_of_ble_eq_true rfl) rfl ?_
  intro p e s m args below meth c ls hx hb hml hr hlocks hown hts hG hK hZ hl
  generalize hQ : MQ below _ args s 0 0 _ = Q
  have hl : lv_has ls 4 [(0, .ref (ad 62)), (1, .int x2)] := hl
  have hS : va_S (gA 64 ad) s.heap s.heap [] := va_S.rf
  obtain ⟨hi, hP, hDr⟩ := id hX
  unfold L_weight at h
  refine lv_iconst (v := (0 : Int32)) hx hb dL_weight_0 (by decide) ?_
  refine lv_istore_n (lv' := [(2, .int (0 : Int32)), (0, .ref (ad 62)), (1, .int x2)]) hx hb dL_weight_1 rfl hl (by decide) rfl (fun ls hl => ?_)
  refine lv_iconst (v := (0 : Int32)) hx hb dL_weight_2 (by decide) ?_
  refine lv_istore_n (lv' := [(3, .int (0 : Int32)), (2, .int (0 : Int32)), (0, .ref (ad 62)), (1, .int x2)]) hx hb dL_weight_3 rfl hl (by decide) rfl (fun ls hl => ?_)
  have keyK1 : ∀ (K1 : Int32 → Option (Int32)), (∀ (z2_2 : Int32) (H : Heap) (locs : List Loc) (ls : Array Slot), K1 z2_2 = some r → cG D cy ad P Dr I L H → va_S (gA 64 ad) s.heap H locs → lv_has ls 4 [(2, .int z2_2)] → W p l e rm_L_weight s m args below meth c H locs 0 0 Q (F0 m 31 ls [])) → ∀ (n2 : Nat) (x2_2 : Int32) (x3_2 : Int32) (H : Heap) (locs : List Loc) (ls : Array Slot), L_weight_L1 I x2 K1 n2 x2_2 x3_2 = some r → cG D cy ad P Dr I L H → va_S (gA 64 ad) s.heap H locs → lv_has ls 4 [(0, .ref (ad 62)), (1, .int x2), (2, .int x2_2), (3, .int x3_2)] → W p l e rm_L_weight s m args below meth c H locs 0 0 Q (F0 m 4 ls []) := by
    intro K1 hkK1 n2
    induction n2 with
    | zero =>
      intro x2_2 x3_2 H locs ls h
      exact ono h
    | succ n2 ihn2 =>
      intro x2_2 x3_2 H locs ls h hG hS hl
      rw [L_weight_L1] at h
      refine lv_iload_n hx hb dL_weight_4 rfl (lv_at hl 3 rfl) ?_
      refine lv_aload_n hx hb dL_weight_5 rfl (lv_at hl 0 rfl) ?_
      refine lv_iconst (v := (1 : Int32)) hx hb dL_weight_6 (by decide) ?_
      refine g_ald hx hb hK hG (k := 62) (n := 19) (show cIA 62 19 from by decide +kernel).1.1 (cIA_e (show cIA 62 19 from by decide +kernel) _ _) 0 rfl h dL_weight_7 (fun v3 h => ?_)
      refine lv_icmp_ge (tgt := 31) hx hb dL_weight_8 (by decide) (fun c4 => ?_) (fun c4 => ?_)
      · have h := ite_t h c4
        exact hkK1 x2_2 _ _ _ h hG hS (lv_sub hl [2] rfl)
      · have h := ite_f h c4
        refine lv_iload_n hx hb dL_weight_11 rfl (lv_at hl 2 rfl) ?_
        refine lv_iload_n hx hb dL_weight_12 rfl (lv_at hl 1 rfl) ?_
        refine lv_iload_n hx hb dL_weight_13 rfl (lv_at hl 3 rfl) ?_
        refine lv_ishr hx hb dL_weight_14 ?_
        refine lv_iconst (v := (1 : Int32)) hx hb dL_weight_15 (by decide) ?_
        refine lv_iand hx hb dL_weight_16 ?_
        refine lv_aload_n hx hb dL_weight_17 rfl (lv_at hl 0 rfl) ?_
        refine lv_iconst (v := (3 : Int32)) hx hb dL_weight_18 (by decide) ?_
        refine lv_iload_n hx hb dL_weight_19 rfl (lv_at hl 3 rfl) ?_
        refine lv_iadd hx hb dL_weight_20 ?_
        refine g_ald hx hb hK hG (k := 62) (n := 19) (show cIA 62 19 from by decide +kernel).1.1 (cIA_e (show cIA 62 19 from by decide +kernel) _ _) 0 rfl h dL_weight_21 (fun v5 h => ?_)
        refine lv_imul hx hb dL_weight_22 ?_
        refine lv_iadd hx hb dL_weight_23 ?_
        refine lv_istore_n (lv' := [(2, .int (x2_2 + (((x2 >>> (x3_2 &&& 31)) &&& (1 : Int32)) * v5))), (0, .ref (ad 62)), (1, .int x2), (3, .int x3_2)]) hx hb dL_weight_24 rfl hl (by decide) rfl (fun ls hl => ?_)
        refine lv_iinc (v := (x3_2 + (1 : Int32))) (lv' := [(3, .int (x3_2 + (1 : Int32))), (2, .int (x2_2 + (((x2 >>> (x3_2 &&& 31)) &&& (1 : Int32)) * v5))), (0, .ref (ad 62)), (1, .int x2)]) hx hb dL_weight_25 hl (k := 3) rfl rfl (by decide) rfl (fun ls hl => ?_)
        refine lv_goto (tgt := 4) hx hb dL_weight_28 (by decide) ?_
        exact ihn2 (x2_2 + (((x2 >>> (x3_2 &&& 31)) &&& (1 : Int32)) * v5)) (x3_2 + (1 : Int32)) _ _ _ h hG hS (lv_sub hl [2, 3, 1, 0] rfl)
  refine keyK1 _ (fun z2_2 H locs ls h hG hS hl => ?_) bigF (0 : Int32) (0 : Int32) _ _ _ h hG hS (lv_sub hl [2, 3, 1, 0] rfl)
  clear keyK1
  refine lv_iload_n hx hb dL_weight_31 rfl (lv_at hl 0 rfl) ?_
  have h := Option.some.inj h
  subst h
  subst hQ
  exact g_iret hx hb hr hlocks cZm hK hZ hG hS rfl dL_weight_32
def L_sink (I : xMem) (x3 : Int32) (x4 : Int32) (x5 : Int32) (x6 : Int32) : Option (Int32) := (L_count I x3).bind fun v1 => (L_weight I x5).bind fun v2 => (L_count I x4).bind fun v3 => (L_weight I x6).bind fun v4 => (rdI I 62 19 ((7 : Int32) + x3)).bind fun v5 => if v5 = (1 : Int32) then ((rdI I 62 19 ((7 : Int32) + x4)).bind fun v7 => if v7 = (1 : Int32) then (some ((L_off (v1 + v2) (v3 + v4)) >>> ((1 : Int32) &&& 31))) else (some (L_off (v1 + v2) (v3 + v4)))) else (some (L_off (v1 + v2) (v3 + v4)))
abbrev rm_L_sink : Room := { frames := 2, cells := 0, slots := 0, locals := 44 }
theorem cd_L_sink : yL_sink.cls = RL ∧ yL_sink.cls ≠ "java/lang/invoke/MethodHandle" ∧ yL_sink.cls ≠ "java/lang/invoke/VarHandle" ∧ (parseMethodDescriptor yL_sink.desc).map (fun d => d.parameters.length) = some 6 := by decide +kernel
set_option maxHeartbeats 4000000 in
set_option maxRecDepth 100000 in
theorem k_L_sink (l : Launch) (D : va_G) (cy : Nat → ClassId) (ad : Nat → Nat) (P Dr : Nat) (tI : xTab) (hX : cOk ad P Dr) (I : xMem) (L : xLon) (x3 : Int32) (x4 : Int32) (x5 : Int32) (x6 : Int32) (r : Int32) (h : L_sink I x3 x4 x5 x6 = some r) : Met l yL_sink wsL_sink rm_L_sink (va_Pc [.ref (ad 62), .ref (ad 63), .int x3, .int x4, .int x5, .int x6] (cW D cy ad P Dr tI I L)) (cPi D cy ad P Dr tI I L r) 0 0 (gA 64 ad) := by
  refine g_met (own := RL) (cc := cL_sink) (maxL := 7) (ret := (some .int)) (by decide) rfl (Nat.le_of_ble_eq_true rfl) rfl ?_
  intro p e s m args below meth c ls hx hb hml hr hlocks hown hts hG hK hZ hl
  generalize hQ : MQ below _ args s 0 0 _ = Q
  have hl : lv_has ls 7 [(0, .ref (ad 62)), (1, .ref (ad 63)), (2, .int x3), (3, .int x4), (4, .int x5), (5, .int x6)] := hl
  have hS : va_S (gA 64 ad) s.heap s.heap [] := va_S.rf
  obtain ⟨hi, hP, hDr⟩ := id hX
  unfold L_sink at h
  refine lv_aload_n hx hb dL_sink_0 rfl (lv_at hl 0 rfl) ?_
  refine lv_aload_n hx hb dL_sink_1 rfl (lv_at hl 1 rfl) ?_
  refine lv_iload_n hx hb dL_sink_2 rfl (lv_at hl 2 rfl) ?_
  obtain ⟨v1, ev1, h⟩ := obind h
  refine g_endi (va_runS (As := [.ref (ad 62), .ref (ad 63), .int x3]) (rest := []) ⟨hx, hb, hml, hown, hts⟩ (k_L_count l D cy ad P Dr tI hX I L x3 v1 ev1) (va_cwS 3 hts gL_sink_L_count rfl rfl rfl cd_L_count.2 ⟨Nat.le_of_ble_eq_true rfl, Nat.le_of_ble_eq_true rfl⟩) ⟨g_blind cZm, g_pre cZm hK hG hZ hS⟩ rfl rfl hl.1 rfl (lv_room (Nat.le_of_ble_eq_true rfl)) dL_sink_3 ⟨Nat.le_refl _, Nat.le_refl _⟩) hS (fun H locs hG hS => ?_)
  refine lv_aload_n hx hb dL_sink_6 rfl (lv_at hl 0 rfl) ?_
  refine lv_iload hx hb dL_sink_7 (lv_at hl 4 rfl) ?_
  obtain ⟨v2, ev2, h⟩ := obind h
  refine g_endi (va_runS (As := [.ref (ad 62), .int x5]) (rest := [.int v1]) ⟨hx, hb, hml, hown, hts⟩ (k_L_weight l D cy ad P Dr tI hX I L x5 v2 ev2) (va_cwS 2 hts gL_sink_L_weight rfl rfl rfl cd_L_weight.2 ⟨Nat.le_of_ble_eq_true rfl, Nat.le_of_ble_eq_true rfl⟩) ⟨g_blind cZm, g_pre cZm hK hG hZ hS⟩ rfl rfl hl.1 rfl (lv_room (Nat.le_of_ble_eq_true rfl)) dL_sink_9 ⟨Nat.le_refl _, Nat.le_refl _⟩) hS (fun H locs hG hS => ?_)
  refine lv_iadd hx hb dL_sink_12 ?_
  refine lv_aload_n hx hb dL_sink_13 rfl (lv_at hl 0 rfl) ?_
  refine lv_aload_n hx hb dL_sink_14 rfl (lv_at hl 1 rfl) ?_
  refine lv_iload_n hx hb dL_sink_15 rfl (lv_at hl 3 rfl) ?_
  obtain ⟨v3, ev3, h⟩ := obind h
  refine g_endi (va_runS (As := [.ref (ad 62), .ref (ad 63), .int x4]) (rest := [.int (v1 + v2)]) ⟨hx, hb, hml, hown, hts⟩ (k_L_count l D cy ad P Dr tI hX I L x4 v3 ev3) (va_cwS 3 hts gL_sink_L_count rfl rfl rfl cd_L_count.2 ⟨Nat.le_of_ble_eq_true rfl, Nat.le_of_ble_eq_true rfl⟩) ⟨g_blind cZm, g_pre cZm hK hG hZ hS⟩ rfl rfl hl.1 rfl (lv_room (Nat.le_of_ble_eq_true rfl)) dL_sink_16 ⟨Nat.le_refl _, Nat.le_refl _⟩) hS (fun H locs hG hS => ?_)
  refine lv_aload_n hx hb dL_sink_19 rfl (lv_at hl 0 rfl) ?_
  refine lv_iload hx hb dL_sink_20 (lv_at hl 5 rfl) ?_
  obtain ⟨v4, ev4, h⟩ := obind h
  refine g_endi (va_runS (As := [.ref (ad 62), .int x6]) (rest := [.int v3, .int (v1 + v2)]) ⟨hx, hb, hml, hown, hts⟩ (k_L_weight l D cy ad P Dr tI hX I L x6 v4 ev4) (va_cwS 2 hts gL_sink_L_weight rfl rfl rfl cd_L_weight.2 ⟨Nat.le_of_ble_eq_true rfl, Nat.le_of_ble_eq_true rfl⟩) ⟨g_blind cZm, g_pre cZm hK hG hZ hS⟩ rfl rfl hl.1 rfl (lv_room (Nat.le_of_ble_eq_true rfl)) dL_sink_22 ⟨Nat.le_refl _, Nat.le_refl _⟩) hS (fun H locs hG hS => ?_)
  refine lv_iadd hx hb dL_sink_25 ?_
  refine g_endi (va_runS (As := [.int (v1 + v2), .int (v3 + v4)]) (rest := []) ⟨hx, hb, hml, hown, hts⟩ (k_L_off l D cy ad P Dr tI hX I L (v1 + v2) (v3 + v4) _ rfl) (va_cwS 2 hts gL_sink_L_off rfl rfl rfl cd_L_off.2 ⟨Nat.le_of_ble_eq_true rfl, Nat.le_of_ble_eq_true rfl⟩) ⟨g_blind cZm, g_pre cZm hK hG hZ hS⟩ rfl rfl hl.1 rfl (lv_room (Nat.le_of_ble_eq_true rfl)) dL_sink_26 ⟨Nat.le_refl _, Nat.le_refl _⟩) hS (fun H locs hG hS => ?_)
  refine lv_istore (lv' := [(6, .int (L_off (v1 + v2) (v3 + v4))), (0, .ref (ad 62)), (1, .ref (ad 63)), (2, .int x3), (3, .int x4), (4, .int x5), (5, .int x6)]) hx hb dL_sink_29 hl (by decide) rfl (fun ls hl => ?_)
  refine lv_aload_n hx hb dL_sink_31 rfl (lv_at hl 1 rfl) ?_
  refine lv_bipush (v := (7 : Int32)) hx hb dL_sink_32 (by decide) ?_
  refine lv_iload_n hx hb dL_sink_34 rfl (lv_at hl 3 rfl) ?_
  refine lv_iadd hx hb dL_sink_35 ?_
  refine g_ald hx hb hK hG (k := 62) (n := 19) (show cIA 62 19 from by decide +kernel).1.1 (cIA_e (show cIA 62 19 from by decide +kernel) _ _) 0 rfl h dL_sink_36 (fun v5 h => ?_)
  refine lv_iconst (v := (1 : Int32)) hx hb dL_sink_37 (by decide) ?_
  refine lv_icmp_ne (tgt := 58) hx hb dL_sink_38 (by decide) (fun c6 => ?_) (fun c6 => ?_)
  · have h := ite_f h c6
    refine lv_iload hx hb dL_sink_58 (lv_at hl 0 rfl) ?_
    have h := Option.some.inj h
    subst h
    subst hQ
    exact g_iret hx hb hr hlocks cZm hK hZ hG hS rfl dL_sink_60
  · have h := ite_t h c6
    refine lv_aload_n hx hb dL_sink_41 rfl (lv_at hl 1 rfl) ?_
    refine lv_bipush (v := (7 : Int32)) hx hb dL_sink_42 (by decide) ?_
    refine lv_iload_n hx hb dL_sink_44 rfl (lv_at hl 4 rfl) ?_
    refine lv_iadd hx hb dL_sink_45 ?_
    refine g_ald hx hb hK hG (k := 62) (n := 19) (show cIA 62 19 from by decide +kernel).1.1 (cIA_e (show cIA 62 19 from by decide +kernel) _ _) 0 rfl h dL_sink_46 (fun v7 h => ?_)
    refine lv_iconst (v := (1 : Int32)) hx hb dL_sink_47 (by decide) ?_
    refine lv_icmp_ne (tgt := 58) hx hb dL_sink_48 (by decide) (fun c8 => ?_) (fun c8 => ?_)
    · have h := ite_f h c8
      refine lv_iload hx hb dL_sink_58 (lv_at hl 0 rfl) ?_
      have h := Option.some.inj h
      subst h
      subst hQ
      exact g_iret hx hb hr hlocks cZm hK hZ hG hS rfl dL_sink_60
    · have h := ite_t h c8
      refine lv_iload hx hb dL_sink_51 (lv_at hl 0 rfl) ?_
      refine lv_iconst (v := (1 : Int32)) hx hb dL_sink_53 (by decide) ?_
      refine lv_ishr hx hb dL_sink_54 ?_
      refine lv_goto (tgt := 60) hx hb dL_sink_55 (by decide) ?_
      have h := Option.some.inj h
      subst h
      subst hQ
      exact g_iret hx hb hr hlocks cZm hK hZ hG hS rfl dL_sink_60
def L_there (I : xMem) (x3 : Int32) : Option (Int32) := (rdI I 63 4 (1 : Int32)).bind fun v1 => if ((v1 >>> (x3 &&& 31)) &&& (1 : Int32)) = (1 : Int32) then ((rdI I 63 4 (2 : Int32)).bind fun v5 => some v5) else ((rdI I 62 19 (1 : Int32)).bind fun v3 => (rdI I 63 4 (2 : Int32)).bind fun v4 => some ((((1 : Int32) <<< (v3 &&& 31)) - (1 : Int32)) ^^^ v4))
abbrev rm_L_there : Room := { frames := 0, cells := 0, slots := 0, locals := 0 }
theorem cd_L_there : yL_there.cls = RL ∧ yL_there.cls ≠ "java/lang/invoke/MethodHandle" ∧ yL_there.cls ≠ "java/lang/invoke/VarHandle" ∧ (parseMethodDescriptor yL_there.desc).map (fun d => d.parameters.length) = some 3 := by decide +kernel
set_option maxHeartbeats 4000000 in
set_option maxRecDepth 100000 in
theorem k_L_there (l : Launch) (D : va_G) (cy : Nat → ClassId) (ad : Nat → Nat) (P Dr : Nat) (tI : xTab) (hX : cOk ad P Dr) (I : xMem) (L : xLon) (x3 : Int32) (r : Int32) (h : L_there I x3 = some r) : Met l yL_there wsL_there rm_L_there (va_Pc [.ref (ad 62), .ref (ad 63), .int x3] (cW D cy ad P Dr tI I L)) (cPi D cy ad P Dr tI I L r) 0 0 (gA 64 ad) := by
  refine g_met (own := RL) (cc := cL_there) (maxL := 3) (ret := (some .int)) (by decide) rfl (Nat.le_of_ble_eq_true rfl) rfl ?_
  intro p e s m args below meth c ls hx hb hml hr hlocks hown hts hG hK hZ hl
  generalize hQ : MQ below _ args s 0 0 _ = Q
  have hl : lv_has ls 3 [(0, .ref (ad 62)), (1, .ref (ad 63)), (2, .int x3)] := hl
  have hS : va_S (gA 64 ad) s.heap s.heap [] := va_S.rf
  obtain ⟨hi, hP, hDr⟩ := id hX
  unfold L_there at h
  refine lv_aload_n hx hb dL_there_0 rfl (lv_at hl 1 rfl) ?_
  refine lv_iconst (v := (1 : Int32)) hx hb dL_there_1 (by decide) ?_
  refine g_ald hx hb hK hG (k := 63) (n := 4) (show cIA 63 4 from by decide +kernel).1.1 (cIA_e (show cIA 63 4 from by decide +kernel) _ _) 0 rfl h dL_there_2 (fun v1 h => ?_)
  refine lv_iload_n hx hb dL_there_3 rfl (lv_at hl 2 rfl) ?_
  refine lv_ishr hx hb dL_there_4 ?_
  refine lv_iconst (v := (1 : Int32)) hx hb dL_there_5 (by decide) ?_
  refine lv_iand hx hb dL_there_6 ?_
  refine lv_iconst (v := (1 : Int32)) hx hb dL_there_7 (by decide) ?_
  refine lv_icmp_ne (tgt := 17) hx hb dL_there_8 (by decide) (fun c2 => ?_) (fun c2 => ?_)
  · have h := ite_f h c2
    refine lv_iconst (v := (1 : Int32)) hx hb dL_there_17 (by decide) ?_
    refine lv_aload_n hx hb dL_there_18 rfl (lv_at hl 0 rfl) ?_
    refine lv_iconst (v := (1 : Int32)) hx hb dL_there_19 (by decide) ?_
    refine g_ald hx hb hK hG (k := 62) (n := 19) (show cIA 62 19 from by decide +kernel).1.1 (cIA_e (show cIA 62 19 from by decide +kernel) _ _) 0 rfl h dL_there_20 (fun v3 h => ?_)
    refine lv_ishl hx hb dL_there_21 ?_
    refine lv_iconst (v := (1 : Int32)) hx hb dL_there_22 (by decide) ?_
    refine lv_isub hx hb dL_there_23 ?_
    refine lv_aload_n hx hb dL_there_24 rfl (lv_at hl 1 rfl) ?_
    refine lv_iconst (v := (2 : Int32)) hx hb dL_there_25 (by decide) ?_
    refine g_ald hx hb hK hG (k := 63) (n := 4) (show cIA 63 4 from by decide +kernel).1.1 (cIA_e (show cIA 63 4 from by decide +kernel) _ _) 0 rfl h dL_there_26 (fun v4 h => ?_)
    refine lv_ixor hx hb dL_there_27 ?_
    have h := Option.some.inj h
    subst h
    subst hQ
    exact g_iret hx hb hr hlocks cZm hK hZ hG hS rfl dL_there_28
  · have h := ite_t h c2
    refine lv_aload_n hx hb dL_there_11 rfl (lv_at hl 1 rfl) ?_
    refine lv_iconst (v := (2 : Int32)) hx hb dL_there_12 (by decide) ?_
    refine g_ald hx hb hK hG (k := 63) (n := 4) (show cIA 63 4 from by decide +kernel).1.1 (cIA_e (show cIA 63 4 from by decide +kernel) _ _) 0 rfl h dL_there_13 (fun v5 h => ?_)
    refine lv_goto (tgt := 28) hx hb dL_there_14 (by decide) ?_
    have h := Option.some.inj h
    subst h
    subst hQ
    exact g_iret hx hb hr hlocks cZm hK hZ hG hS rfl dL_there_28
def L_together (I : xMem) (x2 : Int32) (x3 : Int32) : Option (Int32) := (rdI I 63 4 (1 : Int32)).bind fun v1 => (rdI I 63 4 (1 : Int32)).bind fun v2 => if ((v1 >>> (x2 &&& 31)) &&& (1 : Int32)) = ((v2 >>> (x3 &&& 31)) &&& (1 : Int32)) then (some (nz (1 : Int32))) else (some (nz (0 : Int32)))
abbrev rm_L_together : Room := { frames := 0, cells := 0, slots := 0, locals := 0 }
theorem cd_L_together : yL_together.cls = RL ∧ yL_together.cls ≠ "java/lang/invoke/MethodHandle" ∧ yL_together.cls ≠ "java/lang/invoke/VarHandle" ∧ (parseMethodDescriptor yL_together.desc).map (fun d => d.parameters.length) = some 3 := by decide +kernel
set_option maxHeartbeats 4000000 in
set_option maxRecDepth 100000 in
theorem k_L_together (l : Launch) (D : va_G) (cy : Nat → ClassId) (ad : Nat → Nat) (P Dr : Nat) (tI : xTab) (hX : cOk ad P Dr) (I : xMem) (L : xLon) (x2 : Int32) (x3 : Int32) (r : Int32) (h : L_together I x2 x3 = some r) : Met l yL_together wsL_together rm_L_together (va_Pc [.ref (ad 63), .int x2, .int x3] (cW D cy ad P Dr tI I L)) (cPi D cy ad P Dr tI I L r) 0 0 (gA 64 ad) := by
  refine g_met (own := RL) (cc := cL_together) (maxL := 3) (ret := (some .boolean)) (by decide) rfl (Nat.le_of_ble_eq_true rfl) rfl ?_
  intro p e s m args below meth c ls hx hb hml hr hlocks hown hts hG hK hZ hl
  generalize hQ : MQ below _ args s 0 0 _ = Q
  have hl : lv_has ls 3 [(0, .ref (ad 63)), (1, .int x2), (2, .int x3)] := hl
  have hS : va_S (gA 64 ad) s.heap s.heap [] := va_S.rf
  obtain ⟨hi, hP, hDr⟩ := id hX
  unfold L_together at h
  refine lv_aload_n hx hb dL_together_0 rfl (lv_at hl 0 rfl) ?_
  refine lv_iconst (v := (1 : Int32)) hx hb dL_together_1 (by decide) ?_
  refine g_ald hx hb hK hG (k := 63) (n := 4) (show cIA 63 4 from by decide +kernel).1.1 (cIA_e (show cIA 63 4 from by decide +kernel) _ _) 0 rfl h dL_together_2 (fun v1 h => ?_)
  refine lv_iload_n hx hb dL_together_3 rfl (lv_at hl 1 rfl) ?_
  refine lv_ishr hx hb dL_together_4 ?_
  refine lv_iconst (v := (1 : Int32)) hx hb dL_together_5 (by decide) ?_
  refine lv_iand hx hb dL_together_6 ?_
  refine lv_aload_n hx hb dL_together_7 rfl (lv_at hl 0 rfl) ?_
  refine lv_iconst (v := (1 : Int32)) hx hb dL_together_8 (by decide) ?_
  refine g_ald hx hb hK hG (k := 63) (n := 4) (show cIA 63 4 from by decide +kernel).1.1 (cIA_e (show cIA 63 4 from by decide +kernel) _ _) 0 rfl h dL_together_9 (fun v2 h => ?_)
  refine lv_iload_n hx hb dL_together_10 rfl (lv_at hl 2 rfl) ?_
  refine lv_ishr hx hb dL_together_11 ?_
  refine lv_iconst (v := (1 : Int32)) hx hb dL_together_12 (by decide) ?_
  refine lv_iand hx hb dL_together_13 ?_
  refine lv_icmp_ne (tgt := 21) hx hb dL_together_14 (by decide) (fun c3 => ?_) (fun c3 => ?_)
  · have h := ite_f h c3
    refine lv_iconst (v := (0 : Int32)) hx hb dL_together_21 (by decide) ?_
    have h := Option.some.inj h
    subst h
    subst hQ
    exact g_zret hx hb hr hlocks cZm hK hZ hG hS rfl dL_together_22
  · have h := ite_t h c3
    refine lv_iconst (v := (1 : Int32)) hx hb dL_together_17 (by decide) ?_
    refine lv_goto (tgt := 22) hx hb dL_together_18 (by decide) ?_
    have h := Option.some.inj h
    subst h
    subst hQ
    exact g_zret hx hb hr hlocks cZm hK hZ hG hS rfl dL_together_22
def L_least_L1 (I : xMem) (x3 : Int32) (x4 : Int32) (x5 : Int32) (K1 : Int32 → Option (Int32)) : Nat → Int32 → Int32 → Option (Int32)
  | 0, _, _ => none
  | n2 + 1, x5_2, x6_2 => if (256 : Int32) ≤ x6_2 then (K1 x5_2) else (if ((x6_2 >>> ((4 : Int32) &&& 31)) &&& (x6_2 &&& (15 : Int32))) = (0 : Int32) then (if (((x6_2 >>> ((4 : Int32) &&& 31)) ||| (x6_2 &&& (15 : Int32))) &&& x5) = ((x6_2 >>> ((4 : Int32) &&& 31)) ||| (x6_2 &&& (15 : Int32))) then ((L_sink I x3 x4 (x6_2 >>> ((4 : Int32) &&& 31)) (x6_2 &&& (15 : Int32))).bind fun v6 => if x5_2 ≤ ((v6 <<< ((8 : Int32) &&& 31)) ||| x6_2) then (L_least_L1 I x3 x4 x5 K1 n2 x5_2 (x6_2 + (1 : Int32))) else (L_least_L1 I x3 x4 x5 K1 n2 ((v6 <<< ((8 : Int32) &&& 31)) ||| x6_2) (x6_2 + (1 : Int32)))) else (L_least_L1 I x3 x4 x5 K1 n2 x5_2 (x6_2 + (1 : Int32)))) else (L_least_L1 I x3 x4 x5 K1 n2 x5_2 (x6_2 + (1 : Int32))))
def L_least (I : xMem) (x3 : Int32) (x4 : Int32) (x5 : Int32) : Option (Int32) := L_least_L1 I x3 x4 x5 (fun (z5_2 : Int32) => some z5_2) bigF (1048576 : Int32) (0 : Int32)
abbrev rm_L_least : Room := { frames := 3, cells := 0, slots := 0, locals := 70 }
theorem cd_L_least : yL_least.cls = RL ∧ yL_least.cls ≠ "java/lang/invoke/MethodHandle" ∧ yL_least.cls ≠ "java/lang/invoke/VarHandle" ∧ (parseMethodDescriptor yL_least.desc).map (fun d => d.parameters.length) = some 5 := by decide +kernel
set_option maxHeartbeats 4000000 in
set_option maxRecDepth 100000 in
theorem k_L_least (l : Launch) (D : va_G) (cy : Nat → ClassId) (ad : Nat → Nat) (P Dr : Nat) (tI : xTab) (hX : cOk ad P Dr) (I : xMem) (L : xLon) (x3 : Int32) (x4 : Int32) (x5 : Int32) (r : Int32) (h : L_least I x3 x4 x5 = some r) : Met l yL_least wsL_least rm_L_least (va_Pc [.ref (ad 62), .ref (ad 63), .int x3, .int x4, .int x5] (cW D cy ad P Dr tI I L)) (cPi D cy ad P Dr tI I L r) 0 0 (gA 64 ad) := by
  refine g_met (own := RL) (cc := cL_least) (maxL := 10) (ret := (some .int)) (by decide) rfl (Nat.le_of_ble_eq_true rfl) rfl ?_
  intro p e s m args below meth c ls hx hb hml hr hlocks hown hts hG hK hZ hl
  generalize hQ : MQ below _ args s 0 0 _ = Q
  have hl : lv_has ls 10 [(0, .ref (ad 62)), (1, .ref (ad 63)), (2, .int x3), (3, .int x4), (4, .int x5)] := hl
  have hS : va_S (gA 64 ad) s.heap s.heap [] := va_S.rf
  obtain ⟨hi, hP, hDr⟩ := id hX
  have k1 := hts (.constant RL 51 (1048576)) (by decide +kernel)
  unfold L_least at h
  refine lv_ldc (v := (1048576 : Int32)) hx hb hown k1 dL_least_0 ?_
  refine lv_istore (lv' := [(5, .int (1048576 : Int32)), (0, .ref (ad 62)), (1, .ref (ad 63)), (2, .int x3), (3, .int x4), (4, .int x5)]) hx hb dL_least_2 hl (by decide) rfl (fun ls hl => ?_)
  refine lv_iconst (v := (0 : Int32)) hx hb dL_least_4 (by decide) ?_
  refine lv_istore (lv' := [(6, .int (0 : Int32)), (5, .int (1048576 : Int32)), (0, .ref (ad 62)), (1, .ref (ad 63)), (2, .int x3), (3, .int x4), (4, .int x5)]) hx hb dL_least_5 hl (by decide) rfl (fun ls hl => ?_)
  have keyK1 : ∀ (K1 : Int32 → Option (Int32)), (∀ (z5_2 : Int32) (H : Heap) (locs : List Loc) (ls : Array Slot), K1 z5_2 = some r → cG D cy ad P Dr I L H → va_S (gA 64 ad) s.heap H locs → lv_has ls 10 [(5, .int z5_2)] → W p l e rm_L_least s m args below meth c H locs 0 0 Q (F0 m 93 ls [])) → ∀ (n2 : Nat) (x5_2 : Int32) (x6_2 : Int32) (H : Heap) (locs : List Loc) (ls : Array Slot), L_least_L1 I x3 x4 x5 K1 n2 x5_2 x6_2 = some r → cG D cy ad P Dr I L H → va_S (gA 64 ad) s.heap H locs → lv_has ls 10 [(0, .ref (ad 62)), (1, .ref (ad 63)), (2, .int x3), (3, .int x4), (4, .int x5), (5, .int x5_2), (6, .int x6_2)] → W p l e rm_L_least s m args below meth c H locs 0 0 Q (F0 m 7 ls []) := by
    intro K1 hkK1 n2
    induction n2 with
    | zero =>
      intro x5_2 x6_2 H locs ls h
      exact ono h
    | succ n2 ihn2 =>
      intro x5_2 x6_2 H locs ls h hG hS hl
      rw [L_least_L1] at h
      refine lv_iload hx hb dL_least_7 (lv_at hl 6 rfl) ?_
      refine lv_sipush (v := (256 : Int32)) hx hb dL_least_9 (by decide) ?_
      refine lv_icmp_ge (tgt := 93) hx hb dL_least_12 (by decide) (fun c3 => ?_) (fun c3 => ?_)
      · have h := ite_t h c3
        exact hkK1 x5_2 _ _ _ h hG hS (lv_sub hl [5] rfl)
      · have h := ite_f h c3
        refine lv_iload hx hb dL_least_15 (lv_at hl 6 rfl) ?_
        refine lv_iconst (v := (4 : Int32)) hx hb dL_least_17 (by decide) ?_
        refine lv_ishr hx hb dL_least_18 ?_
        refine lv_istore (lv' := [(7, .int (x6_2 >>> ((4 : Int32) &&& 31))), (0, .ref (ad 62)), (1, .ref (ad 63)), (2, .int x3), (3, .int x4), (4, .int x5), (5, .int x5_2), (6, .int x6_2)]) hx hb dL_least_19 hl (by decide) rfl (fun ls hl => ?_)
        refine lv_iload hx hb dL_least_21 (lv_at hl 7 rfl) ?_
        refine lv_bipush (v := (15 : Int32)) hx hb dL_least_23 (by decide) ?_
        refine lv_iand hx hb dL_least_25 ?_
        refine lv_istore (lv' := [(8, .int (x6_2 &&& (15 : Int32))), (7, .int (x6_2 >>> ((4 : Int32) &&& 31))), (0, .ref (ad 62)), (1, .ref (ad 63)), (2, .int x3), (3, .int x4), (4, .int x5), (5, .int x5_2), (6, .int x6_2)]) hx hb dL_least_26 hl (by decide) rfl (fun ls hl => ?_)
        refine lv_iload hx hb dL_least_28 (lv_at hl 1 rfl) ?_
        refine lv_iload hx hb dL_least_30 (lv_at hl 0 rfl) ?_
        refine lv_iand hx hb dL_least_32 ?_
        refine lv_if_ne (tgt := 87) hx hb dL_least_33 (by decide) (fun c4 => ?_) (fun c4 => ?_)
        · have h := ite_f h c4
          refine lv_iinc (v := (x6_2 + (1 : Int32))) (lv' := [(6, .int (x6_2 + (1 : Int32))), (8, .int (x6_2 &&& (15 : Int32))), (7, .int (x6_2 >>> ((4 : Int32) &&& 31))), (0, .ref (ad 62)), (1, .ref (ad 63)), (2, .int x3), (3, .int x4), (4, .int x5), (5, .int x5_2)]) hx hb dL_least_87 hl (k := 8) rfl rfl (by decide) rfl (fun ls hl => ?_)
          refine lv_goto (tgt := 7) hx hb dL_least_90 (by decide) ?_
          exact ihn2 x5_2 (x6_2 + (1 : Int32)) _ _ _ h hG hS (lv_sub hl [3, 4, 5, 6, 7, 8, 0] rfl)
        · have h := ite_t h c4
          refine lv_iload hx hb dL_least_36 (lv_at hl 1 rfl) ?_
          refine lv_iload hx hb dL_least_38 (lv_at hl 0 rfl) ?_
          refine lv_ior hx hb dL_least_40 ?_
          refine lv_iload hx hb dL_least_41 (lv_at hl 6 rfl) ?_
          refine lv_iand hx hb dL_least_43 ?_
          refine lv_iload hx hb dL_least_44 (lv_at hl 1 rfl) ?_
          refine lv_iload hx hb dL_least_46 (lv_at hl 0 rfl) ?_
          refine lv_ior hx hb dL_least_48 ?_
          refine lv_icmp_ne (tgt := 87) hx hb dL_least_49 (by decide) (fun c5 => ?_) (fun c5 => ?_)
          · have h := ite_f h c5
            refine lv_iinc (v := (x6_2 + (1 : Int32))) (lv' := [(6, .int (x6_2 + (1 : Int32))), (8, .int (x6_2 &&& (15 : Int32))), (7, .int (x6_2 >>> ((4 : Int32) &&& 31))), (0, .ref (ad 62)), (1, .ref (ad 63)), (2, .int x3), (3, .int x4), (4, .int x5), (5, .int x5_2)]) hx hb dL_least_87 hl (k := 8) rfl rfl (by decide) rfl (fun ls hl => ?_)
            refine lv_goto (tgt := 7) hx hb dL_least_90 (by decide) ?_
            exact ihn2 x5_2 (x6_2 + (1 : Int32)) _ _ _ h hG hS (lv_sub hl [3, 4, 5, 6, 7, 8, 0] rfl)
          · have h := ite_t h c5
            refine lv_aload_n hx hb dL_least_52 rfl (lv_at hl 2 rfl) ?_
            refine lv_aload_n hx hb dL_least_53 rfl (lv_at hl 3 rfl) ?_
            refine lv_iload_n hx hb dL_least_54 rfl (lv_at hl 4 rfl) ?_
            refine lv_iload_n hx hb dL_least_55 rfl (lv_at hl 5 rfl) ?_
            refine lv_iload hx hb dL_least_56 (lv_at hl 1 rfl) ?_
            refine lv_iload hx hb dL_least_58 (lv_at hl 0 rfl) ?_
            obtain ⟨v6, ev6, h⟩ := obind h
            refine g_endi (va_runS (As := [.ref (ad 62), .ref (ad 63), .int x3, .int x4, .int (x6_2 >>> ((4 : Int32) &&& 31)), .int (x6_2 &&& (15 : Int32))]) (rest := []) ⟨hx, hb, hml, hown, hts⟩ (k_L_sink l D cy ad P Dr tI hX I L x3 x4 (x6_2 >>> ((4 : Int32) &&& 31)) (x6_2 &&& (15 : Int32)) v6 ev6) (va_cwS 6 hts gL_least_L_sink rfl rfl rfl cd_L_sink.2 ⟨Nat.le_of_ble_eq_true rfl, Nat.le_of_ble_eq_true rfl⟩) ⟨g_blind cZm, g_pre cZm hK hG hZ hS⟩ rfl rfl hl.1 rfl (lv_room (Nat.le_of_ble_eq_true rfl)) dL_least_60 ⟨Nat.le_refl _, Nat.le_refl _⟩) hS (fun H locs hG hS => ?_)
            refine lv_bipush (v := (8 : Int32)) hx hb dL_least_63 (by decide) ?_
            refine lv_ishl hx hb dL_least_65 ?_
            refine lv_iload hx hb dL_least_66 (lv_at hl 8 rfl) ?_
            refine lv_ior hx hb dL_least_68 ?_
            refine lv_istore (lv' := [(9, .int ((v6 <<< ((8 : Int32) &&& 31)) ||| x6_2)), (8, .int (x6_2 &&& (15 : Int32))), (7, .int (x6_2 >>> ((4 : Int32) &&& 31))), (0, .ref (ad 62)), (1, .ref (ad 63)), (2, .int x3), (3, .int x4), (4, .int x5), (5, .int x5_2), (6, .int x6_2)]) hx hb dL_least_69 hl (by decide) rfl (fun ls hl => ?_)
            refine lv_iload hx hb dL_least_71 (lv_at hl 0 rfl) ?_
            refine lv_iload hx hb dL_least_73 (lv_at hl 8 rfl) ?_
            refine lv_icmp_ge (tgt := 83) hx hb dL_least_75 (by decide) (fun c7 => ?_) (fun c7 => ?_)
            · have h := ite_t h c7
              refine lv_iload hx hb dL_least_83 (lv_at hl 8 rfl) ?_
              refine lv_istore (lv' := [(5, .int x5_2), (9, .int ((v6 <<< ((8 : Int32) &&& 31)) ||| x6_2)), (8, .int (x6_2 &&& (15 : Int32))), (7, .int (x6_2 >>> ((4 : Int32) &&& 31))), (0, .ref (ad 62)), (1, .ref (ad 63)), (2, .int x3), (3, .int x4), (4, .int x5), (6, .int x6_2)]) hx hb dL_least_85 hl (by decide) rfl (fun ls hl => ?_)
              refine lv_iinc (v := (x6_2 + (1 : Int32))) (lv' := [(6, .int (x6_2 + (1 : Int32))), (5, .int x5_2), (9, .int ((v6 <<< ((8 : Int32) &&& 31)) ||| x6_2)), (8, .int (x6_2 &&& (15 : Int32))), (7, .int (x6_2 >>> ((4 : Int32) &&& 31))), (0, .ref (ad 62)), (1, .ref (ad 63)), (2, .int x3), (3, .int x4), (4, .int x5)]) hx hb dL_least_87 hl (k := 9) rfl rfl (by decide) rfl (fun ls hl => ?_)
              refine lv_goto (tgt := 7) hx hb dL_least_90 (by decide) ?_
              exact ihn2 x5_2 (x6_2 + (1 : Int32)) _ _ _ h hG hS (lv_sub hl [5, 6, 7, 8, 9, 1, 0] rfl)
            · have h := ite_f h c7
              refine lv_iload hx hb dL_least_78 (lv_at hl 0 rfl) ?_
              refine lv_goto (tgt := 85) hx hb dL_least_80 (by decide) ?_
              refine lv_istore (lv' := [(5, .int ((v6 <<< ((8 : Int32) &&& 31)) ||| x6_2)), (9, .int ((v6 <<< ((8 : Int32) &&& 31)) ||| x6_2)), (8, .int (x6_2 &&& (15 : Int32))), (7, .int (x6_2 >>> ((4 : Int32) &&& 31))), (0, .ref (ad 62)), (1, .ref (ad 63)), (2, .int x3), (3, .int x4), (4, .int x5), (6, .int x6_2)]) hx hb dL_least_85 hl (by decide) rfl (fun ls hl => ?_)
              refine lv_iinc (v := (x6_2 + (1 : Int32))) (lv' := [(6, .int (x6_2 + (1 : Int32))), (5, .int ((v6 <<< ((8 : Int32) &&& 31)) ||| x6_2)), (9, .int ((v6 <<< ((8 : Int32) &&& 31)) ||| x6_2)), (8, .int (x6_2 &&& (15 : Int32))), (7, .int (x6_2 >>> ((4 : Int32) &&& 31))), (0, .ref (ad 62)), (1, .ref (ad 63)), (2, .int x3), (3, .int x4), (4, .int x5)]) hx hb dL_least_87 hl (k := 9) rfl rfl (by decide) rfl (fun ls hl => ?_)
              refine lv_goto (tgt := 7) hx hb dL_least_90 (by decide) ?_
              exact ihn2 ((v6 <<< ((8 : Int32) &&& 31)) ||| x6_2) (x6_2 + (1 : Int32)) _ _ _ h hG hS (lv_sub hl [5, 6, 7, 8, 9, 1, 0] rfl)
  refine keyK1 _ (fun z5_2 H locs ls h hG hS hl => ?_) bigF (1048576 : Int32) (0 : Int32) _ _ _ h hG hS (lv_sub hl [2, 3, 4, 5, 6, 1, 0] rfl)
  clear keyK1
  refine lv_iload hx hb dL_least_93 (lv_at hl 0 rfl) ?_
  have h := Option.some.inj h
  subst h
  subst hQ
  exact g_iret hx hb hr hlocks cZm hK hZ hG hS rfl dL_least_95
def L_can (I : xMem) (x3 : Int32) (x4 : Int32) : Option (Int32) := if x3 = x4 then (some (nz (0 : Int32))) else ((L_together I x3 x4).bind fun v2 => if v2 = (0 : Int32) then (some (nz (0 : Int32))) else ((L_there I x3).bind fun v4 => (L_least I x3 x4 v4).bind fun v5 => (rdI I 62 19 (2 : Int32)).bind fun v6 => if v6 < (v5 >>> ((8 : Int32) &&& 31)) then (some (nz (0 : Int32))) else (some (nz (1 : Int32)))))
abbrev rm_L_can : Room := { frames := 4, cells := 0, slots := 0, locals := 99 }
theorem cd_L_can : yL_can.cls = RL ∧ yL_can.cls ≠ "java/lang/invoke/MethodHandle" ∧ yL_can.cls ≠ "java/lang/invoke/VarHandle" ∧ (parseMethodDescriptor yL_can.desc).map (fun d => d.parameters.length) = some 4 := by decide +kernel
set_option maxHeartbeats 4000000 in
set_option maxRecDepth 100000 in
theorem k_L_can (l : Launch) (D : va_G) (cy : Nat → ClassId) (ad : Nat → Nat) (P Dr : Nat) (tI : xTab) (hX : cOk ad P Dr) (I : xMem) (L : xLon) (x3 : Int32) (x4 : Int32) (r : Int32) (h : L_can I x3 x4 = some r) : Met l yL_can wsL_can rm_L_can (va_Pc [.ref (ad 62), .ref (ad 63), .int x3, .int x4] (cW D cy ad P Dr tI I L)) (cPi D cy ad P Dr tI I L r) 0 0 (gA 64 ad) := by
  refine g_met (own := RL) (cc := cL_can) (maxL := 4) (ret := (some .boolean)) (by decide) rfl (Nat.le_of_ble_eq_true rfl) rfl ?_
  intro p e s m args below meth c ls hx hb hml hr hlocks hown hts hG hK hZ hl
  generalize hQ : MQ below _ args s 0 0 _ = Q
  have hl : lv_has ls 4 [(0, .ref (ad 62)), (1, .ref (ad 63)), (2, .int x3), (3, .int x4)] := hl
  have hS : va_S (gA 64 ad) s.heap s.heap [] := va_S.rf
  obtain ⟨hi, hP, hDr⟩ := id hX
  unfold L_can at h
  refine lv_iload_n hx hb dL_can_0 rfl (lv_at hl 2 rfl) ?_
  refine lv_iload_n hx hb dL_can_1 rfl (lv_at hl 3 rfl) ?_
  refine lv_icmp_eq (tgt := 40) hx hb dL_can_2 (by decide) (fun c1 => ?_) (fun c1 => ?_)
  · have h := ite_t h c1
    refine lv_iconst (v := (0 : Int32)) hx hb dL_can_40 (by decide) ?_
    have h := Option.some.inj h
    subst h
    subst hQ
    exact g_zret hx hb hr hlocks cZm hK hZ hG hS rfl dL_can_41
  · have h := ite_f h c1
    refine lv_aload_n hx hb dL_can_5 rfl (lv_at hl 1 rfl) ?_
    refine lv_iload_n hx hb dL_can_6 rfl (lv_at hl 2 rfl) ?_
    refine lv_iload_n hx hb dL_can_7 rfl (lv_at hl 3 rfl) ?_
    obtain ⟨v2, ev2, h⟩ := obind h
    refine g_endi (va_runS (As := [.ref (ad 63), .int x3, .int x4]) (rest := []) ⟨hx, hb, hml, hown, hts⟩ (k_L_together l D cy ad P Dr tI hX I L x3 x4 v2 ev2) (va_cwS 3 hts gL_can_L_together rfl rfl rfl cd_L_together.2 ⟨Nat.le_of_ble_eq_true rfl, Nat.le_of_ble_eq_true rfl⟩) ⟨g_blind cZm, g_pre cZm hK hG hZ hS⟩ rfl rfl hl.1 rfl (lv_room (Nat.le_of_ble_eq_true rfl)) dL_can_8 ⟨Nat.le_refl _, Nat.le_refl _⟩) hS (fun H locs hG hS => ?_)
    refine lv_if_eq (tgt := 40) hx hb dL_can_11 (by decide) (fun c3 => ?_) (fun c3 => ?_)
    · have h := ite_t h c3
      refine lv_iconst (v := (0 : Int32)) hx hb dL_can_40 (by decide) ?_
      have h := Option.some.inj h
      subst h
      subst hQ
      exact g_zret hx hb hr hlocks cZm hK hZ hG hS rfl dL_can_41
    · have h := ite_f h c3
      refine lv_aload_n hx hb dL_can_14 rfl (lv_at hl 0 rfl) ?_
      refine lv_aload_n hx hb dL_can_15 rfl (lv_at hl 1 rfl) ?_
      refine lv_iload_n hx hb dL_can_16 rfl (lv_at hl 2 rfl) ?_
      refine lv_iload_n hx hb dL_can_17 rfl (lv_at hl 3 rfl) ?_
      refine lv_aload_n hx hb dL_can_18 rfl (lv_at hl 0 rfl) ?_
      refine lv_aload_n hx hb dL_can_19 rfl (lv_at hl 1 rfl) ?_
      refine lv_iload_n hx hb dL_can_20 rfl (lv_at hl 2 rfl) ?_
      obtain ⟨v4, ev4, h⟩ := obind h
      refine g_endi (va_runS (As := [.ref (ad 62), .ref (ad 63), .int x3]) (rest := [.int x4, .int x3, .ref (ad 63), .ref (ad 62)]) ⟨hx, hb, hml, hown, hts⟩ (k_L_there l D cy ad P Dr tI hX I L x3 v4 ev4) (va_cwS 3 hts gL_can_L_there rfl rfl rfl cd_L_there.2 ⟨Nat.le_of_ble_eq_true rfl, Nat.le_of_ble_eq_true rfl⟩) ⟨g_blind cZm, g_pre cZm hK hG hZ hS⟩ rfl rfl hl.1 rfl (lv_room (Nat.le_of_ble_eq_true rfl)) dL_can_21 ⟨Nat.le_refl _, Nat.le_refl _⟩) hS (fun H locs hG hS => ?_)
      obtain ⟨v5, ev5, h⟩ := obind h
      refine g_endi (va_runS (As := [.ref (ad 62), .ref (ad 63), .int x3, .int x4, .int v4]) (rest := []) ⟨hx, hb, hml, hown, hts⟩ (k_L_least l D cy ad P Dr tI hX I L x3 x4 v4 v5 ev5) (va_cwS 5 hts gL_can_L_least rfl rfl rfl cd_L_least.2 ⟨Nat.le_of_ble_eq_true rfl, Nat.le_of_ble_eq_true rfl⟩) ⟨g_blind cZm, g_pre cZm hK hG hZ hS⟩ rfl rfl hl.1 rfl (lv_room (Nat.le_of_ble_eq_true rfl)) dL_can_24 ⟨Nat.le_refl _, Nat.le_refl _⟩) hS (fun H locs hG hS => ?_)
      refine lv_bipush (v := (8 : Int32)) hx hb dL_can_27 (by decide) ?_
      refine lv_ishr hx hb dL_can_29 ?_
      refine lv_aload_n hx hb dL_can_30 rfl (lv_at hl 0 rfl) ?_
      refine lv_iconst (v := (2 : Int32)) hx hb dL_can_31 (by decide) ?_
      refine g_ald hx hb hK hG (k := 62) (n := 19) (show cIA 62 19 from by decide +kernel).1.1 (cIA_e (show cIA 62 19 from by decide +kernel) _ _) 0 rfl h dL_can_32 (fun v6 h => ?_)
      refine lv_icmp_gt (tgt := 40) hx hb dL_can_33 (by decide) (fun c7 => ?_) (fun c7 => ?_)
      · have h := ite_t h c7
        refine lv_iconst (v := (0 : Int32)) hx hb dL_can_40 (by decide) ?_
        have h := Option.some.inj h
        subst h
        subst hQ
        exact g_zret hx hb hr hlocks cZm hK hZ hG hS rfl dL_can_41
      · have h := ite_f h c7
        refine lv_iconst (v := (1 : Int32)) hx hb dL_can_36 (by decide) ?_
        refine lv_goto (tgt := 41) hx hb dL_can_37 (by decide) ?_
        have h := Option.some.inj h
        subst h
        subst hQ
        exact g_zret hx hb hr hlocks cZm hK hZ hG hS rfl dL_can_41
def L_bits_L1 (x1 : Int32) (K1 : Int32 → Option (Int32)) : Nat → Int32 → Int32 → Option (Int32)
  | 0, _, _ => none
  | n2 + 1, x1_2, x2_2 => if (6 : Int32) ≤ x2_2 then (K1 x1_2) else (L_bits_L1 x1 K1 n2 (x1_2 + ((x1 >>> (x2_2 &&& 31)) &&& (1 : Int32))) (x2_2 + (1 : Int32)))
def L_bits (x1 : Int32) : Option (Int32) := L_bits_L1 x1 (fun (z1_2 : Int32) => some z1_2) bigF (0 : Int32) (0 : Int32)
abbrev rm_L_bits : Room := { frames := 0, cells := 0, slots := 0, locals := 0 }
theorem cd_L_bits : yL_bits.cls = RL ∧ yL_bits.cls ≠ "java/lang/invoke/MethodHandle" ∧ yL_bits.cls ≠ "java/lang/invoke/VarHandle" ∧ (parseMethodDescriptor yL_bits.desc).map (fun d => d.parameters.length) = some 1 := by decide +kernel
set_option maxHeartbeats 4000000 in
set_option maxRecDepth 100000 in
theorem k_L_bits (l : Launch) (D : va_G) (cy : Nat → ClassId) (ad : Nat → Nat) (P Dr : Nat) (tI : xTab) (hX : cOk ad P Dr) (I : xMem) (L : xLon) (x1 : Int32) (r : Int32) (h : L_bits x1 = some r) : Met l yL_bits wsL_bits rm_L_bits (va_Pc [.int x1] (cW D cy ad P Dr tI I L)) (cPi D cy ad P Dr tI I L r) 0 0 (gA 64 ad) := by
  refine g_met (own := RL) (cc := cL_bits) (maxL := 3) (ret := (some .int)) (by decide) rfl (Nat.le_of_ble_eq_true rfl) rfl ?_
  intro p e s m args below meth c ls hx hb hml hr hlocks hown hts hG hK hZ hl
  generalize hQ : MQ below _ args s 0 0 _ = Q
  have hl : lv_has ls 3 [(0, .int x1)] := hl
  have hS : va_S (gA 64 ad) s.heap s.heap [] := va_S.rf
  obtain ⟨hi, hP, hDr⟩ := id hX
  unfold L_bits at h
  refine lv_iconst (v := (0 : Int32)) hx hb dL_bits_0 (by decide) ?_
  refine lv_istore_n (lv' := [(1, .int (0 : Int32)), (0, .int x1)]) hx hb dL_bits_1 rfl hl (by decide) rfl (fun ls hl => ?_)
  refine lv_iconst (v := (0 : Int32)) hx hb dL_bits_2 (by decide) ?_
  refine lv_istore_n (lv' := [(2, .int (0 : Int32)), (1, .int (0 : Int32)), (0, .int x1)]) hx hb dL_bits_3 rfl hl (by decide) rfl (fun ls hl => ?_)
  have keyK1 : ∀ (K1 : Int32 → Option (Int32)), (∀ (z1_2 : Int32) (H : Heap) (locs : List Loc) (ls : Array Slot), K1 z1_2 = some r → cG D cy ad P Dr I L H → va_S (gA 64 ad) s.heap H locs → lv_has ls 3 [(1, .int z1_2)] → W p l e rm_L_bits s m args below meth c H locs 0 0 Q (F0 m 24 ls [])) → ∀ (n2 : Nat) (x1_2 : Int32) (x2_2 : Int32) (H : Heap) (locs : List Loc) (ls : Array Slot), L_bits_L1 x1 K1 n2 x1_2 x2_2 = some r → cG D cy ad P Dr I L H → va_S (gA 64 ad) s.heap H locs → lv_has ls 3 [(0, .int x1), (1, .int x1_2), (2, .int x2_2)] → W p l e rm_L_bits s m args below meth c H locs 0 0 Q (F0 m 4 ls []) := by
    intro K1 hkK1 n2
    induction n2 with
    | zero =>
      intro x1_2 x2_2 H locs ls h
      exact ono h
    | succ n2 ihn2 =>
      intro x1_2 x2_2 H locs ls h hG hS hl
      rw [L_bits_L1] at h
      refine lv_iload_n hx hb dL_bits_4 rfl (lv_at hl 2 rfl) ?_
      refine lv_bipush (v := (6 : Int32)) hx hb dL_bits_5 (by decide) ?_
      refine lv_icmp_ge (tgt := 24) hx hb dL_bits_7 (by decide) (fun c3 => ?_) (fun c3 => ?_)
      · have h := ite_t h c3
        exact hkK1 x1_2 _ _ _ h hG hS (lv_sub hl [1] rfl)
      · have h := ite_f h c3
        refine lv_iload_n hx hb dL_bits_10 rfl (lv_at hl 1 rfl) ?_
        refine lv_iload_n hx hb dL_bits_11 rfl (lv_at hl 0 rfl) ?_
        refine lv_iload_n hx hb dL_bits_12 rfl (lv_at hl 2 rfl) ?_
        refine lv_ishr hx hb dL_bits_13 ?_
        refine lv_iconst (v := (1 : Int32)) hx hb dL_bits_14 (by decide) ?_
        refine lv_iand hx hb dL_bits_15 ?_
        refine lv_iadd hx hb dL_bits_16 ?_
        refine lv_istore_n (lv' := [(1, .int (x1_2 + ((x1 >>> (x2_2 &&& 31)) &&& (1 : Int32)))), (0, .int x1), (2, .int x2_2)]) hx hb dL_bits_17 rfl hl (by decide) rfl (fun ls hl => ?_)
        refine lv_iinc (v := (x2_2 + (1 : Int32))) (lv' := [(2, .int (x2_2 + (1 : Int32))), (1, .int (x1_2 + ((x1 >>> (x2_2 &&& 31)) &&& (1 : Int32)))), (0, .int x1)]) hx hb dL_bits_18 hl (k := 2) rfl rfl (by decide) rfl (fun ls hl => ?_)
        refine lv_goto (tgt := 4) hx hb dL_bits_21 (by decide) ?_
        exact ihn2 (x1_2 + ((x1 >>> (x2_2 &&& 31)) &&& (1 : Int32))) (x2_2 + (1 : Int32)) _ _ _ h hG hS (lv_sub hl [2, 1, 0] rfl)
  refine keyK1 _ (fun z1_2 H locs ls h hG hS hl => ?_) bigF (0 : Int32) (0 : Int32) _ _ _ h hG hS (lv_sub hl [2, 1, 0] rfl)
  clear keyK1
  refine lv_iload_n hx hb dL_bits_24 rfl (lv_at hl 0 rfl) ?_
  have h := Option.some.inj h
  subst h
  subst hQ
  exact g_iret hx hb hr hlocks cZm hK hZ hG hS rfl dL_bits_25
def L_go (I : xMem) (x3 : Int32) (x4 : Int32) (x5 : Int32) (x6 : Int32) : Option (Int32 × xMem) := (L_sink I x3 x4 x5 x6).bind fun v1 => (rdI I 63 4 (3 : Int32)).bind fun v2 => (wrI I 63 4 (3 : Int32) (v2 + v1)).bind fun I3 => (rdI I3 63 4 (1 : Int32)).bind fun v4 => (wrI I3 63 4 (1 : Int32) (v4 ^^^ ((1 : Int32) <<< (x3 &&& 31)))).bind fun I5 => (rdI I5 63 4 (1 : Int32)).bind fun v6 => (wrI I5 63 4 (1 : Int32) (v6 ^^^ ((1 : Int32) <<< (x4 &&& 31)))).bind fun I7 => (rdI I7 63 4 (2 : Int32)).bind fun v8 => (wrI I7 63 4 (2 : Int32) (v8 ^^^ (x5 ||| x6))).bind fun I9 => some (v1, I9)
abbrev rm_L_go : Room := { frames := 3, cells := 0, slots := 0, locals := 70 }
theorem cd_L_go : yL_go.cls = RL ∧ yL_go.cls ≠ "java/lang/invoke/MethodHandle" ∧ yL_go.cls ≠ "java/lang/invoke/VarHandle" ∧ (parseMethodDescriptor yL_go.desc).map (fun d => d.parameters.length) = some 6 := by decide +kernel
set_option maxHeartbeats 4000000 in
set_option maxRecDepth 100000 in
theorem k_L_go (l : Launch) (D : va_G) (cy : Nat → ClassId) (ad : Nat → Nat) (P Dr : Nat) (tI : xTab) (hX : cOk ad P Dr) (I : xMem) (L : xLon) (x3 : Int32) (x4 : Int32) (x5 : Int32) (x6 : Int32) (r : Int32 × xMem) (h : L_go I x3 x4 x5 x6 = some r) : Met l yL_go wsL_go rm_L_go (va_Pc [.ref (ad 62), .ref (ad 63), .int x3, .int x4, .int x5, .int x6] (cW D cy ad P Dr tI I L)) (cPi D cy ad P Dr tI r.2 L r.1) 0 0 (gA 64 ad) := by
  refine g_met (own := RL) (cc := cL_go) (maxL := 7) (ret := (some .int)) (by decide) rfl (Nat.le_of_ble_eq_true rfl) rfl ?_
  intro p e s m args below meth c ls hx hb hml hr hlocks hown hts hG hK hZ hl
  generalize hQ : MQ below _ args s 0 0 _ = Q
  have hl : lv_has ls 7 [(0, .ref (ad 62)), (1, .ref (ad 63)), (2, .int x3), (3, .int x4), (4, .int x5), (5, .int x6)] := hl
  have hS : va_S (gA 64 ad) s.heap s.heap [] := va_S.rf
  obtain ⟨hi, hP, hDr⟩ := id hX
  unfold L_go at h
  refine lv_aload_n hx hb dL_go_0 rfl (lv_at hl 0 rfl) ?_
  refine lv_aload_n hx hb dL_go_1 rfl (lv_at hl 1 rfl) ?_
  refine lv_iload_n hx hb dL_go_2 rfl (lv_at hl 2 rfl) ?_
  refine lv_iload_n hx hb dL_go_3 rfl (lv_at hl 3 rfl) ?_
  refine lv_iload hx hb dL_go_4 (lv_at hl 4 rfl) ?_
  refine lv_iload hx hb dL_go_6 (lv_at hl 5 rfl) ?_
  obtain ⟨v1, ev1, h⟩ := obind h
  refine g_endi (va_runS (As := [.ref (ad 62), .ref (ad 63), .int x3, .int x4, .int x5, .int x6]) (rest := []) ⟨hx, hb, hml, hown, hts⟩ (k_L_sink l D cy ad P Dr tI hX I L x3 x4 x5 x6 v1 ev1) (va_cwS 6 hts gL_go_L_sink rfl rfl rfl cd_L_sink.2 ⟨Nat.le_of_ble_eq_true rfl, Nat.le_of_ble_eq_true rfl⟩) ⟨g_blind cZm, g_pre cZm hK hG hZ hS⟩ rfl rfl hl.1 rfl (lv_room (Nat.le_of_ble_eq_true rfl)) dL_go_8 ⟨Nat.le_refl _, Nat.le_refl _⟩) hS (fun H locs hG hS => ?_)
  refine lv_istore (lv' := [(6, .int v1), (0, .ref (ad 62)), (1, .ref (ad 63)), (2, .int x3), (3, .int x4), (4, .int x5), (5, .int x6)]) hx hb dL_go_11 hl (by decide) rfl (fun ls hl => ?_)
  refine lv_aload_n hx hb dL_go_13 rfl (lv_at hl 2 rfl) ?_
  refine lv_iconst (v := (3 : Int32)) hx hb dL_go_14 (by decide) ?_
  refine lv_dup2_11 hx hb dL_go_15 rfl rfl ?_
  refine g_ald hx hb hK hG (k := 63) (n := 4) (show cIA 63 4 from by decide +kernel).1.1 (cIA_e (show cIA 63 4 from by decide +kernel) _ _) 0 rfl h dL_go_16 (fun v2 h => ?_)
  refine lv_iload hx hb dL_go_17 (lv_at hl 0 rfl) ?_
  refine lv_iadd hx hb dL_go_19 ?_
  refine g_ast hx hb hK hG hi hS (k := 63) (n := 4) (show cIA 63 4 from by decide +kernel).1.1 (fun f => cIA_e (show cIA 63 4 from by decide +kernel) f _) 0 rfl h dL_go_20 (fun I3 H locs h hG hS => ?_)
  refine lv_aload_n hx hb dL_go_21 rfl (lv_at hl 2 rfl) ?_
  refine lv_iconst (v := (1 : Int32)) hx hb dL_go_22 (by decide) ?_
  refine lv_dup2_11 hx hb dL_go_23 rfl rfl ?_
  refine g_ald hx hb hK hG (k := 63) (n := 4) (show cIA 63 4 from by decide +kernel).1.1 (cIA_e (show cIA 63 4 from by decide +kernel) _ _) 0 rfl h dL_go_24 (fun v4 h => ?_)
  refine lv_iconst (v := (1 : Int32)) hx hb dL_go_25 (by decide) ?_
  refine lv_iload_n hx hb dL_go_26 rfl (lv_at hl 3 rfl) ?_
  refine lv_ishl hx hb dL_go_27 ?_
  refine lv_ixor hx hb dL_go_28 ?_
  refine g_ast hx hb hK hG hi hS (k := 63) (n := 4) (show cIA 63 4 from by decide +kernel).1.1 (fun f => cIA_e (show cIA 63 4 from by decide +kernel) f _) 0 rfl h dL_go_29 (fun I5 H locs h hG hS => ?_)
  refine lv_aload_n hx hb dL_go_30 rfl (lv_at hl 2 rfl) ?_
  refine lv_iconst (v := (1 : Int32)) hx hb dL_go_31 (by decide) ?_
  refine lv_dup2_11 hx hb dL_go_32 rfl rfl ?_
  refine g_ald hx hb hK hG (k := 63) (n := 4) (show cIA 63 4 from by decide +kernel).1.1 (cIA_e (show cIA 63 4 from by decide +kernel) _ _) 0 rfl h dL_go_33 (fun v6 h => ?_)
  refine lv_iconst (v := (1 : Int32)) hx hb dL_go_34 (by decide) ?_
  refine lv_iload_n hx hb dL_go_35 rfl (lv_at hl 4 rfl) ?_
  refine lv_ishl hx hb dL_go_36 ?_
  refine lv_ixor hx hb dL_go_37 ?_
  refine g_ast hx hb hK hG hi hS (k := 63) (n := 4) (show cIA 63 4 from by decide +kernel).1.1 (fun f => cIA_e (show cIA 63 4 from by decide +kernel) f _) 0 rfl h dL_go_38 (fun I7 H locs h hG hS => ?_)
  refine lv_aload_n hx hb dL_go_39 rfl (lv_at hl 2 rfl) ?_
  refine lv_iconst (v := (2 : Int32)) hx hb dL_go_40 (by decide) ?_
  refine lv_dup2_11 hx hb dL_go_41 rfl rfl ?_
  refine g_ald hx hb hK hG (k := 63) (n := 4) (show cIA 63 4 from by decide +kernel).1.1 (cIA_e (show cIA 63 4 from by decide +kernel) _ _) 0 rfl h dL_go_42 (fun v8 h => ?_)
  refine lv_iload hx hb dL_go_43 (lv_at hl 5 rfl) ?_
  refine lv_iload hx hb dL_go_45 (lv_at hl 6 rfl) ?_
  refine lv_ior hx hb dL_go_47 ?_
  refine lv_ixor hx hb dL_go_48 ?_
  refine g_ast hx hb hK hG hi hS (k := 63) (n := 4) (show cIA 63 4 from by decide +kernel).1.1 (fun f => cIA_e (show cIA 63 4 from by decide +kernel) f _) 0 rfl h dL_go_49 (fun I9 H locs h hG hS => ?_)
  refine lv_iload hx hb dL_go_50 (lv_at hl 0 rfl) ?_
  have h := Option.some.inj h
  subst h
  subst hQ
  exact g_iret hx hb hr hlocks cZm hK hZ hG hS rfl dL_go_52
def L_stir_L1 (P : Nat) (x4 : Int32) (x5 : Int32) (K1 : Int32 → xMem → Option (Int32 × xMem)) : Nat → Int32 → Int32 → xMem → Option (Int32 × xMem)
  | 0, _, _, _ => none
  | n2 + 1, x5_2, x6_2, I3 => if x5 ≤ x6_2 then (K1 x5_2 I3) else ((rdI I3 62 19 (0 : Int32)).bind fun v6 => (L_low (((x4 >>> (((3 : Int32) * x6_2) &&& 31)) + ((7 : Int32) * x6_2)) >>> ((2 : Int32) &&& 31)) v6).bind fun v7 => (rdI I3 62 19 (0 : Int32)).bind fun v8 => (L_low (((x4 >>> (((3 : Int32) * x6_2) &&& 31)) + ((7 : Int32) * x6_2)) >>> ((5 : Int32) &&& 31)) (v8 - (1 : Int32))).bind fun v9 => (rdI I3 62 19 (0 : Int32)).bind fun v10 => (rmI ((v7 + (1 : Int32)) + v9) v10).bind fun v11 => if (((x4 >>> (((3 : Int32) * x6_2) &&& 31)) + ((7 : Int32) * x6_2)) &&& (3 : Int32)) = (0 : Int32) then ((rdI I3 63 4 (0 : Int32)).bind fun v21 => if (9 : Int32) ≤ v21 then ((L_can I3 v7 v11).bind fun v23 => if v23 = (0 : Int32) then (L_stir_L1 P x4 x5 K1 n2 x5_2 (x6_2 + (1 : Int32)) I3) else ((L_there I3 v7).bind fun v25 => (L_least I3 v7 v11 v25).bind fun v26 => (L_go I3 v7 v11 ((v26 >>> ((4 : Int32) &&& 31)) &&& (15 : Int32)) (v26 &&& (15 : Int32))).bind fun q27 => if x5_2 = (0 : Int32) then (L_stir_L1 P x4 x5 K1 n2 (0 : Int32) (x6_2 + (1 : Int32)) q27.2) else ((X4_go P q27.2 v7 v11 ((v26 >>> ((4 : Int32) &&& 31)) &&& (15 : Int32)) (v26 &&& (15 : Int32))).bind fun q29 => if q29.1 = q27.1 then (L_stir_L1 P x4 x5 K1 n2 (1 : Int32) (x6_2 + (1 : Int32)) q29.2) else (L_stir_L1 P x4 x5 K1 n2 (0 : Int32) (x6_2 + (1 : Int32)) q29.2)))) else ((rdI I3 63 4 (0 : Int32)).bind fun v31 => (wrI I3 63 4 (0 : Int32) (v31 + (1 : Int32))).bind fun I32 => (if x5_2 = (0 : Int32) then (some ((0 : Int32), I32)) else ((X4_loaf P I32).bind fun q35 => (rdI q35.2 63 4 (0 : Int32)).bind fun v36 => if q35.1 = v36 then (some ((1 : Int32), q35.2)) else (some ((0 : Int32), q35.2)))).bind fun q33 => L_stir_L1 P x4 x5 K1 n2 q33.1 (x6_2 + (1 : Int32)) q33.2)) else ((L_can I3 v7 v11).bind fun v13 => if v13 = (0 : Int32) then (L_stir_L1 P x4 x5 K1 n2 x5_2 (x6_2 + (1 : Int32)) I3) else ((L_there I3 v7).bind fun v15 => (L_least I3 v7 v11 v15).bind fun v16 => (L_go I3 v7 v11 ((v16 >>> ((4 : Int32) &&& 31)) &&& (15 : Int32)) (v16 &&& (15 : Int32))).bind fun q17 => if x5_2 = (0 : Int32) then (L_stir_L1 P x4 x5 K1 n2 (0 : Int32) (x6_2 + (1 : Int32)) q17.2) else ((X4_go P q17.2 v7 v11 ((v16 >>> ((4 : Int32) &&& 31)) &&& (15 : Int32)) (v16 &&& (15 : Int32))).bind fun q19 => if q19.1 = q17.1 then (L_stir_L1 P x4 x5 K1 n2 (1 : Int32) (x6_2 + (1 : Int32)) q19.2) else (L_stir_L1 P x4 x5 K1 n2 (0 : Int32) (x6_2 + (1 : Int32)) q19.2)))))
def L_stir (P : Nat) (I : xMem) (x4 : Int32) (x5 : Int32) : Option (Int32 × xMem) := L_stir_L1 P x4 x5 (fun (z5_3 : Int32) (I4 : xMem) => some ((nz z5_3), I4)) bigF (1 : Int32) (0 : Int32) I
abbrev rm_L_stir : Room := { frames := 5, cells := 0, slots := 0, locals := 122 }
theorem cd_L_stir : yL_stir.cls = RL ∧ yL_stir.cls ≠ "java/lang/invoke/MethodHandle" ∧ yL_stir.cls ≠ "java/lang/invoke/VarHandle" ∧ (parseMethodDescriptor yL_stir.desc).map (fun d => d.parameters.length) = some 5 := by decide +kernel
set_option maxHeartbeats 4000000 in
set_option maxRecDepth 100000 in
theorem k_L_stir (l : Launch) (D : va_G) (cy : Nat → ClassId) (ad : Nat → Nat) (P Dr : Nat) (tI : xTab) (hX : cOk ad P Dr) (I : xMem) (L : xLon) (x4 : Int32) (x5 : Int32) (r : Int32 × xMem) (h : L_stir P I x4 x5 = some r) : Met l yL_stir wsL_stir rm_L_stir (va_Pc [.ref (ad 0), .ref (ad 62), .ref (ad 63), .int x4, .int x5] (cW D cy ad P Dr tI I L)) (cPi D cy ad P Dr tI r.2 L r.1) 0 0 (gA 64 ad) := by
  refine g_met (own := RL) (cc := cL_stir) (maxL := 12) (ret := (some .boolean)) (by decide) rfl (Nat.le_of_ble_eq_true rfl) rfl ?_
  intro p e s m args below meth c ls hx hb hml hr hlocks hown hts hG hK hZ hl
  generalize hQ : MQ below _ args s 0 0 _ = Q
  have hl : lv_has ls 12 [(0, .ref (ad 0)), (1, .ref (ad 62)), (2, .ref (ad 63)), (3, .int x4), (4, .int x5)] := hl
  have hS : va_S (gA 64 ad) s.heap s.heap [] := va_S.rf
  obtain ⟨hi, hP, hDr⟩ := id hX
  unfold L_stir at h
  refine lv_iconst (v := (1 : Int32)) hx hb dL_stir_0 (by decide) ?_
  refine lv_istore (lv' := [(5, .int (1 : Int32)), (0, .ref (ad 0)), (1, .ref (ad 62)), (2, .ref (ad 63)), (3, .int x4), (4, .int x5)]) hx hb dL_stir_1 hl (by decide) rfl (fun ls hl => ?_)
  refine lv_iconst (v := (0 : Int32)) hx hb dL_stir_3 (by decide) ?_
  refine lv_istore (lv' := [(6, .int (0 : Int32)), (5, .int (1 : Int32)), (0, .ref (ad 0)), (1, .ref (ad 62)), (2, .ref (ad 63)), (3, .int x4), (4, .int x5)]) hx hb dL_stir_4 hl (by decide) rfl (fun ls hl => ?_)
  have keyK1 : ∀ (K1 : Int32 → xMem → Option (Int32 × xMem)), (∀ (z5_3 : Int32) (I4 : xMem) (H : Heap) (locs : List Loc) (ls : Array Slot), K1 z5_3 I4 = some r → cG D cy ad P Dr I4 L H → va_S (gA 64 ad) s.heap H locs → lv_has ls 12 [(5, .int z5_3)] → W p l e rm_L_stir s m args below meth c H locs 0 0 Q (F0 m 205 ls [])) → ∀ (n2 : Nat) (x5_2 : Int32) (x6_2 : Int32) (I3 : xMem) (H : Heap) (locs : List Loc) (ls : Array Slot), L_stir_L1 P x4 x5 K1 n2 x5_2 x6_2 I3 = some r → cG D cy ad P Dr I3 L H → va_S (gA 64 ad) s.heap H locs → lv_has ls 12 [(0, .ref (ad 0)), (1, .ref (ad 62)), (2, .ref (ad 63)), (3, .int x4), (4, .int x5), (5, .int x5_2), (6, .int x6_2)] → W p l e rm_L_stir s m args below meth c H locs 0 0 Q (F0 m 6 ls []) := by
    intro K1 hkK1 n2
    induction n2 with
    | zero =>
      intro x5_2 x6_2 I3 H locs ls h
      exact ono h
    | succ n2 ihn2 =>
      intro x5_2 x6_2 I3 H locs ls h hG hS hl
      rw [L_stir_L1] at h
      refine lv_iload hx hb dL_stir_6 (lv_at hl 6 rfl) ?_
      refine lv_iload hx hb dL_stir_8 (lv_at hl 4 rfl) ?_
      refine lv_icmp_ge (tgt := 205) hx hb dL_stir_10 (by decide) (fun c5 => ?_) (fun c5 => ?_)
      · have h := ite_t h c5
        exact hkK1 x5_2 I3 _ _ _ h hG hS (lv_sub hl [5] rfl)
      · have h := ite_f h c5
        refine lv_iload_n hx hb dL_stir_13 rfl (lv_at hl 3 rfl) ?_
        refine lv_iconst (v := (3 : Int32)) hx hb dL_stir_14 (by decide) ?_
        refine lv_iload hx hb dL_stir_15 (lv_at hl 6 rfl) ?_
        refine lv_imul hx hb dL_stir_17 ?_
        refine lv_ishr hx hb dL_stir_18 ?_
        refine lv_bipush (v := (7 : Int32)) hx hb dL_stir_19 (by decide) ?_
        refine lv_iload hx hb dL_stir_21 (lv_at hl 6 rfl) ?_
        refine lv_imul hx hb dL_stir_23 ?_
        refine lv_iadd hx hb dL_stir_24 ?_
        refine lv_istore (lv' := [(7, .int ((x4 >>> (((3 : Int32) * x6_2) &&& 31)) + ((7 : Int32) * x6_2))), (0, .ref (ad 0)), (1, .ref (ad 62)), (2, .ref (ad 63)), (3, .int x4), (4, .int x5), (5, .int x5_2), (6, .int x6_2)]) hx hb dL_stir_25 hl (by decide) rfl (fun ls hl => ?_)
        refine lv_iload hx hb dL_stir_27 (lv_at hl 0 rfl) ?_
        refine lv_iconst (v := (2 : Int32)) hx hb dL_stir_29 (by decide) ?_
        refine lv_ishr hx hb dL_stir_30 ?_
        refine lv_aload_n hx hb dL_stir_31 rfl (lv_at hl 2 rfl) ?_
        refine lv_iconst (v := (0 : Int32)) hx hb dL_stir_32 (by decide) ?_
        refine g_ald hx hb hK hG (k := 62) (n := 19) (show cIA 62 19 from by decide +kernel).1.1 (cIA_e (show cIA 62 19 from by decide +kernel) _ _) 0 rfl h dL_stir_33 (fun v6 h => ?_)
        obtain ⟨v7, ev7, h⟩ := obind h
        refine g_endi (va_runS (As := [.int (((x4 >>> (((3 : Int32) * x6_2) &&& 31)) + ((7 : Int32) * x6_2)) >>> ((2 : Int32) &&& 31)), .int v6]) (rest := []) ⟨hx, hb, hml, hown, hts⟩ (k_L_low l D cy ad P Dr tI hX I3 L (((x4 >>> (((3 : Int32) * x6_2) &&& 31)) + ((7 : Int32) * x6_2)) >>> ((2 : Int32) &&& 31)) v6 v7 ev7) (va_cwS 2 hts gL_stir_L_low rfl rfl rfl cd_L_low.2 ⟨Nat.le_of_ble_eq_true rfl, Nat.le_of_ble_eq_true rfl⟩) ⟨g_blind cZm, g_pre cZm hK hG hZ hS⟩ rfl rfl hl.1 rfl (lv_room (Nat.le_of_ble_eq_true rfl)) dL_stir_34 ⟨Nat.le_refl _, Nat.le_refl _⟩) hS (fun H locs hG hS => ?_)
        refine lv_istore (lv' := [(8, .int v7), (7, .int ((x4 >>> (((3 : Int32) * x6_2) &&& 31)) + ((7 : Int32) * x6_2))), (0, .ref (ad 0)), (1, .ref (ad 62)), (2, .ref (ad 63)), (3, .int x4), (4, .int x5), (5, .int x5_2), (6, .int x6_2)]) hx hb dL_stir_37 hl (by decide) rfl (fun ls hl => ?_)
        refine lv_iload hx hb dL_stir_39 (lv_at hl 0 rfl) ?_
        refine lv_iconst (v := (1 : Int32)) hx hb dL_stir_41 (by decide) ?_
        refine lv_iadd hx hb dL_stir_42 ?_
        refine lv_iload hx hb dL_stir_43 (lv_at hl 1 rfl) ?_
        refine lv_iconst (v := (5 : Int32)) hx hb dL_stir_45 (by decide) ?_
        refine lv_ishr hx hb dL_stir_46 ?_
        refine lv_aload_n hx hb dL_stir_47 rfl (lv_at hl 3 rfl) ?_
        refine lv_iconst (v := (0 : Int32)) hx hb dL_stir_48 (by decide) ?_
        refine g_ald hx hb hK hG (k := 62) (n := 19) (show cIA 62 19 from by decide +kernel).1.1 (cIA_e (show cIA 62 19 from by decide +kernel) _ _) 0 rfl h dL_stir_49 (fun v8 h => ?_)
        refine lv_iconst (v := (1 : Int32)) hx hb dL_stir_50 (by decide) ?_
        refine lv_isub hx hb dL_stir_51 ?_
        obtain ⟨v9, ev9, h⟩ := obind h
        refine g_endi (va_runS (As := [.int (((x4 >>> (((3 : Int32) * x6_2) &&& 31)) + ((7 : Int32) * x6_2)) >>> ((5 : Int32) &&& 31)), .int (v8 - (1 : Int32))]) (rest := [.int (v7 + (1 : Int32))]) ⟨hx, hb, hml, hown, hts⟩ (k_L_low l D cy ad P Dr tI hX I3 L (((x4 >>> (((3 : Int32) * x6_2) &&& 31)) + ((7 : Int32) * x6_2)) >>> ((5 : Int32) &&& 31)) (v8 - (1 : Int32)) v9 ev9) (va_cwS 2 hts gL_stir_L_low rfl rfl rfl cd_L_low.2 ⟨Nat.le_of_ble_eq_true rfl, Nat.le_of_ble_eq_true rfl⟩) ⟨g_blind cZm, g_pre cZm hK hG hZ hS⟩ rfl rfl hl.1 rfl (lv_room (Nat.le_of_ble_eq_true rfl)) dL_stir_52 ⟨Nat.le_refl _, Nat.le_refl _⟩) hS (fun H locs hG hS => ?_)
        refine lv_iadd hx hb dL_stir_55 ?_
        refine lv_aload_n hx hb dL_stir_56 rfl (lv_at hl 3 rfl) ?_
        refine lv_iconst (v := (0 : Int32)) hx hb dL_stir_57 (by decide) ?_
        refine g_ald hx hb hK hG (k := 62) (n := 19) (show cIA 62 19 from by decide +kernel).1.1 (cIA_e (show cIA 62 19 from by decide +kernel) _ _) 0 rfl h dL_stir_58 (fun v10 h => ?_)
        refine g_irem hx hb h dL_stir_59 (fun v11 h => ?_)
        refine lv_istore (lv' := [(9, .int v11), (8, .int v7), (7, .int ((x4 >>> (((3 : Int32) * x6_2) &&& 31)) + ((7 : Int32) * x6_2))), (0, .ref (ad 0)), (1, .ref (ad 62)), (2, .ref (ad 63)), (3, .int x4), (4, .int x5), (5, .int x5_2), (6, .int x6_2)]) hx hb dL_stir_60 hl (by decide) rfl (fun ls hl => ?_)
        refine lv_iload hx hb dL_stir_62 (lv_at hl 2 rfl) ?_
        refine lv_iconst (v := (3 : Int32)) hx hb dL_stir_64 (by decide) ?_
        refine lv_iand hx hb dL_stir_65 ?_
        refine lv_if_ne (tgt := 109) hx hb dL_stir_66 (by decide) (fun c12 => ?_) (fun c12 => ?_)
        · have h := ite_f h c12
          refine lv_aload_n hx hb dL_stir_109 rfl (lv_at hl 4 rfl) ?_
          refine lv_aload_n hx hb dL_stir_110 rfl (lv_at hl 5 rfl) ?_
          refine lv_iload hx hb dL_stir_111 (lv_at hl 1 rfl) ?_
          refine lv_iload hx hb dL_stir_113 (lv_at hl 0 rfl) ?_
          obtain ⟨v13, ev13, h⟩ := obind h
          refine g_endi (va_runS (As := [.ref (ad 62), .ref (ad 63), .int v7, .int v11]) (rest := []) ⟨hx, hb, hml, hown, hts⟩ (k_L_can l D cy ad P Dr tI hX I3 L v7 v11 v13 ev13) (va_cwS 4 hts gL_stir_L_can rfl rfl rfl cd_L_can.2 ⟨Nat.le_of_ble_eq_true rfl, Nat.le_of_ble_eq_true rfl⟩) ⟨g_blind cZm, g_pre cZm hK hG hZ hS⟩ rfl rfl hl.1 rfl (lv_room (Nat.le_of_ble_eq_true rfl)) dL_stir_115 ⟨Nat.le_refl _, Nat.le_refl _⟩) hS (fun H locs hG hS => ?_)
          refine lv_if_eq (tgt := 199) hx hb dL_stir_118 (by decide) (fun c14 => ?_) (fun c14 => ?_)
          · have h := ite_t h c14
            refine lv_iinc (v := (x6_2 + (1 : Int32))) (lv' := [(6, .int (x6_2 + (1 : Int32))), (9, .int v11), (8, .int v7), (7, .int ((x4 >>> (((3 : Int32) * x6_2) &&& 31)) + ((7 : Int32) * x6_2))), (0, .ref (ad 0)), (1, .ref (ad 62)), (2, .ref (ad 63)), (3, .int x4), (4, .int x5), (5, .int x5_2)]) hx hb dL_stir_199 hl (k := 9) rfl rfl (by decide) rfl (fun ls hl => ?_)
            refine lv_goto (tgt := 6) hx hb dL_stir_202 (by decide) ?_
            exact ihn2 x5_2 (x6_2 + (1 : Int32)) I3 _ _ _ h hG hS (lv_sub hl [4, 5, 6, 7, 8, 9, 0] rfl)
          · have h := ite_f h c14
            refine lv_aload_n hx hb dL_stir_121 rfl (lv_at hl 4 rfl) ?_
            refine lv_aload_n hx hb dL_stir_122 rfl (lv_at hl 5 rfl) ?_
            refine lv_iload hx hb dL_stir_123 (lv_at hl 1 rfl) ?_
            refine lv_iload hx hb dL_stir_125 (lv_at hl 0 rfl) ?_
            refine lv_aload_n hx hb dL_stir_127 rfl (lv_at hl 4 rfl) ?_
            refine lv_aload_n hx hb dL_stir_128 rfl (lv_at hl 5 rfl) ?_
            refine lv_iload hx hb dL_stir_129 (lv_at hl 1 rfl) ?_
            obtain ⟨v15, ev15, h⟩ := obind h
            refine g_endi (va_runS (As := [.ref (ad 62), .ref (ad 63), .int v7]) (rest := [.int v11, .int v7, .ref (ad 63), .ref (ad 62)]) ⟨hx, hb, hml, hown, hts⟩ (k_L_there l D cy ad P Dr tI hX I3 L v7 v15 ev15) (va_cwS 3 hts gL_stir_L_there rfl rfl rfl cd_L_there.2 ⟨Nat.le_of_ble_eq_true rfl, Nat.le_of_ble_eq_true rfl⟩) ⟨g_blind cZm, g_pre cZm hK hG hZ hS⟩ rfl rfl hl.1 rfl (lv_room (Nat.le_of_ble_eq_true rfl)) dL_stir_131 ⟨Nat.le_refl _, Nat.le_refl _⟩) hS (fun H locs hG hS => ?_)
            obtain ⟨v16, ev16, h⟩ := obind h
            refine g_endi (va_runS (As := [.ref (ad 62), .ref (ad 63), .int v7, .int v11, .int v15]) (rest := []) ⟨hx, hb, hml, hown, hts⟩ (k_L_least l D cy ad P Dr tI hX I3 L v7 v11 v15 v16 ev16) (va_cwS 5 hts gL_stir_L_least rfl rfl rfl cd_L_least.2 ⟨Nat.le_of_ble_eq_true rfl, Nat.le_of_ble_eq_true rfl⟩) ⟨g_blind cZm, g_pre cZm hK hG hZ hS⟩ rfl rfl hl.1 rfl (lv_room (Nat.le_of_ble_eq_true rfl)) dL_stir_134 ⟨Nat.le_refl _, Nat.le_refl _⟩) hS (fun H locs hG hS => ?_)
            refine lv_istore (lv' := [(10, .int v16), (9, .int v11), (8, .int v7), (7, .int ((x4 >>> (((3 : Int32) * x6_2) &&& 31)) + ((7 : Int32) * x6_2))), (0, .ref (ad 0)), (1, .ref (ad 62)), (2, .ref (ad 63)), (3, .int x4), (4, .int x5), (5, .int x5_2), (6, .int x6_2)]) hx hb dL_stir_137 hl (by decide) rfl (fun ls hl => ?_)
            refine lv_aload_n hx hb dL_stir_139 rfl (lv_at hl 5 rfl) ?_
            refine lv_aload_n hx hb dL_stir_140 rfl (lv_at hl 6 rfl) ?_
            refine lv_iload hx hb dL_stir_141 (lv_at hl 2 rfl) ?_
            refine lv_iload hx hb dL_stir_143 (lv_at hl 1 rfl) ?_
            refine lv_iload hx hb dL_stir_145 (lv_at hl 0 rfl) ?_
            refine lv_iconst (v := (4 : Int32)) hx hb dL_stir_147 (by decide) ?_
            refine lv_ishr hx hb dL_stir_148 ?_
            refine lv_bipush (v := (15 : Int32)) hx hb dL_stir_149 (by decide) ?_
            refine lv_iand hx hb dL_stir_151 ?_
            refine lv_iload hx hb dL_stir_152 (lv_at hl 0 rfl) ?_
            refine lv_bipush (v := (15 : Int32)) hx hb dL_stir_154 (by decide) ?_
            refine lv_iand hx hb dL_stir_156 ?_
            obtain ⟨q17, eq17, h⟩ := obind h
            refine g_endi (va_runS (As := [.ref (ad 62), .ref (ad 63), .int v7, .int v11, .int ((v16 >>> ((4 : Int32) &&& 31)) &&& (15 : Int32)), .int (v16 &&& (15 : Int32))]) (rest := []) ⟨hx, hb, hml, hown, hts⟩ (k_L_go l D cy ad P Dr tI hX I3 L v7 v11 ((v16 >>> ((4 : Int32) &&& 31)) &&& (15 : Int32)) (v16 &&& (15 : Int32)) q17 eq17) (va_cwS 6 hts gL_stir_L_go rfl rfl rfl cd_L_go.2 ⟨Nat.le_of_ble_eq_true rfl, Nat.le_of_ble_eq_true rfl⟩) ⟨g_blind cZm, g_pre cZm hK hG hZ hS⟩ rfl rfl hl.1 rfl (lv_room (Nat.le_of_ble_eq_true rfl)) dL_stir_157 ⟨Nat.le_refl _, Nat.le_refl _⟩) hS (fun H locs hG hS => ?_)
            refine lv_istore (lv' := [(11, .int q17.1), (10, .int v16), (9, .int v11), (8, .int v7), (7, .int ((x4 >>> (((3 : Int32) * x6_2) &&& 31)) + ((7 : Int32) * x6_2))), (0, .ref (ad 0)), (1, .ref (ad 62)), (2, .ref (ad 63)), (3, .int x4), (4, .int x5), (5, .int x5_2), (6, .int x6_2)]) hx hb dL_stir_160 hl (by decide) rfl (fun ls hl => ?_)
            refine lv_iload hx hb dL_stir_162 (lv_at hl 10 rfl) ?_
            refine lv_if_eq (tgt := 196) hx hb dL_stir_164 (by decide) (fun c18 => ?_) (fun c18 => ?_)
            · have h := ite_t h c18
              refine lv_iconst (v := (0 : Int32)) hx hb dL_stir_196 (by decide) ?_
              refine lv_istore (lv' := [(5, .int (0 : Int32)), (11, .int q17.1), (10, .int v16), (9, .int v11), (8, .int v7), (7, .int ((x4 >>> (((3 : Int32) * x6_2) &&& 31)) + ((7 : Int32) * x6_2))), (0, .ref (ad 0)), (1, .ref (ad 62)), (2, .ref (ad 63)), (3, .int x4), (4, .int x5), (6, .int x6_2)]) hx hb dL_stir_197 hl (by decide) rfl (fun ls hl => ?_)
              refine lv_iinc (v := (x6_2 + (1 : Int32))) (lv' := [(6, .int (x6_2 + (1 : Int32))), (5, .int (0 : Int32)), (11, .int q17.1), (10, .int v16), (9, .int v11), (8, .int v7), (7, .int ((x4 >>> (((3 : Int32) * x6_2) &&& 31)) + ((7 : Int32) * x6_2))), (0, .ref (ad 0)), (1, .ref (ad 62)), (2, .ref (ad 63)), (3, .int x4), (4, .int x5)]) hx hb dL_stir_199 hl (k := 11) rfl rfl (by decide) rfl (fun ls hl => ?_)
              refine lv_goto (tgt := 6) hx hb dL_stir_202 (by decide) ?_
              exact ihn2 (0 : Int32) (x6_2 + (1 : Int32)) q17.2 _ _ _ h hG hS (lv_sub hl [7, 8, 9, 10, 11, 1, 0] rfl)
            · have h := ite_f h c18
              refine lv_aload_n hx hb dL_stir_167 rfl (lv_at hl 5 rfl) ?_
              refine lv_iload hx hb dL_stir_168 (lv_at hl 3 rfl) ?_
              refine lv_iload hx hb dL_stir_170 (lv_at hl 2 rfl) ?_
              refine lv_iload hx hb dL_stir_172 (lv_at hl 1 rfl) ?_
              refine lv_iconst (v := (4 : Int32)) hx hb dL_stir_174 (by decide) ?_
              refine lv_ishr hx hb dL_stir_175 ?_
              refine lv_bipush (v := (15 : Int32)) hx hb dL_stir_176 (by decide) ?_
              refine lv_iand hx hb dL_stir_178 ?_
              refine lv_iload hx hb dL_stir_179 (lv_at hl 1 rfl) ?_
              refine lv_bipush (v := (15 : Int32)) hx hb dL_stir_181 (by decide) ?_
              refine lv_iand hx hb dL_stir_183 ?_
              obtain ⟨q19, eq19, h⟩ := obind h
              refine g_endi (va_runV (As := [.int v7, .int v11, .int ((v16 >>> ((4 : Int32) &&& 31)) &&& (15 : Int32)), .int (v16 &&& (15 : Int32))]) (rest := []) ⟨hx, hb, hml, hown, hts⟩ (k_X4_go l D cy ad P Dr tI hX q17.2 L v7 v11 ((v16 >>> ((4 : Int32) &&& 31)) &&& (15 : Int32)) (v16 &&& (15 : Int32)) q19 eq19) (cwV 4 hts gL_stir_X4_go rfl rfl rfl cd_X4_go ⟨Nat.le_of_ble_eq_true rfl, Nat.le_of_ble_eq_true rfl⟩) ⟨g_blind cZm, g_recv hK hG (k := 0) (by decide) (cE_4 _ _) vwCl_4, g_pre cZm hK hG hZ hS⟩ rfl rfl hl.1 rfl (lv_room (Nat.le_of_ble_eq_true rfl)) dL_stir_184 ⟨Nat.le_refl _, Nat.le_refl _⟩) hS (fun H locs hG hS => ?_)
              refine lv_iload hx hb dL_stir_187 (lv_at hl 0 rfl) ?_
              refine lv_icmp_ne (tgt := 196) hx hb dL_stir_189 (by decide) (fun c20 => ?_) (fun c20 => ?_)
              · have h := ite_f h c20
                refine lv_iconst (v := (0 : Int32)) hx hb dL_stir_196 (by decide) ?_
                refine lv_istore (lv' := [(5, .int (0 : Int32)), (11, .int q17.1), (10, .int v16), (9, .int v11), (8, .int v7), (7, .int ((x4 >>> (((3 : Int32) * x6_2) &&& 31)) + ((7 : Int32) * x6_2))), (0, .ref (ad 0)), (1, .ref (ad 62)), (2, .ref (ad 63)), (3, .int x4), (4, .int x5), (6, .int x6_2)]) hx hb dL_stir_197 hl (by decide) rfl (fun ls hl => ?_)
                refine lv_iinc (v := (x6_2 + (1 : Int32))) (lv' := [(6, .int (x6_2 + (1 : Int32))), (5, .int (0 : Int32)), (11, .int q17.1), (10, .int v16), (9, .int v11), (8, .int v7), (7, .int ((x4 >>> (((3 : Int32) * x6_2) &&& 31)) + ((7 : Int32) * x6_2))), (0, .ref (ad 0)), (1, .ref (ad 62)), (2, .ref (ad 63)), (3, .int x4), (4, .int x5)]) hx hb dL_stir_199 hl (k := 11) rfl rfl (by decide) rfl (fun ls hl => ?_)
                refine lv_goto (tgt := 6) hx hb dL_stir_202 (by decide) ?_
                exact ihn2 (0 : Int32) (x6_2 + (1 : Int32)) q19.2 _ _ _ h hG hS (lv_sub hl [7, 8, 9, 10, 11, 1, 0] rfl)
              · have h := ite_t h c20
                refine lv_iconst (v := (1 : Int32)) hx hb dL_stir_192 (by decide) ?_
                refine lv_goto (tgt := 197) hx hb dL_stir_193 (by decide) ?_
                refine lv_istore (lv' := [(5, .int (1 : Int32)), (11, .int q17.1), (10, .int v16), (9, .int v11), (8, .int v7), (7, .int ((x4 >>> (((3 : Int32) * x6_2) &&& 31)) + ((7 : Int32) * x6_2))), (0, .ref (ad 0)), (1, .ref (ad 62)), (2, .ref (ad 63)), (3, .int x4), (4, .int x5), (6, .int x6_2)]) hx hb dL_stir_197 hl (by decide) rfl (fun ls hl => ?_)
                refine lv_iinc (v := (x6_2 + (1 : Int32))) (lv' := [(6, .int (x6_2 + (1 : Int32))), (5, .int (1 : Int32)), (11, .int q17.1), (10, .int v16), (9, .int v11), (8, .int v7), (7, .int ((x4 >>> (((3 : Int32) * x6_2) &&& 31)) + ((7 : Int32) * x6_2))), (0, .ref (ad 0)), (1, .ref (ad 62)), (2, .ref (ad 63)), (3, .int x4), (4, .int x5)]) hx hb dL_stir_199 hl (k := 11) rfl rfl (by decide) rfl (fun ls hl => ?_)
                refine lv_goto (tgt := 6) hx hb dL_stir_202 (by decide) ?_
                exact ihn2 (1 : Int32) (x6_2 + (1 : Int32)) q19.2 _ _ _ h hG hS (lv_sub hl [7, 8, 9, 10, 11, 1, 0] rfl)
        · have h := ite_t h c12
          refine lv_aload_n hx hb dL_stir_69 rfl (lv_at hl 5 rfl) ?_
          refine lv_iconst (v := (0 : Int32)) hx hb dL_stir_70 (by decide) ?_
          refine g_ald hx hb hK hG (k := 63) (n := 4) (show cIA 63 4 from by decide +kernel).1.1 (cIA_e (show cIA 63 4 from by decide +kernel) _ _) 0 rfl h dL_stir_71 (fun v21 h => ?_)
          refine lv_bipush (v := (9 : Int32)) hx hb dL_stir_72 (by decide) ?_
          refine lv_icmp_ge (tgt := 109) hx hb dL_stir_74 (by decide) (fun c22 => ?_) (fun c22 => ?_)
          · have h := ite_t h c22
            refine lv_aload_n hx hb dL_stir_109 rfl (lv_at hl 4 rfl) ?_
            refine lv_aload_n hx hb dL_stir_110 rfl (lv_at hl 5 rfl) ?_
            refine lv_iload hx hb dL_stir_111 (lv_at hl 1 rfl) ?_
            refine lv_iload hx hb dL_stir_113 (lv_at hl 0 rfl) ?_
            obtain ⟨v23, ev23, h⟩ := obind h
            refine g_endi (va_runS (As := [.ref (ad 62), .ref (ad 63), .int v7, .int v11]) (rest := []) ⟨hx, hb, hml, hown, hts⟩ (k_L_can l D cy ad P Dr tI hX I3 L v7 v11 v23 ev23) (va_cwS 4 hts gL_stir_L_can rfl rfl rfl cd_L_can.2 ⟨Nat.le_of_ble_eq_true rfl, Nat.le_of_ble_eq_true rfl⟩) ⟨g_blind cZm, g_pre cZm hK hG hZ hS⟩ rfl rfl hl.1 rfl (lv_room (Nat.le_of_ble_eq_true rfl)) dL_stir_115 ⟨Nat.le_refl _, Nat.le_refl _⟩) hS (fun H locs hG hS => ?_)
            refine lv_if_eq (tgt := 199) hx hb dL_stir_118 (by decide) (fun c24 => ?_) (fun c24 => ?_)
            · have h := ite_t h c24
              refine lv_iinc (v := (x6_2 + (1 : Int32))) (lv' := [(6, .int (x6_2 + (1 : Int32))), (9, .int v11), (8, .int v7), (7, .int ((x4 >>> (((3 : Int32) * x6_2) &&& 31)) + ((7 : Int32) * x6_2))), (0, .ref (ad 0)), (1, .ref (ad 62)), (2, .ref (ad 63)), (3, .int x4), (4, .int x5), (5, .int x5_2)]) hx hb dL_stir_199 hl (k := 9) rfl rfl (by decide) rfl (fun ls hl => ?_)
              refine lv_goto (tgt := 6) hx hb dL_stir_202 (by decide) ?_
              exact ihn2 x5_2 (x6_2 + (1 : Int32)) I3 _ _ _ h hG hS (lv_sub hl [4, 5, 6, 7, 8, 9, 0] rfl)
            · have h := ite_f h c24
              refine lv_aload_n hx hb dL_stir_121 rfl (lv_at hl 4 rfl) ?_
              refine lv_aload_n hx hb dL_stir_122 rfl (lv_at hl 5 rfl) ?_
              refine lv_iload hx hb dL_stir_123 (lv_at hl 1 rfl) ?_
              refine lv_iload hx hb dL_stir_125 (lv_at hl 0 rfl) ?_
              refine lv_aload_n hx hb dL_stir_127 rfl (lv_at hl 4 rfl) ?_
              refine lv_aload_n hx hb dL_stir_128 rfl (lv_at hl 5 rfl) ?_
              refine lv_iload hx hb dL_stir_129 (lv_at hl 1 rfl) ?_
              obtain ⟨v25, ev25, h⟩ := obind h
              refine g_endi (va_runS (As := [.ref (ad 62), .ref (ad 63), .int v7]) (rest := [.int v11, .int v7, .ref (ad 63), .ref (ad 62)]) ⟨hx, hb, hml, hown, hts⟩ (k_L_there l D cy ad P Dr tI hX I3 L v7 v25 ev25) (va_cwS 3 hts gL_stir_L_there rfl rfl rfl cd_L_there.2 ⟨Nat.le_of_ble_eq_true rfl, Nat.le_of_ble_eq_true rfl⟩) ⟨g_blind cZm, g_pre cZm hK hG hZ hS⟩ rfl rfl hl.1 rfl (lv_room (Nat.le_of_ble_eq_true rfl)) dL_stir_131 ⟨Nat.le_refl _, Nat.le_refl _⟩) hS (fun H locs hG hS => ?_)
              obtain ⟨v26, ev26, h⟩ := obind h
              refine g_endi (va_runS (As := [.ref (ad 62), .ref (ad 63), .int v7, .int v11, .int v25]) (rest := []) ⟨hx, hb, hml, hown, hts⟩ (k_L_least l D cy ad P Dr tI hX I3 L v7 v11 v25 v26 ev26) (va_cwS 5 hts gL_stir_L_least rfl rfl rfl cd_L_least.2 ⟨Nat.le_of_ble_eq_true rfl, Nat.le_of_ble_eq_true rfl⟩) ⟨g_blind cZm, g_pre cZm hK hG hZ hS⟩ rfl rfl hl.1 rfl (lv_room (Nat.le_of_ble_eq_true rfl)) dL_stir_134 ⟨Nat.le_refl _, Nat.le_refl _⟩) hS (fun H locs hG hS => ?_)
              refine lv_istore (lv' := [(10, .int v26), (9, .int v11), (8, .int v7), (7, .int ((x4 >>> (((3 : Int32) * x6_2) &&& 31)) + ((7 : Int32) * x6_2))), (0, .ref (ad 0)), (1, .ref (ad 62)), (2, .ref (ad 63)), (3, .int x4), (4, .int x5), (5, .int x5_2), (6, .int x6_2)]) hx hb dL_stir_137 hl (by decide) rfl (fun ls hl => ?_)
              refine lv_aload_n hx hb dL_stir_139 rfl (lv_at hl 5 rfl) ?_
              refine lv_aload_n hx hb dL_stir_140 rfl (lv_at hl 6 rfl) ?_
              refine lv_iload hx hb dL_stir_141 (lv_at hl 2 rfl) ?_
              refine lv_iload hx hb dL_stir_143 (lv_at hl 1 rfl) ?_
              refine lv_iload hx hb dL_stir_145 (lv_at hl 0 rfl) ?_
              refine lv_iconst (v := (4 : Int32)) hx hb dL_stir_147 (by decide) ?_
              refine lv_ishr hx hb dL_stir_148 ?_
              refine lv_bipush (v := (15 : Int32)) hx hb dL_stir_149 (by decide) ?_
              refine lv_iand hx hb dL_stir_151 ?_
              refine lv_iload hx hb dL_stir_152 (lv_at hl 0 rfl) ?_
              refine lv_bipush (v := (15 : Int32)) hx hb dL_stir_154 (by decide) ?_
              refine lv_iand hx hb dL_stir_156 ?_
              obtain ⟨q27, eq27, h⟩ := obind h
              refine g_endi (va_runS (As := [.ref (ad 62), .ref (ad 63), .int v7, .int v11, .int ((v26 >>> ((4 : Int32) &&& 31)) &&& (15 : Int32)), .int (v26 &&& (15 : Int32))]) (rest := []) ⟨hx, hb, hml, hown, hts⟩ (k_L_go l D cy ad P Dr tI hX I3 L v7 v11 ((v26 >>> ((4 : Int32) &&& 31)) &&& (15 : Int32)) (v26 &&& (15 : Int32)) q27 eq27) (va_cwS 6 hts gL_stir_L_go rfl rfl rfl cd_L_go.2 ⟨Nat.le_of_ble_eq_true rfl, Nat.le_of_ble_eq_true rfl⟩) ⟨g_blind cZm, g_pre cZm hK hG hZ hS⟩ rfl rfl hl.1 rfl (lv_room (Nat.le_of_ble_eq_true rfl)) dL_stir_157 ⟨Nat.le_refl _, Nat.le_refl _⟩) hS (fun H locs hG hS => ?_)
              refine lv_istore (lv' := [(11, .int q27.1), (10, .int v26), (9, .int v11), (8, .int v7), (7, .int ((x4 >>> (((3 : Int32) * x6_2) &&& 31)) + ((7 : Int32) * x6_2))), (0, .ref (ad 0)), (1, .ref (ad 62)), (2, .ref (ad 63)), (3, .int x4), (4, .int x5), (5, .int x5_2), (6, .int x6_2)]) hx hb dL_stir_160 hl (by decide) rfl (fun ls hl => ?_)
              refine lv_iload hx hb dL_stir_162 (lv_at hl 10 rfl) ?_
              refine lv_if_eq (tgt := 196) hx hb dL_stir_164 (by decide) (fun c28 => ?_) (fun c28 => ?_)
              · have h := ite_t h c28
                refine lv_iconst (v := (0 : Int32)) hx hb dL_stir_196 (by decide) ?_
                refine lv_istore (lv' := [(5, .int (0 : Int32)), (11, .int q27.1), (10, .int v26), (9, .int v11), (8, .int v7), (7, .int ((x4 >>> (((3 : Int32) * x6_2) &&& 31)) + ((7 : Int32) * x6_2))), (0, .ref (ad 0)), (1, .ref (ad 62)), (2, .ref (ad 63)), (3, .int x4), (4, .int x5), (6, .int x6_2)]) hx hb dL_stir_197 hl (by decide) rfl (fun ls hl => ?_)
                refine lv_iinc (v := (x6_2 + (1 : Int32))) (lv' := [(6, .int (x6_2 + (1 : Int32))), (5, .int (0 : Int32)), (11, .int q27.1), (10, .int v26), (9, .int v11), (8, .int v7), (7, .int ((x4 >>> (((3 : Int32) * x6_2) &&& 31)) + ((7 : Int32) * x6_2))), (0, .ref (ad 0)), (1, .ref (ad 62)), (2, .ref (ad 63)), (3, .int x4), (4, .int x5)]) hx hb dL_stir_199 hl (k := 11) rfl rfl (by decide) rfl (fun ls hl => ?_)
                refine lv_goto (tgt := 6) hx hb dL_stir_202 (by decide) ?_
                exact ihn2 (0 : Int32) (x6_2 + (1 : Int32)) q27.2 _ _ _ h hG hS (lv_sub hl [7, 8, 9, 10, 11, 1, 0] rfl)
              · have h := ite_f h c28
                refine lv_aload_n hx hb dL_stir_167 rfl (lv_at hl 5 rfl) ?_
                refine lv_iload hx hb dL_stir_168 (lv_at hl 3 rfl) ?_
                refine lv_iload hx hb dL_stir_170 (lv_at hl 2 rfl) ?_
                refine lv_iload hx hb dL_stir_172 (lv_at hl 1 rfl) ?_
                refine lv_iconst (v := (4 : Int32)) hx hb dL_stir_174 (by decide) ?_
                refine lv_ishr hx hb dL_stir_175 ?_
                refine lv_bipush (v := (15 : Int32)) hx hb dL_stir_176 (by decide) ?_
                refine lv_iand hx hb dL_stir_178 ?_
                refine lv_iload hx hb dL_stir_179 (lv_at hl 1 rfl) ?_
                refine lv_bipush (v := (15 : Int32)) hx hb dL_stir_181 (by decide) ?_
                refine lv_iand hx hb dL_stir_183 ?_
                obtain ⟨q29, eq29, h⟩ := obind h
                refine g_endi (va_runV (As := [.int v7, .int v11, .int ((v26 >>> ((4 : Int32) &&& 31)) &&& (15 : Int32)), .int (v26 &&& (15 : Int32))]) (rest := []) ⟨hx, hb, hml, hown, hts⟩ (k_X4_go l D cy ad P Dr tI hX q27.2 L v7 v11 ((v26 >>> ((4 : Int32) &&& 31)) &&& (15 : Int32)) (v26 &&& (15 : Int32)) q29 eq29) (cwV 4 hts gL_stir_X4_go rfl rfl rfl cd_X4_go ⟨Nat.le_of_ble_eq_true rfl, Nat.le_of_ble_eq_true rfl⟩) ⟨g_blind cZm, g_recv hK hG (k := 0) (by decide) (cE_4 _ _) vwCl_4, g_pre cZm hK hG hZ hS⟩ rfl rfl hl.1 rfl (lv_room (Nat.le_of_ble_eq_true rfl)) dL_stir_184 ⟨Nat.le_refl _, Nat.le_refl _⟩) hS (fun H locs hG hS => ?_)
                refine lv_iload hx hb dL_stir_187 (lv_at hl 0 rfl) ?_
                refine lv_icmp_ne (tgt := 196) hx hb dL_stir_189 (by decide) (fun c30 => ?_) (fun c30 => ?_)
                · have h := ite_f h c30
                  refine lv_iconst (v := (0 : Int32)) hx hb dL_stir_196 (by decide) ?_
                  refine lv_istore (lv' := [(5, .int (0 : Int32)), (11, .int q27.1), (10, .int v26), (9, .int v11), (8, .int v7), (7, .int ((x4 >>> (((3 : Int32) * x6_2) &&& 31)) + ((7 : Int32) * x6_2))), (0, .ref (ad 0)), (1, .ref (ad 62)), (2, .ref (ad 63)), (3, .int x4), (4, .int x5), (6, .int x6_2)]) hx hb dL_stir_197 hl (by decide) rfl (fun ls hl => ?_)
                  refine lv_iinc (v := (x6_2 + (1 : Int32))) (lv' := [(6, .int (x6_2 + (1 : Int32))), (5, .int (0 : Int32)), (11, .int q27.1), (10, .int v26), (9, .int v11), (8, .int v7), (7, .int ((x4 >>> (((3 : Int32) * x6_2) &&& 31)) + ((7 : Int32) * x6_2))), (0, .ref (ad 0)), (1, .ref (ad 62)), (2, .ref (ad 63)), (3, .int x4), (4, .int x5)]) hx hb dL_stir_199 hl (k := 11) rfl rfl (by decide) rfl (fun ls hl => ?_)
                  refine lv_goto (tgt := 6) hx hb dL_stir_202 (by decide) ?_
                  exact ihn2 (0 : Int32) (x6_2 + (1 : Int32)) q29.2 _ _ _ h hG hS (lv_sub hl [7, 8, 9, 10, 11, 1, 0] rfl)
                · have h := ite_t h c30
                  refine lv_iconst (v := (1 : Int32)) hx hb dL_stir_192 (by decide) ?_
                  refine lv_goto (tgt := 197) hx hb dL_stir_193 (by decide) ?_
                  refine lv_istore (lv' := [(5, .int (1 : Int32)), (11, .int q27.1), (10, .int v26), (9, .int v11), (8, .int v7), (7, .int ((x4 >>> (((3 : Int32) * x6_2) &&& 31)) + ((7 : Int32) * x6_2))), (0, .ref (ad 0)), (1, .ref (ad 62)), (2, .ref (ad 63)), (3, .int x4), (4, .int x5), (6, .int x6_2)]) hx hb dL_stir_197 hl (by decide) rfl (fun ls hl => ?_)
                  refine lv_iinc (v := (x6_2 + (1 : Int32))) (lv' := [(6, .int (x6_2 + (1 : Int32))), (5, .int (1 : Int32)), (11, .int q27.1), (10, .int v26), (9, .int v11), (8, .int v7), (7, .int ((x4 >>> (((3 : Int32) * x6_2) &&& 31)) + ((7 : Int32) * x6_2))), (0, .ref (ad 0)), (1, .ref (ad 62)), (2, .ref (ad 63)), (3, .int x4), (4, .int x5)]) hx hb dL_stir_199 hl (k := 11) rfl rfl (by decide) rfl (fun ls hl => ?_)
                  refine lv_goto (tgt := 6) hx hb dL_stir_202 (by decide) ?_
                  exact ihn2 (1 : Int32) (x6_2 + (1 : Int32)) q29.2 _ _ _ h hG hS (lv_sub hl [7, 8, 9, 10, 11, 1, 0] rfl)
          · have h := ite_f h c22
            refine lv_aload_n hx hb dL_stir_77 rfl (lv_at hl 5 rfl) ?_
            refine lv_iconst (v := (0 : Int32)) hx hb dL_stir_78 (by decide) ?_
            refine lv_dup2_11 hx hb dL_stir_79 rfl rfl ?_
            refine g_ald hx hb hK hG (k := 63) (n := 4) (show cIA 63 4 from by decide +kernel).1.1 (cIA_e (show cIA 63 4 from by decide +kernel) _ _) 0 rfl h dL_stir_80 (fun v31 h => ?_)
            refine lv_iconst (v := (1 : Int32)) hx hb dL_stir_81 (by decide) ?_
            refine lv_iadd hx hb dL_stir_82 ?_
            refine g_ast hx hb hK hG hi hS (k := 63) (n := 4) (show cIA 63 4 from by decide +kernel).1.1 (fun f => cIA_e (show cIA 63 4 from by decide +kernel) f _) 0 rfl h dL_stir_83 (fun I32 H locs h hG hS => ?_)
            refine lv_iload hx hb dL_stir_84 (lv_at hl 8 rfl) ?_
            obtain ⟨q33, h9, h⟩ := obind h
            have hk_q33 : ∀ (H : Heap) (locs : List Loc) (ls : Array Slot), cG D cy ad P Dr q33.2 L H → va_S (gA 64 ad) s.heap H locs → lv_has ls 12 [(0, .ref (ad 0)), (1, .ref (ad 62)), (2, .ref (ad 63)), (3, .int x4), (4, .int x5), (6, .int x6_2)] → W p l e rm_L_stir s m args below meth c H locs 0 0 Q (F0 m 104 ls [.int q33.1]) := by
              intro H locs ls hG hS hl
              refine lv_istore (lv' := [(5, .int q33.1), (0, .ref (ad 0)), (1, .ref (ad 62)), (2, .ref (ad 63)), (3, .int x4), (4, .int x5), (6, .int x6_2)]) hx hb dL_stir_104 hl (by decide) rfl (fun ls hl => ?_)
              refine lv_goto (tgt := 199) hx hb dL_stir_106 (by decide) ?_
              refine lv_iinc (v := (x6_2 + (1 : Int32))) (lv' := [(6, .int (x6_2 + (1 : Int32))), (5, .int q33.1), (0, .ref (ad 0)), (1, .ref (ad 62)), (2, .ref (ad 63)), (3, .int x4), (4, .int x5)]) hx hb dL_stir_199 hl (k := 6) rfl rfl (by decide) rfl (fun ls hl => ?_)
              refine lv_goto (tgt := 6) hx hb dL_stir_202 (by decide) ?_
              exact ihn2 q33.1 (x6_2 + (1 : Int32)) q33.2 _ _ _ h hG hS (lv_sub hl [2, 3, 4, 5, 6, 1, 0] rfl)
            clear h
            have h := h9
            clear h9
            refine lv_if_eq (tgt := 103) hx hb dL_stir_86 (by decide) (fun c34 => ?_) (fun c34 => ?_)
            · have h := ite_t h c34
              refine lv_iconst (v := (0 : Int32)) hx hb dL_stir_103 (by decide) ?_
              have h := Option.some.inj h
              subst h
              exact hk_q33 _ _ _ hG hS (lv_sub hl [3, 4, 5, 6, 7, 9] rfl)
            · have h := ite_f h c34
              refine lv_aload_n hx hb dL_stir_89 rfl (lv_at hl 3 rfl) ?_
              obtain ⟨q35, eq35, h⟩ := obind h
              refine g_endi (va_runV (As := []) (rest := []) ⟨hx, hb, hml, hown, hts⟩ (k_X4_loaf l D cy ad P Dr tI hX I32 L q35 eq35) (cwV 0 hts gL_stir_X4_loaf rfl rfl rfl cd_X4_loaf ⟨Nat.le_of_ble_eq_true rfl, Nat.le_of_ble_eq_true rfl⟩) ⟨g_blind cZm, g_recv hK hG (k := 0) (by decide) (cE_4 _ _) vwCl_4, g_pre cZm hK hG hZ hS⟩ rfl rfl hl.1 rfl (lv_room (Nat.le_of_ble_eq_true rfl)) dL_stir_90 ⟨Nat.le_refl _, Nat.le_refl _⟩) hS (fun H locs hG hS => ?_)
              refine lv_aload_n hx hb dL_stir_93 rfl (lv_at hl 5 rfl) ?_
              refine lv_iconst (v := (0 : Int32)) hx hb dL_stir_94 (by decide) ?_
              refine g_ald hx hb hK hG (k := 63) (n := 4) (show cIA 63 4 from by decide +kernel).1.1 (cIA_e (show cIA 63 4 from by decide +kernel) _ _) 0 rfl h dL_stir_95 (fun v36 h => ?_)
              refine lv_icmp_ne (tgt := 103) hx hb dL_stir_96 (by decide) (fun c37 => ?_) (fun c37 => ?_)
              · have h := ite_f h c37
                refine lv_iconst (v := (0 : Int32)) hx hb dL_stir_103 (by decide) ?_
                have h := Option.some.inj h
                subst h
                exact hk_q33 _ _ _ hG hS (lv_sub hl [3, 4, 5, 6, 7, 9] rfl)
              · have h := ite_t h c37
                refine lv_iconst (v := (1 : Int32)) hx hb dL_stir_99 (by decide) ?_
                refine lv_goto (tgt := 104) hx hb dL_stir_100 (by decide) ?_
                have h := Option.some.inj h
                subst h
                exact hk_q33 _ _ _ hG hS (lv_sub hl [3, 4, 5, 6, 7, 9] rfl)
  refine keyK1 _ (fun z5_3 I4 H locs ls h hG hS hl => ?_) bigF (1 : Int32) (0 : Int32) I _ _ _ h hG hS (lv_sub hl [2, 3, 4, 5, 6, 1, 0] rfl)
  clear keyK1
  refine lv_iload hx hb dL_stir_205 (lv_at hl 0 rfl) ?_
  have h := Option.some.inj h
  subst h
  subst hQ
  exact g_zret hx hb hr hlocks cZm hK hZ hG hS rfl dL_stir_207
def L_told (P : Nat) (I : xMem) (x2 : Int32) (x3 : Int32) : Option (Int32 × xMem) := (X4_one P I x2 x3).bind fun q1 => if q1.1 = (1 : Int32) then (some ((X4_asked q1.2), q1.2)) else (some ((-99 : Int32), q1.2))
abbrev rm_L_told : Room := { frames := 8, cells := 0, slots := 0, locals := 183 }
theorem cd_L_told : yL_told.cls = RL ∧ yL_told.cls ≠ "java/lang/invoke/MethodHandle" ∧ yL_told.cls ≠ "java/lang/invoke/VarHandle" ∧ (parseMethodDescriptor yL_told.desc).map (fun d => d.parameters.length) = some 3 := by decide +kernel
set_option maxHeartbeats 4000000 in
set_option maxRecDepth 100000 in
theorem k_L_told (l : Launch) (D : va_G) (cy : Nat → ClassId) (ad : Nat → Nat) (P Dr : Nat) (tI : xTab) (hX : cOk ad P Dr) (I : xMem) (L : xLon) (x2 : Int32) (x3 : Int32) (r : Int32 × xMem) (h : L_told P I x2 x3 = some r) : Met l yL_told wsL_told rm_L_told (va_Pc [.ref (ad 0), .int x2, .int x3] (cW D cy ad P Dr tI I L)) (cPi D cy ad P Dr tI r.2 L r.1) 0 0 (gA 64 ad) := by
  refine g_met (own := RL) (cc := cL_told) (maxL := 3) (ret := (some .int)) (by decide) rfl (Nat.le_of_ble_eq_true rfl) rfl ?_
  intro p e s m args below meth c ls hx hb hml hr hlocks hown hts hG hK hZ hl
  generalize hQ : MQ below _ args s 0 0 _ = Q
  have hl : lv_has ls 3 [(0, .ref (ad 0)), (1, .int x2), (2, .int x3)] := hl
  have hS : va_S (gA 64 ad) s.heap s.heap [] := va_S.rf
  obtain ⟨hi, hP, hDr⟩ := id hX
  unfold L_told at h
  refine lv_aload_n hx hb dL_told_0 rfl (lv_at hl 0 rfl) ?_
  refine lv_iload_n hx hb dL_told_1 rfl (lv_at hl 1 rfl) ?_
  refine lv_iload_n hx hb dL_told_2 rfl (lv_at hl 2 rfl) ?_
  obtain ⟨q1, eq1, h⟩ := obind h
  refine g_endi (va_runV (As := [.int x2, .int x3]) (rest := []) ⟨hx, hb, hml, hown, hts⟩ (k_X4_one l D cy ad P Dr tI hX I L x2 x3 q1 eq1) (cwV 2 hts gL_told_X4_one rfl rfl rfl cd_X4_one ⟨Nat.le_of_ble_eq_true rfl, Nat.le_of_ble_eq_true rfl⟩) ⟨g_blind cZm, g_recv hK hG (k := 0) (by decide) (cE_4 _ _) vwCl_4, g_pre cZm hK hG hZ hS⟩ rfl rfl hl.1 rfl (lv_room (Nat.le_of_ble_eq_true rfl)) dL_told_3 ⟨Nat.le_refl _, Nat.le_refl _⟩) hS (fun H locs hG hS => ?_)
  refine lv_iconst (v := (1 : Int32)) hx hb dL_told_6 (by decide) ?_
  refine lv_icmp_ne (tgt := 17) hx hb dL_told_7 (by decide) (fun c2 => ?_) (fun c2 => ?_)
  · have h := ite_f h c2
    refine lv_bipush (v := (-99 : Int32)) hx hb dL_told_17 (by decide) ?_
    have h := Option.some.inj h
    subst h
    subst hQ
    exact g_iret hx hb hr hlocks cZm hK hZ hG hS rfl dL_told_19
  · have h := ite_t h c2
    refine lv_aload_n hx hb dL_told_10 rfl (lv_at hl 0 rfl) ?_
    refine g_endi (va_runV (As := []) (rest := []) ⟨hx, hb, hml, hown, hts⟩ (k_X4_asked l D cy ad P Dr tI hX q1.2 L _ rfl) (cwV 0 hts gL_told_X4_asked rfl rfl rfl cd_X4_asked ⟨Nat.le_of_ble_eq_true rfl, Nat.le_of_ble_eq_true rfl⟩) ⟨g_blind cZm, g_recv hK hG (k := 0) (by decide) (cE_4 _ _) vwCl_4, g_pre cZm hK hG hZ hS⟩ rfl rfl hl.1 rfl (lv_room (Nat.le_of_ble_eq_true rfl)) dL_told_11 ⟨Nat.le_refl _, Nat.le_refl _⟩) hS (fun H locs hG hS => ?_)
    refine lv_goto (tgt := 19) hx hb dL_told_14 (by decide) ?_
    have h := Option.some.inj h
    subst h
    subst hQ
    exact g_iret hx hb hr hlocks cZm hK hZ hG hS rfl dL_told_19
