def X4_steps (P : Nat) (I : xMem) (x1 : Int32) (x2 : Int32) (x3 : Int32) (x4 : Int32) : Option (Int32) := (X0_eaten 17 I).bind fun v1 => (X1_steps P I x1 x2 x3 x4 v1).bind fun v2 => some v2
abbrev rm_X4_steps : Room := { frames := 3, cells := 0, slots := 0, locals := 70 }
theorem cd_X4_steps : yX4_steps.cls = RX4 ∧ yX4_steps.cls ≠ "java/lang/invoke/MethodHandle" ∧ yX4_steps.cls ≠ "java/lang/invoke/VarHandle" ∧ (parseMethodDescriptor yX4_steps.desc).map (fun d => d.parameters.length) = some 4 := by decide +kernel
set_option maxHeartbeats 4000000 in
set_option maxRecDepth 100000 in
theorem k_X4_steps (l : Launch) (D : va_G) (cy : Nat → ClassId) (ad : Nat → Nat) (P Dr : Nat) (tI : xTab) (hX : cOk ad P Dr) (I : xMem) (L : xLon) (x1 : Int32) (x2 : Int32) (x3 : Int32) (x4 : Int32) (r : Int32) (h : X4_steps P I x1 x2 x3 x4 = some r) : Met l yX4_steps wsX4_steps rm_X4_steps (va_Pc [.ref (ad 0), .int x1, .int x2, .int x3, .int x4] (cW D cy ad P Dr tI I L)) (cPi D cy ad P Dr tI I L r) 0 0 (gA 64 ad) := by
  refine g_met (own := RX4) (cc := cX4_steps) (maxL := 5) (ret := (some .int)) (by decide) rfl (Nat.le_of_ble_eq_true rfl) rfl ?_
  intro p e s m args below meth c ls hx hb hml hr hlocks hown hts hG hK hZ hl
  generalize hQ : MQ below _ args s 0 0 _ = Q
  have hl : lv_has ls 5 [(0, .ref (ad 0)), (1, .int x1), (2, .int x2), (3, .int x3), (4, .int x4)] := hl
  have hS : va_S (gA 64 ad) s.heap s.heap [] := va_S.rf
  obtain ⟨hi, hP, hDr⟩ := id hX
  have l4 : ∀ w ∈ wsX40, w.before args s = true := fun w h => hts w (List.mem_cons_of_mem _ (List.mem_append_left _ (List.mem_append_left _ (List.mem_append_right _ h))))
  have k1 := hts (.fieldLink RX4 50 "PairStairs" "plan" "LPairStairs$Plan;") (by decide +kernel)
  have k2 := hts (.fieldLink RX4 24 "PairStairs" "deeds" "LPairStairs$Deeds;") (by decide +kernel)
  unfold X4_steps at h
  refine lv_aload_n hx hb dX4_steps_0 rfl (lv_at hl 0 rfl) ?_
  refine g_get hx hb l4 hown hK hG (k := 0) (by decide) (cE_4 _ _) vwCl_4 7 (by decide) k1 (fun _ h9 => h9) rfl dX4_steps_1 ?_
  refine lv_iload_n hx hb dX4_steps_4 rfl (lv_at hl 1 rfl) ?_
  refine lv_iload_n hx hb dX4_steps_5 rfl (lv_at hl 2 rfl) ?_
  refine lv_iload_n hx hb dX4_steps_6 rfl (lv_at hl 3 rfl) ?_
  refine lv_iload hx hb dX4_steps_7 (lv_at hl 4 rfl) ?_
  refine lv_aload_n hx hb dX4_steps_9 rfl (lv_at hl 0 rfl) ?_
  refine g_get hx hb l4 hown hK hG (k := 0) (by decide) (cE_4 _ _) vwCl_4 2 (by decide) k2 (fun _ h9 => h9) rfl dX4_steps_10 ?_
  obtain ⟨v1, ev1, h⟩ := obind h
  refine g_endi (va_runV (As := []) (rest := [.int x4, .int x3, .int x2, .int x1, .ref (ad P)]) ⟨hx, hb, hml, hown, hts⟩ (k_X0_eaten l D cy ad P Dr tI hX (b := 17) cDeeds_17 I L v1 ev1) (cwV 0 hts gX4_steps_X0_eaten rfl rfl rfl cd_X0_eaten ⟨Nat.le_of_ble_eq_true rfl, Nat.le_of_ble_eq_true rfl⟩) ⟨g_blind cZm, g_recv hK hG (k := 17) cDeeds_17.1.1 (cE_0 cDeeds_17.1 _ _) vwCl_0, g_pre cZm hK hG hZ hS⟩ rfl rfl hl.1 rfl (lv_room (Nat.le_of_ble_eq_true rfl)) dX4_steps_13 ⟨Nat.le_refl _, Nat.le_refl _⟩) hS (fun H locs hG hS => ?_)
  obtain ⟨v2, ev2, h⟩ := obind h
  refine g_endi (va_runV (As := [.int x1, .int x2, .int x3, .int x4, .int v1]) (rest := []) ⟨hx, hb, hml, hown, hts⟩ (k_X1_steps l D cy ad P Dr tI hX (b := P) hP I L x1 x2 x3 x4 v1 v2 ev2) (cwV 5 hts gX4_steps_X1_steps rfl rfl rfl cd_X1_steps ⟨Nat.le_of_ble_eq_true rfl, Nat.le_of_ble_eq_true rfl⟩) ⟨g_blind cZm, g_recv hK hG (k := P) hP.1.1 (cE_1 hP.1 _ _) vwCl_1, g_pre cZm hK hG hZ hS⟩ rfl rfl hl.1 rfl (lv_room (Nat.le_of_ble_eq_true rfl)) dX4_steps_16 ⟨Nat.le_refl _, Nat.le_refl _⟩) hS (fun H locs hG hS => ?_)
  have h := Option.some.inj h
  subst h
  subst hQ
  exact g_iret hx hb hr hlocks cZm hK hZ hG hS rfl dX4_steps_19
def X4_go (P : Nat) (I : xMem) (x1 : Int32) (x2 : Int32) (x3 : Int32) (x4 : Int32) : Option (Int32 × xMem) := if (X4_isNoPair P I x1 x2) = (0 : Int32) then (if (X4_areNoSets P I x3 x4) = (0 : Int32) then ((X4_areApart I x1 x2).bind fun v3 => if v3 = (0 : Int32) then ((X4_stonesWith P I x1).bind fun v5 => if ((x3 ||| x4) &&& (v5 ^^^ (-1 : Int32))) = (0 : Int32) then ((X4_steps P I x1 x2 x3 x4).bind fun v7 => if v7 ≤ (I P 0) then (if (I 17 0) < (40 : Int32) then ((X0_add 17 I (((1 : Int32) <<< (x1 &&& 31)) ||| ((1 : Int32) <<< (x2 &&& 31))) (x3 ||| x4) (0 : Int32) v7).bind fun q10 => some (v7, q10)) else (some ((-2 : Int32), I))) else (some ((-6 : Int32), I))) else (some ((-4 : Int32), I))) else (some ((-4 : Int32), I))) else (some ((-1 : Int32), I))) else (some ((-1 : Int32), I))
abbrev rm_X4_go : Room := { frames := 4, cells := 0, slots := 0, locals := 94 }
theorem cd_X4_go : yX4_go.cls = RX4 ∧ yX4_go.cls ≠ "java/lang/invoke/MethodHandle" ∧ yX4_go.cls ≠ "java/lang/invoke/VarHandle" ∧ (parseMethodDescriptor yX4_go.desc).map (fun d => d.parameters.length) = some 4 := by decide +kernel
set_option maxHeartbeats 4000000 in
set_option maxRecDepth 100000 in
theorem k_X4_go (l : Launch) (D : va_G) (cy : Nat → ClassId) (ad : Nat → Nat) (P Dr : Nat) (tI : xTab) (hX : cOk ad P Dr) (I : xMem) (L : xLon) (x1 : Int32) (x2 : Int32) (x3 : Int32) (x4 : Int32) (r : Int32 × xMem) (h : X4_go P I x1 x2 x3 x4 = some r) : Met l yX4_go wsX4_go rm_X4_go (va_Pc [.ref (ad 0), .int x1, .int x2, .int x3, .int x4] (cW D cy ad P Dr tI I L)) (cPi D cy ad P Dr tI r.2 L r.1) 0 0 (gA 64 ad) := by
  refine g_met (own := RX4) (cc := cX4_go) (maxL := 6) (ret := (some .int)) (by decide) rfl (Nat.le_of_ble_eq_true rfl) rfl ?_
  intro p e s m args below meth c ls hx hb hml hr hlocks hown hts hG hK hZ hl
  generalize hQ : MQ below _ args s 0 0 _ = Q
  have hl : lv_has ls 6 [(0, .ref (ad 0)), (1, .int x1), (2, .int x2), (3, .int x3), (4, .int x4)] := hl
  have hS : va_S (gA 64 ad) s.heap s.heap [] := va_S.rf
  obtain ⟨hi, hP, hDr⟩ := id hX
  have l0 : ∀ w ∈ wsX00, w.before args s = true := fun w h => hts w (List.mem_cons_of_mem _ (List.mem_append_right _ h))
  have l1 : ∀ w ∈ wsX10, w.before args s = true := fun w h => hts w (List.mem_cons_of_mem _ (List.mem_append_left _ (List.mem_append_right _ h)))
  have l4 : ∀ w ∈ wsX40, w.before args s = true := fun w h => hts w (List.mem_cons_of_mem _ (List.mem_append_left _ (List.mem_append_left _ (List.mem_append_right _ h))))
  have k1 := hts (.fieldLink RX4 50 "PairStairs" "plan" "LPairStairs$Plan;") (by decide +kernel)
  have k2 := hts (.fieldLink RX4 168 "PairStairs$Plan" "limit" "I") (by decide +kernel)
  have k3 := hts (.fieldLink RX4 24 "PairStairs" "deeds" "LPairStairs$Deeds;") (by decide +kernel)
  have k4 := hts (.fieldLink RX4 112 "PairStairs$Deeds" "done" "I") (by decide +kernel)
  unfold X4_go at h
  refine lv_aload_n hx hb dX4_go_0 rfl (lv_at hl 0 rfl) ?_
  refine lv_iload_n hx hb dX4_go_1 rfl (lv_at hl 1 rfl) ?_
  refine lv_iload_n hx hb dX4_go_2 rfl (lv_at hl 2 rfl) ?_
  refine g_endi (va_runV (As := [.int x1, .int x2]) (rest := []) ⟨hx, hb, hml, hown, hts⟩ (k_X4_isNoPair l D cy ad P Dr tI hX I L x1 x2 _ rfl) (cwV 2 hts gX4_go_X4_isNoPair rfl rfl rfl cd_X4_isNoPair ⟨Nat.le_of_ble_eq_true rfl, Nat.le_of_ble_eq_true rfl⟩) ⟨g_blind cZm, g_recv hK hG (k := 0) (by decide) (cE_4 _ _) vwCl_4, g_pre cZm hK hG hZ hS⟩ rfl rfl hl.1 rfl (lv_room (Nat.le_of_ble_eq_true rfl)) dX4_go_3 ⟨Nat.le_refl _, Nat.le_refl _⟩) hS (fun H locs hG hS => ?_)
  refine lv_if_ne (tgt := 19) hx hb dX4_go_6 (by decide) (fun c1 => ?_) (fun c1 => ?_)
  · have h := ite_f h c1
    refine lv_iconst (v := (-1 : Int32)) hx hb dX4_go_19 (by decide) ?_
    have h := Option.some.inj h
    subst h
    subst hQ
    exact g_iret hx hb hr hlocks cZm hK hZ hG hS rfl dX4_go_20
  · have h := ite_t h c1
    refine lv_aload_n hx hb dX4_go_9 rfl (lv_at hl 0 rfl) ?_
    refine lv_iload_n hx hb dX4_go_10 rfl (lv_at hl 3 rfl) ?_
    refine lv_iload hx hb dX4_go_11 (lv_at hl 4 rfl) ?_
    refine g_endi (va_runV (As := [.int x3, .int x4]) (rest := []) ⟨hx, hb, hml, hown, hts⟩ (k_X4_areNoSets l D cy ad P Dr tI hX I L x3 x4 _ rfl) (cwV 2 hts gX4_go_X4_areNoSets rfl rfl rfl cd_X4_areNoSets ⟨Nat.le_of_ble_eq_true rfl, Nat.le_of_ble_eq_true rfl⟩) ⟨g_blind cZm, g_recv hK hG (k := 0) (by decide) (cE_4 _ _) vwCl_4, g_pre cZm hK hG hZ hS⟩ rfl rfl hl.1 rfl (lv_room (Nat.le_of_ble_eq_true rfl)) dX4_go_13 ⟨Nat.le_refl _, Nat.le_refl _⟩) hS (fun H locs hG hS => ?_)
    refine lv_if_eq (tgt := 21) hx hb dX4_go_16 (by decide) (fun c2 => ?_) (fun c2 => ?_)
    · have h := ite_t h c2
      refine lv_aload_n hx hb dX4_go_21 rfl (lv_at hl 0 rfl) ?_
      refine lv_iload_n hx hb dX4_go_22 rfl (lv_at hl 1 rfl) ?_
      refine lv_iload_n hx hb dX4_go_23 rfl (lv_at hl 2 rfl) ?_
      obtain ⟨v3, ev3, h⟩ := obind h
      refine g_endi (va_runV (As := [.int x1, .int x2]) (rest := []) ⟨hx, hb, hml, hown, hts⟩ (k_X4_areApart l D cy ad P Dr tI hX I L x1 x2 v3 ev3) (cwV 2 hts gX4_go_X4_areApart rfl rfl rfl cd_X4_areApart ⟨Nat.le_of_ble_eq_true rfl, Nat.le_of_ble_eq_true rfl⟩) ⟨g_blind cZm, g_recv hK hG (k := 0) (by decide) (cE_4 _ _) vwCl_4, g_pre cZm hK hG hZ hS⟩ rfl rfl hl.1 rfl (lv_room (Nat.le_of_ble_eq_true rfl)) dX4_go_24 ⟨Nat.le_refl _, Nat.le_refl _⟩) hS (fun H locs hG hS => ?_)
      refine lv_if_ne (tgt := 45) hx hb dX4_go_27 (by decide) (fun c4 => ?_) (fun c4 => ?_)
      · have h := ite_f h c4
        refine lv_bipush (v := (-4 : Int32)) hx hb dX4_go_45 (by decide) ?_
        have h := Option.some.inj h
        subst h
        subst hQ
        exact g_iret hx hb hr hlocks cZm hK hZ hG hS rfl dX4_go_47
      · have h := ite_t h c4
        refine lv_iload_n hx hb dX4_go_30 rfl (lv_at hl 3 rfl) ?_
        refine lv_iload hx hb dX4_go_31 (lv_at hl 4 rfl) ?_
        refine lv_ior hx hb dX4_go_33 ?_
        refine lv_aload_n hx hb dX4_go_34 rfl (lv_at hl 0 rfl) ?_
        refine lv_iload_n hx hb dX4_go_35 rfl (lv_at hl 1 rfl) ?_
        obtain ⟨v5, ev5, h⟩ := obind h
        refine g_endi (va_runV (As := [.int x1]) (rest := [.int (x3 ||| x4)]) ⟨hx, hb, hml, hown, hts⟩ (k_X4_stonesWith l D cy ad P Dr tI hX I L x1 v5 ev5) (cwV 1 hts gX4_go_X4_stonesWith rfl rfl rfl cd_X4_stonesWith ⟨Nat.le_of_ble_eq_true rfl, Nat.le_of_ble_eq_true rfl⟩) ⟨g_blind cZm, g_recv hK hG (k := 0) (by decide) (cE_4 _ _) vwCl_4, g_pre cZm hK hG hZ hS⟩ rfl rfl hl.1 rfl (lv_room (Nat.le_of_ble_eq_true rfl)) dX4_go_36 ⟨Nat.le_refl _, Nat.le_refl _⟩) hS (fun H locs hG hS => ?_)
        refine lv_iconst (v := (-1 : Int32)) hx hb dX4_go_39 (by decide) ?_
        refine lv_ixor hx hb dX4_go_40 ?_
        refine lv_iand hx hb dX4_go_41 ?_
        refine lv_if_eq (tgt := 48) hx hb dX4_go_42 (by decide) (fun c6 => ?_) (fun c6 => ?_)
        · have h := ite_t h c6
          refine lv_aload_n hx hb dX4_go_48 rfl (lv_at hl 0 rfl) ?_
          refine lv_iload_n hx hb dX4_go_49 rfl (lv_at hl 1 rfl) ?_
          refine lv_iload_n hx hb dX4_go_50 rfl (lv_at hl 2 rfl) ?_
          refine lv_iload_n hx hb dX4_go_51 rfl (lv_at hl 3 rfl) ?_
          refine lv_iload hx hb dX4_go_52 (lv_at hl 4 rfl) ?_
          obtain ⟨v7, ev7, h⟩ := obind h
          refine g_endi (va_runV (As := [.int x1, .int x2, .int x3, .int x4]) (rest := []) ⟨hx, hb, hml, hown, hts⟩ (k_X4_steps l D cy ad P Dr tI hX I L x1 x2 x3 x4 v7 ev7) (cwV 4 hts gX4_go_X4_steps rfl rfl rfl cd_X4_steps ⟨Nat.le_of_ble_eq_true rfl, Nat.le_of_ble_eq_true rfl⟩) ⟨g_blind cZm, g_recv hK hG (k := 0) (by decide) (cE_4 _ _) vwCl_4, g_pre cZm hK hG hZ hS⟩ rfl rfl hl.1 rfl (lv_room (Nat.le_of_ble_eq_true rfl)) dX4_go_54 ⟨Nat.le_refl _, Nat.le_refl _⟩) hS (fun H locs hG hS => ?_)
          refine lv_istore (lv' := [(5, .int v7), (0, .ref (ad 0)), (1, .int x1), (2, .int x2), (3, .int x3), (4, .int x4)]) hx hb dX4_go_57 hl (by decide) rfl (fun ls hl => ?_)
          refine lv_iload hx hb dX4_go_59 (lv_at hl 0 rfl) ?_
          refine lv_aload_n hx hb dX4_go_61 rfl (lv_at hl 1 rfl) ?_
          refine g_get hx hb l4 hown hK hG (k := 0) (by decide) (cE_4 _ _) vwCl_4 7 (by decide) k1 (fun _ h9 => h9) rfl dX4_go_62 ?_
          refine g_get hx hb l1 hown hK hG (k := P) hP.1.1 (cE_1 hP.1 _ _) vwCl_1 0 (by decide) k2 (fun _ h9 => h9) rfl dX4_go_65 ?_
          refine lv_icmp_le (tgt := 74) hx hb dX4_go_68 (by decide) (fun c8 => ?_) (fun c8 => ?_)
          · have h := ite_t h c8
            refine lv_aload_n hx hb dX4_go_74 rfl (lv_at hl 1 rfl) ?_
            refine g_get hx hb l4 hown hK hG (k := 0) (by decide) (cE_4 _ _) vwCl_4 2 (by decide) k3 (fun _ h9 => h9) rfl dX4_go_75 ?_
            refine g_get hx hb l0 hown hK hG (k := 17) cDeeds_17.1.1 (cE_0 cDeeds_17.1 _ _) vwCl_0 0 (by decide) k4 (fun _ h9 => h9) rfl dX4_go_78 ?_
            refine lv_bipush (v := (40 : Int32)) hx hb dX4_go_81 (by decide) ?_
            refine lv_icmp_lt (tgt := 89) hx hb dX4_go_83 (by decide) (fun c9 => ?_) (fun c9 => ?_)
            · have h := ite_t h c9
              refine lv_aload_n hx hb dX4_go_89 rfl (lv_at hl 1 rfl) ?_
              refine g_get hx hb l4 hown hK hG (k := 0) (by decide) (cE_4 _ _) vwCl_4 2 (by decide) k3 (fun _ h9 => h9) rfl dX4_go_90 ?_
              refine lv_iconst (v := (1 : Int32)) hx hb dX4_go_93 (by decide) ?_
              refine lv_iload_n hx hb dX4_go_94 rfl (lv_at hl 2 rfl) ?_
              refine lv_ishl hx hb dX4_go_95 ?_
              refine lv_iconst (v := (1 : Int32)) hx hb dX4_go_96 (by decide) ?_
              refine lv_iload_n hx hb dX4_go_97 rfl (lv_at hl 3 rfl) ?_
              refine lv_ishl hx hb dX4_go_98 ?_
              refine lv_ior hx hb dX4_go_99 ?_
              refine lv_iload_n hx hb dX4_go_100 rfl (lv_at hl 4 rfl) ?_
              refine lv_iload hx hb dX4_go_101 (lv_at hl 5 rfl) ?_
              refine lv_ior hx hb dX4_go_103 ?_
              refine lv_iconst (v := (0 : Int32)) hx hb dX4_go_104 (by decide) ?_
              refine lv_iload hx hb dX4_go_105 (lv_at hl 0 rfl) ?_
              obtain ⟨q10, eq10, h⟩ := obind h
              refine g_endv (va_runV (As := [.int (((1 : Int32) <<< (x1 &&& 31)) ||| ((1 : Int32) <<< (x2 &&& 31))), .int (x3 ||| x4), .int (0 : Int32), .int v7]) (rest := []) ⟨hx, hb, hml, hown, hts⟩ (k_X0_add l D cy ad P Dr tI hX (b := 17) cDeeds_17 I L (((1 : Int32) <<< (x1 &&& 31)) ||| ((1 : Int32) <<< (x2 &&& 31))) (x3 ||| x4) (0 : Int32) v7 q10 eq10) (cwV 4 hts gX4_go_X0_add rfl rfl rfl cd_X0_add ⟨Nat.le_of_ble_eq_true rfl, Nat.le_of_ble_eq_true rfl⟩) ⟨g_blind cZm, g_recv hK hG (k := 17) cDeeds_17.1.1 (cE_0 cDeeds_17.1 _ _) vwCl_0, g_pre cZm hK hG hZ hS⟩ rfl rfl hl.1 rfl (lv_room (Nat.le_of_ble_eq_true rfl)) dX4_go_107 ⟨Nat.le_refl _, Nat.le_refl _⟩) hS (fun H locs hG hS => ?_)
              refine lv_iload hx hb dX4_go_110 (lv_at hl 0 rfl) ?_
              have h := Option.some.inj h
              subst h
              subst hQ
              exact g_iret hx hb hr hlocks cZm hK hZ hG hS rfl dX4_go_112
            · have h := ite_f h c9
              refine lv_bipush (v := (-2 : Int32)) hx hb dX4_go_86 (by decide) ?_
              have h := Option.some.inj h
              subst h
              subst hQ
              exact g_iret hx hb hr hlocks cZm hK hZ hG hS rfl dX4_go_88
          · have h := ite_f h c8
            refine lv_bipush (v := (-6 : Int32)) hx hb dX4_go_71 (by decide) ?_
            have h := Option.some.inj h
            subst h
            subst hQ
            exact g_iret hx hb hr hlocks cZm hK hZ hG hS rfl dX4_go_73
        · have h := ite_f h c6
          refine lv_bipush (v := (-4 : Int32)) hx hb dX4_go_45 (by decide) ?_
          have h := Option.some.inj h
          subst h
          subst hQ
          exact g_iret hx hb hr hlocks cZm hK hZ hG hS rfl dX4_go_47
    · have h := ite_f h c2
      refine lv_iconst (v := (-1 : Int32)) hx hb dX4_go_19 (by decide) ?_
      have h := Option.some.inj h
      subst h
      subst hQ
      exact g_iret hx hb hr hlocks cZm hK hZ hG hS rfl dX4_go_20
def X4_loaf (P : Nat) (I : xMem) : Option (Int32 × xMem) := if (I P 2) = (0 : Int32) then (some ((-4 : Int32), I)) else ((X0_eaten 17 I).bind fun v2 => if v2 < (9 : Int32) then (if (I 17 0) < (40 : Int32) then ((X0_add 17 I (0 : Int32) (0 : Int32) (1 : Int32) (0 : Int32)).bind fun q5 => (X0_eaten 17 q5).bind fun v6 => some (v6, q5)) else (some ((-2 : Int32), I))) else (some ((-4 : Int32), I)))
abbrev rm_X4_loaf : Room := { frames := 1, cells := 0, slots := 0, locals := 24 }
theorem cd_X4_loaf : yX4_loaf.cls = RX4 ∧ yX4_loaf.cls ≠ "java/lang/invoke/MethodHandle" ∧ yX4_loaf.cls ≠ "java/lang/invoke/VarHandle" ∧ (parseMethodDescriptor yX4_loaf.desc).map (fun d => d.parameters.length) = some 0 := by decide +kernel
set_option maxHeartbeats 4000000 in
set_option maxRecDepth 100000 in
theorem k_X4_loaf (l : Launch) (D : va_G) (cy : Nat → ClassId) (ad : Nat → Nat) (P Dr : Nat) (tI : xTab) (hX : cOk ad P Dr) (I : xMem) (L : xLon)  (r : Int32 × xMem) (h : X4_loaf P I = some r) : Met l yX4_loaf wsX4_loaf rm_X4_loaf (va_Pc [.ref (ad 0)] (cW D cy ad P Dr tI I L)) (cPi D cy ad P Dr tI r.2 L r.1) 0 0 (gA 64 ad) := by
  refine g_met (own := RX4) (cc := cX4_loaf) (maxL := 1) (ret := (some .int)) (by decide) rfl (Nat.le_of_ble_eq_true rfl) rfl ?_
  intro p e s m args below meth c ls hx hb hml hr hlocks hown hts hG hK hZ hl
  generalize hQ : MQ below _ args s 0 0 _ = Q
  have hl : lv_has ls 1 [(0, .ref (ad 0))] := hl
  have hS : va_S (gA 64 ad) s.heap s.heap [] := va_S.rf
  obtain ⟨hi, hP, hDr⟩ := id hX
  have l0 : ∀ w ∈ wsX00, w.before args s = true := fun w h => hts w (List.mem_cons_of_mem _ (List.mem_append_right _ h))
  have l1 : ∀ w ∈ wsX10, w.before args s = true := fun w h => hts w (List.mem_cons_of_mem _ (List.mem_append_left _ (List.mem_append_right _ h)))
  have l4 : ∀ w ∈ wsX40, w.before args s = true := fun w h => hts w (List.mem_cons_of_mem _ (List.mem_append_left _ (List.mem_append_left _ (List.mem_append_right _ h))))
  have k1 := hts (.fieldLink RX4 50 "PairStairs" "plan" "LPairStairs$Plan;") (by decide +kernel)
  have k2 := hts (.fieldLink RX4 115 "PairStairs$Plan" "people" "I") (by decide +kernel)
  have k3 := hts (.fieldLink RX4 24 "PairStairs" "deeds" "LPairStairs$Deeds;") (by decide +kernel)
  have k4 := hts (.fieldLink RX4 112 "PairStairs$Deeds" "done" "I") (by decide +kernel)
  unfold X4_loaf at h
  refine lv_aload_n hx hb dX4_loaf_0 rfl (lv_at hl 0 rfl) ?_
  refine g_get hx hb l4 hown hK hG (k := 0) (by decide) (cE_4 _ _) vwCl_4 7 (by decide) k1 (fun _ h9 => h9) rfl dX4_loaf_1 ?_
  refine g_get hx hb l1 hown hK hG (k := P) hP.1.1 (cE_1 hP.1 _ _) vwCl_1 2 (by decide) k2 (fun _ h9 => h9) rfl dX4_loaf_4 ?_
  refine lv_if_eq (tgt := 22) hx hb dX4_loaf_7 (by decide) (fun c1 => ?_) (fun c1 => ?_)
  · have h := ite_t h c1
    refine lv_bipush (v := (-4 : Int32)) hx hb dX4_loaf_22 (by decide) ?_
    have h := Option.some.inj h
    subst h
    subst hQ
    exact g_iret hx hb hr hlocks cZm hK hZ hG hS rfl dX4_loaf_24
  · have h := ite_f h c1
    refine lv_aload_n hx hb dX4_loaf_10 rfl (lv_at hl 0 rfl) ?_
    refine g_get hx hb l4 hown hK hG (k := 0) (by decide) (cE_4 _ _) vwCl_4 2 (by decide) k3 (fun _ h9 => h9) rfl dX4_loaf_11 ?_
    obtain ⟨v2, ev2, h⟩ := obind h
    refine g_endi (va_runV (As := []) (rest := []) ⟨hx, hb, hml, hown, hts⟩ (k_X0_eaten l D cy ad P Dr tI hX (b := 17) cDeeds_17 I L v2 ev2) (cwV 0 hts gX4_loaf_X0_eaten rfl rfl rfl cd_X0_eaten ⟨Nat.le_of_ble_eq_true rfl, Nat.le_of_ble_eq_true rfl⟩) ⟨g_blind cZm, g_recv hK hG (k := 17) cDeeds_17.1.1 (cE_0 cDeeds_17.1 _ _) vwCl_0, g_pre cZm hK hG hZ hS⟩ rfl rfl hl.1 rfl (lv_room (Nat.le_of_ble_eq_true rfl)) dX4_loaf_14 ⟨Nat.le_refl _, Nat.le_refl _⟩) hS (fun H locs hG hS => ?_)
    refine lv_bipush (v := (9 : Int32)) hx hb dX4_loaf_17 (by decide) ?_
    refine lv_icmp_lt (tgt := 25) hx hb dX4_loaf_19 (by decide) (fun c3 => ?_) (fun c3 => ?_)
    · have h := ite_t h c3
      refine lv_aload_n hx hb dX4_loaf_25 rfl (lv_at hl 0 rfl) ?_
      refine g_get hx hb l4 hown hK hG (k := 0) (by decide) (cE_4 _ _) vwCl_4 2 (by decide) k3 (fun _ h9 => h9) rfl dX4_loaf_26 ?_
      refine g_get hx hb l0 hown hK hG (k := 17) cDeeds_17.1.1 (cE_0 cDeeds_17.1 _ _) vwCl_0 0 (by decide) k4 (fun _ h9 => h9) rfl dX4_loaf_29 ?_
      refine lv_bipush (v := (40 : Int32)) hx hb dX4_loaf_32 (by decide) ?_
      refine lv_icmp_lt (tgt := 40) hx hb dX4_loaf_34 (by decide) (fun c4 => ?_) (fun c4 => ?_)
      · have h := ite_t h c4
        refine lv_aload_n hx hb dX4_loaf_40 rfl (lv_at hl 0 rfl) ?_
        refine g_get hx hb l4 hown hK hG (k := 0) (by decide) (cE_4 _ _) vwCl_4 2 (by decide) k3 (fun _ h9 => h9) rfl dX4_loaf_41 ?_
        refine lv_iconst (v := (0 : Int32)) hx hb dX4_loaf_44 (by decide) ?_
        refine lv_iconst (v := (0 : Int32)) hx hb dX4_loaf_45 (by decide) ?_
        refine lv_iconst (v := (1 : Int32)) hx hb dX4_loaf_46 (by decide) ?_
        refine lv_iconst (v := (0 : Int32)) hx hb dX4_loaf_47 (by decide) ?_
        obtain ⟨q5, eq5, h⟩ := obind h
        refine g_endv (va_runV (As := [.int (0 : Int32), .int (0 : Int32), .int (1 : Int32), .int (0 : Int32)]) (rest := []) ⟨hx, hb, hml, hown, hts⟩ (k_X0_add l D cy ad P Dr tI hX (b := 17) cDeeds_17 I L (0 : Int32) (0 : Int32) (1 : Int32) (0 : Int32) q5 eq5) (cwV 4 hts gX4_loaf_X0_add rfl rfl rfl cd_X0_add ⟨Nat.le_of_ble_eq_true rfl, Nat.le_of_ble_eq_true rfl⟩) ⟨g_blind cZm, g_recv hK hG (k := 17) cDeeds_17.1.1 (cE_0 cDeeds_17.1 _ _) vwCl_0, g_pre cZm hK hG hZ hS⟩ rfl rfl hl.1 rfl (lv_room (Nat.le_of_ble_eq_true rfl)) dX4_loaf_48 ⟨Nat.le_refl _, Nat.le_refl _⟩) hS (fun H locs hG hS => ?_)
        refine lv_aload_n hx hb dX4_loaf_51 rfl (lv_at hl 0 rfl) ?_
        refine g_get hx hb l4 hown hK hG (k := 0) (by decide) (cE_4 _ _) vwCl_4 2 (by decide) k3 (fun _ h9 => h9) rfl dX4_loaf_52 ?_
        obtain ⟨v6, ev6, h⟩ := obind h
        refine g_endi (va_runV (As := []) (rest := []) ⟨hx, hb, hml, hown, hts⟩ (k_X0_eaten l D cy ad P Dr tI hX (b := 17) cDeeds_17 q5 L v6 ev6) (cwV 0 hts gX4_loaf_X0_eaten rfl rfl rfl cd_X0_eaten ⟨Nat.le_of_ble_eq_true rfl, Nat.le_of_ble_eq_true rfl⟩) ⟨g_blind cZm, g_recv hK hG (k := 17) cDeeds_17.1.1 (cE_0 cDeeds_17.1 _ _) vwCl_0, g_pre cZm hK hG hZ hS⟩ rfl rfl hl.1 rfl (lv_room (Nat.le_of_ble_eq_true rfl)) dX4_loaf_55 ⟨Nat.le_refl _, Nat.le_refl _⟩) hS (fun H locs hG hS => ?_)
        have h := Option.some.inj h
        subst h
        subst hQ
        exact g_iret hx hb hr hlocks cZm hK hZ hG hS rfl dX4_loaf_58
      · have h := ite_f h c4
        refine lv_bipush (v := (-2 : Int32)) hx hb dX4_loaf_37 (by decide) ?_
        have h := Option.some.inj h
        subst h
        subst hQ
        exact g_iret hx hb hr hlocks cZm hK hZ hG hS rfl dX4_loaf_39
    · have h := ite_f h c3
      refine lv_bipush (v := (-4 : Int32)) hx hb dX4_loaf_22 (by decide) ?_
      have h := Option.some.inj h
      subst h
      subst hQ
      exact g_iret hx hb hr hlocks cZm hK hZ hG hS rfl dX4_loaf_24
def X4_undo (I : xMem) (x1 : Int32) : Option (Int32 × xMem) := if x1 < (0 : Int32) then (some ((-1 : Int32), I)) else (if x1 ≤ (I 17 0) then ((some (wr I 17 0 x1)).bind fun I3 => some (((I 17 0) - x1), I3)) else (some ((-1 : Int32), I)))
abbrev rm_X4_undo : Room := { frames := 0, cells := 0, slots := 0, locals := 0 }
theorem cd_X4_undo : yX4_undo.cls = RX4 ∧ yX4_undo.cls ≠ "java/lang/invoke/MethodHandle" ∧ yX4_undo.cls ≠ "java/lang/invoke/VarHandle" ∧ (parseMethodDescriptor yX4_undo.desc).map (fun d => d.parameters.length) = some 1 := by decide +kernel
set_option maxHeartbeats 4000000 in
set_option maxRecDepth 100000 in
theorem k_X4_undo (l : Launch) (D : va_G) (cy : Nat → ClassId) (ad : Nat → Nat) (P Dr : Nat) (tI : xTab) (hX : cOk ad P Dr) (I : xMem) (L : xLon) (x1 : Int32) (r : Int32 × xMem) (h : X4_undo I x1 = some r) : Met l yX4_undo wsX4_undo rm_X4_undo (va_Pc [.ref (ad 0), .int x1] (cW D cy ad P Dr tI I L)) (cPi D cy ad P Dr tI r.2 L r.1) 0 0 (gA 64 ad) := by
  refine g_met (own := RX4) (cc := cX4_undo) (maxL := 3) (ret := (some .int)) (by decide) rfl (Nat.le_of_ble_eq_true rfl) rfl ?_
  intro p e s m args below meth c ls hx hb hml hr hlocks hown hts hG hK hZ hl
  generalize hQ : MQ below _ args s 0 0 _ = Q
  have hl : lv_has ls 3 [(0, .ref (ad 0)), (1, .int x1)] := hl
  have hS : va_S (gA 64 ad) s.heap s.heap [] := va_S.rf
  obtain ⟨hi, hP, hDr⟩ := id hX
  have l0 : ∀ w ∈ wsX00, w.before args s = true := fun w h => hts w (List.mem_cons_of_mem _ (List.mem_append_right _ h))
  have l4 : ∀ w ∈ wsX40, w.before args s = true := fun w h => hts w (List.mem_cons_of_mem _ (List.mem_append_left _ (List.mem_append_right _ h)))
  have k1 := hts (.fieldLink RX4 24 "PairStairs" "deeds" "LPairStairs$Deeds;") (by decide +kernel)
  have k2 := hts (.fieldLink RX4 112 "PairStairs$Deeds" "done" "I") (by decide +kernel)
  unfold X4_undo at h
  refine lv_iload_n hx hb dX4_undo_0 rfl (lv_at hl 1 rfl) ?_
  refine lv_if_lt (tgt := 15) hx hb dX4_undo_1 (by decide) (fun c1 => ?_) (fun c1 => ?_)
  · have h := ite_t h c1
    refine lv_iconst (v := (-1 : Int32)) hx hb dX4_undo_15 (by decide) ?_
    have h := Option.some.inj h
    subst h
    subst hQ
    exact g_iret hx hb hr hlocks cZm hK hZ hG hS rfl dX4_undo_16
  · have h := ite_f h c1
    refine lv_iload_n hx hb dX4_undo_4 rfl (lv_at hl 1 rfl) ?_
    refine lv_aload_n hx hb dX4_undo_5 rfl (lv_at hl 0 rfl) ?_
    refine g_get hx hb l4 hown hK hG (k := 0) (by decide) (cE_4 _ _) vwCl_4 2 (by decide) k1 (fun _ h9 => h9) rfl dX4_undo_6 ?_
    refine g_get hx hb l0 hown hK hG (k := 17) cDeeds_17.1.1 (cE_0 cDeeds_17.1 _ _) vwCl_0 0 (by decide) k2 (fun _ h9 => h9) rfl dX4_undo_9 ?_
    refine lv_icmp_le (tgt := 17) hx hb dX4_undo_12 (by decide) (fun c2 => ?_) (fun c2 => ?_)
    · have h := ite_t h c2
      refine lv_aload_n hx hb dX4_undo_17 rfl (lv_at hl 0 rfl) ?_
      refine g_get hx hb l4 hown hK hG (k := 0) (by decide) (cE_4 _ _) vwCl_4 2 (by decide) k1 (fun _ h9 => h9) rfl dX4_undo_18 ?_
      refine g_get hx hb l0 hown hK hG (k := 17) cDeeds_17.1.1 (cE_0 cDeeds_17.1 _ _) vwCl_0 0 (by decide) k2 (fun _ h9 => h9) rfl dX4_undo_21 ?_
      refine lv_iload_n hx hb dX4_undo_24 rfl (lv_at hl 1 rfl) ?_
      refine lv_isub hx hb dX4_undo_25 ?_
      refine lv_istore_n (lv' := [(2, .int ((I 17 0) - x1)), (0, .ref (ad 0)), (1, .int x1)]) hx hb dX4_undo_26 rfl hl (by decide) rfl (fun ls hl => ?_)
      refine lv_aload_n hx hb dX4_undo_27 rfl (lv_at hl 1 rfl) ?_
      refine g_get hx hb l4 hown hK hG (k := 0) (by decide) (cE_4 _ _) vwCl_4 2 (by decide) k1 (fun _ h9 => h9) rfl dX4_undo_28 ?_
      refine lv_iload_n hx hb dX4_undo_31 rfl (lv_at hl 2 rfl) ?_
      obtain ⟨I3, eI3, h⟩ := obind h
      refine g_put hx hb l0 tyX0_ok nmX0 hown hK hG hi hS (k := 17) cDeeds_17.1.1 (cE_0 cDeeds_17.1 _ _) vwCl_0 0 (by decide) k2 (fun _ h9 => h9) rfl rfl (Nat.le_of_ble_eq_true rfl) (by rw [cE_0 cDeeds_17.1 _ _]; rfl) dX4_undo_32 (fun H locs hG hS => ?_)
      rw [Option.some.inj eI3] at hG
      refine lv_iload_n hx hb dX4_undo_35 rfl (lv_at hl 0 rfl) ?_
      have h := Option.some.inj h
      subst h
      subst hQ
      exact g_iret hx hb hr hlocks cZm hK hZ hG hS rfl dX4_undo_36
    · have h := ite_f h c2
      refine lv_iconst (v := (-1 : Int32)) hx hb dX4_undo_15 (by decide) ?_
      have h := Option.some.inj h
      subst h
      subst hQ
      exact g_iret hx hb hr hlocks cZm hK hZ hG hS rfl dX4_undo_16
def X4_keep (P : Nat) (I : xMem) (x1 : Int32) : Option (Int32 × xMem) := if x1 < (0 : Int32) then (some ((-1 : Int32), I)) else (if x1 < (3 : Int32) then (if (I P 2) = (0 : Int32) then (some ((-4 : Int32), I)) else ((rdX 3 x1).bind fun j4 => (X0_become (23 + 5 * j4) I 17).bind fun q5 => (wrI q5 38 3 x1 (nz (1 : Int32))).bind fun I6 => some ((I6 17 0), I6))) else (some ((-1 : Int32), I)))
abbrev rm_X4_keep : Room := { frames := 2, cells := 0, slots := 0, locals := 61 }
theorem cd_X4_keep : yX4_keep.cls = RX4 ∧ yX4_keep.cls ≠ "java/lang/invoke/MethodHandle" ∧ yX4_keep.cls ≠ "java/lang/invoke/VarHandle" ∧ (parseMethodDescriptor yX4_keep.desc).map (fun d => d.parameters.length) = some 1 := by decide +kernel
set_option maxHeartbeats 4000000 in
set_option maxRecDepth 100000 in
theorem k_X4_keep (l : Launch) (D : va_G) (cy : Nat → ClassId) (ad : Nat → Nat) (P Dr : Nat) (tI : xTab) (hX : cOk ad P Dr) (I : xMem) (L : xLon) (x1 : Int32) (r : Int32 × xMem) (h : X4_keep P I x1 = some r) : Met l yX4_keep wsX4_keep rm_X4_keep (va_Pc [.ref (ad 0), .int x1] (cW D cy ad P Dr tI I L)) (cPi D cy ad P Dr tI r.2 L r.1) 0 0 (gA 64 ad) := by
  refine g_met (own := RX4) (cc := cX4_keep) (maxL := 2) (ret := (some .int)) (by decide) rfl (Nat.le_of_ble_eq_true rfl) rfl ?_
  intro p e s m args below meth c ls hx hb hml hr hlocks hown hts hG hK hZ hl
  generalize hQ : MQ below _ args s 0 0 _ = Q
  have hl : lv_has ls 2 [(0, .ref (ad 0)), (1, .int x1)] := hl
  have hS : va_S (gA 64 ad) s.heap s.heap [] := va_S.rf
  obtain ⟨hi, hP, hDr⟩ := id hX
  have l0 : ∀ w ∈ wsX00, w.before args s = true := fun w h => hts w (List.mem_cons_of_mem _ (List.mem_append_right _ h))
  have l1 : ∀ w ∈ wsX10, w.before args s = true := fun w h => hts w (List.mem_cons_of_mem _ (List.mem_append_left _ (List.mem_append_right _ h)))
  have l4 : ∀ w ∈ wsX40, w.before args s = true := fun w h => hts w (List.mem_cons_of_mem _ (List.mem_append_left _ (List.mem_append_left _ (List.mem_append_right _ h))))
  have k1 := hts (.fieldLink RX4 50 "PairStairs" "plan" "LPairStairs$Plan;") (by decide +kernel)
  have k2 := hts (.fieldLink RX4 115 "PairStairs$Plan" "people" "I") (by decide +kernel)
  have k3 := hts (.fieldLink RX4 28 "PairStairs" "kept" "[LPairStairs$Deeds;") (by decide +kernel)
  have k4 := hts (.fieldLink RX4 24 "PairStairs" "deeds" "LPairStairs$Deeds;") (by decide +kernel)
  have k5 := hts (.fieldLink RX4 32 "PairStairs" "isKept" "[Z") (by decide +kernel)
  have k6 := hts (.fieldLink RX4 112 "PairStairs$Deeds" "done" "I") (by decide +kernel)
  unfold X4_keep at h
  refine lv_iload_n hx hb dX4_keep_0 rfl (lv_at hl 1 rfl) ?_
  refine lv_if_lt (tgt := 9) hx hb dX4_keep_1 (by decide) (fun c1 => ?_) (fun c1 => ?_)
  · have h := ite_t h c1
    refine lv_iconst (v := (-1 : Int32)) hx hb dX4_keep_9 (by decide) ?_
    have h := Option.some.inj h
    subst h
    subst hQ
    exact g_iret hx hb hr hlocks cZm hK hZ hG hS rfl dX4_keep_10
  · have h := ite_f h c1
    refine lv_iload_n hx hb dX4_keep_4 rfl (lv_at hl 1 rfl) ?_
    refine lv_iconst (v := (3 : Int32)) hx hb dX4_keep_5 (by decide) ?_
    refine lv_icmp_lt (tgt := 11) hx hb dX4_keep_6 (by decide) (fun c2 => ?_) (fun c2 => ?_)
    · have h := ite_t h c2
      refine lv_aload_n hx hb dX4_keep_11 rfl (lv_at hl 0 rfl) ?_
      refine g_get hx hb l4 hown hK hG (k := 0) (by decide) (cE_4 _ _) vwCl_4 7 (by decide) k1 (fun _ h9 => h9) rfl dX4_keep_12 ?_
      refine g_get hx hb l1 hown hK hG (k := P) hP.1.1 (cE_1 hP.1 _ _) vwCl_1 2 (by decide) k2 (fun _ h9 => h9) rfl dX4_keep_15 ?_
      refine lv_if_ne (tgt := 24) hx hb dX4_keep_18 (by decide) (fun c3 => ?_) (fun c3 => ?_)
      · have h := ite_f h c3
        refine lv_aload_n hx hb dX4_keep_24 rfl (lv_at hl 0 rfl) ?_
        refine g_get hx hb l4 hown hK hG (k := 0) (by decide) (cE_4 _ _) vwCl_4 3 (by decide) k3 (fun _ h9 => h9) rfl dX4_keep_25 ?_
        refine lv_iload_n hx hb dX4_keep_28 rfl (lv_at hl 1 rfl) ?_
        refine g_aldq hx hb hK hG (k := 22) (n := 3) (g := fun j => 23 + 5 * j) (by decide) (cE_8 _ _) 2 rfl rfl h dX4_keep_29 (fun j4 hj4 h => ?_)
        refine lv_aload_n hx hb dX4_keep_30 rfl (lv_at hl 0 rfl) ?_
        refine g_get hx hb l4 hown hK hG (k := 0) (by decide) (cE_4 _ _) vwCl_4 2 (by decide) k4 (fun _ h9 => h9) rfl dX4_keep_31 ?_
        obtain ⟨q5, eq5, h⟩ := obind h
        refine g_endv (va_runV (As := [.ref (ad 17)]) (rest := []) ⟨hx, hb, hml, hown, hts⟩ (k_X0_become l D cy ad P Dr tI hX (b := (23 + 5 * j4)) (cDeeds_k j4 hj4) I L (y1 := 17) cDeeds_17 q5 eq5) (cwV 1 hts gX4_keep_X0_become rfl rfl rfl cd_X0_become ⟨Nat.le_of_ble_eq_true rfl, Nat.le_of_ble_eq_true rfl⟩) ⟨g_blind cZm, g_recv hK hG (k := (23 + 5 * j4)) (cDeeds_k j4 hj4).1.1 (cE_0 (cDeeds_k j4 hj4).1 _ _) vwCl_0, g_pre cZm hK hG hZ hS⟩ rfl rfl hl.1 rfl (lv_room (Nat.le_of_ble_eq_true rfl)) dX4_keep_34 ⟨Nat.le_refl _, Nat.le_refl _⟩) hS (fun H locs hG hS => ?_)
        refine lv_aload_n hx hb dX4_keep_37 rfl (lv_at hl 0 rfl) ?_
        refine g_get hx hb l4 hown hK hG (k := 0) (by decide) (cE_4 _ _) vwCl_4 4 (by decide) k5 (fun _ h9 => h9) rfl dX4_keep_38 ?_
        refine lv_iload_n hx hb dX4_keep_41 rfl (lv_at hl 1 rfl) ?_
        refine lv_iconst (v := (1 : Int32)) hx hb dX4_keep_42 (by decide) ?_
        refine g_zast hx hb hK hG hi hS (k := 38) (n := 3) (by decide) (fun f => cE_7 f _) 1 rfl h dX4_keep_43 (fun I6 H locs h hG hS => ?_)
        refine lv_aload_n hx hb dX4_keep_44 rfl (lv_at hl 0 rfl) ?_
        refine g_get hx hb l4 hown hK hG (k := 0) (by decide) (cE_4 _ _) vwCl_4 2 (by decide) k4 (fun _ h9 => h9) rfl dX4_keep_45 ?_
        refine g_get hx hb l0 hown hK hG (k := 17) cDeeds_17.1.1 (cE_0 cDeeds_17.1 _ _) vwCl_0 0 (by decide) k6 (fun _ h9 => h9) rfl dX4_keep_48 ?_
        have h := Option.some.inj h
        subst h
        subst hQ
        exact g_iret hx hb hr hlocks cZm hK hZ hG hS rfl dX4_keep_51
      · have h := ite_t h c3
        refine lv_bipush (v := (-4 : Int32)) hx hb dX4_keep_21 (by decide) ?_
        have h := Option.some.inj h
        subst h
        subst hQ
        exact g_iret hx hb hr hlocks cZm hK hZ hG hS rfl dX4_keep_23
    · have h := ite_f h c2
      refine lv_iconst (v := (-1 : Int32)) hx hb dX4_keep_9 (by decide) ?_
      have h := Option.some.inj h
      subst h
      subst hQ
      exact g_iret hx hb hr hlocks cZm hK hZ hG hS rfl dX4_keep_10
def X4_on (I : xMem) (x1 : Int32) : Option (Int32 × xMem) := if x1 < (0 : Int32) then (some ((-1 : Int32), I)) else (if x1 < (3 : Int32) then ((rdI I 38 3 x1).bind fun v3 => if v3 = (0 : Int32) then ((X4_found I (1 : Int32)).bind fun q7 => some (q7.1, q7.2)) else ((rdX 3 x1).bind fun j5 => (X0_become 17 I (23 + 5 * j5)).bind fun q6 => some ((q6 17 0), q6))) else (some ((-1 : Int32), I)))
abbrev rm_X4_on : Room := { frames := 2, cells := 0, slots := 0, locals := 61 }
theorem cd_X4_on : yX4_on.cls = RX4 ∧ yX4_on.cls ≠ "java/lang/invoke/MethodHandle" ∧ yX4_on.cls ≠ "java/lang/invoke/VarHandle" ∧ (parseMethodDescriptor yX4_on.desc).map (fun d => d.parameters.length) = some 1 := by decide +kernel
set_option maxHeartbeats 4000000 in
set_option maxRecDepth 100000 in
theorem k_X4_on (l : Launch) (D : va_G) (cy : Nat → ClassId) (ad : Nat → Nat) (P Dr : Nat) (tI : xTab) (hX : cOk ad P Dr) (I : xMem) (L : xLon) (x1 : Int32) (r : Int32 × xMem) (h : X4_on I x1 = some r) : Met l yX4_on wsX4_on rm_X4_on (va_Pc [.ref (ad 0), .int x1] (cW D cy ad P Dr tI I L)) (cPi D cy ad P Dr tI r.2 L r.1) 0 0 (gA 64 ad) := by
  refine g_met (own := RX4) (cc := cX4_on) (maxL := 2) (ret := (some .int)) (by decide) rfl (Nat.le_of_ble_eq_true rfl) rfl ?_
  intro p e s m args below meth c ls hx hb hml hr hlocks hown hts hG hK hZ hl
  generalize hQ : MQ below _ args s 0 0 _ = Q
  have hl : lv_has ls 2 [(0, .ref (ad 0)), (1, .int x1)] := hl
  have hS : va_S (gA 64 ad) s.heap s.heap [] := va_S.rf
  obtain ⟨hi, hP, hDr⟩ := id hX
  have l0 : ∀ w ∈ wsX00, w.before args s = true := fun w h => hts w (List.mem_cons_of_mem _ (List.mem_append_right _ h))
  have l4 : ∀ w ∈ wsX40, w.before args s = true := fun w h => hts w (List.mem_cons_of_mem _ (List.mem_append_left _ (List.mem_append_right _ h)))
  have k1 := hts (.fieldLink RX4 32 "PairStairs" "isKept" "[Z") (by decide +kernel)
  have k2 := hts (.fieldLink RX4 24 "PairStairs" "deeds" "LPairStairs$Deeds;") (by decide +kernel)
  have k3 := hts (.fieldLink RX4 28 "PairStairs" "kept" "[LPairStairs$Deeds;") (by decide +kernel)
  have k4 := hts (.fieldLink RX4 112 "PairStairs$Deeds" "done" "I") (by decide +kernel)
  unfold X4_on at h
  refine lv_iload_n hx hb dX4_on_0 rfl (lv_at hl 1 rfl) ?_
  refine lv_if_lt (tgt := 9) hx hb dX4_on_1 (by decide) (fun c1 => ?_) (fun c1 => ?_)
  · have h := ite_t h c1
    refine lv_iconst (v := (-1 : Int32)) hx hb dX4_on_9 (by decide) ?_
    have h := Option.some.inj h
    subst h
    subst hQ
    exact g_iret hx hb hr hlocks cZm hK hZ hG hS rfl dX4_on_10
  · have h := ite_f h c1
    refine lv_iload_n hx hb dX4_on_4 rfl (lv_at hl 1 rfl) ?_
    refine lv_iconst (v := (3 : Int32)) hx hb dX4_on_5 (by decide) ?_
    refine lv_icmp_lt (tgt := 11) hx hb dX4_on_6 (by decide) (fun c2 => ?_) (fun c2 => ?_)
    · have h := ite_t h c2
      refine lv_aload_n hx hb dX4_on_11 rfl (lv_at hl 0 rfl) ?_
      refine g_get hx hb l4 hown hK hG (k := 0) (by decide) (cE_4 _ _) vwCl_4 4 (by decide) k1 (fun _ h9 => h9) rfl dX4_on_12 ?_
      refine lv_iload_n hx hb dX4_on_15 rfl (lv_at hl 1 rfl) ?_
      refine g_zald hx hb hK hG (k := 38) (n := 3) (by decide) (cE_7 _ _) 1 rfl h dX4_on_16 (fun v3 h => ?_)
      refine lv_if_ne (tgt := 26) hx hb dX4_on_17 (by decide) (fun c4 => ?_) (fun c4 => ?_)
      · have h := ite_f h c4
        refine lv_aload_n hx hb dX4_on_26 rfl (lv_at hl 0 rfl) ?_
        refine g_get hx hb l4 hown hK hG (k := 0) (by decide) (cE_4 _ _) vwCl_4 2 (by decide) k2 (fun _ h9 => h9) rfl dX4_on_27 ?_
        refine lv_aload_n hx hb dX4_on_30 rfl (lv_at hl 0 rfl) ?_
        refine g_get hx hb l4 hown hK hG (k := 0) (by decide) (cE_4 _ _) vwCl_4 3 (by decide) k3 (fun _ h9 => h9) rfl dX4_on_31 ?_
        refine lv_iload_n hx hb dX4_on_34 rfl (lv_at hl 1 rfl) ?_
        refine g_aldq hx hb hK hG (k := 22) (n := 3) (g := fun j => 23 + 5 * j) (by decide) (cE_8 _ _) 2 rfl rfl h dX4_on_35 (fun j5 hj5 h => ?_)
        obtain ⟨q6, eq6, h⟩ := obind h
        refine g_endv (va_runV (As := [.ref (ad (23 + 5 * j5))]) (rest := []) ⟨hx, hb, hml, hown, hts⟩ (k_X0_become l D cy ad P Dr tI hX (b := 17) cDeeds_17 I L (y1 := (23 + 5 * j5)) (cDeeds_k j5 hj5) q6 eq6) (cwV 1 hts gX4_on_X0_become rfl rfl rfl cd_X0_become ⟨Nat.le_of_ble_eq_true rfl, Nat.le_of_ble_eq_true rfl⟩) ⟨g_blind cZm, g_recv hK hG (k := 17) cDeeds_17.1.1 (cE_0 cDeeds_17.1 _ _) vwCl_0, g_pre cZm hK hG hZ hS⟩ rfl rfl hl.1 rfl (lv_room (Nat.le_of_ble_eq_true rfl)) dX4_on_36 ⟨Nat.le_refl _, Nat.le_refl _⟩) hS (fun H locs hG hS => ?_)
        refine lv_aload_n hx hb dX4_on_39 rfl (lv_at hl 0 rfl) ?_
        refine g_get hx hb l4 hown hK hG (k := 0) (by decide) (cE_4 _ _) vwCl_4 2 (by decide) k2 (fun _ h9 => h9) rfl dX4_on_40 ?_
        refine g_get hx hb l0 hown hK hG (k := 17) cDeeds_17.1.1 (cE_0 cDeeds_17.1 _ _) vwCl_0 0 (by decide) k4 (fun _ h9 => h9) rfl dX4_on_43 ?_
        have h := Option.some.inj h
        subst h
        subst hQ
        exact g_iret hx hb hr hlocks cZm hK hZ hG hS rfl dX4_on_46
      · have h := ite_t h c4
        refine lv_aload_n hx hb dX4_on_20 rfl (lv_at hl 0 rfl) ?_
        refine lv_iconst (v := (1 : Int32)) hx hb dX4_on_21 (by decide) ?_
        obtain ⟨q7, eq7, h⟩ := obind h
        refine g_endi (va_runV (As := [.int (1 : Int32)]) (rest := []) ⟨hx, hb, hml, hown, hts⟩ (k_X4_found l D cy ad P Dr tI hX I L (1 : Int32) q7 eq7) (cwV 1 hts gX4_on_X4_found rfl rfl rfl cd_X4_found ⟨Nat.le_of_ble_eq_true rfl, Nat.le_of_ble_eq_true rfl⟩) ⟨g_blind cZm, g_recv hK hG (k := 0) (by decide) (cE_4 _ _) vwCl_4, g_pre cZm hK hG hZ hS⟩ rfl rfl hl.1 rfl (lv_room (Nat.le_of_ble_eq_true rfl)) dX4_on_22 ⟨Nat.le_refl _, Nat.le_refl _⟩) hS (fun H locs hG hS => ?_)
        have h := Option.some.inj h
        subst h
        subst hQ
        exact g_iret hx hb hr hlocks cZm hK hZ hG hS rfl dX4_on_25
    · have h := ite_f h c2
      refine lv_iconst (v := (-1 : Int32)) hx hb dX4_on_9 (by decide) ?_
      have h := Option.some.inj h
      subst h
      subst hQ
      exact g_iret hx hb hr hlocks cZm hK hZ hG hS rfl dX4_on_10
def X4_sink (P : Nat) (I : xMem) (x1 : Int32) (x2 : Int32) (x3 : Int32) (x4 : Int32) : Option (Int32) := if (X4_isNoPair P I x1 x2) = (0 : Int32) then (if (X4_areNoSets P I x3 x4) = (0 : Int32) then ((X4_steps P I x1 x2 x3 x4).bind fun v3 => some v3) else (some (-1 : Int32))) else (some (-1 : Int32))
abbrev rm_X4_sink : Room := { frames := 4, cells := 0, slots := 0, locals := 94 }
theorem cd_X4_sink : yX4_sink.cls = RX4 ∧ yX4_sink.cls ≠ "java/lang/invoke/MethodHandle" ∧ yX4_sink.cls ≠ "java/lang/invoke/VarHandle" ∧ (parseMethodDescriptor yX4_sink.desc).map (fun d => d.parameters.length) = some 4 := by decide +kernel
set_option maxHeartbeats 4000000 in
set_option maxRecDepth 100000 in
theorem k_X4_sink (l : Launch) (D : va_G) (cy : Nat → ClassId) (ad : Nat → Nat) (P Dr : Nat) (tI : xTab) (hX : cOk ad P Dr) (I : xMem) (L : xLon) (x1 : Int32) (x2 : Int32) (x3 : Int32) (x4 : Int32) (r : Int32) (h : X4_sink P I x1 x2 x3 x4 = some r) : Met l yX4_sink wsX4_sink rm_X4_sink (va_Pc [.ref (ad 0), .int x1, .int x2, .int x3, .int x4] (cW D cy ad P Dr tI I L)) (cPi D cy ad P Dr tI I L r) 0 0 (gA 64 ad) := by
  refine g_met (own := RX4) (cc := cX4_sink) (maxL := 5) (ret := (some .int)) (by decide) rfl (Nat.le_of_ble_eq_true rfl) rfl ?_
  intro p e s m args below meth c ls hx hb hml hr hlocks hown hts hG hK hZ hl
  generalize hQ : MQ below _ args s 0 0 _ = Q
  have hl : lv_has ls 5 [(0, .ref (ad 0)), (1, .int x1), (2, .int x2), (3, .int x3), (4, .int x4)] := hl
  have hS : va_S (gA 64 ad) s.heap s.heap [] := va_S.rf
  obtain ⟨hi, hP, hDr⟩ := id hX
  unfold X4_sink at h
  refine lv_aload_n hx hb dX4_sink_0 rfl (lv_at hl 0 rfl) ?_
  refine lv_iload_n hx hb dX4_sink_1 rfl (lv_at hl 1 rfl) ?_
  refine lv_iload_n hx hb dX4_sink_2 rfl (lv_at hl 2 rfl) ?_
  refine g_endi (va_runV (As := [.int x1, .int x2]) (rest := []) ⟨hx, hb, hml, hown, hts⟩ (k_X4_isNoPair l D cy ad P Dr tI hX I L x1 x2 _ rfl) (cwV 2 hts gX4_sink_X4_isNoPair rfl rfl rfl cd_X4_isNoPair ⟨Nat.le_of_ble_eq_true rfl, Nat.le_of_ble_eq_true rfl⟩) ⟨g_blind cZm, g_recv hK hG (k := 0) (by decide) (cE_4 _ _) vwCl_4, g_pre cZm hK hG hZ hS⟩ rfl rfl hl.1 rfl (lv_room (Nat.le_of_ble_eq_true rfl)) dX4_sink_3 ⟨Nat.le_refl _, Nat.le_refl _⟩) hS (fun H locs hG hS => ?_)
  refine lv_if_ne (tgt := 19) hx hb dX4_sink_6 (by decide) (fun c1 => ?_) (fun c1 => ?_)
  · have h := ite_f h c1
    refine lv_iconst (v := (-1 : Int32)) hx hb dX4_sink_19 (by decide) ?_
    have h := Option.some.inj h
    subst h
    subst hQ
    exact g_iret hx hb hr hlocks cZm hK hZ hG hS rfl dX4_sink_20
  · have h := ite_t h c1
    refine lv_aload_n hx hb dX4_sink_9 rfl (lv_at hl 0 rfl) ?_
    refine lv_iload_n hx hb dX4_sink_10 rfl (lv_at hl 3 rfl) ?_
    refine lv_iload hx hb dX4_sink_11 (lv_at hl 4 rfl) ?_
    refine g_endi (va_runV (As := [.int x3, .int x4]) (rest := []) ⟨hx, hb, hml, hown, hts⟩ (k_X4_areNoSets l D cy ad P Dr tI hX I L x3 x4 _ rfl) (cwV 2 hts gX4_sink_X4_areNoSets rfl rfl rfl cd_X4_areNoSets ⟨Nat.le_of_ble_eq_true rfl, Nat.le_of_ble_eq_true rfl⟩) ⟨g_blind cZm, g_recv hK hG (k := 0) (by decide) (cE_4 _ _) vwCl_4, g_pre cZm hK hG hZ hS⟩ rfl rfl hl.1 rfl (lv_room (Nat.le_of_ble_eq_true rfl)) dX4_sink_13 ⟨Nat.le_refl _, Nat.le_refl _⟩) hS (fun H locs hG hS => ?_)
    refine lv_if_eq (tgt := 21) hx hb dX4_sink_16 (by decide) (fun c2 => ?_) (fun c2 => ?_)
    · have h := ite_t h c2
      refine lv_aload_n hx hb dX4_sink_21 rfl (lv_at hl 0 rfl) ?_
      refine lv_iload_n hx hb dX4_sink_22 rfl (lv_at hl 1 rfl) ?_
      refine lv_iload_n hx hb dX4_sink_23 rfl (lv_at hl 2 rfl) ?_
      refine lv_iload_n hx hb dX4_sink_24 rfl (lv_at hl 3 rfl) ?_
      refine lv_iload hx hb dX4_sink_25 (lv_at hl 4 rfl) ?_
      obtain ⟨v3, ev3, h⟩ := obind h
      refine g_endi (va_runV (As := [.int x1, .int x2, .int x3, .int x4]) (rest := []) ⟨hx, hb, hml, hown, hts⟩ (k_X4_steps l D cy ad P Dr tI hX I L x1 x2 x3 x4 v3 ev3) (cwV 4 hts gX4_sink_X4_steps rfl rfl rfl cd_X4_steps ⟨Nat.le_of_ble_eq_true rfl, Nat.le_of_ble_eq_true rfl⟩) ⟨g_blind cZm, g_recv hK hG (k := 0) (by decide) (cE_4 _ _) vwCl_4, g_pre cZm hK hG hZ hS⟩ rfl rfl hl.1 rfl (lv_room (Nat.le_of_ble_eq_true rfl)) dX4_sink_27 ⟨Nat.le_refl _, Nat.le_refl _⟩) hS (fun H locs hG hS => ?_)
      have h := Option.some.inj h
      subst h
      subst hQ
      exact g_iret hx hb hr hlocks cZm hK hZ hG hS rfl dX4_sink_30
    · have h := ite_f h c2
      refine lv_iconst (v := (-1 : Int32)) hx hb dX4_sink_19 (by decide) ?_
      have h := Option.some.inj h
      subst h
      subst hQ
      exact g_iret hx hb hr hlocks cZm hK hZ hG hS rfl dX4_sink_20
def X4_best (P : Nat) (I : xMem) (x1 : Int32) (x2 : Int32) : Option (Int32 × xMem) := if (X4_isNoPair P I x1 x2) = (0 : Int32) then ((X4_areApart I x1 x2).bind fun v2 => if v2 = (0 : Int32) then ((X4_stonesWith P I x1).bind fun v4 => (X4_least P I x1 x2 v4).bind fun v5 => (some (wr I 0 10 (v5 - v5 / (256 : Int32) * (256 : Int32)))).bind fun I6 => some ((v5 / (256 : Int32)), I6)) else (some ((-4 : Int32), I))) else (some ((-1 : Int32), I))
abbrev rm_X4_best : Room := { frames := 4, cells := 0, slots := 0, locals := 93 }
theorem cd_X4_best : yX4_best.cls = RX4 ∧ yX4_best.cls ≠ "java/lang/invoke/MethodHandle" ∧ yX4_best.cls ≠ "java/lang/invoke/VarHandle" ∧ (parseMethodDescriptor yX4_best.desc).map (fun d => d.parameters.length) = some 2 := by decide +kernel
set_option maxHeartbeats 4000000 in
set_option maxRecDepth 100000 in
theorem k_X4_best (l : Launch) (D : va_G) (cy : Nat → ClassId) (ad : Nat → Nat) (P Dr : Nat) (tI : xTab) (hX : cOk ad P Dr) (I : xMem) (L : xLon) (x1 : Int32) (x2 : Int32) (r : Int32 × xMem) (h : X4_best P I x1 x2 = some r) : Met l yX4_best wsX4_best rm_X4_best (va_Pc [.ref (ad 0), .int x1, .int x2] (cW D cy ad P Dr tI I L)) (cPi D cy ad P Dr tI r.2 L r.1) 0 0 (gA 64 ad) := by
  refine g_met (own := RX4) (cc := cX4_best) (maxL := 4) (ret := (some .int)) (by decide) rfl (Nat.le_of_ble_eq_true rfl) rfl ?_
  intro p e s m args below meth c ls hx hb hml hr hlocks hown hts hG hK hZ hl
  generalize hQ : MQ below _ args s 0 0 _ = Q
  have hl : lv_has ls 4 [(0, .ref (ad 0)), (1, .int x1), (2, .int x2)] := hl
  have hS : va_S (gA 64 ad) s.heap s.heap [] := va_S.rf
  obtain ⟨hi, hP, hDr⟩ := id hX
  have l4 : ∀ w ∈ wsX40, w.before args s = true := fun w h => hts w (List.mem_cons_of_mem _ (List.mem_append_left _ (List.mem_append_left _ (List.mem_append_right _ h))))
  have k1 := hts (.fieldLink RX4 72 "PairStairs" "told" "I") (by decide +kernel)
  unfold X4_best at h
  refine lv_aload_n hx hb dX4_best_0 rfl (lv_at hl 0 rfl) ?_
  refine lv_iload_n hx hb dX4_best_1 rfl (lv_at hl 1 rfl) ?_
  refine lv_iload_n hx hb dX4_best_2 rfl (lv_at hl 2 rfl) ?_
  refine g_endi (va_runV (As := [.int x1, .int x2]) (rest := []) ⟨hx, hb, hml, hown, hts⟩ (k_X4_isNoPair l D cy ad P Dr tI hX I L x1 x2 _ rfl) (cwV 2 hts gX4_best_X4_isNoPair rfl rfl rfl cd_X4_isNoPair ⟨Nat.le_of_ble_eq_true rfl, Nat.le_of_ble_eq_true rfl⟩) ⟨g_blind cZm, g_recv hK hG (k := 0) (by decide) (cE_4 _ _) vwCl_4, g_pre cZm hK hG hZ hS⟩ rfl rfl hl.1 rfl (lv_room (Nat.le_of_ble_eq_true rfl)) dX4_best_3 ⟨Nat.le_refl _, Nat.le_refl _⟩) hS (fun H locs hG hS => ?_)
  refine lv_if_eq (tgt := 11) hx hb dX4_best_6 (by decide) (fun c1 => ?_) (fun c1 => ?_)
  · have h := ite_t h c1
    refine lv_aload_n hx hb dX4_best_11 rfl (lv_at hl 0 rfl) ?_
    refine lv_iload_n hx hb dX4_best_12 rfl (lv_at hl 1 rfl) ?_
    refine lv_iload_n hx hb dX4_best_13 rfl (lv_at hl 2 rfl) ?_
    obtain ⟨v2, ev2, h⟩ := obind h
    refine g_endi (va_runV (As := [.int x1, .int x2]) (rest := []) ⟨hx, hb, hml, hown, hts⟩ (k_X4_areApart l D cy ad P Dr tI hX I L x1 x2 v2 ev2) (cwV 2 hts gX4_best_X4_areApart rfl rfl rfl cd_X4_areApart ⟨Nat.le_of_ble_eq_true rfl, Nat.le_of_ble_eq_true rfl⟩) ⟨g_blind cZm, g_recv hK hG (k := 0) (by decide) (cE_4 _ _) vwCl_4, g_pre cZm hK hG hZ hS⟩ rfl rfl hl.1 rfl (lv_room (Nat.le_of_ble_eq_true rfl)) dX4_best_14 ⟨Nat.le_refl _, Nat.le_refl _⟩) hS (fun H locs hG hS => ?_)
    refine lv_if_eq (tgt := 23) hx hb dX4_best_17 (by decide) (fun c3 => ?_) (fun c3 => ?_)
    · have h := ite_t h c3
      refine lv_aload_n hx hb dX4_best_23 rfl (lv_at hl 0 rfl) ?_
      refine lv_iload_n hx hb dX4_best_24 rfl (lv_at hl 1 rfl) ?_
      refine lv_iload_n hx hb dX4_best_25 rfl (lv_at hl 2 rfl) ?_
      refine lv_aload_n hx hb dX4_best_26 rfl (lv_at hl 0 rfl) ?_
      refine lv_iload_n hx hb dX4_best_27 rfl (lv_at hl 1 rfl) ?_
      obtain ⟨v4, ev4, h⟩ := obind h
      refine g_endi (va_runV (As := [.int x1]) (rest := [.int x2, .int x1, .ref (ad 0)]) ⟨hx, hb, hml, hown, hts⟩ (k_X4_stonesWith l D cy ad P Dr tI hX I L x1 v4 ev4) (cwV 1 hts gX4_best_X4_stonesWith rfl rfl rfl cd_X4_stonesWith ⟨Nat.le_of_ble_eq_true rfl, Nat.le_of_ble_eq_true rfl⟩) ⟨g_blind cZm, g_recv hK hG (k := 0) (by decide) (cE_4 _ _) vwCl_4, g_pre cZm hK hG hZ hS⟩ rfl rfl hl.1 rfl (lv_room (Nat.le_of_ble_eq_true rfl)) dX4_best_28 ⟨Nat.le_refl _, Nat.le_refl _⟩) hS (fun H locs hG hS => ?_)
      obtain ⟨v5, ev5, h⟩ := obind h
      refine g_endi (va_runV (As := [.int x1, .int x2, .int v4]) (rest := []) ⟨hx, hb, hml, hown, hts⟩ (k_X4_least l D cy ad P Dr tI hX I L x1 x2 v4 v5 ev5) (cwV 3 hts gX4_best_X4_least rfl rfl rfl cd_X4_least ⟨Nat.le_of_ble_eq_true rfl, Nat.le_of_ble_eq_true rfl⟩) ⟨g_blind cZm, g_recv hK hG (k := 0) (by decide) (cE_4 _ _) vwCl_4, g_pre cZm hK hG hZ hS⟩ rfl rfl hl.1 rfl (lv_room (Nat.le_of_ble_eq_true rfl)) dX4_best_31 ⟨Nat.le_refl _, Nat.le_refl _⟩) hS (fun H locs hG hS => ?_)
      refine lv_istore_n (lv' := [(3, .int v5), (0, .ref (ad 0)), (1, .int x1), (2, .int x2)]) hx hb dX4_best_34 rfl hl (by decide) rfl (fun ls hl => ?_)
      refine lv_aload_n hx hb dX4_best_35 rfl (lv_at hl 1 rfl) ?_
      refine lv_iload_n hx hb dX4_best_36 rfl (lv_at hl 0 rfl) ?_
      refine lv_sipush (v := (256 : Int32)) hx hb dX4_best_37 (by decide) ?_
      refine lv_irem hx hb dX4_best_40 (by decide) ?_
      obtain ⟨I6, eI6, h⟩ := obind h
      refine g_put hx hb l4 tyX4_ok nmX4 hown hK hG hi hS (k := 0) (by decide) (cE_4 _ _) vwCl_4 10 (by decide) k1 (fun _ h9 => h9) rfl rfl (Nat.le_of_ble_eq_true rfl) (by rw [cE_4 _ _]; rfl) dX4_best_41 (fun H locs hG hS => ?_)
      rw [Option.some.inj eI6] at hG
      refine lv_iload_n hx hb dX4_best_44 rfl (lv_at hl 0 rfl) ?_
      refine lv_sipush (v := (256 : Int32)) hx hb dX4_best_45 (by decide) ?_
      refine lv_idiv hx hb dX4_best_48 (by decide) ?_
      have h := Option.some.inj h
      subst h
      subst hQ
      exact g_iret hx hb hr hlocks cZm hK hZ hG hS rfl dX4_best_49
    · have h := ite_f h c3
      refine lv_bipush (v := (-4 : Int32)) hx hb dX4_best_20 (by decide) ?_
      have h := Option.some.inj h
      subst h
      subst hQ
      exact g_iret hx hb hr hlocks cZm hK hZ hG hS rfl dX4_best_22
  · have h := ite_f h c1
    refine lv_iconst (v := (-1 : Int32)) hx hb dX4_best_9 (by decide) ?_
    have h := Option.some.inj h
    subst h
    subst hQ
    exact g_iret hx hb hr hlocks cZm hK hZ hG hS rfl dX4_best_10
def X4_firstPair_L2 (P : Nat) (I : xMem) (x1_2 : Int32) (K4 : Option (Int32)) : Nat → Int32 → Option (Int32)
  | 0, _ => none
  | n5 + 1, x2_5 => if (I P 2) ≤ x2_5 then (K4) else ((X4_canGo P I x1_2 x2_5 (0 : Int32)).bind fun v7 => if v7 = (0 : Int32) then (X4_firstPair_L2 P I x1_2 K4 n5 (x2_5 + (1 : Int32))) else (some (((6 : Int32) * x1_2) + x2_5)))
def X4_firstPair_L1 (P : Nat) (I : xMem) (K1 : Option (Int32)) : Nat → Int32 → Option (Int32)
  | 0, _ => none
  | n2 + 1, x1_2 => if (I P 2) ≤ x1_2 then (K1) else (X4_firstPair_L2 P I x1_2 (X4_firstPair_L1 P I K1 n2 (x1_2 + (1 : Int32))) bigF (x1_2 + (1 : Int32)))
def X4_firstPair (P : Nat) (I : xMem) : Option (Int32) := X4_firstPair_L1 P I (some (-9 : Int32)) bigF (0 : Int32)
abbrev rm_X4_firstPair : Room := { frames := 5, cells := 0, slots := 0, locals := 116 }
theorem cd_X4_firstPair : yX4_firstPair.cls = RX4 ∧ yX4_firstPair.cls ≠ "java/lang/invoke/MethodHandle" ∧ yX4_firstPair.cls ≠ "java/lang/invoke/VarHandle" ∧ (parseMethodDescriptor yX4_firstPair.desc).map (fun d => d.parameters.length) = some 0 := by decide +kernel
set_option maxHeartbeats 4000000 in
set_option maxRecDepth 100000 in
theorem k_X4_firstPair (l : Launch) (D : va_G) (cy : Nat → ClassId) (ad : Nat → Nat) (P Dr : Nat) (tI : xTab) (hX : cOk ad P Dr) (I : xMem) (L : xLon)  (r : Int32) (h : X4_firstPair P I = some r) : Met l yX4_firstPair wsX4_firstPair rm_X4_firstPair (va_Pc [.ref (ad 0)] (cW D cy ad P Dr tI I L)) (cPi D cy ad P Dr tI I L r) 0 0 (gA 64 ad) := by
  refine g_met (own := RX4) (cc := cX4_firstPair) (maxL := 3) (ret := (some .int)) (by decide) rfl (Nat.le_of_ble_eq_true rfl) rfl ?_
  intro p e s m args below meth c ls hx hb hml hr hlocks hown hts hG hK hZ hl
  generalize hQ : MQ below _ args s 0 0 _ = Q
  have hl : lv_has ls 3 [(0, .ref (ad 0))] := hl
  have hS : va_S (gA 64 ad) s.heap s.heap [] := va_S.rf
  obtain ⟨hi, hP, hDr⟩ := id hX
  have l1 : ∀ w ∈ wsX10, w.before args s = true := fun w h => hts w (List.mem_cons_of_mem _ (List.mem_append_left _ (List.mem_append_right _ h)))
  have l4 : ∀ w ∈ wsX40, w.before args s = true := fun w h => hts w (List.mem_cons_of_mem _ (List.mem_append_left _ (List.mem_append_left _ (List.mem_append_right _ h))))
  have k1 := hts (.fieldLink RX4 50 "PairStairs" "plan" "LPairStairs$Plan;") (by decide +kernel)
  have k2 := hts (.fieldLink RX4 115 "PairStairs$Plan" "people" "I") (by decide +kernel)
  unfold X4_firstPair at h
  refine lv_iconst (v := (0 : Int32)) hx hb dX4_firstPair_0 (by decide) ?_
  refine lv_istore_n (lv' := [(1, .int (0 : Int32)), (0, .ref (ad 0))]) hx hb dX4_firstPair_1 rfl hl (by decide) rfl (fun ls hl => ?_)
  have keyK1 : ∀ (K1 : Option (Int32)), (∀ (H : Heap) (locs : List Loc) (ls : Array Slot), K1 = some r → cG D cy ad P Dr I L H → va_S (gA 64 ad) s.heap H locs → lv_has ls 3 [] → W p l e rm_X4_firstPair s m args below meth c H locs 0 0 Q (F0 m 57 ls [])) → ∀ (n2 : Nat) (x1_2 : Int32) (H : Heap) (locs : List Loc) (ls : Array Slot), X4_firstPair_L1 P I K1 n2 x1_2 = some r → cG D cy ad P Dr I L H → va_S (gA 64 ad) s.heap H locs → lv_has ls 3 [(0, .ref (ad 0)), (1, .int x1_2)] → W p l e rm_X4_firstPair s m args below meth c H locs 0 0 Q (F0 m 2 ls []) := by
    intro K1 hkK1 n2
    induction n2 with
    | zero =>
      intro x1_2 H locs ls h
      exact ono h
    | succ n2 ihn2 =>
      intro x1_2 H locs ls h hG hS hl
      rw [X4_firstPair_L1] at h
      refine lv_iload_n hx hb dX4_firstPair_2 rfl (lv_at hl 1 rfl) ?_
      refine lv_aload_n hx hb dX4_firstPair_3 rfl (lv_at hl 0 rfl) ?_
      refine g_get hx hb l4 hown hK hG (k := 0) (by decide) (cE_4 _ _) vwCl_4 7 (by decide) k1 (fun _ h9 => h9) rfl dX4_firstPair_4 ?_
      refine g_get hx hb l1 hown hK hG (k := P) hP.1.1 (cE_1 hP.1 _ _) vwCl_1 2 (by decide) k2 (fun _ h9 => h9) rfl dX4_firstPair_7 ?_
      refine lv_icmp_ge (tgt := 57) hx hb dX4_firstPair_10 (by decide) (fun c3 => ?_) (fun c3 => ?_)
      · have h := ite_t h c3
        exact hkK1 _ _ _ h hG hS (lv_sub hl [] rfl)
      · have h := ite_f h c3
        refine lv_iload_n hx hb dX4_firstPair_13 rfl (lv_at hl 1 rfl) ?_
        refine lv_iconst (v := (1 : Int32)) hx hb dX4_firstPair_14 (by decide) ?_
        refine lv_iadd hx hb dX4_firstPair_15 ?_
        refine lv_istore_n (lv' := [(2, .int (x1_2 + (1 : Int32))), (0, .ref (ad 0)), (1, .int x1_2)]) hx hb dX4_firstPair_16 rfl hl (by decide) rfl (fun ls hl => ?_)
        have keyK4 : ∀ (K4 : Option (Int32)), (∀ (H : Heap) (locs : List Loc) (ls : Array Slot), K4 = some r → cG D cy ad P Dr I L H → va_S (gA 64 ad) s.heap H locs → lv_has ls 3 [(0, .ref (ad 0)), (1, .int x1_2)] → W p l e rm_X4_firstPair s m args below meth c H locs 0 0 Q (F0 m 51 ls [])) → ∀ (n5 : Nat) (x2_5 : Int32) (H : Heap) (locs : List Loc) (ls : Array Slot), X4_firstPair_L2 P I x1_2 K4 n5 x2_5 = some r → cG D cy ad P Dr I L H → va_S (gA 64 ad) s.heap H locs → lv_has ls 3 [(0, .ref (ad 0)), (1, .int x1_2), (2, .int x2_5)] → W p l e rm_X4_firstPair s m args below meth c H locs 0 0 Q (F0 m 17 ls []) := by
          intro K4 hkK4 n5
          induction n5 with
          | zero =>
            intro x2_5 H locs ls h
            exact ono h
          | succ n5 ihn5 =>
            intro x2_5 H locs ls h hG hS hl
            rw [X4_firstPair_L2] at h
            refine lv_iload_n hx hb dX4_firstPair_17 rfl (lv_at hl 2 rfl) ?_
            refine lv_aload_n hx hb dX4_firstPair_18 rfl (lv_at hl 0 rfl) ?_
            refine g_get hx hb l4 hown hK hG (k := 0) (by decide) (cE_4 _ _) vwCl_4 7 (by decide) k1 (fun _ h9 => h9) rfl dX4_firstPair_19 ?_
            refine g_get hx hb l1 hown hK hG (k := P) hP.1.1 (cE_1 hP.1 _ _) vwCl_1 2 (by decide) k2 (fun _ h9 => h9) rfl dX4_firstPair_22 ?_
            refine lv_icmp_ge (tgt := 51) hx hb dX4_firstPair_25 (by decide) (fun c6 => ?_) (fun c6 => ?_)
            · have h := ite_t h c6
              exact hkK4 _ _ _ h hG hS (lv_sub hl [0, 1] rfl)
            · have h := ite_f h c6
              refine lv_aload_n hx hb dX4_firstPair_28 rfl (lv_at hl 0 rfl) ?_
              refine lv_iload_n hx hb dX4_firstPair_29 rfl (lv_at hl 1 rfl) ?_
              refine lv_iload_n hx hb dX4_firstPair_30 rfl (lv_at hl 2 rfl) ?_
              refine lv_iconst (v := (0 : Int32)) hx hb dX4_firstPair_31 (by decide) ?_
              obtain ⟨v7, ev7, h⟩ := obind h
              refine g_endi (va_runV (As := [.int x1_2, .int x2_5, .int (0 : Int32)]) (rest := []) ⟨hx, hb, hml, hown, hts⟩ (k_X4_canGo l D cy ad P Dr tI hX I L x1_2 x2_5 (0 : Int32) v7 ev7) (cwV 3 hts gX4_firstPair_X4_canGo rfl rfl rfl cd_X4_canGo ⟨Nat.le_of_ble_eq_true rfl, Nat.le_of_ble_eq_true rfl⟩) ⟨g_blind cZm, g_recv hK hG (k := 0) (by decide) (cE_4 _ _) vwCl_4, g_pre cZm hK hG hZ hS⟩ rfl rfl hl.1 rfl (lv_room (Nat.le_of_ble_eq_true rfl)) dX4_firstPair_32 ⟨Nat.le_refl _, Nat.le_refl _⟩) hS (fun H locs hG hS => ?_)
              refine lv_if_eq (tgt := 45) hx hb dX4_firstPair_35 (by decide) (fun c8 => ?_) (fun c8 => ?_)
              · have h := ite_t h c8
                refine lv_iinc (v := (x2_5 + (1 : Int32))) (lv' := [(2, .int (x2_5 + (1 : Int32))), (0, .ref (ad 0)), (1, .int x1_2)]) hx hb dX4_firstPair_45 hl (k := 2) rfl rfl (by decide) rfl (fun ls hl => ?_)
                refine lv_goto (tgt := 17) hx hb dX4_firstPair_48 (by decide) ?_
                exact ihn5 (x2_5 + (1 : Int32)) _ _ _ h hG hS (lv_sub hl [1, 2, 0] rfl)
              · have h := ite_f h c8
                refine lv_bipush (v := (6 : Int32)) hx hb dX4_firstPair_38 (by decide) ?_
                refine lv_iload_n hx hb dX4_firstPair_40 rfl (lv_at hl 1 rfl) ?_
                refine lv_imul hx hb dX4_firstPair_41 ?_
                refine lv_iload_n hx hb dX4_firstPair_42 rfl (lv_at hl 2 rfl) ?_
                refine lv_iadd hx hb dX4_firstPair_43 ?_
                have h := Option.some.inj h
                subst h
                subst hQ
                exact g_iret hx hb hr hlocks cZm hK hZ hG hS rfl dX4_firstPair_44
        refine keyK4 _ (fun H locs ls h hG hS hl => ?_) bigF (x1_2 + (1 : Int32)) _ _ _ h hG hS (lv_sub hl [1, 2, 0] rfl)
        clear keyK4
        refine lv_iinc (v := (x1_2 + (1 : Int32))) (lv' := [(1, .int (x1_2 + (1 : Int32))), (0, .ref (ad 0))]) hx hb dX4_firstPair_51 hl (k := 1) rfl rfl (by decide) rfl (fun ls hl => ?_)
        refine lv_goto (tgt := 2) hx hb dX4_firstPair_54 (by decide) ?_
        exact ihn2 (x1_2 + (1 : Int32)) _ _ _ h hG hS (lv_sub hl [1, 0] rfl)
  refine keyK1 _ (fun H locs ls h hG hS hl => ?_) bigF (0 : Int32) _ _ _ h hG hS (lv_sub hl [1, 0] rfl)
  clear keyK1
  refine lv_bipush (v := (-9 : Int32)) hx hb dX4_firstPair_57 (by decide) ?_
  have h := Option.some.inj h
  subst h
  subst hQ
  exact g_iret hx hb hr hlocks cZm hK hZ hG hS rfl dX4_firstPair_59
def X4_pairsWithout_L2 (P : Nat) (I : xMem) (x1 : Int32) (x3_2 : Int32) (K4 : Int32 → Option (Int32)) : Nat → Int32 → Int32 → Option (Int32)
  | 0, _, _ => none
  | n5 + 1, x2_5, x4_5 => if (I P 2) ≤ x4_5 then (K4 x2_5) else ((X4_canGo P I x3_2 x4_5 x1).bind fun v7 => (if v7 = (0 : Int32) then (some (0 : Int32)) else (some (1 : Int32))).bind fun q8 => X4_pairsWithout_L2 P I x1 x3_2 K4 n5 (x2_5 + q8) (x4_5 + (1 : Int32)))
def X4_pairsWithout_L1 (P : Nat) (I : xMem) (x1 : Int32) (K1 : Int32 → Option (Int32)) : Nat → Int32 → Int32 → Option (Int32)
  | 0, _, _ => none
  | n2 + 1, x2_2, x3_2 => if (I P 2) ≤ x3_2 then (K1 x2_2) else (X4_pairsWithout_L2 P I x1 x3_2 (fun (z2_5 : Int32) => X4_pairsWithout_L1 P I x1 K1 n2 z2_5 (x3_2 + (1 : Int32))) bigF x2_2 (x3_2 + (1 : Int32)))
def X4_pairsWithout (P : Nat) (I : xMem) (x1 : Int32) : Option (Int32) := X4_pairsWithout_L1 P I x1 (fun (z2_2 : Int32) => some z2_2) bigF (0 : Int32) (0 : Int32)
abbrev rm_X4_pairsWithout : Room := { frames := 5, cells := 0, slots := 0, locals := 116 }
theorem cd_X4_pairsWithout : yX4_pairsWithout.cls = RX4 ∧ yX4_pairsWithout.cls ≠ "java/lang/invoke/MethodHandle" ∧ yX4_pairsWithout.cls ≠ "java/lang/invoke/VarHandle" ∧ (parseMethodDescriptor yX4_pairsWithout.desc).map (fun d => d.parameters.length) = some 1 := by decide +kernel
set_option maxHeartbeats 4000000 in
set_option maxRecDepth 100000 in
theorem k_X4_pairsWithout (l : Launch) (D : va_G) (cy : Nat → ClassId) (ad : Nat → Nat) (P Dr : Nat) (tI : xTab) (hX : cOk ad P Dr) (I : xMem) (L : xLon) (x1 : Int32) (r : Int32) (h : X4_pairsWithout P I x1 = some r) : Met l yX4_pairsWithout wsX4_pairsWithout rm_X4_pairsWithout (va_Pc [.ref (ad 0), .int x1] (cW D cy ad P Dr tI I L)) (cPi D cy ad P Dr tI I L r) 0 0 (gA 64 ad) := by
  refine g_met (own := RX4) (cc := cX4_pairsWithout) (maxL := 5) (ret := (some .int)) (by decide) rfl (Nat.le_of_ble_eq_true rfl) rfl ?_
  intro p e s m args below meth c ls hx hb hml hr hlocks hown hts hG hK hZ hl
  generalize hQ : MQ below _ args s 0 0 _ = Q
  have hl : lv_has ls 5 [(0, .ref (ad 0)), (1, .int x1)] := hl
  have hS : va_S (gA 64 ad) s.heap s.heap [] := va_S.rf
  obtain ⟨hi, hP, hDr⟩ := id hX
  have l1 : ∀ w ∈ wsX10, w.before args s = true := fun w h => hts w (List.mem_cons_of_mem _ (List.mem_append_left _ (List.mem_append_right _ h)))
  have l4 : ∀ w ∈ wsX40, w.before args s = true := fun w h => hts w (List.mem_cons_of_mem _ (List.mem_append_left _ (List.mem_append_left _ (List.mem_append_right _ h))))
  have k1 := hts (.fieldLink RX4 50 "PairStairs" "plan" "LPairStairs$Plan;") (by decide +kernel)
  have k2 := hts (.fieldLink RX4 115 "PairStairs$Plan" "people" "I") (by decide +kernel)
  unfold X4_pairsWithout at h
  refine lv_iconst (v := (0 : Int32)) hx hb dX4_pairsWithout_0 (by decide) ?_
  refine lv_istore_n (lv' := [(2, .int (0 : Int32)), (0, .ref (ad 0)), (1, .int x1)]) hx hb dX4_pairsWithout_1 rfl hl (by decide) rfl (fun ls hl => ?_)
  refine lv_iconst (v := (0 : Int32)) hx hb dX4_pairsWithout_2 (by decide) ?_
  refine lv_istore_n (lv' := [(3, .int (0 : Int32)), (2, .int (0 : Int32)), (0, .ref (ad 0)), (1, .int x1)]) hx hb dX4_pairsWithout_3 rfl hl (by decide) rfl (fun ls hl => ?_)
  have keyK1 : ∀ (K1 : Int32 → Option (Int32)), (∀ (z2_2 : Int32) (H : Heap) (locs : List Loc) (ls : Array Slot), K1 z2_2 = some r → cG D cy ad P Dr I L H → va_S (gA 64 ad) s.heap H locs → lv_has ls 5 [(2, .int z2_2)] → W p l e rm_X4_pairsWithout s m args below meth c H locs 0 0 Q (F0 m 63 ls [])) → ∀ (n2 : Nat) (x2_2 : Int32) (x3_2 : Int32) (H : Heap) (locs : List Loc) (ls : Array Slot), X4_pairsWithout_L1 P I x1 K1 n2 x2_2 x3_2 = some r → cG D cy ad P Dr I L H → va_S (gA 64 ad) s.heap H locs → lv_has ls 5 [(0, .ref (ad 0)), (1, .int x1), (2, .int x2_2), (3, .int x3_2)] → W p l e rm_X4_pairsWithout s m args below meth c H locs 0 0 Q (F0 m 4 ls []) := by
    intro K1 hkK1 n2
    induction n2 with
    | zero =>
      intro x2_2 x3_2 H locs ls h
      exact ono h
    | succ n2 ihn2 =>
      intro x2_2 x3_2 H locs ls h hG hS hl
      rw [X4_pairsWithout_L1] at h
      refine lv_iload_n hx hb dX4_pairsWithout_4 rfl (lv_at hl 3 rfl) ?_
      refine lv_aload_n hx hb dX4_pairsWithout_5 rfl (lv_at hl 0 rfl) ?_
      refine g_get hx hb l4 hown hK hG (k := 0) (by decide) (cE_4 _ _) vwCl_4 7 (by decide) k1 (fun _ h9 => h9) rfl dX4_pairsWithout_6 ?_
      refine g_get hx hb l1 hown hK hG (k := P) hP.1.1 (cE_1 hP.1 _ _) vwCl_1 2 (by decide) k2 (fun _ h9 => h9) rfl dX4_pairsWithout_9 ?_
      refine lv_icmp_ge (tgt := 63) hx hb dX4_pairsWithout_12 (by decide) (fun c3 => ?_) (fun c3 => ?_)
      · have h := ite_t h c3
        exact hkK1 x2_2 _ _ _ h hG hS (lv_sub hl [2] rfl)
      · have h := ite_f h c3
        refine lv_iload_n hx hb dX4_pairsWithout_15 rfl (lv_at hl 3 rfl) ?_
        refine lv_iconst (v := (1 : Int32)) hx hb dX4_pairsWithout_16 (by decide) ?_
        refine lv_iadd hx hb dX4_pairsWithout_17 ?_
        refine lv_istore (lv' := [(4, .int (x3_2 + (1 : Int32))), (0, .ref (ad 0)), (1, .int x1), (2, .int x2_2), (3, .int x3_2)]) hx hb dX4_pairsWithout_18 hl (by decide) rfl (fun ls hl => ?_)
        have keyK4 : ∀ (K4 : Int32 → Option (Int32)), (∀ (z2_5 : Int32) (H : Heap) (locs : List Loc) (ls : Array Slot), K4 z2_5 = some r → cG D cy ad P Dr I L H → va_S (gA 64 ad) s.heap H locs → lv_has ls 5 [(0, .ref (ad 0)), (1, .int x1), (2, .int z2_5), (3, .int x3_2)] → W p l e rm_X4_pairsWithout s m args below meth c H locs 0 0 Q (F0 m 57 ls [])) → ∀ (n5 : Nat) (x2_5 : Int32) (x4_5 : Int32) (H : Heap) (locs : List Loc) (ls : Array Slot), X4_pairsWithout_L2 P I x1 x3_2 K4 n5 x2_5 x4_5 = some r → cG D cy ad P Dr I L H → va_S (gA 64 ad) s.heap H locs → lv_has ls 5 [(0, .ref (ad 0)), (1, .int x1), (2, .int x2_5), (3, .int x3_2), (4, .int x4_5)] → W p l e rm_X4_pairsWithout s m args below meth c H locs 0 0 Q (F0 m 20 ls []) := by
          intro K4 hkK4 n5
          induction n5 with
          | zero =>
            intro x2_5 x4_5 H locs ls h
            exact ono h
          | succ n5 ihn5 =>
            intro x2_5 x4_5 H locs ls h hG hS hl
            rw [X4_pairsWithout_L2] at h
            refine lv_iload hx hb dX4_pairsWithout_20 (lv_at hl 4 rfl) ?_
            refine lv_aload_n hx hb dX4_pairsWithout_22 rfl (lv_at hl 0 rfl) ?_
            refine g_get hx hb l4 hown hK hG (k := 0) (by decide) (cE_4 _ _) vwCl_4 7 (by decide) k1 (fun _ h9 => h9) rfl dX4_pairsWithout_23 ?_
            refine g_get hx hb l1 hown hK hG (k := P) hP.1.1 (cE_1 hP.1 _ _) vwCl_1 2 (by decide) k2 (fun _ h9 => h9) rfl dX4_pairsWithout_26 ?_
            refine lv_icmp_ge (tgt := 57) hx hb dX4_pairsWithout_29 (by decide) (fun c6 => ?_) (fun c6 => ?_)
            · have h := ite_t h c6
              exact hkK4 x2_5 _ _ _ h hG hS (lv_sub hl [0, 1, 2, 3] rfl)
            · have h := ite_f h c6
              refine lv_iload_n hx hb dX4_pairsWithout_32 rfl (lv_at hl 2 rfl) ?_
              refine lv_aload_n hx hb dX4_pairsWithout_33 rfl (lv_at hl 0 rfl) ?_
              refine lv_iload_n hx hb dX4_pairsWithout_34 rfl (lv_at hl 3 rfl) ?_
              refine lv_iload hx hb dX4_pairsWithout_35 (lv_at hl 4 rfl) ?_
              refine lv_iload_n hx hb dX4_pairsWithout_37 rfl (lv_at hl 1 rfl) ?_
              obtain ⟨v7, ev7, h⟩ := obind h
              refine g_endi (va_runV (As := [.int x3_2, .int x4_5, .int x1]) (rest := [.int x2_5]) ⟨hx, hb, hml, hown, hts⟩ (k_X4_canGo l D cy ad P Dr tI hX I L x3_2 x4_5 x1 v7 ev7) (cwV 3 hts gX4_pairsWithout_X4_canGo rfl rfl rfl cd_X4_canGo ⟨Nat.le_of_ble_eq_true rfl, Nat.le_of_ble_eq_true rfl⟩) ⟨g_blind cZm, g_recv hK hG (k := 0) (by decide) (cE_4 _ _) vwCl_4, g_pre cZm hK hG hZ hS⟩ rfl rfl hl.1 rfl (lv_room (Nat.le_of_ble_eq_true rfl)) dX4_pairsWithout_38 ⟨Nat.le_refl _, Nat.le_refl _⟩) hS (fun H locs hG hS => ?_)
              obtain ⟨q8, h9, h⟩ := obind h
              have hk_q8 : ∀ (H : Heap) (locs : List Loc) (ls : Array Slot), cG D cy ad P Dr I L H → va_S (gA 64 ad) s.heap H locs → lv_has ls 5 [(0, .ref (ad 0)), (1, .int x1), (3, .int x3_2), (4, .int x4_5)] → W p l e rm_X4_pairsWithout s m args below meth c H locs 0 0 Q (F0 m 49 ls [.int q8, .int x2_5]) := by
                intro H locs ls hG hS hl
                refine lv_iadd hx hb dX4_pairsWithout_49 ?_
                refine lv_istore_n (lv' := [(2, .int (x2_5 + q8)), (0, .ref (ad 0)), (1, .int x1), (3, .int x3_2), (4, .int x4_5)]) hx hb dX4_pairsWithout_50 rfl hl (by decide) rfl (fun ls hl => ?_)
                refine lv_iinc (v := (x4_5 + (1 : Int32))) (lv' := [(4, .int (x4_5 + (1 : Int32))), (2, .int (x2_5 + q8)), (0, .ref (ad 0)), (1, .int x1), (3, .int x3_2)]) hx hb dX4_pairsWithout_51 hl (k := 4) rfl rfl (by decide) rfl (fun ls hl => ?_)
                refine lv_goto (tgt := 20) hx hb dX4_pairsWithout_54 (by decide) ?_
                exact ihn5 (x2_5 + q8) (x4_5 + (1 : Int32)) _ _ _ h hG hS (lv_sub hl [2, 3, 1, 4, 0] rfl)
              clear h
              have h := h9
              clear h9
              refine lv_if_eq (tgt := 48) hx hb dX4_pairsWithout_41 (by decide) (fun c9 => ?_) (fun c9 => ?_)
              · have h := ite_t h c9
                refine lv_iconst (v := (0 : Int32)) hx hb dX4_pairsWithout_48 (by decide) ?_
                have h := Option.some.inj h
                subst h
                exact hk_q8 _ _ _ hG hS (lv_sub hl [0, 1, 3, 4] rfl)
              · have h := ite_f h c9
                refine lv_iconst (v := (1 : Int32)) hx hb dX4_pairsWithout_44 (by decide) ?_
                refine lv_goto (tgt := 49) hx hb dX4_pairsWithout_45 (by decide) ?_
                have h := Option.some.inj h
                subst h
                exact hk_q8 _ _ _ hG hS (lv_sub hl [0, 1, 3, 4] rfl)
        refine keyK4 _ (fun z2_5 H locs ls h hG hS hl => ?_) bigF x2_2 (x3_2 + (1 : Int32)) _ _ _ h hG hS (lv_sub hl [1, 2, 3, 4, 0] rfl)
        clear keyK4
        refine lv_iinc (v := (x3_2 + (1 : Int32))) (lv' := [(3, .int (x3_2 + (1 : Int32))), (0, .ref (ad 0)), (1, .int x1), (2, .int z2_5)]) hx hb dX4_pairsWithout_57 hl (k := 3) rfl rfl (by decide) rfl (fun ls hl => ?_)
        refine lv_goto (tgt := 4) hx hb dX4_pairsWithout_60 (by decide) ?_
        exact ihn2 z2_5 (x3_2 + (1 : Int32)) _ _ _ h hG hS (lv_sub hl [1, 2, 3, 0] rfl)
  refine keyK1 _ (fun z2_2 H locs ls h hG hS hl => ?_) bigF (0 : Int32) (0 : Int32) _ _ _ h hG hS (lv_sub hl [2, 3, 1, 0] rfl)
  clear keyK1
  refine lv_iload_n hx hb dX4_pairsWithout_63 rfl (lv_at hl 0 rfl) ?_
  have h := Option.some.inj h
  subst h
  subst hQ
  exact g_iret hx hb hr hlocks cZm hK hZ hG hS rfl dX4_pairsWithout_64
def X4_pairs (P : Nat) (I : xMem) : Option (Int32 × xMem) := (X4_firstPair P I).bind fun v1 => (some (wr I 0 10 v1)).bind fun I2 => (X4_pairsWithout P I2 (0 : Int32)).bind fun v3 => some (v3, I2)
abbrev rm_X4_pairs : Room := { frames := 6, cells := 0, slots := 0, locals := 140 }
theorem cd_X4_pairs : yX4_pairs.cls = RX4 ∧ yX4_pairs.cls ≠ "java/lang/invoke/MethodHandle" ∧ yX4_pairs.cls ≠ "java/lang/invoke/VarHandle" ∧ (parseMethodDescriptor yX4_pairs.desc).map (fun d => d.parameters.length) = some 0 := by decide +kernel
set_option maxHeartbeats 4000000 in
set_option maxRecDepth 100000 in
theorem k_X4_pairs (l : Launch) (D : va_G) (cy : Nat → ClassId) (ad : Nat → Nat) (P Dr : Nat) (tI : xTab) (hX : cOk ad P Dr) (I : xMem) (L : xLon)  (r : Int32 × xMem) (h : X4_pairs P I = some r) : Met l yX4_pairs wsX4_pairs rm_X4_pairs (va_Pc [.ref (ad 0)] (cW D cy ad P Dr tI I L)) (cPi D cy ad P Dr tI r.2 L r.1) 0 0 (gA 64 ad) := by
  refine g_met (own := RX4) (cc := cX4_pairs) (maxL := 1) (ret := (some .int)) (by decide) rfl (Nat.le_of_ble_eq_true rfl) rfl ?_
  intro p e s m args below meth c ls hx hb hml hr hlocks hown hts hG hK hZ hl
  generalize hQ : MQ below _ args s 0 0 _ = Q
  have hl : lv_has ls 1 [(0, .ref (ad 0))] := hl
  have hS : va_S (gA 64 ad) s.heap s.heap [] := va_S.rf
  obtain ⟨hi, hP, hDr⟩ := id hX
  have l4 : ∀ w ∈ wsX40, w.before args s = true := fun w h => hts w (List.mem_cons_of_mem _ (List.mem_append_left _ (List.mem_append_left _ (List.mem_append_right _ h))))
  have k1 := hts (.fieldLink RX4 72 "PairStairs" "told" "I") (by decide +kernel)
  unfold X4_pairs at h
  refine lv_aload_n hx hb dX4_pairs_0 rfl (lv_at hl 0 rfl) ?_
  refine lv_aload_n hx hb dX4_pairs_1 rfl (lv_at hl 0 rfl) ?_
  obtain ⟨v1, ev1, h⟩ := obind h
  refine g_endi (va_runV (As := []) (rest := [.ref (ad 0)]) ⟨hx, hb, hml, hown, hts⟩ (k_X4_firstPair l D cy ad P Dr tI hX I L v1 ev1) (cwV 0 hts gX4_pairs_X4_firstPair rfl rfl rfl cd_X4_firstPair ⟨Nat.le_of_ble_eq_true rfl, Nat.le_of_ble_eq_true rfl⟩) ⟨g_blind cZm, g_recv hK hG (k := 0) (by decide) (cE_4 _ _) vwCl_4, g_pre cZm hK hG hZ hS⟩ rfl rfl hl.1 rfl (lv_room (Nat.le_of_ble_eq_true rfl)) dX4_pairs_2 ⟨Nat.le_refl _, Nat.le_refl _⟩) hS (fun H locs hG hS => ?_)
  obtain ⟨I2, eI2, h⟩ := obind h
  refine g_put hx hb l4 tyX4_ok nmX4 hown hK hG hi hS (k := 0) (by decide) (cE_4 _ _) vwCl_4 10 (by decide) k1 (fun _ h9 => h9) rfl rfl (Nat.le_of_ble_eq_true rfl) (by rw [cE_4 _ _]; rfl) dX4_pairs_5 (fun H locs hG hS => ?_)
  rw [Option.some.inj eI2] at hG
  refine lv_aload_n hx hb dX4_pairs_8 rfl (lv_at hl 0 rfl) ?_
  refine lv_iconst (v := (0 : Int32)) hx hb dX4_pairs_9 (by decide) ?_
  obtain ⟨v3, ev3, h⟩ := obind h
  refine g_endi (va_runV (As := [.int (0 : Int32)]) (rest := []) ⟨hx, hb, hml, hown, hts⟩ (k_X4_pairsWithout l D cy ad P Dr tI hX I2 L (0 : Int32) v3 ev3) (cwV 1 hts gX4_pairs_X4_pairsWithout rfl rfl rfl cd_X4_pairsWithout ⟨Nat.le_of_ble_eq_true rfl, Nat.le_of_ble_eq_true rfl⟩) ⟨g_blind cZm, g_recv hK hG (k := 0) (by decide) (cE_4 _ _) vwCl_4, g_pre cZm hK hG hZ hS⟩ rfl rfl hl.1 rfl (lv_room (Nat.le_of_ble_eq_true rfl)) dX4_pairs_10 ⟨Nat.le_refl _, Nat.le_refl _⟩) hS (fun H locs hG hS => ?_)
  have h := Option.some.inj h
  subst h
  subst hQ
  exact g_iret hx hb hr hlocks cZm hK hZ hG hS rfl dX4_pairs_13
def X4_findWays_L2 (P : Nat) (x1_3 : Int32) (K7 : xMem → Option (xMem)) : Nat → Int32 → xMem → Option (xMem)
  | 0, _, _ => none
  | n8 + 1, x2_8, I9 => if (I9 P 2) ≤ x2_8 then (K7 I9) else ((X4_counts P I9 x1_3).bind fun v12 => (X4_counts P I9 x2_8).bind fun v13 => (X1_areTwins P I9 x1_3 x2_8).bind fun v14 => (X1_openSets P I9 (v12 - v13) v14).bind fun v15 => (wrI I9 40 36 (((6 : Int32) * x1_3) + x2_8) v15).bind fun I16 => X4_findWays_L2 P x1_3 K7 n8 (x2_8 + (1 : Int32)) I16)
def X4_findWays_L1 (P : Nat) (K2 : xMem → Option (xMem)) : Nat → Int32 → xMem → Option (xMem)
  | 0, _, _ => none
  | n3 + 1, x1_3, I4 => if (I4 P 2) ≤ x1_3 then (K2 I4) else (X4_findWays_L2 P x1_3 (fun (I10 : xMem) => X4_findWays_L1 P K2 n3 (x1_3 + (1 : Int32)) I10) bigF (x1_3 + (1 : Int32)) I4)
def X4_findWays (P : Nat) (I : xMem) : Option (xMem) := (some (wr I 39 0 (I P 2))).bind fun I1 => X4_findWays_L1 P (fun (I5 : xMem) => some I5) bigF (0 : Int32) I1
abbrev rm_X4_findWays : Room := { frames := 3, cells := 0, slots := 0, locals := 69 }
theorem cd_X4_findWays : yX4_findWays.cls = RX4 ∧ yX4_findWays.cls ≠ "java/lang/invoke/MethodHandle" ∧ yX4_findWays.cls ≠ "java/lang/invoke/VarHandle" ∧ (parseMethodDescriptor yX4_findWays.desc).map (fun d => d.parameters.length) = some 0 := by decide +kernel
set_option maxHeartbeats 4000000 in
set_option maxRecDepth 100000 in
theorem k_X4_findWays (l : Launch) (D : va_G) (cy : Nat → ClassId) (ad : Nat → Nat) (P Dr : Nat) (tI : xTab) (hX : cOk ad P Dr) (I : xMem) (L : xLon)  (r : xMem) (h : X4_findWays P I = some r) : Met l yX4_findWays wsX4_findWays rm_X4_findWays (va_Pc [.ref (ad 0)] (cW D cy ad P Dr tI I L)) (cPv D cy ad P Dr tI r L) 0 0 (gA 64 ad) := by
  refine g_met (own := RX4) (cc := cX4_findWays) (maxL := 3) (ret := none) (by decide) rfl (Nat.le_of_ble_eq_true rfl) rfl ?_
  intro p e s m args below meth c ls hx hb hml hr hlocks hown hts hG hK hZ hl
  generalize hQ : MQ below _ args s 0 0 _ = Q
  have hl : lv_has ls 3 [(0, .ref (ad 0))] := hl
  have hS : va_S (gA 64 ad) s.heap s.heap [] := va_S.rf
  obtain ⟨hi, hP, hDr⟩ := id hX
  have l1 : ∀ w ∈ wsX10, w.before args s = true := fun w h => hts w (List.mem_cons_of_mem _ (List.mem_append_left _ (List.mem_append_left _ (List.mem_append_right _ h))))
  have l3 : ∀ w ∈ wsX30, w.before args s = true := fun w h => hts w (List.mem_cons_of_mem _ (List.mem_append_left _ (List.mem_append_right _ h)))
  have l4 : ∀ w ∈ wsX40, w.before args s = true := fun w h => hts w (List.mem_cons_of_mem _ (List.mem_append_left _ (List.mem_append_left _ (List.mem_append_left _ (List.mem_append_right _ h)))))
  have k1 := hts (.fieldLink RX4 39 "PairStairs" "ways" "LPairStairs$Ways;") (by decide +kernel)
  have k2 := hts (.fieldLink RX4 50 "PairStairs" "plan" "LPairStairs$Plan;") (by decide +kernel)
  have k3 := hts (.fieldLink RX4 115 "PairStairs$Plan" "people" "I") (by decide +kernel)
  have k4 := hts (.fieldLink RX4 308 "PairStairs$Ways" "people" "I") (by decide +kernel)
  have k5 := hts (.fieldLink RX4 309 "PairStairs$Ways" "open" "[I") (by decide +kernel)
  unfold X4_findWays at h
  refine lv_aload_n hx hb dX4_findWays_0 rfl (lv_at hl 0 rfl) ?_
  refine g_get hx hb l4 hown hK hG (k := 0) (by decide) (cE_4 _ _) vwCl_4 5 (by decide) k1 (fun _ h9 => h9) rfl dX4_findWays_1 ?_
  refine lv_aload_n hx hb dX4_findWays_4 rfl (lv_at hl 0 rfl) ?_
  refine g_get hx hb l4 hown hK hG (k := 0) (by decide) (cE_4 _ _) vwCl_4 7 (by decide) k2 (fun _ h9 => h9) rfl dX4_findWays_5 ?_
  refine g_get hx hb l1 hown hK hG (k := P) hP.1.1 (cE_1 hP.1 _ _) vwCl_1 2 (by decide) k3 (fun _ h9 => h9) rfl dX4_findWays_8 ?_
  obtain ⟨I1, eI1, h⟩ := obind h
  refine g_put hx hb l3 tyX3_ok nmX3 hown hK hG hi hS (k := 39) (by decide) (cE_3 _ _) vwCl_3 0 (by decide) k4 (fun _ h9 => h9) rfl rfl (Nat.le_of_ble_eq_true rfl) (by rw [cE_3 _ _]; rfl) dX4_findWays_11 (fun H locs hG hS => ?_)
  rw [Option.some.inj eI1] at hG
  refine lv_iconst (v := (0 : Int32)) hx hb dX4_findWays_14 (by decide) ?_
  refine lv_istore_n (lv' := [(1, .int (0 : Int32)), (0, .ref (ad 0))]) hx hb dX4_findWays_15 rfl hl (by decide) rfl (fun ls hl => ?_)
  have keyK2 : ∀ (K2 : xMem → Option (xMem)), (∀ (I5 : xMem) (H : Heap) (locs : List Loc) (ls : Array Slot), K2 I5 = some r → cG D cy ad P Dr I5 L H → va_S (gA 64 ad) s.heap H locs → lv_has ls 3 [] → W p l e rm_X4_findWays s m args below meth c H locs 0 0 Q (F0 m 95 ls [])) → ∀ (n3 : Nat) (x1_3 : Int32) (I4 : xMem) (H : Heap) (locs : List Loc) (ls : Array Slot), X4_findWays_L1 P K2 n3 x1_3 I4 = some r → cG D cy ad P Dr I4 L H → va_S (gA 64 ad) s.heap H locs → lv_has ls 3 [(0, .ref (ad 0)), (1, .int x1_3)] → W p l e rm_X4_findWays s m args below meth c H locs 0 0 Q (F0 m 16 ls []) := by
    intro K2 hkK2 n3
    induction n3 with
    | zero =>
      intro x1_3 I4 H locs ls h
      exact ono h
    | succ n3 ihn3 =>
      intro x1_3 I4 H locs ls h hG hS hl
      rw [X4_findWays_L1] at h
      refine lv_iload_n hx hb dX4_findWays_16 rfl (lv_at hl 1 rfl) ?_
      refine lv_aload_n hx hb dX4_findWays_17 rfl (lv_at hl 0 rfl) ?_
      refine g_get hx hb l4 hown hK hG (k := 0) (by decide) (cE_4 _ _) vwCl_4 7 (by decide) k2 (fun _ h9 => h9) rfl dX4_findWays_18 ?_
      refine g_get hx hb l1 hown hK hG (k := P) hP.1.1 (cE_1 hP.1 _ _) vwCl_1 2 (by decide) k3 (fun _ h9 => h9) rfl dX4_findWays_21 ?_
      refine lv_icmp_ge (tgt := 95) hx hb dX4_findWays_24 (by decide) (fun c6 => ?_) (fun c6 => ?_)
      · have h := ite_t h c6
        exact hkK2 I4 _ _ _ h hG hS (lv_sub hl [] rfl)
      · have h := ite_f h c6
        refine lv_iload_n hx hb dX4_findWays_27 rfl (lv_at hl 1 rfl) ?_
        refine lv_iconst (v := (1 : Int32)) hx hb dX4_findWays_28 (by decide) ?_
        refine lv_iadd hx hb dX4_findWays_29 ?_
        refine lv_istore_n (lv' := [(2, .int (x1_3 + (1 : Int32))), (0, .ref (ad 0)), (1, .int x1_3)]) hx hb dX4_findWays_30 rfl hl (by decide) rfl (fun ls hl => ?_)
        have keyK7 : ∀ (K7 : xMem → Option (xMem)), (∀ (I10 : xMem) (H : Heap) (locs : List Loc) (ls : Array Slot), K7 I10 = some r → cG D cy ad P Dr I10 L H → va_S (gA 64 ad) s.heap H locs → lv_has ls 3 [(0, .ref (ad 0)), (1, .int x1_3)] → W p l e rm_X4_findWays s m args below meth c H locs 0 0 Q (F0 m 89 ls [])) → ∀ (n8 : Nat) (x2_8 : Int32) (I9 : xMem) (H : Heap) (locs : List Loc) (ls : Array Slot), X4_findWays_L2 P x1_3 K7 n8 x2_8 I9 = some r → cG D cy ad P Dr I9 L H → va_S (gA 64 ad) s.heap H locs → lv_has ls 3 [(0, .ref (ad 0)), (1, .int x1_3), (2, .int x2_8)] → W p l e rm_X4_findWays s m args below meth c H locs 0 0 Q (F0 m 31 ls []) := by
          intro K7 hkK7 n8
          induction n8 with
          | zero =>
            intro x2_8 I9 H locs ls h
            exact ono h
          | succ n8 ihn8 =>
            intro x2_8 I9 H locs ls h hG hS hl
            rw [X4_findWays_L2] at h
            refine lv_iload_n hx hb dX4_findWays_31 rfl (lv_at hl 2 rfl) ?_
            refine lv_aload_n hx hb dX4_findWays_32 rfl (lv_at hl 0 rfl) ?_
            refine g_get hx hb l4 hown hK hG (k := 0) (by decide) (cE_4 _ _) vwCl_4 7 (by decide) k2 (fun _ h9 => h9) rfl dX4_findWays_33 ?_
            refine g_get hx hb l1 hown hK hG (k := P) hP.1.1 (cE_1 hP.1 _ _) vwCl_1 2 (by decide) k3 (fun _ h9 => h9) rfl dX4_findWays_36 ?_
            refine lv_icmp_ge (tgt := 89) hx hb dX4_findWays_39 (by decide) (fun c11 => ?_) (fun c11 => ?_)
            · have h := ite_t h c11
              exact hkK7 I9 _ _ _ h hG hS (lv_sub hl [0, 1] rfl)
            · have h := ite_f h c11
              refine lv_aload_n hx hb dX4_findWays_42 rfl (lv_at hl 0 rfl) ?_
              refine g_get hx hb l4 hown hK hG (k := 0) (by decide) (cE_4 _ _) vwCl_4 5 (by decide) k1 (fun _ h9 => h9) rfl dX4_findWays_43 ?_
              refine g_get hx hb l3 hown hK hG (k := 39) (by decide) (cE_3 _ _) vwCl_3 1 (by decide) k5 (fun _ h9 => h9) rfl dX4_findWays_46 ?_
              refine lv_bipush (v := (6 : Int32)) hx hb dX4_findWays_49 (by decide) ?_
              refine lv_iload_n hx hb dX4_findWays_51 rfl (lv_at hl 1 rfl) ?_
              refine lv_imul hx hb dX4_findWays_52 ?_
              refine lv_iload_n hx hb dX4_findWays_53 rfl (lv_at hl 2 rfl) ?_
              refine lv_iadd hx hb dX4_findWays_54 ?_
              refine lv_aload_n hx hb dX4_findWays_55 rfl (lv_at hl 0 rfl) ?_
              refine g_get hx hb l4 hown hK hG (k := 0) (by decide) (cE_4 _ _) vwCl_4 7 (by decide) k2 (fun _ h9 => h9) rfl dX4_findWays_56 ?_
              refine lv_aload_n hx hb dX4_findWays_59 rfl (lv_at hl 0 rfl) ?_
              refine lv_iload_n hx hb dX4_findWays_60 rfl (lv_at hl 1 rfl) ?_
              obtain ⟨v12, ev12, h⟩ := obind h
              refine g_endi (va_runV (As := [.int x1_3]) (rest := [.ref (ad P), .int (((6 : Int32) * x1_3) + x2_8), .ref (ad 40)]) ⟨hx, hb, hml, hown, hts⟩ (k_X4_counts l D cy ad P Dr tI hX I9 L x1_3 v12 ev12) (cwV 1 hts gX4_findWays_X4_counts rfl rfl rfl cd_X4_counts ⟨Nat.le_of_ble_eq_true rfl, Nat.le_of_ble_eq_true rfl⟩) ⟨g_blind cZm, g_recv hK hG (k := 0) (by decide) (cE_4 _ _) vwCl_4, g_pre cZm hK hG hZ hS⟩ rfl rfl hl.1 rfl (lv_room (Nat.le_of_ble_eq_true rfl)) dX4_findWays_61 ⟨Nat.le_refl _, Nat.le_refl _⟩) hS (fun H locs hG hS => ?_)
              refine lv_aload_n hx hb dX4_findWays_64 rfl (lv_at hl 0 rfl) ?_
              refine lv_iload_n hx hb dX4_findWays_65 rfl (lv_at hl 2 rfl) ?_
              obtain ⟨v13, ev13, h⟩ := obind h
              refine g_endi (va_runV (As := [.int x2_8]) (rest := [.int v12, .ref (ad P), .int (((6 : Int32) * x1_3) + x2_8), .ref (ad 40)]) ⟨hx, hb, hml, hown, hts⟩ (k_X4_counts l D cy ad P Dr tI hX I9 L x2_8 v13 ev13) (cwV 1 hts gX4_findWays_X4_counts rfl rfl rfl cd_X4_counts ⟨Nat.le_of_ble_eq_true rfl, Nat.le_of_ble_eq_true rfl⟩) ⟨g_blind cZm, g_recv hK hG (k := 0) (by decide) (cE_4 _ _) vwCl_4, g_pre cZm hK hG hZ hS⟩ rfl rfl hl.1 rfl (lv_room (Nat.le_of_ble_eq_true rfl)) dX4_findWays_66 ⟨Nat.le_refl _, Nat.le_refl _⟩) hS (fun H locs hG hS => ?_)
              refine lv_isub hx hb dX4_findWays_69 ?_
              refine lv_aload_n hx hb dX4_findWays_70 rfl (lv_at hl 0 rfl) ?_
              refine g_get hx hb l4 hown hK hG (k := 0) (by decide) (cE_4 _ _) vwCl_4 7 (by decide) k2 (fun _ h9 => h9) rfl dX4_findWays_71 ?_
              refine lv_iload_n hx hb dX4_findWays_74 rfl (lv_at hl 1 rfl) ?_
              refine lv_iload_n hx hb dX4_findWays_75 rfl (lv_at hl 2 rfl) ?_
              obtain ⟨v14, ev14, h⟩ := obind h
              refine g_endi (va_runV (As := [.int x1_3, .int x2_8]) (rest := [.int (v12 - v13), .ref (ad P), .int (((6 : Int32) * x1_3) + x2_8), .ref (ad 40)]) ⟨hx, hb, hml, hown, hts⟩ (k_X1_areTwins l D cy ad P Dr tI hX (b := P) hP I9 L x1_3 x2_8 v14 ev14) (cwV 2 hts gX4_findWays_X1_areTwins rfl rfl rfl cd_X1_areTwins ⟨Nat.le_of_ble_eq_true rfl, Nat.le_of_ble_eq_true rfl⟩) ⟨g_blind cZm, g_recv hK hG (k := P) hP.1.1 (cE_1 hP.1 _ _) vwCl_1, g_pre cZm hK hG hZ hS⟩ rfl rfl hl.1 rfl (lv_room (Nat.le_of_ble_eq_true rfl)) dX4_findWays_76 ⟨Nat.le_refl _, Nat.le_refl _⟩) hS (fun H locs hG hS => ?_)
              obtain ⟨v15, ev15, h⟩ := obind h
              refine g_endi (va_runV (As := [.int (v12 - v13), .int v14]) (rest := [.int (((6 : Int32) * x1_3) + x2_8), .ref (ad 40)]) ⟨hx, hb, hml, hown, hts⟩ (k_X1_openSets l D cy ad P Dr tI hX (b := P) hP I9 L (v12 - v13) v14 v15 ev15) (cwV 2 hts gX4_findWays_X1_openSets rfl rfl rfl cd_X1_openSets ⟨Nat.le_of_ble_eq_true rfl, Nat.le_of_ble_eq_true rfl⟩) ⟨g_blind cZm, g_recv hK hG (k := P) hP.1.1 (cE_1 hP.1 _ _) vwCl_1, g_pre cZm hK hG hZ hS⟩ rfl rfl hl.1 rfl (lv_room (Nat.le_of_ble_eq_true rfl)) dX4_findWays_79 ⟨Nat.le_refl _, Nat.le_refl _⟩) hS (fun H locs hG hS => ?_)
              refine g_ast hx hb hK hG hi hS (k := 40) (n := 36) (show cIA 40 36 from by decide +kernel).1.1 (fun f => cIA_e (show cIA 40 36 from by decide +kernel) f _) 0 rfl h dX4_findWays_82 (fun I16 H locs h hG hS => ?_)
              refine lv_iinc (v := (x2_8 + (1 : Int32))) (lv' := [(2, .int (x2_8 + (1 : Int32))), (0, .ref (ad 0)), (1, .int x1_3)]) hx hb dX4_findWays_83 hl (k := 2) rfl rfl (by decide) rfl (fun ls hl => ?_)
              refine lv_goto (tgt := 31) hx hb dX4_findWays_86 (by decide) ?_
              exact ihn8 (x2_8 + (1 : Int32)) I16 _ _ _ h hG hS (lv_sub hl [1, 2, 0] rfl)
        refine keyK7 _ (fun I10 H locs ls h hG hS hl => ?_) bigF (x1_3 + (1 : Int32)) I4 _ _ _ h hG hS (lv_sub hl [1, 2, 0] rfl)
        clear keyK7
        refine lv_iinc (v := (x1_3 + (1 : Int32))) (lv' := [(1, .int (x1_3 + (1 : Int32))), (0, .ref (ad 0))]) hx hb dX4_findWays_89 hl (k := 1) rfl rfl (by decide) rfl (fun ls hl => ?_)
        refine lv_goto (tgt := 16) hx hb dX4_findWays_92 (by decide) ?_
        exact ihn3 (x1_3 + (1 : Int32)) I10 _ _ _ h hG hS (lv_sub hl [1, 0] rfl)
  refine keyK2 _ (fun I5 H locs ls h hG hS hl => ?_) bigF (0 : Int32) I1 _ _ _ h hG hS (lv_sub hl [1, 0] rfl)
  clear keyK2
  have h := Option.some.inj h
  subst h
  subst hQ
  exact g_vret hx hb hr hlocks cZm hK hZ hG hS dX4_findWays_95
def X4_match (P : Nat) (I : xMem) : Option (Int32 × xMem) := if (I P 2) = (0 : Int32) then (some ((-4 : Int32), I)) else ((X4_findWays P I).bind fun q2 => (X0_top 17 q2).bind fun v3 => (X0_stonesUp 17 q2).bind fun v4 => (X3_paired q2 v3 v4 (X1_allStones P q2)).bind fun q5 => (some (wr q5.2 0 10 q5.1)).bind fun I6 => some (((J6_bitCount_0f7a4 (I6 0 10)) / (2 : Int32)), I6))
abbrev rm_X4_match : Room := { frames := 4, cells := 0, slots := 0, locals := 101 }
theorem cd_X4_match : yX4_match.cls = RX4 ∧ yX4_match.cls ≠ "java/lang/invoke/MethodHandle" ∧ yX4_match.cls ≠ "java/lang/invoke/VarHandle" ∧ (parseMethodDescriptor yX4_match.desc).map (fun d => d.parameters.length) = some 0 := by decide +kernel
set_option maxHeartbeats 4000000 in
set_option maxRecDepth 100000 in
theorem k_X4_match (l : Launch) (D : va_G) (cy : Nat → ClassId) (ad : Nat → Nat) (P Dr : Nat) (tI : xTab) (hX : cOk ad P Dr) (I : xMem) (L : xLon)  (r : Int32 × xMem) (h : X4_match P I = some r) : Met l yX4_match wsX4_match rm_X4_match (va_Pc [.ref (ad 0)] (cW D cy ad P Dr tI I L)) (cPi D cy ad P Dr tI r.2 L r.1) 0 0 (gA 64 ad) := by
  refine g_met (own := RX4) (cc := cX4_match) (maxL := 1) (ret := (some .int)) (by decide) rfl (Nat.le_of_ble_eq_true rfl) rfl ?_
  intro p e s m args below meth c ls hx hb hml hr hlocks hown hts hG hK hZ hl
  generalize hQ : MQ below _ args s 0 0 _ = Q
  have hl : lv_has ls 1 [(0, .ref (ad 0))] := hl
  have hS : va_S (gA 64 ad) s.heap s.heap [] := va_S.rf
  obtain ⟨hi, hP, hDr⟩ := id hX
  have l1 : ∀ w ∈ wsX10, w.before args s = true := fun w h => hts w (List.mem_cons_of_mem _ (List.mem_append_left _ (List.mem_append_left _ (List.mem_append_right _ h))))
  have l4 : ∀ w ∈ wsX40, w.before args s = true := fun w h => hts w (List.mem_cons_of_mem _ (List.mem_append_left _ (List.mem_append_left _ (List.mem_append_left _ (List.mem_append_right _ h)))))
  have k1 := hts (.fieldLink RX4 50 "PairStairs" "plan" "LPairStairs$Plan;") (by decide +kernel)
  have k2 := hts (.fieldLink RX4 115 "PairStairs$Plan" "people" "I") (by decide +kernel)
  have k3 := hts (.fieldLink RX4 39 "PairStairs" "ways" "LPairStairs$Ways;") (by decide +kernel)
  have k4 := hts (.fieldLink RX4 24 "PairStairs" "deeds" "LPairStairs$Deeds;") (by decide +kernel)
  have k5 := hts (.fieldLink RX4 72 "PairStairs" "told" "I") (by decide +kernel)
  unfold X4_match at h
  refine lv_aload_n hx hb dX4_match_0 rfl (lv_at hl 0 rfl) ?_
  refine g_get hx hb l4 hown hK hG (k := 0) (by decide) (cE_4 _ _) vwCl_4 7 (by decide) k1 (fun _ h9 => h9) rfl dX4_match_1 ?_
  refine g_get hx hb l1 hown hK hG (k := P) hP.1.1 (cE_1 hP.1 _ _) vwCl_1 2 (by decide) k2 (fun _ h9 => h9) rfl dX4_match_4 ?_
  refine lv_if_ne (tgt := 13) hx hb dX4_match_7 (by decide) (fun c1 => ?_) (fun c1 => ?_)
  · have h := ite_f h c1
    refine lv_aload_n hx hb dX4_match_13 rfl (lv_at hl 0 rfl) ?_
    obtain ⟨q2, eq2, h⟩ := obind h
    refine g_endv (va_runV (As := []) (rest := []) ⟨hx, hb, hml, hown, hts⟩ (k_X4_findWays l D cy ad P Dr tI hX I L q2 eq2) (cwV 0 hts gX4_match_X4_findWays rfl rfl rfl cd_X4_findWays ⟨Nat.le_of_ble_eq_true rfl, Nat.le_of_ble_eq_true rfl⟩) ⟨g_blind cZm, g_recv hK hG (k := 0) (by decide) (cE_4 _ _) vwCl_4, g_pre cZm hK hG hZ hS⟩ rfl rfl hl.1 rfl (lv_room (Nat.le_of_ble_eq_true rfl)) dX4_match_14 ⟨Nat.le_refl _, Nat.le_refl _⟩) hS (fun H locs hG hS => ?_)
    refine lv_aload_n hx hb dX4_match_17 rfl (lv_at hl 0 rfl) ?_
    refine lv_aload_n hx hb dX4_match_18 rfl (lv_at hl 0 rfl) ?_
    refine g_get hx hb l4 hown hK hG (k := 0) (by decide) (cE_4 _ _) vwCl_4 5 (by decide) k3 (fun _ h9 => h9) rfl dX4_match_19 ?_
    refine lv_aload_n hx hb dX4_match_22 rfl (lv_at hl 0 rfl) ?_
    refine g_get hx hb l4 hown hK hG (k := 0) (by decide) (cE_4 _ _) vwCl_4 2 (by decide) k4 (fun _ h9 => h9) rfl dX4_match_23 ?_
    obtain ⟨v3, ev3, h⟩ := obind h
    refine g_endi (va_runV (As := []) (rest := [.ref (ad 39), .ref (ad 0)]) ⟨hx, hb, hml, hown, hts⟩ (k_X0_top l D cy ad P Dr tI hX (b := 17) cDeeds_17 q2 L v3 ev3) (cwV 0 hts gX4_match_X0_top rfl rfl rfl cd_X0_top ⟨Nat.le_of_ble_eq_true rfl, Nat.le_of_ble_eq_true rfl⟩) ⟨g_blind cZm, g_recv hK hG (k := 17) cDeeds_17.1.1 (cE_0 cDeeds_17.1 _ _) vwCl_0, g_pre cZm hK hG hZ hS⟩ rfl rfl hl.1 rfl (lv_room (Nat.le_of_ble_eq_true rfl)) dX4_match_26 ⟨Nat.le_refl _, Nat.le_refl _⟩) hS (fun H locs hG hS => ?_)
    refine lv_aload_n hx hb dX4_match_29 rfl (lv_at hl 0 rfl) ?_
    refine g_get hx hb l4 hown hK hG (k := 0) (by decide) (cE_4 _ _) vwCl_4 2 (by decide) k4 (fun _ h9 => h9) rfl dX4_match_30 ?_
    obtain ⟨v4, ev4, h⟩ := obind h
    refine g_endi (va_runV (As := []) (rest := [.int v3, .ref (ad 39), .ref (ad 0)]) ⟨hx, hb, hml, hown, hts⟩ (k_X0_stonesUp l D cy ad P Dr tI hX (b := 17) cDeeds_17 q2 L v4 ev4) (cwV 0 hts gX4_match_X0_stonesUp rfl rfl rfl cd_X0_stonesUp ⟨Nat.le_of_ble_eq_true rfl, Nat.le_of_ble_eq_true rfl⟩) ⟨g_blind cZm, g_recv hK hG (k := 17) cDeeds_17.1.1 (cE_0 cDeeds_17.1 _ _) vwCl_0, g_pre cZm hK hG hZ hS⟩ rfl rfl hl.1 rfl (lv_room (Nat.le_of_ble_eq_true rfl)) dX4_match_33 ⟨Nat.le_refl _, Nat.le_refl _⟩) hS (fun H locs hG hS => ?_)
    refine lv_aload_n hx hb dX4_match_36 rfl (lv_at hl 0 rfl) ?_
    refine g_get hx hb l4 hown hK hG (k := 0) (by decide) (cE_4 _ _) vwCl_4 7 (by decide) k1 (fun _ h9 => h9) rfl dX4_match_37 ?_
    refine g_endi (va_runV (As := []) (rest := [.int v4, .int v3, .ref (ad 39), .ref (ad 0)]) ⟨hx, hb, hml, hown, hts⟩ (k_X1_allStones l D cy ad P Dr tI hX (b := P) hP q2 L _ rfl) (cwV 0 hts gX4_match_X1_allStones rfl rfl rfl cd_X1_allStones ⟨Nat.le_of_ble_eq_true rfl, Nat.le_of_ble_eq_true rfl⟩) ⟨g_blind cZm, g_recv hK hG (k := P) hP.1.1 (cE_1 hP.1 _ _) vwCl_1, g_pre cZm hK hG hZ hS⟩ rfl rfl hl.1 rfl (lv_room (Nat.le_of_ble_eq_true rfl)) dX4_match_40 ⟨Nat.le_refl _, Nat.le_refl _⟩) hS (fun H locs hG hS => ?_)
    obtain ⟨q5, eq5, h⟩ := obind h
    refine g_endi (va_runV (As := [.int v3, .int v4, .int (X1_allStones P q2)]) (rest := [.ref (ad 0)]) ⟨hx, hb, hml, hown, hts⟩ (k_X3_paired l D cy ad P Dr tI hX q2 L v3 v4 (X1_allStones P q2) q5 eq5) (cwV 3 hts gX4_match_X3_paired rfl rfl rfl cd_X3_paired ⟨Nat.le_of_ble_eq_true rfl, Nat.le_of_ble_eq_true rfl⟩) ⟨g_blind cZm, g_recv hK hG (k := 39) (by decide) (cE_3 _ _) vwCl_3, g_pre cZm hK hG hZ hS⟩ rfl rfl hl.1 rfl (lv_room (Nat.le_of_ble_eq_true rfl)) dX4_match_43 ⟨Nat.le_refl _, Nat.le_refl _⟩) hS (fun H locs hG hS => ?_)
    obtain ⟨I6, eI6, h⟩ := obind h
    refine g_put hx hb l4 tyX4_ok nmX4 hown hK hG hi hS (k := 0) (by decide) (cE_4 _ _) vwCl_4 10 (by decide) k5 (fun _ h9 => h9) rfl rfl (Nat.le_of_ble_eq_true rfl) (by rw [cE_4 _ _]; rfl) dX4_match_46 (fun H locs hG hS => ?_)
    rw [Option.some.inj eI6] at hG
    refine lv_aload_n hx hb dX4_match_49 rfl (lv_at hl 0 rfl) ?_
    refine g_get hx hb l4 hown hK hG (k := 0) (by decide) (cE_4 _ _) vwCl_4 10 (by decide) k5 (fun _ h9 => h9) rfl dX4_match_50 ?_
    refine g_endi (va_runS (As := [.int (I6 0 10)]) (rest := []) ⟨hx, hb, hml, hown, hts⟩ (k_J6_bitCount_0f7a4 l D cy ad P Dr tI hX I6 L (I6 0 10) _ rfl) (va_cwS 1 hts gX4_match_J6_bitCount_0f7a4 rfl rfl rfl cd_J6_bitCount_0f7a4.2 ⟨Nat.le_of_ble_eq_true rfl, Nat.le_of_ble_eq_true rfl⟩) ⟨g_blind cZm, g_pre cZm hK hG hZ hS⟩ rfl rfl hl.1 rfl (lv_room (Nat.le_of_ble_eq_true rfl)) dX4_match_53 ⟨Nat.le_refl _, Nat.le_refl _⟩) hS (fun H locs hG hS => ?_)
    refine lv_iconst (v := (2 : Int32)) hx hb dX4_match_56 (by decide) ?_
    refine lv_idiv hx hb dX4_match_57 (by decide) ?_
    have h := Option.some.inj h
    subst h
    subst hQ
    exact g_iret hx hb hr hlocks cZm hK hZ hG hS rfl dX4_match_58
  · have h := ite_t h c1
    refine lv_bipush (v := (-4 : Int32)) hx hb dX4_match_10 (by decide) ?_
    have h := Option.some.inj h
    subst h
    subst hQ
    exact g_iret hx hb hr hlocks cZm hK hZ hG hS rfl dX4_match_12
def X4_waits_L1 (P : Nat) (I : xMem) (v2 : Int32) (v3 : Int32) (K4 : Option (Int32)) : Nat → Int32 → Option (Int32)
  | 0, _ => none
  | n5 + 1, x4_5 => if (99 : Int32) < x4_5 then (K4) else ((X1_least P I (v2 - x4_5) (0 : Int32) v3).bind fun v7 => if (I P 0) < (v7 / (256 : Int32)) then (X4_waits_L1 P I v2 v3 K4 n5 (x4_5 + (1 : Int32))) else (some x4_5))
def X4_waits (P : Nat) (I : xMem) (x1 : Int32) : Option (Int32) := if (X4_isNobody P I x1) = (0 : Int32) then ((X4_counts P I x1).bind fun v2 => (X4_stonesWith P I x1).bind fun v3 => X4_waits_L1 P I v2 v3 (some (-9 : Int32)) bigF (1 : Int32)) else (some (-1 : Int32))
abbrev rm_X4_waits : Room := { frames := 3, cells := 0, slots := 0, locals := 70 }
theorem cd_X4_waits : yX4_waits.cls = RX4 ∧ yX4_waits.cls ≠ "java/lang/invoke/MethodHandle" ∧ yX4_waits.cls ≠ "java/lang/invoke/VarHandle" ∧ (parseMethodDescriptor yX4_waits.desc).map (fun d => d.parameters.length) = some 1 := by decide +kernel
set_option maxHeartbeats 4000000 in
set_option maxRecDepth 100000 in
theorem k_X4_waits (l : Launch) (D : va_G) (cy : Nat → ClassId) (ad : Nat → Nat) (P Dr : Nat) (tI : xTab) (hX : cOk ad P Dr) (I : xMem) (L : xLon) (x1 : Int32) (r : Int32) (h : X4_waits P I x1 = some r) : Met l yX4_waits wsX4_waits rm_X4_waits (va_Pc [.ref (ad 0), .int x1] (cW D cy ad P Dr tI I L)) (cPi D cy ad P Dr tI I L r) 0 0 (gA 64 ad) := by
  refine g_met (own := RX4) (cc := cX4_waits) (maxL := 5) (ret := (some .int)) (by decide) rfl (Nat.le_of_ble_eq_true rfl) rfl ?_
  intro p e s m args below meth c ls hx hb hml hr hlocks hown hts hG hK hZ hl
  generalize hQ : MQ below _ args s 0 0 _ = Q
  have hl : lv_has ls 5 [(0, .ref (ad 0)), (1, .int x1)] := hl
  have hS : va_S (gA 64 ad) s.heap s.heap [] := va_S.rf
  obtain ⟨hi, hP, hDr⟩ := id hX
  have l1 : ∀ w ∈ wsX10, w.before args s = true := fun w h => hts w (List.mem_cons_of_mem _ (List.mem_append_left _ (List.mem_append_right _ h)))
  have l4 : ∀ w ∈ wsX40, w.before args s = true := fun w h => hts w (List.mem_cons_of_mem _ (List.mem_append_left _ (List.mem_append_left _ (List.mem_append_right _ h))))
  have k1 := hts (.fieldLink RX4 50 "PairStairs" "plan" "LPairStairs$Plan;") (by decide +kernel)
  have k2 := hts (.fieldLink RX4 168 "PairStairs$Plan" "limit" "I") (by decide +kernel)
  unfold X4_waits at h
  refine lv_aload_n hx hb dX4_waits_0 rfl (lv_at hl 0 rfl) ?_
  refine lv_iload_n hx hb dX4_waits_1 rfl (lv_at hl 1 rfl) ?_
  refine g_endi (va_runV (As := [.int x1]) (rest := []) ⟨hx, hb, hml, hown, hts⟩ (k_X4_isNobody l D cy ad P Dr tI hX I L x1 _ rfl) (cwV 1 hts gX4_waits_X4_isNobody rfl rfl rfl cd_X4_isNobody ⟨Nat.le_of_ble_eq_true rfl, Nat.le_of_ble_eq_true rfl⟩) ⟨g_blind cZm, g_recv hK hG (k := 0) (by decide) (cE_4 _ _) vwCl_4, g_pre cZm hK hG hZ hS⟩ rfl rfl hl.1 rfl (lv_room (Nat.le_of_ble_eq_true rfl)) dX4_waits_2 ⟨Nat.le_refl _, Nat.le_refl _⟩) hS (fun H locs hG hS => ?_)
  refine lv_if_eq (tgt := 10) hx hb dX4_waits_5 (by decide) (fun c1 => ?_) (fun c1 => ?_)
  · have h := ite_t h c1
    refine lv_aload_n hx hb dX4_waits_10 rfl (lv_at hl 0 rfl) ?_
    refine lv_iload_n hx hb dX4_waits_11 rfl (lv_at hl 1 rfl) ?_
    obtain ⟨v2, ev2, h⟩ := obind h
    refine g_endi (va_runV (As := [.int x1]) (rest := []) ⟨hx, hb, hml, hown, hts⟩ (k_X4_counts l D cy ad P Dr tI hX I L x1 v2 ev2) (cwV 1 hts gX4_waits_X4_counts rfl rfl rfl cd_X4_counts ⟨Nat.le_of_ble_eq_true rfl, Nat.le_of_ble_eq_true rfl⟩) ⟨g_blind cZm, g_recv hK hG (k := 0) (by decide) (cE_4 _ _) vwCl_4, g_pre cZm hK hG hZ hS⟩ rfl rfl hl.1 rfl (lv_room (Nat.le_of_ble_eq_true rfl)) dX4_waits_12 ⟨Nat.le_refl _, Nat.le_refl _⟩) hS (fun H locs hG hS => ?_)
    refine lv_istore_n (lv' := [(2, .int v2), (0, .ref (ad 0)), (1, .int x1)]) hx hb dX4_waits_15 rfl hl (by decide) rfl (fun ls hl => ?_)
    refine lv_aload_n hx hb dX4_waits_16 rfl (lv_at hl 1 rfl) ?_
    refine lv_iload_n hx hb dX4_waits_17 rfl (lv_at hl 2 rfl) ?_
    obtain ⟨v3, ev3, h⟩ := obind h
    refine g_endi (va_runV (As := [.int x1]) (rest := []) ⟨hx, hb, hml, hown, hts⟩ (k_X4_stonesWith l D cy ad P Dr tI hX I L x1 v3 ev3) (cwV 1 hts gX4_waits_X4_stonesWith rfl rfl rfl cd_X4_stonesWith ⟨Nat.le_of_ble_eq_true rfl, Nat.le_of_ble_eq_true rfl⟩) ⟨g_blind cZm, g_recv hK hG (k := 0) (by decide) (cE_4 _ _) vwCl_4, g_pre cZm hK hG hZ hS⟩ rfl rfl hl.1 rfl (lv_room (Nat.le_of_ble_eq_true rfl)) dX4_waits_18 ⟨Nat.le_refl _, Nat.le_refl _⟩) hS (fun H locs hG hS => ?_)
    refine lv_istore_n (lv' := [(3, .int v3), (2, .int v2), (0, .ref (ad 0)), (1, .int x1)]) hx hb dX4_waits_21 rfl hl (by decide) rfl (fun ls hl => ?_)
    refine lv_iconst (v := (1 : Int32)) hx hb dX4_waits_22 (by decide) ?_
    refine lv_istore (lv' := [(4, .int (1 : Int32)), (3, .int v3), (2, .int v2), (0, .ref (ad 0)), (1, .int x1)]) hx hb dX4_waits_23 hl (by decide) rfl (fun ls hl => ?_)
    have keyK4 : ∀ (K4 : Option (Int32)), (∀ (H : Heap) (locs : List Loc) (ls : Array Slot), K4 = some r → cG D cy ad P Dr I L H → va_S (gA 64 ad) s.heap H locs → lv_has ls 5 [] → W p l e rm_X4_waits s m args below meth c H locs 0 0 Q (F0 m 68 ls [])) → ∀ (n5 : Nat) (x4_5 : Int32) (H : Heap) (locs : List Loc) (ls : Array Slot), X4_waits_L1 P I v2 v3 K4 n5 x4_5 = some r → cG D cy ad P Dr I L H → va_S (gA 64 ad) s.heap H locs → lv_has ls 5 [(0, .ref (ad 0)), (2, .int v2), (3, .int v3), (4, .int x4_5)] → W p l e rm_X4_waits s m args below meth c H locs 0 0 Q (F0 m 25 ls []) := by
      intro K4 hkK4 n5
      induction n5 with
      | zero =>
        intro x4_5 H locs ls h
        exact ono h
      | succ n5 ihn5 =>
        intro x4_5 H locs ls h hG hS hl
        rw [X4_waits_L1] at h
        refine lv_iload hx hb dX4_waits_25 (lv_at hl 3 rfl) ?_
        refine lv_bipush (v := (99 : Int32)) hx hb dX4_waits_27 (by decide) ?_
        refine lv_icmp_gt (tgt := 68) hx hb dX4_waits_29 (by decide) (fun c6 => ?_) (fun c6 => ?_)
        · have h := ite_t h c6
          exact hkK4 _ _ _ h hG hS (lv_sub hl [] rfl)
        · have h := ite_f h c6
          refine lv_aload_n hx hb dX4_waits_32 rfl (lv_at hl 0 rfl) ?_
          refine g_get hx hb l4 hown hK hG (k := 0) (by decide) (cE_4 _ _) vwCl_4 7 (by decide) k1 (fun _ h9 => h9) rfl dX4_waits_33 ?_
          refine lv_iload_n hx hb dX4_waits_36 rfl (lv_at hl 1 rfl) ?_
          refine lv_iload hx hb dX4_waits_37 (lv_at hl 3 rfl) ?_
          refine lv_isub hx hb dX4_waits_39 ?_
          refine lv_iconst (v := (0 : Int32)) hx hb dX4_waits_40 (by decide) ?_
          refine lv_iload_n hx hb dX4_waits_41 rfl (lv_at hl 2 rfl) ?_
          obtain ⟨v7, ev7, h⟩ := obind h
          refine g_endi (va_runV (As := [.int (v2 - x4_5), .int (0 : Int32), .int v3]) (rest := []) ⟨hx, hb, hml, hown, hts⟩ (k_X1_least l D cy ad P Dr tI hX (b := P) hP I L (v2 - x4_5) (0 : Int32) v3 v7 ev7) (cwV 3 hts gX4_waits_X1_least rfl rfl rfl cd_X1_least ⟨Nat.le_of_ble_eq_true rfl, Nat.le_of_ble_eq_true rfl⟩) ⟨g_blind cZm, g_recv hK hG (k := P) hP.1.1 (cE_1 hP.1 _ _) vwCl_1, g_pre cZm hK hG hZ hS⟩ rfl rfl hl.1 rfl (lv_room (Nat.le_of_ble_eq_true rfl)) dX4_waits_42 ⟨Nat.le_refl _, Nat.le_refl _⟩) hS (fun H locs hG hS => ?_)
          refine lv_sipush (v := (256 : Int32)) hx hb dX4_waits_45 (by decide) ?_
          refine lv_idiv hx hb dX4_waits_48 (by decide) ?_
          refine lv_aload_n hx hb dX4_waits_49 rfl (lv_at hl 0 rfl) ?_
          refine g_get hx hb l4 hown hK hG (k := 0) (by decide) (cE_4 _ _) vwCl_4 7 (by decide) k1 (fun _ h9 => h9) rfl dX4_waits_50 ?_
          refine g_get hx hb l1 hown hK hG (k := P) hP.1.1 (cE_1 hP.1 _ _) vwCl_1 0 (by decide) k2 (fun _ h9 => h9) rfl dX4_waits_53 ?_
          refine lv_icmp_gt (tgt := 62) hx hb dX4_waits_56 (by decide) (fun c8 => ?_) (fun c8 => ?_)
          · have h := ite_t h c8
            refine lv_iinc (v := (x4_5 + (1 : Int32))) (lv' := [(4, .int (x4_5 + (1 : Int32))), (0, .ref (ad 0)), (2, .int v2), (3, .int v3)]) hx hb dX4_waits_62 hl (k := 3) rfl rfl (by decide) rfl (fun ls hl => ?_)
            refine lv_goto (tgt := 25) hx hb dX4_waits_65 (by decide) ?_
            exact ihn5 (x4_5 + (1 : Int32)) _ _ _ h hG hS (lv_sub hl [1, 2, 3, 0] rfl)
          · have h := ite_f h c8
            refine lv_iload hx hb dX4_waits_59 (lv_at hl 3 rfl) ?_
            have h := Option.some.inj h
            subst h
            subst hQ
            exact g_iret hx hb hr hlocks cZm hK hZ hG hS rfl dX4_waits_61
    refine keyK4 _ (fun H locs ls h hG hS hl => ?_) bigF (1 : Int32) _ _ _ h hG hS (lv_sub hl [3, 2, 1, 0] rfl)
    clear keyK4
    refine lv_bipush (v := (-9 : Int32)) hx hb dX4_waits_68 (by decide) ?_
    have h := Option.some.inj h
    subst h
    subst hQ
    exact g_iret hx hb hr hlocks cZm hK hZ hG hS rfl dX4_waits_70
  · have h := ite_f h c1
    refine lv_iconst (v := (-1 : Int32)) hx hb dX4_waits_8 (by decide) ?_
    have h := Option.some.inj h
    subst h
    subst hQ
    exact g_iret hx hb hr hlocks cZm hK hZ hG hS rfl dX4_waits_9
def X4_worth_L1 (P : Nat) (I : xMem) (K4 : Int32 → Int32 → Option (Int32 × xMem)) : Nat → Int32 → Int32 → Int32 → Option (Int32 × xMem)
  | 0, _, _, _ => none
  | n5 + 1, x1_5, x2_5, x3_5 => if (I P 1) ≤ x3_5 then (K4 x1_5 x2_5) else ((X4_pairsWithout P I ((1 : Int32) <<< (x3_5 &&& 31))).bind fun v7 => if x2_5 ≤ v7 then (X4_worth_L1 P I K4 n5 x1_5 x2_5 (x3_5 + (1 : Int32))) else (X4_worth_L1 P I K4 n5 x3_5 v7 (x3_5 + (1 : Int32))))
def X4_worth (P : Nat) (I : xMem) : Option (Int32 × xMem) := if (I P 2) = (0 : Int32) then (some ((-4 : Int32), I)) else (if (I P 1) = (0 : Int32) then (some ((-9 : Int32), I)) else ((X4_pairsWithout P I (1 : Int32)).bind fun v3 => X4_worth_L1 P I (fun (z1_5 : Int32) (z2_5 : Int32) => (X4_pairsWithout P I (0 : Int32)).bind fun v9 => (some (wr I 0 10 (v9 - z2_5))).bind fun I10 => some (z1_5, I10)) bigF (0 : Int32) v3 (1 : Int32)))
abbrev rm_X4_worth : Room := { frames := 6, cells := 0, slots := 0, locals := 140 }
theorem cd_X4_worth : yX4_worth.cls = RX4 ∧ yX4_worth.cls ≠ "java/lang/invoke/MethodHandle" ∧ yX4_worth.cls ≠ "java/lang/invoke/VarHandle" ∧ (parseMethodDescriptor yX4_worth.desc).map (fun d => d.parameters.length) = some 0 := by decide +kernel
set_option maxHeartbeats 4000000 in
set_option maxRecDepth 100000 in
theorem k_X4_worth (l : Launch) (D : va_G) (cy : Nat → ClassId) (ad : Nat → Nat) (P Dr : Nat) (tI : xTab) (hX : cOk ad P Dr) (I : xMem) (L : xLon)  (r : Int32 × xMem) (h : X4_worth P I = some r) : Met l yX4_worth wsX4_worth rm_X4_worth (va_Pc [.ref (ad 0)] (cW D cy ad P Dr tI I L)) (cPi D cy ad P Dr tI r.2 L r.1) 0 0 (gA 64 ad) := by
  refine g_met (own := RX4) (cc := cX4_worth) (maxL := 5) (ret := (some .int)) (by decide) rfl (Nat.le_of_ble_eq_true rfl) rfl ?_
  intro p e s m args below meth c ls hx hb hml hr hlocks hown hts hG hK hZ hl
  generalize hQ : MQ below _ args s 0 0 _ = Q
  have hl : lv_has ls 5 [(0, .ref (ad 0))] := hl
  have hS : va_S (gA 64 ad) s.heap s.heap [] := va_S.rf
  obtain ⟨hi, hP, hDr⟩ := id hX
  have l1 : ∀ w ∈ wsX10, w.before args s = true := fun w h => hts w (List.mem_cons_of_mem _ (List.mem_append_left _ (List.mem_append_right _ h)))
  have l4 : ∀ w ∈ wsX40, w.before args s = true := fun w h => hts w (List.mem_cons_of_mem _ (List.mem_append_left _ (List.mem_append_left _ (List.mem_append_right _ h))))
  have k1 := hts (.fieldLink RX4 50 "PairStairs" "plan" "LPairStairs$Plan;") (by decide +kernel)
  have k2 := hts (.fieldLink RX4 115 "PairStairs$Plan" "people" "I") (by decide +kernel)
  have k3 := hts (.fieldLink RX4 211 "PairStairs$Plan" "stones" "I") (by decide +kernel)
  have k4 := hts (.fieldLink RX4 72 "PairStairs" "told" "I") (by decide +kernel)
  unfold X4_worth at h
  refine lv_aload_n hx hb dX4_worth_0 rfl (lv_at hl 0 rfl) ?_
  refine g_get hx hb l4 hown hK hG (k := 0) (by decide) (cE_4 _ _) vwCl_4 7 (by decide) k1 (fun _ h9 => h9) rfl dX4_worth_1 ?_
  refine g_get hx hb l1 hown hK hG (k := P) hP.1.1 (cE_1 hP.1 _ _) vwCl_1 2 (by decide) k2 (fun _ h9 => h9) rfl dX4_worth_4 ?_
  refine lv_if_ne (tgt := 13) hx hb dX4_worth_7 (by decide) (fun c1 => ?_) (fun c1 => ?_)
  · have h := ite_f h c1
    refine lv_aload_n hx hb dX4_worth_13 rfl (lv_at hl 0 rfl) ?_
    refine g_get hx hb l4 hown hK hG (k := 0) (by decide) (cE_4 _ _) vwCl_4 7 (by decide) k1 (fun _ h9 => h9) rfl dX4_worth_14 ?_
    refine g_get hx hb l1 hown hK hG (k := P) hP.1.1 (cE_1 hP.1 _ _) vwCl_1 1 (by decide) k3 (fun _ h9 => h9) rfl dX4_worth_17 ?_
    refine lv_if_ne (tgt := 26) hx hb dX4_worth_20 (by decide) (fun c2 => ?_) (fun c2 => ?_)
    · have h := ite_f h c2
      refine lv_iconst (v := (0 : Int32)) hx hb dX4_worth_26 (by decide) ?_
      refine lv_istore_n (lv' := [(1, .int (0 : Int32)), (0, .ref (ad 0))]) hx hb dX4_worth_27 rfl hl (by decide) rfl (fun ls hl => ?_)
      refine lv_aload_n hx hb dX4_worth_28 rfl (lv_at hl 1 rfl) ?_
      refine lv_iconst (v := (1 : Int32)) hx hb dX4_worth_29 (by decide) ?_
      obtain ⟨v3, ev3, h⟩ := obind h
      refine g_endi (va_runV (As := [.int (1 : Int32)]) (rest := []) ⟨hx, hb, hml, hown, hts⟩ (k_X4_pairsWithout l D cy ad P Dr tI hX I L (1 : Int32) v3 ev3) (cwV 1 hts gX4_worth_X4_pairsWithout rfl rfl rfl cd_X4_pairsWithout ⟨Nat.le_of_ble_eq_true rfl, Nat.le_of_ble_eq_true rfl⟩) ⟨g_blind cZm, g_recv hK hG (k := 0) (by decide) (cE_4 _ _) vwCl_4, g_pre cZm hK hG hZ hS⟩ rfl rfl hl.1 rfl (lv_room (Nat.le_of_ble_eq_true rfl)) dX4_worth_30 ⟨Nat.le_refl _, Nat.le_refl _⟩) hS (fun H locs hG hS => ?_)
      refine lv_istore_n (lv' := [(2, .int v3), (1, .int (0 : Int32)), (0, .ref (ad 0))]) hx hb dX4_worth_33 rfl hl (by decide) rfl (fun ls hl => ?_)
      refine lv_iconst (v := (1 : Int32)) hx hb dX4_worth_34 (by decide) ?_
      refine lv_istore_n (lv' := [(3, .int (1 : Int32)), (2, .int v3), (1, .int (0 : Int32)), (0, .ref (ad 0))]) hx hb dX4_worth_35 rfl hl (by decide) rfl (fun ls hl => ?_)
      have keyK4 : ∀ (K4 : Int32 → Int32 → Option (Int32 × xMem)), (∀ (z1_5 : Int32) (z2_5 : Int32) (H : Heap) (locs : List Loc) (ls : Array Slot), K4 z1_5 z2_5 = some r → cG D cy ad P Dr I L H → va_S (gA 64 ad) s.heap H locs → lv_has ls 5 [(0, .ref (ad 0)), (1, .int z1_5), (2, .int z2_5)] → W p l e rm_X4_worth s m args below meth c H locs 0 0 Q (F0 m 73 ls [])) → ∀ (n5 : Nat) (x1_5 : Int32) (x2_5 : Int32) (x3_5 : Int32) (H : Heap) (locs : List Loc) (ls : Array Slot), X4_worth_L1 P I K4 n5 x1_5 x2_5 x3_5 = some r → cG D cy ad P Dr I L H → va_S (gA 64 ad) s.heap H locs → lv_has ls 5 [(0, .ref (ad 0)), (1, .int x1_5), (2, .int x2_5), (3, .int x3_5)] → W p l e rm_X4_worth s m args below meth c H locs 0 0 Q (F0 m 36 ls []) := by
        intro K4 hkK4 n5
        induction n5 with
        | zero =>
          intro x1_5 x2_5 x3_5 H locs ls h
          exact ono h
        | succ n5 ihn5 =>
          intro x1_5 x2_5 x3_5 H locs ls h hG hS hl
          rw [X4_worth_L1] at h
          refine lv_iload_n hx hb dX4_worth_36 rfl (lv_at hl 3 rfl) ?_
          refine lv_aload_n hx hb dX4_worth_37 rfl (lv_at hl 0 rfl) ?_
          refine g_get hx hb l4 hown hK hG (k := 0) (by decide) (cE_4 _ _) vwCl_4 7 (by decide) k1 (fun _ h9 => h9) rfl dX4_worth_38 ?_
          refine g_get hx hb l1 hown hK hG (k := P) hP.1.1 (cE_1 hP.1 _ _) vwCl_1 1 (by decide) k3 (fun _ h9 => h9) rfl dX4_worth_41 ?_
          refine lv_icmp_ge (tgt := 73) hx hb dX4_worth_44 (by decide) (fun c6 => ?_) (fun c6 => ?_)
          · have h := ite_t h c6
            exact hkK4 x1_5 x2_5 _ _ _ h hG hS (lv_sub hl [0, 1, 2] rfl)
          · have h := ite_f h c6
            refine lv_aload_n hx hb dX4_worth_47 rfl (lv_at hl 0 rfl) ?_
            refine lv_iconst (v := (1 : Int32)) hx hb dX4_worth_48 (by decide) ?_
            refine lv_iload_n hx hb dX4_worth_49 rfl (lv_at hl 3 rfl) ?_
            refine lv_ishl hx hb dX4_worth_50 ?_
            obtain ⟨v7, ev7, h⟩ := obind h
            refine g_endi (va_runV (As := [.int ((1 : Int32) <<< (x3_5 &&& 31))]) (rest := []) ⟨hx, hb, hml, hown, hts⟩ (k_X4_pairsWithout l D cy ad P Dr tI hX I L ((1 : Int32) <<< (x3_5 &&& 31)) v7 ev7) (cwV 1 hts gX4_worth_X4_pairsWithout rfl rfl rfl cd_X4_pairsWithout ⟨Nat.le_of_ble_eq_true rfl, Nat.le_of_ble_eq_true rfl⟩) ⟨g_blind cZm, g_recv hK hG (k := 0) (by decide) (cE_4 _ _) vwCl_4, g_pre cZm hK hG hZ hS⟩ rfl rfl hl.1 rfl (lv_room (Nat.le_of_ble_eq_true rfl)) dX4_worth_51 ⟨Nat.le_refl _, Nat.le_refl _⟩) hS (fun H locs hG hS => ?_)
            refine lv_istore (lv' := [(4, .int v7), (0, .ref (ad 0)), (1, .int x1_5), (2, .int x2_5), (3, .int x3_5)]) hx hb dX4_worth_54 hl (by decide) rfl (fun ls hl => ?_)
            refine lv_iload hx hb dX4_worth_56 (lv_at hl 0 rfl) ?_
            refine lv_iload_n hx hb dX4_worth_58 rfl (lv_at hl 3 rfl) ?_
            refine lv_icmp_ge (tgt := 67) hx hb dX4_worth_59 (by decide) (fun c8 => ?_) (fun c8 => ?_)
            · have h := ite_t h c8
              refine lv_iinc (v := (x3_5 + (1 : Int32))) (lv' := [(3, .int (x3_5 + (1 : Int32))), (4, .int v7), (0, .ref (ad 0)), (1, .int x1_5), (2, .int x2_5)]) hx hb dX4_worth_67 hl (k := 4) rfl rfl (by decide) rfl (fun ls hl => ?_)
              refine lv_goto (tgt := 36) hx hb dX4_worth_70 (by decide) ?_
              exact ihn5 x1_5 x2_5 (x3_5 + (1 : Int32)) _ _ _ h hG hS (lv_sub hl [2, 3, 4, 0] rfl)
            · have h := ite_f h c8
              refine lv_iload_n hx hb dX4_worth_62 rfl (lv_at hl 4 rfl) ?_
              refine lv_istore_n (lv' := [(1, .int x3_5), (4, .int v7), (0, .ref (ad 0)), (2, .int x2_5), (3, .int x3_5)]) hx hb dX4_worth_63 rfl hl (by decide) rfl (fun ls hl => ?_)
              refine lv_iload hx hb dX4_worth_64 (lv_at hl 1 rfl) ?_
              refine lv_istore_n (lv' := [(2, .int v7), (1, .int x3_5), (4, .int v7), (0, .ref (ad 0)), (3, .int x3_5)]) hx hb dX4_worth_66 rfl hl (by decide) rfl (fun ls hl => ?_)
              refine lv_iinc (v := (x3_5 + (1 : Int32))) (lv' := [(3, .int (x3_5 + (1 : Int32))), (2, .int v7), (1, .int x3_5), (4, .int v7), (0, .ref (ad 0))]) hx hb dX4_worth_67 hl (k := 4) rfl rfl (by decide) rfl (fun ls hl => ?_)
              refine lv_goto (tgt := 36) hx hb dX4_worth_70 (by decide) ?_
              exact ihn5 x3_5 v7 (x3_5 + (1 : Int32)) _ _ _ h hG hS (lv_sub hl [4, 2, 1, 0] rfl)
      refine keyK4 _ (fun z1_5 z2_5 H locs ls h hG hS hl => ?_) bigF (0 : Int32) v3 (1 : Int32) _ _ _ h hG hS (lv_sub hl [3, 2, 1, 0] rfl)
      clear keyK4
      refine lv_aload_n hx hb dX4_worth_73 rfl (lv_at hl 0 rfl) ?_
      refine lv_aload_n hx hb dX4_worth_74 rfl (lv_at hl 0 rfl) ?_
      refine lv_iconst (v := (0 : Int32)) hx hb dX4_worth_75 (by decide) ?_
      obtain ⟨v9, ev9, h⟩ := obind h
      refine g_endi (va_runV (As := [.int (0 : Int32)]) (rest := [.ref (ad 0)]) ⟨hx, hb, hml, hown, hts⟩ (k_X4_pairsWithout l D cy ad P Dr tI hX I L (0 : Int32) v9 ev9) (cwV 1 hts gX4_worth_X4_pairsWithout rfl rfl rfl cd_X4_pairsWithout ⟨Nat.le_of_ble_eq_true rfl, Nat.le_of_ble_eq_true rfl⟩) ⟨g_blind cZm, g_recv hK hG (k := 0) (by decide) (cE_4 _ _) vwCl_4, g_pre cZm hK hG hZ hS⟩ rfl rfl hl.1 rfl (lv_room (Nat.le_of_ble_eq_true rfl)) dX4_worth_76 ⟨Nat.le_refl _, Nat.le_refl _⟩) hS (fun H locs hG hS => ?_)
      refine lv_iload_n hx hb dX4_worth_79 rfl (lv_at hl 2 rfl) ?_
      refine lv_isub hx hb dX4_worth_80 ?_
      obtain ⟨I10, eI10, h⟩ := obind h
      refine g_put hx hb l4 tyX4_ok nmX4 hown hK hG hi hS (k := 0) (by decide) (cE_4 _ _) vwCl_4 10 (by decide) k4 (fun _ h9 => h9) rfl rfl (Nat.le_of_ble_eq_true rfl) (by rw [cE_4 _ _]; rfl) dX4_worth_81 (fun H locs hG hS => ?_)
      rw [Option.some.inj eI10] at hG
      refine lv_iload_n hx hb dX4_worth_84 rfl (lv_at hl 1 rfl) ?_
      have h := Option.some.inj h
      subst h
      subst hQ
      exact g_iret hx hb hr hlocks cZm hK hZ hG hS rfl dX4_worth_85
    · have h := ite_t h c2
      refine lv_bipush (v := (-9 : Int32)) hx hb dX4_worth_23 (by decide) ?_
      have h := Option.some.inj h
      subst h
      subst hQ
      exact g_iret hx hb hr hlocks cZm hK hZ hG hS rfl dX4_worth_25
  · have h := ite_t h c1
    refine lv_bipush (v := (-4 : Int32)) hx hb dX4_worth_10 (by decide) ?_
    have h := Option.some.inj h
    subst h
    subst hQ
    exact g_iret hx hb hr hlocks cZm hK hZ hG hS rfl dX4_worth_12
def X4_loaves_L1 (P : Nat) (I : xMem) (x1 : Int32) (x2 : Int32) (K4 : Option (Int32)) : Nat → Int32 → Option (Int32)
  | 0, _ => none
  | n5 + 1, x3_5 => (X0_eaten 17 I).bind fun v6 => if ((9 : Int32) - v6) < x3_5 then (K4) else ((X0_eaten 17 I).bind fun v8 => (X1_steps P I x1 x2 (0 : Int32) (0 : Int32) (v8 + x3_5)).bind fun v9 => if (I P 0) < v9 then (X4_loaves_L1 P I x1 x2 K4 n5 (x3_5 + (1 : Int32))) else (some x3_5))
def X4_loaves (P : Nat) (I : xMem) (x1 : Int32) (x2 : Int32) : Option (Int32) := if (X4_isNoPair P I x1 x2) = (0 : Int32) then ((X4_areApart I x1 x2).bind fun v2 => if v2 = (0 : Int32) then (X4_loaves_L1 P I x1 x2 (some (-9 : Int32)) bigF (0 : Int32)) else (some (-4 : Int32))) else (some (-1 : Int32))
abbrev rm_X4_loaves : Room := { frames := 3, cells := 0, slots := 0, locals := 70 }
theorem cd_X4_loaves : yX4_loaves.cls = RX4 ∧ yX4_loaves.cls ≠ "java/lang/invoke/MethodHandle" ∧ yX4_loaves.cls ≠ "java/lang/invoke/VarHandle" ∧ (parseMethodDescriptor yX4_loaves.desc).map (fun d => d.parameters.length) = some 2 := by decide +kernel
set_option maxHeartbeats 4000000 in
set_option maxRecDepth 100000 in
theorem k_X4_loaves (l : Launch) (D : va_G) (cy : Nat → ClassId) (ad : Nat → Nat) (P Dr : Nat) (tI : xTab) (hX : cOk ad P Dr) (I : xMem) (L : xLon) (x1 : Int32) (x2 : Int32) (r : Int32) (h : X4_loaves P I x1 x2 = some r) : Met l yX4_loaves wsX4_loaves rm_X4_loaves (va_Pc [.ref (ad 0), .int x1, .int x2] (cW D cy ad P Dr tI I L)) (cPi D cy ad P Dr tI I L r) 0 0 (gA 64 ad) := by
  refine g_met (own := RX4) (cc := cX4_loaves) (maxL := 4) (ret := (some .int)) (by decide) rfl (Nat.le_of_ble_eq_true rfl) rfl ?_
  intro p e s m args below meth c ls hx hb hml hr hlocks hown hts hG hK hZ hl
  generalize hQ : MQ below _ args s 0 0 _ = Q
  have hl : lv_has ls 4 [(0, .ref (ad 0)), (1, .int x1), (2, .int x2)] := hl
  have hS : va_S (gA 64 ad) s.heap s.heap [] := va_S.rf
  obtain ⟨hi, hP, hDr⟩ := id hX
  have l1 : ∀ w ∈ wsX10, w.before args s = true := fun w h => hts w (List.mem_cons_of_mem _ (List.mem_append_left _ (List.mem_append_right _ h)))
  have l4 : ∀ w ∈ wsX40, w.before args s = true := fun w h => hts w (List.mem_cons_of_mem _ (List.mem_append_left _ (List.mem_append_left _ (List.mem_append_right _ h))))
  have k1 := hts (.fieldLink RX4 24 "PairStairs" "deeds" "LPairStairs$Deeds;") (by decide +kernel)
  have k2 := hts (.fieldLink RX4 50 "PairStairs" "plan" "LPairStairs$Plan;") (by decide +kernel)
  have k3 := hts (.fieldLink RX4 168 "PairStairs$Plan" "limit" "I") (by decide +kernel)
  unfold X4_loaves at h
  refine lv_aload_n hx hb dX4_loaves_0 rfl (lv_at hl 0 rfl) ?_
  refine lv_iload_n hx hb dX4_loaves_1 rfl (lv_at hl 1 rfl) ?_
  refine lv_iload_n hx hb dX4_loaves_2 rfl (lv_at hl 2 rfl) ?_
  refine g_endi (va_runV (As := [.int x1, .int x2]) (rest := []) ⟨hx, hb, hml, hown, hts⟩ (k_X4_isNoPair l D cy ad P Dr tI hX I L x1 x2 _ rfl) (cwV 2 hts gX4_loaves_X4_isNoPair rfl rfl rfl cd_X4_isNoPair ⟨Nat.le_of_ble_eq_true rfl, Nat.le_of_ble_eq_true rfl⟩) ⟨g_blind cZm, g_recv hK hG (k := 0) (by decide) (cE_4 _ _) vwCl_4, g_pre cZm hK hG hZ hS⟩ rfl rfl hl.1 rfl (lv_room (Nat.le_of_ble_eq_true rfl)) dX4_loaves_3 ⟨Nat.le_refl _, Nat.le_refl _⟩) hS (fun H locs hG hS => ?_)
  refine lv_if_eq (tgt := 11) hx hb dX4_loaves_6 (by decide) (fun c1 => ?_) (fun c1 => ?_)
  · have h := ite_t h c1
    refine lv_aload_n hx hb dX4_loaves_11 rfl (lv_at hl 0 rfl) ?_
    refine lv_iload_n hx hb dX4_loaves_12 rfl (lv_at hl 1 rfl) ?_
    refine lv_iload_n hx hb dX4_loaves_13 rfl (lv_at hl 2 rfl) ?_
    obtain ⟨v2, ev2, h⟩ := obind h
    refine g_endi (va_runV (As := [.int x1, .int x2]) (rest := []) ⟨hx, hb, hml, hown, hts⟩ (k_X4_areApart l D cy ad P Dr tI hX I L x1 x2 v2 ev2) (cwV 2 hts gX4_loaves_X4_areApart rfl rfl rfl cd_X4_areApart ⟨Nat.le_of_ble_eq_true rfl, Nat.le_of_ble_eq_true rfl⟩) ⟨g_blind cZm, g_recv hK hG (k := 0) (by decide) (cE_4 _ _) vwCl_4, g_pre cZm hK hG hZ hS⟩ rfl rfl hl.1 rfl (lv_room (Nat.le_of_ble_eq_true rfl)) dX4_loaves_14 ⟨Nat.le_refl _, Nat.le_refl _⟩) hS (fun H locs hG hS => ?_)
    refine lv_if_eq (tgt := 23) hx hb dX4_loaves_17 (by decide) (fun c3 => ?_) (fun c3 => ?_)
    · have h := ite_t h c3
      refine lv_iconst (v := (0 : Int32)) hx hb dX4_loaves_23 (by decide) ?_
      refine lv_istore_n (lv' := [(3, .int (0 : Int32)), (0, .ref (ad 0)), (1, .int x1), (2, .int x2)]) hx hb dX4_loaves_24 rfl hl (by decide) rfl (fun ls hl => ?_)
      have keyK4 : ∀ (K4 : Option (Int32)), (∀ (H : Heap) (locs : List Loc) (ls : Array Slot), K4 = some r → cG D cy ad P Dr I L H → va_S (gA 64 ad) s.heap H locs → lv_has ls 4 [] → W p l e rm_X4_loaves s m args below meth c H locs 0 0 Q (F0 m 77 ls [])) → ∀ (n5 : Nat) (x3_5 : Int32) (H : Heap) (locs : List Loc) (ls : Array Slot), X4_loaves_L1 P I x1 x2 K4 n5 x3_5 = some r → cG D cy ad P Dr I L H → va_S (gA 64 ad) s.heap H locs → lv_has ls 4 [(0, .ref (ad 0)), (1, .int x1), (2, .int x2), (3, .int x3_5)] → W p l e rm_X4_loaves s m args below meth c H locs 0 0 Q (F0 m 25 ls []) := by
        intro K4 hkK4 n5
        induction n5 with
        | zero =>
          intro x3_5 H locs ls h
          exact ono h
        | succ n5 ihn5 =>
          intro x3_5 H locs ls h hG hS hl
          rw [X4_loaves_L1] at h
          refine lv_iload_n hx hb dX4_loaves_25 rfl (lv_at hl 3 rfl) ?_
          refine lv_bipush (v := (9 : Int32)) hx hb dX4_loaves_26 (by decide) ?_
          refine lv_aload_n hx hb dX4_loaves_28 rfl (lv_at hl 0 rfl) ?_
          refine g_get hx hb l4 hown hK hG (k := 0) (by decide) (cE_4 _ _) vwCl_4 2 (by decide) k1 (fun _ h9 => h9) rfl dX4_loaves_29 ?_
          obtain ⟨v6, ev6, h⟩ := obind h
          refine g_endi (va_runV (As := []) (rest := [.int (9 : Int32), .int x3_5]) ⟨hx, hb, hml, hown, hts⟩ (k_X0_eaten l D cy ad P Dr tI hX (b := 17) cDeeds_17 I L v6 ev6) (cwV 0 hts gX4_loaves_X0_eaten rfl rfl rfl cd_X0_eaten ⟨Nat.le_of_ble_eq_true rfl, Nat.le_of_ble_eq_true rfl⟩) ⟨g_blind cZm, g_recv hK hG (k := 17) cDeeds_17.1.1 (cE_0 cDeeds_17.1 _ _) vwCl_0, g_pre cZm hK hG hZ hS⟩ rfl rfl hl.1 rfl (lv_room (Nat.le_of_ble_eq_true rfl)) dX4_loaves_32 ⟨Nat.le_refl _, Nat.le_refl _⟩) hS (fun H locs hG hS => ?_)
          refine lv_isub hx hb dX4_loaves_35 ?_
          refine lv_icmp_gt (tgt := 77) hx hb dX4_loaves_36 (by decide) (fun c7 => ?_) (fun c7 => ?_)
          · have h := ite_t h c7
            exact hkK4 _ _ _ h hG hS (lv_sub hl [] rfl)
          · have h := ite_f h c7
            refine lv_aload_n hx hb dX4_loaves_39 rfl (lv_at hl 0 rfl) ?_
            refine g_get hx hb l4 hown hK hG (k := 0) (by decide) (cE_4 _ _) vwCl_4 7 (by decide) k2 (fun _ h9 => h9) rfl dX4_loaves_40 ?_
            refine lv_iload_n hx hb dX4_loaves_43 rfl (lv_at hl 1 rfl) ?_
            refine lv_iload_n hx hb dX4_loaves_44 rfl (lv_at hl 2 rfl) ?_
            refine lv_iconst (v := (0 : Int32)) hx hb dX4_loaves_45 (by decide) ?_
            refine lv_iconst (v := (0 : Int32)) hx hb dX4_loaves_46 (by decide) ?_
            refine lv_aload_n hx hb dX4_loaves_47 rfl (lv_at hl 0 rfl) ?_
            refine g_get hx hb l4 hown hK hG (k := 0) (by decide) (cE_4 _ _) vwCl_4 2 (by decide) k1 (fun _ h9 => h9) rfl dX4_loaves_48 ?_
            obtain ⟨v8, ev8, h⟩ := obind h
            refine g_endi (va_runV (As := []) (rest := [.int (0 : Int32), .int (0 : Int32), .int x2, .int x1, .ref (ad P)]) ⟨hx, hb, hml, hown, hts⟩ (k_X0_eaten l D cy ad P Dr tI hX (b := 17) cDeeds_17 I L v8 ev8) (cwV 0 hts gX4_loaves_X0_eaten rfl rfl rfl cd_X0_eaten ⟨Nat.le_of_ble_eq_true rfl, Nat.le_of_ble_eq_true rfl⟩) ⟨g_blind cZm, g_recv hK hG (k := 17) cDeeds_17.1.1 (cE_0 cDeeds_17.1 _ _) vwCl_0, g_pre cZm hK hG hZ hS⟩ rfl rfl hl.1 rfl (lv_room (Nat.le_of_ble_eq_true rfl)) dX4_loaves_51 ⟨Nat.le_refl _, Nat.le_refl _⟩) hS (fun H locs hG hS => ?_)
            refine lv_iload_n hx hb dX4_loaves_54 rfl (lv_at hl 3 rfl) ?_
            refine lv_iadd hx hb dX4_loaves_55 ?_
            obtain ⟨v9, ev9, h⟩ := obind h
            refine g_endi (va_runV (As := [.int x1, .int x2, .int (0 : Int32), .int (0 : Int32), .int (v8 + x3_5)]) (rest := []) ⟨hx, hb, hml, hown, hts⟩ (k_X1_steps l D cy ad P Dr tI hX (b := P) hP I L x1 x2 (0 : Int32) (0 : Int32) (v8 + x3_5) v9 ev9) (cwV 5 hts gX4_loaves_X1_steps rfl rfl rfl cd_X1_steps ⟨Nat.le_of_ble_eq_true rfl, Nat.le_of_ble_eq_true rfl⟩) ⟨g_blind cZm, g_recv hK hG (k := P) hP.1.1 (cE_1 hP.1 _ _) vwCl_1, g_pre cZm hK hG hZ hS⟩ rfl rfl hl.1 rfl (lv_room (Nat.le_of_ble_eq_true rfl)) dX4_loaves_56 ⟨Nat.le_refl _, Nat.le_refl _⟩) hS (fun H locs hG hS => ?_)
            refine lv_aload_n hx hb dX4_loaves_59 rfl (lv_at hl 0 rfl) ?_
            refine g_get hx hb l4 hown hK hG (k := 0) (by decide) (cE_4 _ _) vwCl_4 7 (by decide) k2 (fun _ h9 => h9) rfl dX4_loaves_60 ?_
            refine g_get hx hb l1 hown hK hG (k := P) hP.1.1 (cE_1 hP.1 _ _) vwCl_1 0 (by decide) k3 (fun _ h9 => h9) rfl dX4_loaves_63 ?_
            refine lv_icmp_gt (tgt := 71) hx hb dX4_loaves_66 (by decide) (fun c10 => ?_) (fun c10 => ?_)
            · have h := ite_t h c10
              refine lv_iinc (v := (x3_5 + (1 : Int32))) (lv' := [(3, .int (x3_5 + (1 : Int32))), (0, .ref (ad 0)), (1, .int x1), (2, .int x2)]) hx hb dX4_loaves_71 hl (k := 3) rfl rfl (by decide) rfl (fun ls hl => ?_)
              refine lv_goto (tgt := 25) hx hb dX4_loaves_74 (by decide) ?_
              exact ihn5 (x3_5 + (1 : Int32)) _ _ _ h hG hS (lv_sub hl [1, 2, 3, 0] rfl)
            · have h := ite_f h c10
              refine lv_iload_n hx hb dX4_loaves_69 rfl (lv_at hl 3 rfl) ?_
              have h := Option.some.inj h
              subst h
              subst hQ
              exact g_iret hx hb hr hlocks cZm hK hZ hG hS rfl dX4_loaves_70
      refine keyK4 _ (fun H locs ls h hG hS hl => ?_) bigF (0 : Int32) _ _ _ h hG hS (lv_sub hl [1, 2, 3, 0] rfl)
      clear keyK4
      refine lv_bipush (v := (-9 : Int32)) hx hb dX4_loaves_77 (by decide) ?_
      have h := Option.some.inj h
      subst h
      subst hQ
      exact g_iret hx hb hr hlocks cZm hK hZ hG hS rfl dX4_loaves_79
    · have h := ite_f h c3
      refine lv_bipush (v := (-4 : Int32)) hx hb dX4_loaves_20 (by decide) ?_
      have h := Option.some.inj h
      subst h
      subst hQ
      exact g_iret hx hb hr hlocks cZm hK hZ hG hS rfl dX4_loaves_22
  · have h := ite_f h c1
    refine lv_iconst (v := (-1 : Int32)) hx hb dX4_loaves_9 (by decide) ?_
    have h := Option.some.inj h
    subst h
    subst hQ
    exact g_iret hx hb hr hlocks cZm hK hZ hG hS rfl dX4_loaves_10
def X4_spread (P : Nat) (I : xMem) : Option (xMem) := (X4_findWays P I).bind fun q1 => (X0_top 17 q1).bind fun v2 => (X0_stonesUp 17 q1).bind fun v3 => (X3_spread q1 v2 v3 (X1_allStones P q1)).bind fun q4 => some q4
abbrev rm_X4_spread : Room := { frames := 4, cells := 0, slots := 0, locals := 100 }
theorem cd_X4_spread : yX4_spread.cls = RX4 ∧ yX4_spread.cls ≠ "java/lang/invoke/MethodHandle" ∧ yX4_spread.cls ≠ "java/lang/invoke/VarHandle" ∧ (parseMethodDescriptor yX4_spread.desc).map (fun d => d.parameters.length) = some 0 := by decide +kernel
set_option maxHeartbeats 4000000 in
set_option maxRecDepth 100000 in
theorem k_X4_spread (l : Launch) (D : va_G) (cy : Nat → ClassId) (ad : Nat → Nat) (P Dr : Nat) (tI : xTab) (hX : cOk ad P Dr) (I : xMem) (L : xLon)  (r : xMem) (h : X4_spread P I = some r) : Met l yX4_spread wsX4_spread rm_X4_spread (va_Pc [.ref (ad 0)] (cW D cy ad P Dr tI I L)) (cPv D cy ad P Dr tI r L) 0 0 (gA 64 ad) := by
  refine g_met (own := RX4) (cc := cX4_spread) (maxL := 1) (ret := none) (by decide) rfl (Nat.le_of_ble_eq_true rfl) rfl ?_
  intro p e s m args below meth c ls hx hb hml hr hlocks hown hts hG hK hZ hl
  generalize hQ : MQ below _ args s 0 0 _ = Q
  have hl : lv_has ls 1 [(0, .ref (ad 0))] := hl
  have hS : va_S (gA 64 ad) s.heap s.heap [] := va_S.rf
  obtain ⟨hi, hP, hDr⟩ := id hX
  have l4 : ∀ w ∈ wsX40, w.before args s = true := fun w h => hts w (List.mem_cons_of_mem _ (List.mem_append_left _ (List.mem_append_left _ (List.mem_append_left _ (List.mem_append_right _ h)))))
  have k1 := hts (.fieldLink RX4 39 "PairStairs" "ways" "LPairStairs$Ways;") (by decide +kernel)
  have k2 := hts (.fieldLink RX4 24 "PairStairs" "deeds" "LPairStairs$Deeds;") (by decide +kernel)
  have k3 := hts (.fieldLink RX4 50 "PairStairs" "plan" "LPairStairs$Plan;") (by decide +kernel)
  unfold X4_spread at h
  refine lv_aload_n hx hb dX4_spread_0 rfl (lv_at hl 0 rfl) ?_
  obtain ⟨q1, eq1, h⟩ := obind h
  refine g_endv (va_runV (As := []) (rest := []) ⟨hx, hb, hml, hown, hts⟩ (k_X4_findWays l D cy ad P Dr tI hX I L q1 eq1) (cwV 0 hts gX4_spread_X4_findWays rfl rfl rfl cd_X4_findWays ⟨Nat.le_of_ble_eq_true rfl, Nat.le_of_ble_eq_true rfl⟩) ⟨g_blind cZm, g_recv hK hG (k := 0) (by decide) (cE_4 _ _) vwCl_4, g_pre cZm hK hG hZ hS⟩ rfl rfl hl.1 rfl (lv_room (Nat.le_of_ble_eq_true rfl)) dX4_spread_1 ⟨Nat.le_refl _, Nat.le_refl _⟩) hS (fun H locs hG hS => ?_)
  refine lv_aload_n hx hb dX4_spread_4 rfl (lv_at hl 0 rfl) ?_
  refine g_get hx hb l4 hown hK hG (k := 0) (by decide) (cE_4 _ _) vwCl_4 5 (by decide) k1 (fun _ h9 => h9) rfl dX4_spread_5 ?_
  refine lv_aload_n hx hb dX4_spread_8 rfl (lv_at hl 0 rfl) ?_
  refine g_get hx hb l4 hown hK hG (k := 0) (by decide) (cE_4 _ _) vwCl_4 2 (by decide) k2 (fun _ h9 => h9) rfl dX4_spread_9 ?_
  obtain ⟨v2, ev2, h⟩ := obind h
  refine g_endi (va_runV (As := []) (rest := [.ref (ad 39)]) ⟨hx, hb, hml, hown, hts⟩ (k_X0_top l D cy ad P Dr tI hX (b := 17) cDeeds_17 q1 L v2 ev2) (cwV 0 hts gX4_spread_X0_top rfl rfl rfl cd_X0_top ⟨Nat.le_of_ble_eq_true rfl, Nat.le_of_ble_eq_true rfl⟩) ⟨g_blind cZm, g_recv hK hG (k := 17) cDeeds_17.1.1 (cE_0 cDeeds_17.1 _ _) vwCl_0, g_pre cZm hK hG hZ hS⟩ rfl rfl hl.1 rfl (lv_room (Nat.le_of_ble_eq_true rfl)) dX4_spread_12 ⟨Nat.le_refl _, Nat.le_refl _⟩) hS (fun H locs hG hS => ?_)
  refine lv_aload_n hx hb dX4_spread_15 rfl (lv_at hl 0 rfl) ?_
  refine g_get hx hb l4 hown hK hG (k := 0) (by decide) (cE_4 _ _) vwCl_4 2 (by decide) k2 (fun _ h9 => h9) rfl dX4_spread_16 ?_
  obtain ⟨v3, ev3, h⟩ := obind h
  refine g_endi (va_runV (As := []) (rest := [.int v2, .ref (ad 39)]) ⟨hx, hb, hml, hown, hts⟩ (k_X0_stonesUp l D cy ad P Dr tI hX (b := 17) cDeeds_17 q1 L v3 ev3) (cwV 0 hts gX4_spread_X0_stonesUp rfl rfl rfl cd_X0_stonesUp ⟨Nat.le_of_ble_eq_true rfl, Nat.le_of_ble_eq_true rfl⟩) ⟨g_blind cZm, g_recv hK hG (k := 17) cDeeds_17.1.1 (cE_0 cDeeds_17.1 _ _) vwCl_0, g_pre cZm hK hG hZ hS⟩ rfl rfl hl.1 rfl (lv_room (Nat.le_of_ble_eq_true rfl)) dX4_spread_19 ⟨Nat.le_refl _, Nat.le_refl _⟩) hS (fun H locs hG hS => ?_)
  refine lv_aload_n hx hb dX4_spread_22 rfl (lv_at hl 0 rfl) ?_
  refine g_get hx hb l4 hown hK hG (k := 0) (by decide) (cE_4 _ _) vwCl_4 7 (by decide) k3 (fun _ h9 => h9) rfl dX4_spread_23 ?_
  refine g_endi (va_runV (As := []) (rest := [.int v3, .int v2, .ref (ad 39)]) ⟨hx, hb, hml, hown, hts⟩ (k_X1_allStones l D cy ad P Dr tI hX (b := P) hP q1 L _ rfl) (cwV 0 hts gX4_spread_X1_allStones rfl rfl rfl cd_X1_allStones ⟨Nat.le_of_ble_eq_true rfl, Nat.le_of_ble_eq_true rfl⟩) ⟨g_blind cZm, g_recv hK hG (k := P) hP.1.1 (cE_1 hP.1 _ _) vwCl_1, g_pre cZm hK hG hZ hS⟩ rfl rfl hl.1 rfl (lv_room (Nat.le_of_ble_eq_true rfl)) dX4_spread_26 ⟨Nat.le_refl _, Nat.le_refl _⟩) hS (fun H locs hG hS => ?_)
  obtain ⟨q4, eq4, h⟩ := obind h
  refine g_endv (va_runV (As := [.int v2, .int v3, .int (X1_allStones P q1)]) (rest := []) ⟨hx, hb, hml, hown, hts⟩ (k_X3_spread l D cy ad P Dr tI hX q1 L v2 v3 (X1_allStones P q1) q4 eq4) (cwV 3 hts gX4_spread_X3_spread rfl rfl rfl cd_X3_spread ⟨Nat.le_of_ble_eq_true rfl, Nat.le_of_ble_eq_true rfl⟩) ⟨g_blind cZm, g_recv hK hG (k := 39) (by decide) (cE_3 _ _) vwCl_3, g_pre cZm hK hG hZ hS⟩ rfl rfl hl.1 rfl (lv_room (Nat.le_of_ble_eq_true rfl)) dX4_spread_29 ⟨Nat.le_refl _, Nat.le_refl _⟩) hS (fun H locs hG hS => ?_)
  have h := Option.some.inj h
  subst h
  subst hQ
  exact g_vret hx hb hr hlocks cZm hK hZ hG hS dX4_spread_32
def X4_fewestGoes (P : Nat) (I : xMem) (x1 : Int32) (x2 : Int32) : Option (Int32 × xMem) := (X4_spread P I).bind fun q1 => (X3_nearest q1 x1 x2).bind fun v2 => if v2 = (-9 : Int32) then (some ((-9 : Int32), q1)) else ((rdI q1 41 1024 v2).bind fun v4 => (if v4 = (0 : Int32) then (some (-9 : Int32)) else ((rdI q1 42 1024 v2).bind fun v7 => some v7)).bind fun q5 => (some (wr q1 0 10 q5)).bind fun I8 => (rdI I8 41 1024 v2).bind fun v9 => some (v9, I8))
abbrev rm_X4_fewestGoes : Room := { frames := 5, cells := 0, slots := 0, locals := 120 }
theorem cd_X4_fewestGoes : yX4_fewestGoes.cls = RX4 ∧ yX4_fewestGoes.cls ≠ "java/lang/invoke/MethodHandle" ∧ yX4_fewestGoes.cls ≠ "java/lang/invoke/VarHandle" ∧ (parseMethodDescriptor yX4_fewestGoes.desc).map (fun d => d.parameters.length) = some 2 := by decide +kernel
set_option maxHeartbeats 4000000 in
set_option maxRecDepth 100000 in
theorem k_X4_fewestGoes (l : Launch) (D : va_G) (cy : Nat → ClassId) (ad : Nat → Nat) (P Dr : Nat) (tI : xTab) (hX : cOk ad P Dr) (I : xMem) (L : xLon) (x1 : Int32) (x2 : Int32) (r : Int32 × xMem) (h : X4_fewestGoes P I x1 x2 = some r) : Met l yX4_fewestGoes wsX4_fewestGoes rm_X4_fewestGoes (va_Pc [.ref (ad 0), .int x1, .int x2] (cW D cy ad P Dr tI I L)) (cPi D cy ad P Dr tI r.2 L r.1) 0 0 (gA 64 ad) := by
  refine g_met (own := RX4) (cc := cX4_fewestGoes) (maxL := 4) (ret := (some .int)) (by decide) rfl (Nat.le_of_ble_eq_true rfl) rfl ?_
  intro p e s m args below meth c ls hx hb hml hr hlocks hown hts hG hK hZ hl
  generalize hQ : MQ below _ args s 0 0 _ = Q
  have hl : lv_has ls 4 [(0, .ref (ad 0)), (1, .int x1), (2, .int x2)] := hl
  have hS : va_S (gA 64 ad) s.heap s.heap [] := va_S.rf
  obtain ⟨hi, hP, hDr⟩ := id hX
  have l3 : ∀ w ∈ wsX30, w.before args s = true := fun w h => hts w (List.mem_cons_of_mem _ (List.mem_append_left _ (List.mem_append_left _ (List.mem_append_right _ h))))
  have l4 : ∀ w ∈ wsX40, w.before args s = true := fun w h => hts w (List.mem_cons_of_mem _ (List.mem_append_left _ (List.mem_append_left _ (List.mem_append_left _ (List.mem_append_right _ h)))))
  have k1 := hts (.fieldLink RX4 39 "PairStairs" "ways" "LPairStairs$Ways;") (by decide +kernel)
  have k2 := hts (.fieldLink RX4 321 "PairStairs$Ways" "distance" "[I") (by decide +kernel)
  have k3 := hts (.fieldLink RX4 324 "PairStairs$Ways" "first" "[I") (by decide +kernel)
  have k4 := hts (.fieldLink RX4 72 "PairStairs" "told" "I") (by decide +kernel)
  unfold X4_fewestGoes at h
  refine lv_aload_n hx hb dX4_fewestGoes_0 rfl (lv_at hl 0 rfl) ?_
  obtain ⟨q1, eq1, h⟩ := obind h
  refine g_endv (va_runV (As := []) (rest := []) ⟨hx, hb, hml, hown, hts⟩ (k_X4_spread l D cy ad P Dr tI hX I L q1 eq1) (cwV 0 hts gX4_fewestGoes_X4_spread rfl rfl rfl cd_X4_spread ⟨Nat.le_of_ble_eq_true rfl, Nat.le_of_ble_eq_true rfl⟩) ⟨g_blind cZm, g_recv hK hG (k := 0) (by decide) (cE_4 _ _) vwCl_4, g_pre cZm hK hG hZ hS⟩ rfl rfl hl.1 rfl (lv_room (Nat.le_of_ble_eq_true rfl)) dX4_fewestGoes_1 ⟨Nat.le_refl _, Nat.le_refl _⟩) hS (fun H locs hG hS => ?_)
  refine lv_aload_n hx hb dX4_fewestGoes_4 rfl (lv_at hl 0 rfl) ?_
  refine g_get hx hb l4 hown hK hG (k := 0) (by decide) (cE_4 _ _) vwCl_4 5 (by decide) k1 (fun _ h9 => h9) rfl dX4_fewestGoes_5 ?_
  refine lv_iload_n hx hb dX4_fewestGoes_8 rfl (lv_at hl 1 rfl) ?_
  refine lv_iload_n hx hb dX4_fewestGoes_9 rfl (lv_at hl 2 rfl) ?_
  obtain ⟨v2, ev2, h⟩ := obind h
  refine g_endi (va_runV (As := [.int x1, .int x2]) (rest := []) ⟨hx, hb, hml, hown, hts⟩ (k_X3_nearest l D cy ad P Dr tI hX q1 L x1 x2 v2 ev2) (cwV 2 hts gX4_fewestGoes_X3_nearest rfl rfl rfl cd_X3_nearest ⟨Nat.le_of_ble_eq_true rfl, Nat.le_of_ble_eq_true rfl⟩) ⟨g_blind cZm, g_recv hK hG (k := 39) (by decide) (cE_3 _ _) vwCl_3, g_pre cZm hK hG hZ hS⟩ rfl rfl hl.1 rfl (lv_room (Nat.le_of_ble_eq_true rfl)) dX4_fewestGoes_10 ⟨Nat.le_refl _, Nat.le_refl _⟩) hS (fun H locs hG hS => ?_)
  refine lv_istore_n (lv' := [(3, .int v2), (0, .ref (ad 0)), (1, .int x1), (2, .int x2)]) hx hb dX4_fewestGoes_13 rfl hl (by decide) rfl (fun ls hl => ?_)
  refine lv_iload_n hx hb dX4_fewestGoes_14 rfl (lv_at hl 0 rfl) ?_
  refine lv_bipush (v := (-9 : Int32)) hx hb dX4_fewestGoes_15 (by decide) ?_
  refine lv_icmp_ne (tgt := 23) hx hb dX4_fewestGoes_17 (by decide) (fun c3 => ?_) (fun c3 => ?_)
  · have h := ite_f h c3
    refine lv_aload_n hx hb dX4_fewestGoes_23 rfl (lv_at hl 1 rfl) ?_
    refine lv_aload_n hx hb dX4_fewestGoes_24 rfl (lv_at hl 1 rfl) ?_
    refine g_get hx hb l4 hown hK hG (k := 0) (by decide) (cE_4 _ _) vwCl_4 5 (by decide) k1 (fun _ h9 => h9) rfl dX4_fewestGoes_25 ?_
    refine g_get hx hb l3 hown hK hG (k := 39) (by decide) (cE_3 _ _) vwCl_3 2 (by decide) k2 (fun _ h9 => h9) rfl dX4_fewestGoes_28 ?_
    refine lv_iload_n hx hb dX4_fewestGoes_31 rfl (lv_at hl 0 rfl) ?_
    refine g_ald hx hb hK hG (k := 41) (n := 1024) (show cIA 41 1024 from by decide +kernel).1.1 (cIA_e (show cIA 41 1024 from by decide +kernel) _ _) 0 rfl h dX4_fewestGoes_32 (fun v4 h => ?_)
    obtain ⟨q5, h9, h⟩ := obind h
    have hk_q5 : ∀ (H : Heap) (locs : List Loc) (ls : Array Slot), cG D cy ad P Dr q1 L H → va_S (gA 64 ad) s.heap H locs → lv_has ls 4 [(0, .ref (ad 0)), (3, .int v2)] → W p l e rm_X4_fewestGoes s m args below meth c H locs 0 0 Q (F0 m 50 ls [.int q5, .ref (ad 0)]) := by
      intro H locs ls hG hS hl
      obtain ⟨I8, eI8, h⟩ := obind h
      refine g_put hx hb l4 tyX4_ok nmX4 hown hK hG hi hS (k := 0) (by decide) (cE_4 _ _) vwCl_4 10 (by decide) k4 (fun _ h9 => h9) rfl rfl (Nat.le_of_ble_eq_true rfl) (by rw [cE_4 _ _]; rfl) dX4_fewestGoes_50 (fun H locs hG hS => ?_)
      rw [Option.some.inj eI8] at hG
      refine lv_aload_n hx hb dX4_fewestGoes_53 rfl (lv_at hl 0 rfl) ?_
      refine g_get hx hb l4 hown hK hG (k := 0) (by decide) (cE_4 _ _) vwCl_4 5 (by decide) k1 (fun _ h9 => h9) rfl dX4_fewestGoes_54 ?_
      refine g_get hx hb l3 hown hK hG (k := 39) (by decide) (cE_3 _ _) vwCl_3 2 (by decide) k2 (fun _ h9 => h9) rfl dX4_fewestGoes_57 ?_
      refine lv_iload_n hx hb dX4_fewestGoes_60 rfl (lv_at hl 1 rfl) ?_
      refine g_ald hx hb hK hG (k := 41) (n := 1024) (show cIA 41 1024 from by decide +kernel).1.1 (cIA_e (show cIA 41 1024 from by decide +kernel) _ _) 0 rfl h dX4_fewestGoes_61 (fun v9 h => ?_)
      have h := Option.some.inj h
      subst h
      subst hQ
      exact g_iret hx hb hr hlocks cZm hK hZ hG hS rfl dX4_fewestGoes_62
    clear h
    have h := h9
    clear h9
    refine lv_if_ne (tgt := 41) hx hb dX4_fewestGoes_33 (by decide) (fun c6 => ?_) (fun c6 => ?_)
    · have h := ite_f h c6
      refine lv_aload_n hx hb dX4_fewestGoes_41 rfl (lv_at hl 1 rfl) ?_
      refine g_get hx hb l4 hown hK hG (k := 0) (by decide) (cE_4 _ _) vwCl_4 5 (by decide) k1 (fun _ h9 => h9) rfl dX4_fewestGoes_42 ?_
      refine g_get hx hb l3 hown hK hG (k := 39) (by decide) (cE_3 _ _) vwCl_3 3 (by decide) k3 (fun _ h9 => h9) rfl dX4_fewestGoes_45 ?_
      refine lv_iload_n hx hb dX4_fewestGoes_48 rfl (lv_at hl 0 rfl) ?_
      refine g_ald hx hb hK hG (k := 42) (n := 1024) (show cIA 42 1024 from by decide +kernel).1.1 (cIA_e (show cIA 42 1024 from by decide +kernel) _ _) 0 rfl h dX4_fewestGoes_49 (fun v7 h => ?_)
      have h := Option.some.inj h
      subst h
      exact hk_q5 _ _ _ hG hS (lv_sub hl [1, 0] rfl)
    · have h := ite_t h c6
      refine lv_bipush (v := (-9 : Int32)) hx hb dX4_fewestGoes_36 (by decide) ?_
      refine lv_goto (tgt := 50) hx hb dX4_fewestGoes_38 (by decide) ?_
      have h := Option.some.inj h
      subst h
      exact hk_q5 _ _ _ hG hS (lv_sub hl [1, 0] rfl)
  · have h := ite_t h c3
    refine lv_bipush (v := (-9 : Int32)) hx hb dX4_fewestGoes_20 (by decide) ?_
    have h := Option.some.inj h
    subst h
    subst hQ
    exact g_iret hx hb hr hlocks cZm hK hZ hG hS rfl dX4_fewestGoes_22
def X4_isNoGroup (P : Nat) (I : xMem) (x1 : Int32) : Int32 := if x1 < (0 : Int32) then ((nz (1 : Int32))) else (if x1 < ((1 : Int32) <<< ((I P 2) &&& 31)) then ((nz (0 : Int32))) else ((nz (1 : Int32))))
abbrev rm_X4_isNoGroup : Room := { frames := 0, cells := 0, slots := 0, locals := 0 }
theorem cd_X4_isNoGroup : yX4_isNoGroup.cls = RX4 ∧ yX4_isNoGroup.cls ≠ "java/lang/invoke/MethodHandle" ∧ yX4_isNoGroup.cls ≠ "java/lang/invoke/VarHandle" ∧ (parseMethodDescriptor yX4_isNoGroup.desc).map (fun d => d.parameters.length) = some 1 := by decide +kernel
set_option maxHeartbeats 4000000 in
set_option maxRecDepth 100000 in
theorem k_X4_isNoGroup (l : Launch) (D : va_G) (cy : Nat → ClassId) (ad : Nat → Nat) (P Dr : Nat) (tI : xTab) (hX : cOk ad P Dr) (I : xMem) (L : xLon) (x1 : Int32) (r : Int32) (h : X4_isNoGroup P I x1 = r) : Met l yX4_isNoGroup wsX4_isNoGroup rm_X4_isNoGroup (va_Pc [.ref (ad 0), .int x1] (cW D cy ad P Dr tI I L)) (cPi D cy ad P Dr tI I L r) 0 0 (gA 64 ad) := by
  refine g_met (own := RX4) (cc := cX4_isNoGroup) (maxL := 2) (ret := (some .boolean)) (by decide) rfl (Nat.le_of_ble_eq_true rfl) rfl ?_
  intro p e s m args below meth c ls hx hb hml hr hlocks hown hts hG hK hZ hl
  generalize hQ : MQ below _ args s 0 0 _ = Q
  have hl : lv_has ls 2 [(0, .ref (ad 0)), (1, .int x1)] := hl
  have hS : va_S (gA 64 ad) s.heap s.heap [] := va_S.rf
  obtain ⟨hi, hP, hDr⟩ := id hX
  have l1 : ∀ w ∈ wsX10, w.before args s = true := fun w h => hts w (List.mem_cons_of_mem _ (List.mem_append_right _ h))
  have l4 : ∀ w ∈ wsX40, w.before args s = true := fun w h => hts w (List.mem_cons_of_mem _ (List.mem_append_left _ (List.mem_append_right _ h)))
  have k1 := hts (.fieldLink RX4 50 "PairStairs" "plan" "LPairStairs$Plan;") (by decide +kernel)
  have k2 := hts (.fieldLink RX4 115 "PairStairs$Plan" "people" "I") (by decide +kernel)
  unfold X4_isNoGroup at h
  refine lv_iload_n hx hb dX4_isNoGroup_0 rfl (lv_at hl 1 rfl) ?_
  refine lv_if_lt (tgt := 17) hx hb dX4_isNoGroup_1 (by decide) (fun c1 => ?_) (fun c1 => ?_)
  · have h := ite_t h c1
    refine lv_iconst (v := (1 : Int32)) hx hb dX4_isNoGroup_17 (by decide) ?_
    refine lv_goto (tgt := 22) hx hb dX4_isNoGroup_18 (by decide) ?_
    subst h
    subst hQ
    exact g_zret hx hb hr hlocks cZm hK hZ hG hS rfl dX4_isNoGroup_22
  · have h := ite_f h c1
    refine lv_iload_n hx hb dX4_isNoGroup_4 rfl (lv_at hl 1 rfl) ?_
    refine lv_iconst (v := (1 : Int32)) hx hb dX4_isNoGroup_5 (by decide) ?_
    refine lv_aload_n hx hb dX4_isNoGroup_6 rfl (lv_at hl 0 rfl) ?_
    refine g_get hx hb l4 hown hK hG (k := 0) (by decide) (cE_4 _ _) vwCl_4 7 (by decide) k1 (fun _ h9 => h9) rfl dX4_isNoGroup_7 ?_
    refine g_get hx hb l1 hown hK hG (k := P) hP.1.1 (cE_1 hP.1 _ _) vwCl_1 2 (by decide) k2 (fun _ h9 => h9) rfl dX4_isNoGroup_10 ?_
    refine lv_ishl hx hb dX4_isNoGroup_13 ?_
    refine lv_icmp_lt (tgt := 21) hx hb dX4_isNoGroup_14 (by decide) (fun c2 => ?_) (fun c2 => ?_)
    · have h := ite_t h c2
      refine lv_iconst (v := (0 : Int32)) hx hb dX4_isNoGroup_21 (by decide) ?_
      subst h
      subst hQ
      exact g_zret hx hb hr hlocks cZm hK hZ hG hS rfl dX4_isNoGroup_22
    · have h := ite_f h c2
      refine lv_iconst (v := (1 : Int32)) hx hb dX4_isNoGroup_17 (by decide) ?_
      refine lv_goto (tgt := 22) hx hb dX4_isNoGroup_18 (by decide) ?_
      subst h
      subst hQ
      exact g_zret hx hb hr hlocks cZm hK hZ hG hS rfl dX4_isNoGroup_22
def X4_up (P : Nat) (I : xMem) (x1 : Int32) : Option (Int32 × xMem) := if (X4_isNoGroup P I x1) = (0 : Int32) then ((X4_fewestGoes P I x1 x1).bind fun q2 => some (q2.1, q2.2)) else (some ((-1 : Int32), I))
abbrev rm_X4_up : Room := { frames := 6, cells := 0, slots := 0, locals := 143 }
theorem cd_X4_up : yX4_up.cls = RX4 ∧ yX4_up.cls ≠ "java/lang/invoke/MethodHandle" ∧ yX4_up.cls ≠ "java/lang/invoke/VarHandle" ∧ (parseMethodDescriptor yX4_up.desc).map (fun d => d.parameters.length) = some 1 := by decide +kernel
set_option maxHeartbeats 4000000 in
set_option maxRecDepth 100000 in
theorem k_X4_up (l : Launch) (D : va_G) (cy : Nat → ClassId) (ad : Nat → Nat) (P Dr : Nat) (tI : xTab) (hX : cOk ad P Dr) (I : xMem) (L : xLon) (x1 : Int32) (r : Int32 × xMem) (h : X4_up P I x1 = some r) : Met l yX4_up wsX4_up rm_X4_up (va_Pc [.ref (ad 0), .int x1] (cW D cy ad P Dr tI I L)) (cPi D cy ad P Dr tI r.2 L r.1) 0 0 (gA 64 ad) := by
  refine g_met (own := RX4) (cc := cX4_up) (maxL := 2) (ret := (some .int)) (by decide) rfl (Nat.le_of_ble_eq_true rfl) rfl ?_
  intro p e s m args below meth c ls hx hb hml hr hlocks hown hts hG hK hZ hl
  generalize hQ : MQ below _ args s 0 0 _ = Q
  have hl : lv_has ls 2 [(0, .ref (ad 0)), (1, .int x1)] := hl
  have hS : va_S (gA 64 ad) s.heap s.heap [] := va_S.rf
  obtain ⟨hi, hP, hDr⟩ := id hX
  unfold X4_up at h
  refine lv_aload_n hx hb dX4_up_0 rfl (lv_at hl 0 rfl) ?_
  refine lv_iload_n hx hb dX4_up_1 rfl (lv_at hl 1 rfl) ?_
  refine g_endi (va_runV (As := [.int x1]) (rest := []) ⟨hx, hb, hml, hown, hts⟩ (k_X4_isNoGroup l D cy ad P Dr tI hX I L x1 _ rfl) (cwV 1 hts gX4_up_X4_isNoGroup rfl rfl rfl cd_X4_isNoGroup ⟨Nat.le_of_ble_eq_true rfl, Nat.le_of_ble_eq_true rfl⟩) ⟨g_blind cZm, g_recv hK hG (k := 0) (by decide) (cE_4 _ _) vwCl_4, g_pre cZm hK hG hZ hS⟩ rfl rfl hl.1 rfl (lv_room (Nat.le_of_ble_eq_true rfl)) dX4_up_2 ⟨Nat.le_refl _, Nat.le_refl _⟩) hS (fun H locs hG hS => ?_)
  refine lv_if_eq (tgt := 12) hx hb dX4_up_5 (by decide) (fun c1 => ?_) (fun c1 => ?_)
  · have h := ite_t h c1
    refine lv_aload_n hx hb dX4_up_12 rfl (lv_at hl 0 rfl) ?_
    refine lv_iload_n hx hb dX4_up_13 rfl (lv_at hl 1 rfl) ?_
    refine lv_iload_n hx hb dX4_up_14 rfl (lv_at hl 1 rfl) ?_
    obtain ⟨q2, eq2, h⟩ := obind h
    refine g_endi (va_runV (As := [.int x1, .int x1]) (rest := []) ⟨hx, hb, hml, hown, hts⟩ (k_X4_fewestGoes l D cy ad P Dr tI hX I L x1 x1 q2 eq2) (cwV 2 hts gX4_up_X4_fewestGoes rfl rfl rfl cd_X4_fewestGoes ⟨Nat.le_of_ble_eq_true rfl, Nat.le_of_ble_eq_true rfl⟩) ⟨g_blind cZm, g_recv hK hG (k := 0) (by decide) (cE_4 _ _) vwCl_4, g_pre cZm hK hG hZ hS⟩ rfl rfl hl.1 rfl (lv_room (Nat.le_of_ble_eq_true rfl)) dX4_up_15 ⟨Nat.le_refl _, Nat.le_refl _⟩) hS (fun H locs hG hS => ?_)
    have h := Option.some.inj h
    subst h
    subst hQ
    exact g_iret hx hb hr hlocks cZm hK hZ hG hS rfl dX4_up_18
  · have h := ite_f h c1
    refine lv_iconst (v := (-1 : Int32)) hx hb dX4_up_8 (by decide) ?_
    refine lv_goto (tgt := 18) hx hb dX4_up_9 (by decide) ?_
    have h := Option.some.inj h
    subst h
    subst hQ
    exact g_iret hx hb hr hlocks cZm hK hZ hG hS rfl dX4_up_18
def X4_down (P : Nat) (I : xMem) (x1 : Int32) : Option (Int32 × xMem) := if (X4_isNoGroup P I x1) = (0 : Int32) then ((X4_fewestGoes P I x1 (0 : Int32)).bind fun q2 => some (q2.1, q2.2)) else (some ((-1 : Int32), I))
abbrev rm_X4_down : Room := { frames := 6, cells := 0, slots := 0, locals := 143 }
theorem cd_X4_down : yX4_down.cls = RX4 ∧ yX4_down.cls ≠ "java/lang/invoke/MethodHandle" ∧ yX4_down.cls ≠ "java/lang/invoke/VarHandle" ∧ (parseMethodDescriptor yX4_down.desc).map (fun d => d.parameters.length) = some 1 := by decide +kernel
set_option maxHeartbeats 4000000 in
set_option maxRecDepth 100000 in
theorem k_X4_down (l : Launch) (D : va_G) (cy : Nat → ClassId) (ad : Nat → Nat) (P Dr : Nat) (tI : xTab) (hX : cOk ad P Dr) (I : xMem) (L : xLon) (x1 : Int32) (r : Int32 × xMem) (h : X4_down P I x1 = some r) : Met l yX4_down wsX4_down rm_X4_down (va_Pc [.ref (ad 0), .int x1] (cW D cy ad P Dr tI I L)) (cPi D cy ad P Dr tI r.2 L r.1) 0 0 (gA 64 ad) := by
  refine g_met (own := RX4) (cc := cX4_down) (maxL := 2) (ret := (some .int)) (by decide) rfl (Nat.le_of_ble_eq_true rfl) rfl ?_
  intro p e s m args below meth c ls hx hb hml hr hlocks hown hts hG hK hZ hl
  generalize hQ : MQ below _ args s 0 0 _ = Q
  have hl : lv_has ls 2 [(0, .ref (ad 0)), (1, .int x1)] := hl
  have hS : va_S (gA 64 ad) s.heap s.heap [] := va_S.rf
  obtain ⟨hi, hP, hDr⟩ := id hX
  unfold X4_down at h
  refine lv_aload_n hx hb dX4_down_0 rfl (lv_at hl 0 rfl) ?_
  refine lv_iload_n hx hb dX4_down_1 rfl (lv_at hl 1 rfl) ?_
  refine g_endi (va_runV (As := [.int x1]) (rest := []) ⟨hx, hb, hml, hown, hts⟩ (k_X4_isNoGroup l D cy ad P Dr tI hX I L x1 _ rfl) (cwV 1 hts gX4_down_X4_isNoGroup rfl rfl rfl cd_X4_isNoGroup ⟨Nat.le_of_ble_eq_true rfl, Nat.le_of_ble_eq_true rfl⟩) ⟨g_blind cZm, g_recv hK hG (k := 0) (by decide) (cE_4 _ _) vwCl_4, g_pre cZm hK hG hZ hS⟩ rfl rfl hl.1 rfl (lv_room (Nat.le_of_ble_eq_true rfl)) dX4_down_2 ⟨Nat.le_refl _, Nat.le_refl _⟩) hS (fun H locs hG hS => ?_)
  refine lv_if_eq (tgt := 12) hx hb dX4_down_5 (by decide) (fun c1 => ?_) (fun c1 => ?_)
  · have h := ite_t h c1
    refine lv_aload_n hx hb dX4_down_12 rfl (lv_at hl 0 rfl) ?_
    refine lv_iload_n hx hb dX4_down_13 rfl (lv_at hl 1 rfl) ?_
    refine lv_iconst (v := (0 : Int32)) hx hb dX4_down_14 (by decide) ?_
    obtain ⟨q2, eq2, h⟩ := obind h
    refine g_endi (va_runV (As := [.int x1, .int (0 : Int32)]) (rest := []) ⟨hx, hb, hml, hown, hts⟩ (k_X4_fewestGoes l D cy ad P Dr tI hX I L x1 (0 : Int32) q2 eq2) (cwV 2 hts gX4_down_X4_fewestGoes rfl rfl rfl cd_X4_fewestGoes ⟨Nat.le_of_ble_eq_true rfl, Nat.le_of_ble_eq_true rfl⟩) ⟨g_blind cZm, g_recv hK hG (k := 0) (by decide) (cE_4 _ _) vwCl_4, g_pre cZm hK hG hZ hS⟩ rfl rfl hl.1 rfl (lv_room (Nat.le_of_ble_eq_true rfl)) dX4_down_15 ⟨Nat.le_refl _, Nat.le_refl _⟩) hS (fun H locs hG hS => ?_)
    have h := Option.some.inj h
    subst h
    subst hQ
    exact g_iret hx hb hr hlocks cZm hK hZ hG hS rfl dX4_down_18
  · have h := ite_f h c1
    refine lv_iconst (v := (-1 : Int32)) hx hb dX4_down_8 (by decide) ?_
    refine lv_goto (tgt := 18) hx hb dX4_down_9 (by decide) ?_
    have h := Option.some.inj h
    subst h
    subst hQ
    exact g_iret hx hb hr hlocks cZm hK hZ hG hS rfl dX4_down_18
def X4_ever (P : Nat) (I : xMem) : Option (Int32 × xMem) := if (I P 2) = (0 : Int32) then (some ((-4 : Int32), I)) else ((X4_spread P I).bind fun q2 => (X0_top 17 q2).bind fun v3 => (X3_moved q2 v3).bind fun v4 => some (v4, q2))
abbrev rm_X4_ever : Room := { frames := 5, cells := 0, slots := 0, locals := 120 }
theorem cd_X4_ever : yX4_ever.cls = RX4 ∧ yX4_ever.cls ≠ "java/lang/invoke/MethodHandle" ∧ yX4_ever.cls ≠ "java/lang/invoke/VarHandle" ∧ (parseMethodDescriptor yX4_ever.desc).map (fun d => d.parameters.length) = some 0 := by decide +kernel
set_option maxHeartbeats 4000000 in
set_option maxRecDepth 100000 in
theorem k_X4_ever (l : Launch) (D : va_G) (cy : Nat → ClassId) (ad : Nat → Nat) (P Dr : Nat) (tI : xTab) (hX : cOk ad P Dr) (I : xMem) (L : xLon)  (r : Int32 × xMem) (h : X4_ever P I = some r) : Met l yX4_ever wsX4_ever rm_X4_ever (va_Pc [.ref (ad 0)] (cW D cy ad P Dr tI I L)) (cPi D cy ad P Dr tI r.2 L r.1) 0 0 (gA 64 ad) := by
  refine g_met (own := RX4) (cc := cX4_ever) (maxL := 1) (ret := (some .int)) (by decide) rfl (Nat.le_of_ble_eq_true rfl) rfl ?_
  intro p e s m args below meth c ls hx hb hml hr hlocks hown hts hG hK hZ hl
  generalize hQ : MQ below _ args s 0 0 _ = Q
  have hl : lv_has ls 1 [(0, .ref (ad 0))] := hl
  have hS : va_S (gA 64 ad) s.heap s.heap [] := va_S.rf
  obtain ⟨hi, hP, hDr⟩ := id hX
  have l1 : ∀ w ∈ wsX10, w.before args s = true := fun w h => hts w (List.mem_cons_of_mem _ (List.mem_append_left _ (List.mem_append_left _ (List.mem_append_right _ h))))
  have l4 : ∀ w ∈ wsX40, w.before args s = true := fun w h => hts w (List.mem_cons_of_mem _ (List.mem_append_left _ (List.mem_append_left _ (List.mem_append_left _ (List.mem_append_right _ h)))))
  have k1 := hts (.fieldLink RX4 50 "PairStairs" "plan" "LPairStairs$Plan;") (by decide +kernel)
  have k2 := hts (.fieldLink RX4 115 "PairStairs$Plan" "people" "I") (by decide +kernel)
  have k3 := hts (.fieldLink RX4 39 "PairStairs" "ways" "LPairStairs$Ways;") (by decide +kernel)
  have k4 := hts (.fieldLink RX4 24 "PairStairs" "deeds" "LPairStairs$Deeds;") (by decide +kernel)
  unfold X4_ever at h
  refine lv_aload_n hx hb dX4_ever_0 rfl (lv_at hl 0 rfl) ?_
  refine g_get hx hb l4 hown hK hG (k := 0) (by decide) (cE_4 _ _) vwCl_4 7 (by decide) k1 (fun _ h9 => h9) rfl dX4_ever_1 ?_
  refine g_get hx hb l1 hown hK hG (k := P) hP.1.1 (cE_1 hP.1 _ _) vwCl_1 2 (by decide) k2 (fun _ h9 => h9) rfl dX4_ever_4 ?_
  refine lv_if_ne (tgt := 13) hx hb dX4_ever_7 (by decide) (fun c1 => ?_) (fun c1 => ?_)
  · have h := ite_f h c1
    refine lv_aload_n hx hb dX4_ever_13 rfl (lv_at hl 0 rfl) ?_
    obtain ⟨q2, eq2, h⟩ := obind h
    refine g_endv (va_runV (As := []) (rest := []) ⟨hx, hb, hml, hown, hts⟩ (k_X4_spread l D cy ad P Dr tI hX I L q2 eq2) (cwV 0 hts gX4_ever_X4_spread rfl rfl rfl cd_X4_spread ⟨Nat.le_of_ble_eq_true rfl, Nat.le_of_ble_eq_true rfl⟩) ⟨g_blind cZm, g_recv hK hG (k := 0) (by decide) (cE_4 _ _) vwCl_4, g_pre cZm hK hG hZ hS⟩ rfl rfl hl.1 rfl (lv_room (Nat.le_of_ble_eq_true rfl)) dX4_ever_14 ⟨Nat.le_refl _, Nat.le_refl _⟩) hS (fun H locs hG hS => ?_)
    refine lv_aload_n hx hb dX4_ever_17 rfl (lv_at hl 0 rfl) ?_
    refine g_get hx hb l4 hown hK hG (k := 0) (by decide) (cE_4 _ _) vwCl_4 5 (by decide) k3 (fun _ h9 => h9) rfl dX4_ever_18 ?_
    refine lv_aload_n hx hb dX4_ever_21 rfl (lv_at hl 0 rfl) ?_
    refine g_get hx hb l4 hown hK hG (k := 0) (by decide) (cE_4 _ _) vwCl_4 2 (by decide) k4 (fun _ h9 => h9) rfl dX4_ever_22 ?_
    obtain ⟨v3, ev3, h⟩ := obind h
    refine g_endi (va_runV (As := []) (rest := [.ref (ad 39)]) ⟨hx, hb, hml, hown, hts⟩ (k_X0_top l D cy ad P Dr tI hX (b := 17) cDeeds_17 q2 L v3 ev3) (cwV 0 hts gX4_ever_X0_top rfl rfl rfl cd_X0_top ⟨Nat.le_of_ble_eq_true rfl, Nat.le_of_ble_eq_true rfl⟩) ⟨g_blind cZm, g_recv hK hG (k := 17) cDeeds_17.1.1 (cE_0 cDeeds_17.1 _ _) vwCl_0, g_pre cZm hK hG hZ hS⟩ rfl rfl hl.1 rfl (lv_room (Nat.le_of_ble_eq_true rfl)) dX4_ever_25 ⟨Nat.le_refl _, Nat.le_refl _⟩) hS (fun H locs hG hS => ?_)
    obtain ⟨v4, ev4, h⟩ := obind h
    refine g_endi (va_runV (As := [.int v3]) (rest := []) ⟨hx, hb, hml, hown, hts⟩ (k_X3_moved l D cy ad P Dr tI hX q2 L v3 v4 ev4) (cwV 1 hts gX4_ever_X3_moved rfl rfl rfl cd_X3_moved ⟨Nat.le_of_ble_eq_true rfl, Nat.le_of_ble_eq_true rfl⟩) ⟨g_blind cZm, g_recv hK hG (k := 39) (by decide) (cE_3 _ _) vwCl_3, g_pre cZm hK hG hZ hS⟩ rfl rfl hl.1 rfl (lv_room (Nat.le_of_ble_eq_true rfl)) dX4_ever_28 ⟨Nat.le_refl _, Nat.le_refl _⟩) hS (fun H locs hG hS => ?_)
    have h := Option.some.inj h
    subst h
    subst hQ
    exact g_iret hx hb hr hlocks cZm hK hZ hG hS rfl dX4_ever_31
  · have h := ite_t h c1
    refine lv_bipush (v := (-4 : Int32)) hx hb dX4_ever_10 (by decide) ?_
    have h := Option.some.inj h
    subst h
    subst hQ
    exact g_iret hx hb hr hlocks cZm hK hZ hG hS rfl dX4_ever_12
