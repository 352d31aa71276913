def X0_top (b : Nat) (I : xMem) : Option (Int32) := (rdI I (b + 1) 41 (I b 0)).bind fun v1 => some v1
abbrev rm_X0_top : Room := { frames := 0, cells := 0, slots := 0, locals := 0 }
theorem cd_X0_top : yX0_top.cls = RX0 ∧ yX0_top.cls ≠ "java/lang/invoke/MethodHandle" ∧ yX0_top.cls ≠ "java/lang/invoke/VarHandle" ∧ (parseMethodDescriptor yX0_top.desc).map (fun d => d.parameters.length) = some 0 := by decide +kernel
set_option maxHeartbeats 4000000 in
set_option maxRecDepth 100000 in
theorem k_X0_top (l : Launch) (D : va_G) (cy : Nat → ClassId) (ad : Nat → Nat) (P Dr : Nat) (tI : xTab) (hX : cOk ad P Dr) {b : Nat} (hB : cDeeds b) (I : xMem) (L : xLon)  (r : Int32) (h : X0_top b I = some r) : Met l yX0_top wsX0_top rm_X0_top (va_Pc [.ref (ad b)] (cW D cy ad P Dr tI I L)) (cPi D cy ad P Dr tI I L r) 0 0 (gA 64 ad) := by
  refine g_met (own := RX0) (cc := cX0_top) (maxL := 1) (ret := (some .int)) (by decide) rfl (Nat.le_of_ble_eq_true rfl) rfl ?_
  intro p e s m args below meth c ls hx hb hml hr hlocks hown hts hG hK hZ hl
  generalize hQ : MQ below _ args s 0 0 _ = Q
  have hl : lv_has ls 1 [(0, .ref (ad b))] := hl
  have hS : va_S (gA 64 ad) s.heap s.heap [] := va_S.rf
  obtain ⟨hi, hP, hDr⟩ := id hX
  have l0 : ∀ w ∈ wsX00, w.before args s = true := fun w h => hts w (List.mem_cons_of_mem _ (List.mem_append_right _ h))
  have k1 := hts (.fieldLink RX0 9 "PairStairs$Deeds" "people" "[I") (by decide +kernel)
  have k2 := hts (.fieldLink RX0 24 "PairStairs$Deeds" "done" "I") (by decide +kernel)
  unfold X0_top at h
  refine lv_aload_n hx hb dX0_top_0 rfl (lv_at hl 0 rfl) ?_
  refine g_get hx hb l0 hown hK hG (k := b) hB.1.1 (cE_0 hB.1 _ _) vwCl_0 1 (by decide) k1 (fun _ h9 => h9) rfl dX0_top_1 ?_
  refine lv_aload_n hx hb dX0_top_4 rfl (lv_at hl 0 rfl) ?_
  refine g_get hx hb l0 hown hK hG (k := b) hB.1.1 (cE_0 hB.1 _ _) vwCl_0 0 (by decide) k2 (fun _ h9 => h9) rfl dX0_top_5 ?_
  refine g_ald hx hb hK hG (k := (b + 1)) (n := 41) hB.2.1.1.1 (cIA_e hB.2.1 _ _) 0 rfl h dX0_top_8 (fun v1 h => ?_)
  have h := Option.some.inj h
  subst h
  subst hQ
  exact g_iret hx hb hr hlocks cZm hK hZ hG hS rfl dX0_top_9
def X0_eaten (b : Nat) (I : xMem) : Option (Int32) := (rdI I (b + 3) 41 (I b 0)).bind fun v1 => some v1
abbrev rm_X0_eaten : Room := { frames := 0, cells := 0, slots := 0, locals := 0 }
theorem cd_X0_eaten : yX0_eaten.cls = RX0 ∧ yX0_eaten.cls ≠ "java/lang/invoke/MethodHandle" ∧ yX0_eaten.cls ≠ "java/lang/invoke/VarHandle" ∧ (parseMethodDescriptor yX0_eaten.desc).map (fun d => d.parameters.length) = some 0 := by decide +kernel
set_option maxHeartbeats 4000000 in
set_option maxRecDepth 100000 in
theorem k_X0_eaten (l : Launch) (D : va_G) (cy : Nat → ClassId) (ad : Nat → Nat) (P Dr : Nat) (tI : xTab) (hX : cOk ad P Dr) {b : Nat} (hB : cDeeds b) (I : xMem) (L : xLon)  (r : Int32) (h : X0_eaten b I = some r) : Met l yX0_eaten wsX0_eaten rm_X0_eaten (va_Pc [.ref (ad b)] (cW D cy ad P Dr tI I L)) (cPi D cy ad P Dr tI I L r) 0 0 (gA 64 ad) := by
  refine g_met (own := RX0) (cc := cX0_eaten) (maxL := 1) (ret := (some .int)) (by decide) rfl (Nat.le_of_ble_eq_true rfl) rfl ?_
  intro p e s m args below meth c ls hx hb hml hr hlocks hown hts hG hK hZ hl
  generalize hQ : MQ below _ args s 0 0 _ = Q
  have hl : lv_has ls 1 [(0, .ref (ad b))] := hl
  have hS : va_S (gA 64 ad) s.heap s.heap [] := va_S.rf
  obtain ⟨hi, hP, hDr⟩ := id hX
  have l0 : ∀ w ∈ wsX00, w.before args s = true := fun w h => hts w (List.mem_cons_of_mem _ (List.mem_append_right _ h))
  have k1 := hts (.fieldLink RX0 18 "PairStairs$Deeds" "loaves" "[I") (by decide +kernel)
  have k2 := hts (.fieldLink RX0 24 "PairStairs$Deeds" "done" "I") (by decide +kernel)
  unfold X0_eaten at h
  refine lv_aload_n hx hb dX0_eaten_0 rfl (lv_at hl 0 rfl) ?_
  refine g_get hx hb l0 hown hK hG (k := b) hB.1.1 (cE_0 hB.1 _ _) vwCl_0 3 (by decide) k1 (fun _ h9 => h9) rfl dX0_eaten_1 ?_
  refine lv_aload_n hx hb dX0_eaten_4 rfl (lv_at hl 0 rfl) ?_
  refine g_get hx hb l0 hown hK hG (k := b) hB.1.1 (cE_0 hB.1 _ _) vwCl_0 0 (by decide) k2 (fun _ h9 => h9) rfl dX0_eaten_5 ?_
  refine g_ald hx hb hK hG (k := (b + 3)) (n := 41) hB.2.2.2.1.1.1 (cIA_e hB.2.2.2.1 _ _) 0 rfl h dX0_eaten_8 (fun v1 h => ?_)
  have h := Option.some.inj h
  subst h
  subst hQ
  exact g_iret hx hb hr hlocks cZm hK hZ hG hS rfl dX0_eaten_9
def X0_stonesUp (b : Nat) (I : xMem) : Option (Int32) := (rdI I (b + 2) 41 (I b 0)).bind fun v1 => some v1
abbrev rm_X0_stonesUp : Room := { frames := 0, cells := 0, slots := 0, locals := 0 }
theorem cd_X0_stonesUp : yX0_stonesUp.cls = RX0 ∧ yX0_stonesUp.cls ≠ "java/lang/invoke/MethodHandle" ∧ yX0_stonesUp.cls ≠ "java/lang/invoke/VarHandle" ∧ (parseMethodDescriptor yX0_stonesUp.desc).map (fun d => d.parameters.length) = some 0 := by decide +kernel
set_option maxHeartbeats 4000000 in
set_option maxRecDepth 100000 in
theorem k_X0_stonesUp (l : Launch) (D : va_G) (cy : Nat → ClassId) (ad : Nat → Nat) (P Dr : Nat) (tI : xTab) (hX : cOk ad P Dr) {b : Nat} (hB : cDeeds b) (I : xMem) (L : xLon)  (r : Int32) (h : X0_stonesUp b I = some r) : Met l yX0_stonesUp wsX0_stonesUp rm_X0_stonesUp (va_Pc [.ref (ad b)] (cW D cy ad P Dr tI I L)) (cPi D cy ad P Dr tI I L r) 0 0 (gA 64 ad) := by
  refine g_met (own := RX0) (cc := cX0_stonesUp) (maxL := 1) (ret := (some .int)) (by decide) rfl (Nat.le_of_ble_eq_true rfl) rfl ?_
  intro p e s m args below meth c ls hx hb hml hr hlocks hown hts hG hK hZ hl
  generalize hQ : MQ below _ args s 0 0 _ = Q
  have hl : lv_has ls 1 [(0, .ref (ad b))] := hl
  have hS : va_S (gA 64 ad) s.heap s.heap [] := va_S.rf
  obtain ⟨hi, hP, hDr⟩ := id hX
  have l0 : ∀ w ∈ wsX00, w.before args s = true := fun w h => hts w (List.mem_cons_of_mem _ (List.mem_append_right _ h))
  have k1 := hts (.fieldLink RX0 15 "PairStairs$Deeds" "stones" "[I") (by decide +kernel)
  have k2 := hts (.fieldLink RX0 24 "PairStairs$Deeds" "done" "I") (by decide +kernel)
  unfold X0_stonesUp at h
  refine lv_aload_n hx hb dX0_stonesUp_0 rfl (lv_at hl 0 rfl) ?_
  refine g_get hx hb l0 hown hK hG (k := b) hB.1.1 (cE_0 hB.1 _ _) vwCl_0 2 (by decide) k1 (fun _ h9 => h9) rfl dX0_stonesUp_1 ?_
  refine lv_aload_n hx hb dX0_stonesUp_4 rfl (lv_at hl 0 rfl) ?_
  refine g_get hx hb l0 hown hK hG (k := b) hB.1.1 (cE_0 hB.1 _ _) vwCl_0 0 (by decide) k2 (fun _ h9 => h9) rfl dX0_stonesUp_5 ?_
  refine g_ald hx hb hK hG (k := (b + 2)) (n := 41) hB.2.2.1.1.1 (cIA_e hB.2.2.1 _ _) 0 rfl h dX0_stonesUp_8 (fun v1 h => ?_)
  have h := Option.some.inj h
  subst h
  subst hQ
  exact g_iret hx hb hr hlocks cZm hK hZ hG hS rfl dX0_stonesUp_9
def X0_add (b : Nat) (I : xMem) (x1 : Int32) (x2 : Int32) (x3 : Int32) (x4 : Int32) : Option (xMem) := if (I b 0) < (40 : Int32) then ((rdI I (b + 1) 41 (I b 0)).bind fun v2 => (wrI I (b + 1) 41 ((I b 0) + (1 : Int32)) (v2 ^^^ x1)).bind fun I3 => (rdI I3 (b + 2) 41 (I3 b 0)).bind fun v4 => (wrI I3 (b + 2) 41 ((I3 b 0) + (1 : Int32)) (v4 ^^^ x2)).bind fun I5 => (rdI I5 (b + 3) 41 (I5 b 0)).bind fun v6 => (wrI I5 (b + 3) 41 ((I5 b 0) + (1 : Int32)) (v6 + x3)).bind fun I7 => (rdI I7 (b + 4) 41 (I7 b 0)).bind fun v8 => (wrI I7 (b + 4) 41 ((I7 b 0) + (1 : Int32)) (v8 + x4)).bind fun I9 => (some (wr I9 b 0 ((I9 b 0) + (1 : Int32)))).bind fun I10 => some I10) else (some I)
abbrev rm_X0_add : Room := { frames := 0, cells := 0, slots := 0, locals := 0 }
theorem cd_X0_add : yX0_add.cls = RX0 ∧ yX0_add.cls ≠ "java/lang/invoke/MethodHandle" ∧ yX0_add.cls ≠ "java/lang/invoke/VarHandle" ∧ (parseMethodDescriptor yX0_add.desc).map (fun d => d.parameters.length) = some 4 := by decide +kernel
set_option maxHeartbeats 4000000 in
set_option maxRecDepth 100000 in
theorem k_X0_add (l : Launch) (D : va_G) (cy : Nat → ClassId) (ad : Nat → Nat) (P Dr : Nat) (tI : xTab) (hX : cOk ad P Dr) {b : Nat} (hB : cDeeds b) (I : xMem) (L : xLon) (x1 : Int32) (x2 : Int32) (x3 : Int32) (x4 : Int32) (r : xMem) (h : X0_add b I x1 x2 x3 x4 = some r) : Met l yX0_add wsX0_add rm_X0_add (va_Pc [.ref (ad b), .int x1, .int x2, .int x3, .int x4] (cW D cy ad P Dr tI I L)) (cPv D cy ad P Dr tI r L) 0 0 (gA 64 ad) := by
  refine g_met (own := RX0) (cc := cX0_add) (maxL := 5) (ret := none) (by decide) rfl (Nat.le_of_ble_eq_true rfl) rfl ?_
  intro p e s m args below meth c ls hx hb hml hr hlocks hown hts hG hK hZ hl
  generalize hQ : MQ below _ args s 0 0 _ = Q
  have hl : lv_has ls 5 [(0, .ref (ad b)), (1, .int x1), (2, .int x2), (3, .int x3), (4, .int x4)] := hl
  have hS : va_S (gA 64 ad) s.heap s.heap [] := va_S.rf
  obtain ⟨hi, hP, hDr⟩ := id hX
  have l0 : ∀ w ∈ wsX00, w.before args s = true := fun w h => hts w (List.mem_cons_of_mem _ (List.mem_append_right _ h))
  have k1 := hts (.fieldLink RX0 24 "PairStairs$Deeds" "done" "I") (by decide +kernel)
  have k2 := hts (.fieldLink RX0 9 "PairStairs$Deeds" "people" "[I") (by decide +kernel)
  have k3 := hts (.fieldLink RX0 15 "PairStairs$Deeds" "stones" "[I") (by decide +kernel)
  have k4 := hts (.fieldLink RX0 18 "PairStairs$Deeds" "loaves" "[I") (by decide +kernel)
  have k5 := hts (.fieldLink RX0 21 "PairStairs$Deeds" "sank" "[I") (by decide +kernel)
  unfold X0_add at h
  refine lv_aload_n hx hb dX0_add_0 rfl (lv_at hl 0 rfl) ?_
  refine g_get hx hb l0 hown hK hG (k := b) hB.1.1 (cE_0 hB.1 _ _) vwCl_0 0 (by decide) k1 (fun _ h9 => h9) rfl dX0_add_1 ?_
  refine lv_bipush (v := (40 : Int32)) hx hb dX0_add_4 (by decide) ?_
  refine lv_icmp_lt (tgt := 10) hx hb dX0_add_6 (by decide) (fun c1 => ?_) (fun c1 => ?_)
  · have h := ite_t h c1
    refine lv_aload_n hx hb dX0_add_10 rfl (lv_at hl 0 rfl) ?_
    refine g_get hx hb l0 hown hK hG (k := b) hB.1.1 (cE_0 hB.1 _ _) vwCl_0 1 (by decide) k2 (fun _ h9 => h9) rfl dX0_add_11 ?_
    refine lv_aload_n hx hb dX0_add_14 rfl (lv_at hl 0 rfl) ?_
    refine g_get hx hb l0 hown hK hG (k := b) hB.1.1 (cE_0 hB.1 _ _) vwCl_0 0 (by decide) k1 (fun _ h9 => h9) rfl dX0_add_15 ?_
    refine lv_iconst (v := (1 : Int32)) hx hb dX0_add_18 (by decide) ?_
    refine lv_iadd hx hb dX0_add_19 ?_
    refine lv_aload_n hx hb dX0_add_20 rfl (lv_at hl 0 rfl) ?_
    refine g_get hx hb l0 hown hK hG (k := b) hB.1.1 (cE_0 hB.1 _ _) vwCl_0 1 (by decide) k2 (fun _ h9 => h9) rfl dX0_add_21 ?_
    refine lv_aload_n hx hb dX0_add_24 rfl (lv_at hl 0 rfl) ?_
    refine g_get hx hb l0 hown hK hG (k := b) hB.1.1 (cE_0 hB.1 _ _) vwCl_0 0 (by decide) k1 (fun _ h9 => h9) rfl dX0_add_25 ?_
    refine g_ald hx hb hK hG (k := (b + 1)) (n := 41) hB.2.1.1.1 (cIA_e hB.2.1 _ _) 0 rfl h dX0_add_28 (fun v2 h => ?_)
    refine lv_iload_n hx hb dX0_add_29 rfl (lv_at hl 1 rfl) ?_
    refine lv_ixor hx hb dX0_add_30 ?_
    refine g_ast hx hb hK hG hi hS (k := (b + 1)) (n := 41) hB.2.1.1.1 (fun f => cIA_e hB.2.1 f _) 0 rfl h dX0_add_31 (fun I3 H locs h hG hS => ?_)
    refine lv_aload_n hx hb dX0_add_32 rfl (lv_at hl 0 rfl) ?_
    refine g_get hx hb l0 hown hK hG (k := b) hB.1.1 (cE_0 hB.1 _ _) vwCl_0 2 (by decide) k3 (fun _ h9 => h9) rfl dX0_add_33 ?_
    refine lv_aload_n hx hb dX0_add_36 rfl (lv_at hl 0 rfl) ?_
    refine g_get hx hb l0 hown hK hG (k := b) hB.1.1 (cE_0 hB.1 _ _) vwCl_0 0 (by decide) k1 (fun _ h9 => h9) rfl dX0_add_37 ?_
    refine lv_iconst (v := (1 : Int32)) hx hb dX0_add_40 (by decide) ?_
    refine lv_iadd hx hb dX0_add_41 ?_
    refine lv_aload_n hx hb dX0_add_42 rfl (lv_at hl 0 rfl) ?_
    refine g_get hx hb l0 hown hK hG (k := b) hB.1.1 (cE_0 hB.1 _ _) vwCl_0 2 (by decide) k3 (fun _ h9 => h9) rfl dX0_add_43 ?_
    refine lv_aload_n hx hb dX0_add_46 rfl (lv_at hl 0 rfl) ?_
    refine g_get hx hb l0 hown hK hG (k := b) hB.1.1 (cE_0 hB.1 _ _) vwCl_0 0 (by decide) k1 (fun _ h9 => h9) rfl dX0_add_47 ?_
    refine g_ald hx hb hK hG (k := (b + 2)) (n := 41) hB.2.2.1.1.1 (cIA_e hB.2.2.1 _ _) 0 rfl h dX0_add_50 (fun v4 h => ?_)
    refine lv_iload_n hx hb dX0_add_51 rfl (lv_at hl 2 rfl) ?_
    refine lv_ixor hx hb dX0_add_52 ?_
    refine g_ast hx hb hK hG hi hS (k := (b + 2)) (n := 41) hB.2.2.1.1.1 (fun f => cIA_e hB.2.2.1 f _) 0 rfl h dX0_add_53 (fun I5 H locs h hG hS => ?_)
    refine lv_aload_n hx hb dX0_add_54 rfl (lv_at hl 0 rfl) ?_
    refine g_get hx hb l0 hown hK hG (k := b) hB.1.1 (cE_0 hB.1 _ _) vwCl_0 3 (by decide) k4 (fun _ h9 => h9) rfl dX0_add_55 ?_
    refine lv_aload_n hx hb dX0_add_58 rfl (lv_at hl 0 rfl) ?_
    refine g_get hx hb l0 hown hK hG (k := b) hB.1.1 (cE_0 hB.1 _ _) vwCl_0 0 (by decide) k1 (fun _ h9 => h9) rfl dX0_add_59 ?_
    refine lv_iconst (v := (1 : Int32)) hx hb dX0_add_62 (by decide) ?_
    refine lv_iadd hx hb dX0_add_63 ?_
    refine lv_aload_n hx hb dX0_add_64 rfl (lv_at hl 0 rfl) ?_
    refine g_get hx hb l0 hown hK hG (k := b) hB.1.1 (cE_0 hB.1 _ _) vwCl_0 3 (by decide) k4 (fun _ h9 => h9) rfl dX0_add_65 ?_
    refine lv_aload_n hx hb dX0_add_68 rfl (lv_at hl 0 rfl) ?_
    refine g_get hx hb l0 hown hK hG (k := b) hB.1.1 (cE_0 hB.1 _ _) vwCl_0 0 (by decide) k1 (fun _ h9 => h9) rfl dX0_add_69 ?_
    refine g_ald hx hb hK hG (k := (b + 3)) (n := 41) hB.2.2.2.1.1.1 (cIA_e hB.2.2.2.1 _ _) 0 rfl h dX0_add_72 (fun v6 h => ?_)
    refine lv_iload_n hx hb dX0_add_73 rfl (lv_at hl 3 rfl) ?_
    refine lv_iadd hx hb dX0_add_74 ?_
    refine g_ast hx hb hK hG hi hS (k := (b + 3)) (n := 41) hB.2.2.2.1.1.1 (fun f => cIA_e hB.2.2.2.1 f _) 0 rfl h dX0_add_75 (fun I7 H locs h hG hS => ?_)
    refine lv_aload_n hx hb dX0_add_76 rfl (lv_at hl 0 rfl) ?_
    refine g_get hx hb l0 hown hK hG (k := b) hB.1.1 (cE_0 hB.1 _ _) vwCl_0 4 (by decide) k5 (fun _ h9 => h9) rfl dX0_add_77 ?_
    refine lv_aload_n hx hb dX0_add_80 rfl (lv_at hl 0 rfl) ?_
    refine g_get hx hb l0 hown hK hG (k := b) hB.1.1 (cE_0 hB.1 _ _) vwCl_0 0 (by decide) k1 (fun _ h9 => h9) rfl dX0_add_81 ?_
    refine lv_iconst (v := (1 : Int32)) hx hb dX0_add_84 (by decide) ?_
    refine lv_iadd hx hb dX0_add_85 ?_
    refine lv_aload_n hx hb dX0_add_86 rfl (lv_at hl 0 rfl) ?_
    refine g_get hx hb l0 hown hK hG (k := b) hB.1.1 (cE_0 hB.1 _ _) vwCl_0 4 (by decide) k5 (fun _ h9 => h9) rfl dX0_add_87 ?_
    refine lv_aload_n hx hb dX0_add_90 rfl (lv_at hl 0 rfl) ?_
    refine g_get hx hb l0 hown hK hG (k := b) hB.1.1 (cE_0 hB.1 _ _) vwCl_0 0 (by decide) k1 (fun _ h9 => h9) rfl dX0_add_91 ?_
    refine g_ald hx hb hK hG (k := (b + 4)) (n := 41) hB.2.2.2.2.1.1 (cIA_e hB.2.2.2.2 _ _) 0 rfl h dX0_add_94 (fun v8 h => ?_)
    refine lv_iload hx hb dX0_add_95 (lv_at hl 4 rfl) ?_
    refine lv_iadd hx hb dX0_add_97 ?_
    refine g_ast hx hb hK hG hi hS (k := (b + 4)) (n := 41) hB.2.2.2.2.1.1 (fun f => cIA_e hB.2.2.2.2 f _) 0 rfl h dX0_add_98 (fun I9 H locs h hG hS => ?_)
    refine lv_aload_n hx hb dX0_add_99 rfl (lv_at hl 0 rfl) ?_
    refine lv_dup hx hb dX0_add_100 rfl ?_
    refine g_get hx hb l0 hown hK hG (k := b) hB.1.1 (cE_0 hB.1 _ _) vwCl_0 0 (by decide) k1 (fun _ h9 => h9) rfl dX0_add_101 ?_
    refine lv_iconst (v := (1 : Int32)) hx hb dX0_add_104 (by decide) ?_
    refine lv_iadd hx hb dX0_add_105 ?_
    obtain ⟨I10, eI10, h⟩ := obind h
    refine g_put hx hb l0 tyX0_ok nmX0 hown hK hG hi hS (k := b) hB.1.1 (cE_0 hB.1 _ _) vwCl_0 0 (by decide) k1 (fun _ h9 => h9) rfl rfl (Nat.le_of_ble_eq_true rfl) (by rw [cE_0 hB.1 _ _]; rfl) dX0_add_106 (fun H locs hG hS => ?_)
    rw [Option.some.inj eI10] at hG
    have h := Option.some.inj h
    subst h
    subst hQ
    exact g_vret hx hb hr hlocks cZm hK hZ hG hS dX0_add_109
  · have h := ite_f h c1
    have h := Option.some.inj h
    subst h
    subst hQ
    exact g_vret hx hb hr hlocks cZm hK hZ hG hS dX0_add_9
def X0_become (b : Nat) (I : xMem) (y1 : Nat) : Option (xMem) := (some (wr I b 0 (I y1 0))).bind fun I1 => (cpI I1 (y1 + 1) 41 (0 : Int32) (b + 1) 41 (0 : Int32) ((I1 b 0) + (1 : Int32))).bind fun I2 => (cpI I2 (y1 + 2) 41 (0 : Int32) (b + 2) 41 (0 : Int32) ((I2 b 0) + (1 : Int32))).bind fun I3 => (cpI I3 (y1 + 3) 41 (0 : Int32) (b + 3) 41 (0 : Int32) ((I3 b 0) + (1 : Int32))).bind fun I4 => (cpI I4 (y1 + 4) 41 (0 : Int32) (b + 4) 41 (0 : Int32) ((I4 b 0) + (1 : Int32))).bind fun I5 => some I5
abbrev rm_X0_become : Room := { frames := 1, cells := 0, slots := 0, locals := 40 }
theorem cd_X0_become : yX0_become.cls = RX0 ∧ yX0_become.cls ≠ "java/lang/invoke/MethodHandle" ∧ yX0_become.cls ≠ "java/lang/invoke/VarHandle" ∧ (parseMethodDescriptor yX0_become.desc).map (fun d => d.parameters.length) = some 1 := by decide +kernel
set_option maxHeartbeats 4000000 in
set_option maxRecDepth 100000 in
theorem k_X0_become (l : Launch) (D : va_G) (cy : Nat → ClassId) (ad : Nat → Nat) (P Dr : Nat) (tI : xTab) (hX : cOk ad P Dr) {b : Nat} (hB : cDeeds b) (I : xMem) (L : xLon) {y1 : Nat} (hY1 : cDeeds y1) (r : xMem) (h : X0_become b I y1 = some r) : Met l yX0_become wsX0_become rm_X0_become (va_Pc [.ref (ad b), .ref (ad y1)] (cW D cy ad P Dr tI I L)) (cPv D cy ad P Dr tI r L) 0 0 (gA 64 ad) := by
  refine g_met (own := RX0) (cc := cX0_become) (maxL := 2) (ret := none) (by decide) rfl (Nat.le_of_ble_eq_true rfl) rfl ?_
  intro p e s m args below meth c ls hx hb hml hr hlocks hown hts hG hK hZ hl
  generalize hQ : MQ below _ args s 0 0 _ = Q
  have hl : lv_has ls 2 [(0, .ref (ad b)), (1, .ref (ad y1))] := hl
  have hS : va_S (gA 64 ad) s.heap s.heap [] := va_S.rf
  obtain ⟨hi, hP, hDr⟩ := id hX
  have l0 : ∀ w ∈ wsX00, w.before args s = true := fun w h => hts w (List.mem_cons_of_mem _ (List.mem_append_right _ h))
  have k1 := hts (.fieldLink RX0 24 "PairStairs$Deeds" "done" "I") (by decide +kernel)
  have k2 := hts (.fieldLink RX0 9 "PairStairs$Deeds" "people" "[I") (by decide +kernel)
  have k3 := hts (.methodLink RX0 28 arraycopyName) (by decide +kernel)
  have k4 := hts (.native arraycopyName) (by decide +kernel)
  have k5 := hts (.static arraycopyName) (by decide +kernel)
  have k6 := hts (.initialized "java/lang/System") (by decide +kernel)
  have k7 := hts (.fieldLink RX0 15 "PairStairs$Deeds" "stones" "[I") (by decide +kernel)
  have k8 := hts (.fieldLink RX0 18 "PairStairs$Deeds" "loaves" "[I") (by decide +kernel)
  have k9 := hts (.fieldLink RX0 21 "PairStairs$Deeds" "sank" "[I") (by decide +kernel)
  unfold X0_become at h
  refine lv_aload_n hx hb dX0_become_0 rfl (lv_at hl 0 rfl) ?_
  refine lv_aload_n hx hb dX0_become_1 rfl (lv_at hl 1 rfl) ?_
  refine g_get hx hb l0 hown hK hG (k := y1) hY1.1.1 (cE_0 hY1.1 _ _) vwCl_0 0 (by decide) k1 (fun _ h9 => h9) rfl dX0_become_2 ?_
  obtain ⟨I1, eI1, h⟩ := obind h
  refine g_put hx hb l0 tyX0_ok nmX0 hown hK hG hi hS (k := b) hB.1.1 (cE_0 hB.1 _ _) vwCl_0 0 (by decide) k1 (fun _ h9 => h9) rfl rfl (Nat.le_of_ble_eq_true rfl) (by rw [cE_0 hB.1 _ _]; rfl) dX0_become_5 (fun H locs hG hS => ?_)
  rw [Option.some.inj eI1] at hG
  refine lv_aload_n hx hb dX0_become_8 rfl (lv_at hl 1 rfl) ?_
  refine g_get hx hb l0 hown hK hG (k := y1) hY1.1.1 (cE_0 hY1.1 _ _) vwCl_0 1 (by decide) k2 (fun _ h9 => h9) rfl dX0_become_9 ?_
  refine lv_iconst (v := (0 : Int32)) hx hb dX0_become_12 (by decide) ?_
  refine lv_aload_n hx hb dX0_become_13 rfl (lv_at hl 0 rfl) ?_
  refine g_get hx hb l0 hown hK hG (k := b) hB.1.1 (cE_0 hB.1 _ _) vwCl_0 1 (by decide) k2 (fun _ h9 => h9) rfl dX0_become_14 ?_
  refine lv_iconst (v := (0 : Int32)) hx hb dX0_become_17 (by decide) ?_
  refine lv_aload_n hx hb dX0_become_18 rfl (lv_at hl 0 rfl) ?_
  refine g_get hx hb l0 hown hK hG (k := b) hB.1.1 (cE_0 hB.1 _ _) vwCl_0 0 (by decide) k1 (fun _ h9 => h9) rfl dX0_become_19 ?_
  refine lv_iconst (v := (1 : Int32)) hx hb dX0_become_22 (by decide) ?_
  refine lv_iadd hx hb dX0_become_23 ?_
  refine g_cpy hx hb (hml.trans hl.1.symm) hown k3 k4 k5 k6 hK hG hi hS (k1 := (y1 + 1)) (n1 := 41) (k2 := (b + 1)) (n2 := 41) hY1.2.1.1.1 (cIA_e hY1.2.1 _ _) hB.2.1.1.1 (fun f => cIA_e hB.2.1 f _) 0 0 rfl rfl h (Nat.le_of_ble_eq_true rfl) (by decide +kernel) dX0_become_24 (fun I2 H locs h hG hS => ?_)
  refine lv_aload_n hx hb dX0_become_27 rfl (lv_at hl 1 rfl) ?_
  refine g_get hx hb l0 hown hK hG (k := y1) hY1.1.1 (cE_0 hY1.1 _ _) vwCl_0 2 (by decide) k7 (fun _ h9 => h9) rfl dX0_become_28 ?_
  refine lv_iconst (v := (0 : Int32)) hx hb dX0_become_31 (by decide) ?_
  refine lv_aload_n hx hb dX0_become_32 rfl (lv_at hl 0 rfl) ?_
  refine g_get hx hb l0 hown hK hG (k := b) hB.1.1 (cE_0 hB.1 _ _) vwCl_0 2 (by decide) k7 (fun _ h9 => h9) rfl dX0_become_33 ?_
  refine lv_iconst (v := (0 : Int32)) hx hb dX0_become_36 (by decide) ?_
  refine lv_aload_n hx hb dX0_become_37 rfl (lv_at hl 0 rfl) ?_
  refine g_get hx hb l0 hown hK hG (k := b) hB.1.1 (cE_0 hB.1 _ _) vwCl_0 0 (by decide) k1 (fun _ h9 => h9) rfl dX0_become_38 ?_
  refine lv_iconst (v := (1 : Int32)) hx hb dX0_become_41 (by decide) ?_
  refine lv_iadd hx hb dX0_become_42 ?_
  refine g_cpy hx hb (hml.trans hl.1.symm) hown k3 k4 k5 k6 hK hG hi hS (k1 := (y1 + 2)) (n1 := 41) (k2 := (b + 2)) (n2 := 41) hY1.2.2.1.1.1 (cIA_e hY1.2.2.1 _ _) hB.2.2.1.1.1 (fun f => cIA_e hB.2.2.1 f _) 0 0 rfl rfl h (Nat.le_of_ble_eq_true rfl) (by decide +kernel) dX0_become_43 (fun I3 H locs h hG hS => ?_)
  refine lv_aload_n hx hb dX0_become_46 rfl (lv_at hl 1 rfl) ?_
  refine g_get hx hb l0 hown hK hG (k := y1) hY1.1.1 (cE_0 hY1.1 _ _) vwCl_0 3 (by decide) k8 (fun _ h9 => h9) rfl dX0_become_47 ?_
  refine lv_iconst (v := (0 : Int32)) hx hb dX0_become_50 (by decide) ?_
  refine lv_aload_n hx hb dX0_become_51 rfl (lv_at hl 0 rfl) ?_
  refine g_get hx hb l0 hown hK hG (k := b) hB.1.1 (cE_0 hB.1 _ _) vwCl_0 3 (by decide) k8 (fun _ h9 => h9) rfl dX0_become_52 ?_
  refine lv_iconst (v := (0 : Int32)) hx hb dX0_become_55 (by decide) ?_
  refine lv_aload_n hx hb dX0_become_56 rfl (lv_at hl 0 rfl) ?_
  refine g_get hx hb l0 hown hK hG (k := b) hB.1.1 (cE_0 hB.1 _ _) vwCl_0 0 (by decide) k1 (fun _ h9 => h9) rfl dX0_become_57 ?_
  refine lv_iconst (v := (1 : Int32)) hx hb dX0_become_60 (by decide) ?_
  refine lv_iadd hx hb dX0_become_61 ?_
  refine g_cpy hx hb (hml.trans hl.1.symm) hown k3 k4 k5 k6 hK hG hi hS (k1 := (y1 + 3)) (n1 := 41) (k2 := (b + 3)) (n2 := 41) hY1.2.2.2.1.1.1 (cIA_e hY1.2.2.2.1 _ _) hB.2.2.2.1.1.1 (fun f => cIA_e hB.2.2.2.1 f _) 0 0 rfl rfl h (Nat.le_of_ble_eq_true rfl) (by decide +kernel) dX0_become_62 (fun I4 H locs h hG hS => ?_)
  refine lv_aload_n hx hb dX0_become_65 rfl (lv_at hl 1 rfl) ?_
  refine g_get hx hb l0 hown hK hG (k := y1) hY1.1.1 (cE_0 hY1.1 _ _) vwCl_0 4 (by decide) k9 (fun _ h9 => h9) rfl dX0_become_66 ?_
  refine lv_iconst (v := (0 : Int32)) hx hb dX0_become_69 (by decide) ?_
  refine lv_aload_n hx hb dX0_become_70 rfl (lv_at hl 0 rfl) ?_
  refine g_get hx hb l0 hown hK hG (k := b) hB.1.1 (cE_0 hB.1 _ _) vwCl_0 4 (by decide) k9 (fun _ h9 => h9) rfl dX0_become_71 ?_
  refine lv_iconst (v := (0 : Int32)) hx hb dX0_become_74 (by decide) ?_
  refine lv_aload_n hx hb dX0_become_75 rfl (lv_at hl 0 rfl) ?_
  refine g_get hx hb l0 hown hK hG (k := b) hB.1.1 (cE_0 hB.1 _ _) vwCl_0 0 (by decide) k1 (fun _ h9 => h9) rfl dX0_become_76 ?_
  refine lv_iconst (v := (1 : Int32)) hx hb dX0_become_79 (by decide) ?_
  refine lv_iadd hx hb dX0_become_80 ?_
  refine g_cpy hx hb (hml.trans hl.1.symm) hown k3 k4 k5 k6 hK hG hi hS (k1 := (y1 + 4)) (n1 := 41) (k2 := (b + 4)) (n2 := 41) hY1.2.2.2.2.1.1 (cIA_e hY1.2.2.2.2 _ _) hB.2.2.2.2.1.1 (fun f => cIA_e hB.2.2.2.2 f _) 0 0 rfl rfl h (Nat.le_of_ble_eq_true rfl) (by decide +kernel) dX0_become_81 (fun I5 H locs h hG hS => ?_)
  have h := Option.some.inj h
  subst h
  subst hQ
  exact g_vret hx hb hr hlocks cZm hK hZ hG hS dX0_become_84
def X0_stepsSunk (b : Nat) (I : xMem) : Option (Int32) := (rdI I (b + 4) 41 (I b 0)).bind fun v1 => some v1
abbrev rm_X0_stepsSunk : Room := { frames := 0, cells := 0, slots := 0, locals := 0 }
theorem cd_X0_stepsSunk : yX0_stepsSunk.cls = RX0 ∧ yX0_stepsSunk.cls ≠ "java/lang/invoke/MethodHandle" ∧ yX0_stepsSunk.cls ≠ "java/lang/invoke/VarHandle" ∧ (parseMethodDescriptor yX0_stepsSunk.desc).map (fun d => d.parameters.length) = some 0 := by decide +kernel
set_option maxHeartbeats 4000000 in
set_option maxRecDepth 100000 in
theorem k_X0_stepsSunk (l : Launch) (D : va_G) (cy : Nat → ClassId) (ad : Nat → Nat) (P Dr : Nat) (tI : xTab) (hX : cOk ad P Dr) {b : Nat} (hB : cDeeds b) (I : xMem) (L : xLon)  (r : Int32) (h : X0_stepsSunk b I = some r) : Met l yX0_stepsSunk wsX0_stepsSunk rm_X0_stepsSunk (va_Pc [.ref (ad b)] (cW D cy ad P Dr tI I L)) (cPi D cy ad P Dr tI I L r) 0 0 (gA 64 ad) := by
  refine g_met (own := RX0) (cc := cX0_stepsSunk) (maxL := 1) (ret := (some .int)) (by decide) rfl (Nat.le_of_ble_eq_true rfl) rfl ?_
  intro p e s m args below meth c ls hx hb hml hr hlocks hown hts hG hK hZ hl
  generalize hQ : MQ below _ args s 0 0 _ = Q
  have hl : lv_has ls 1 [(0, .ref (ad b))] := hl
  have hS : va_S (gA 64 ad) s.heap s.heap [] := va_S.rf
  obtain ⟨hi, hP, hDr⟩ := id hX
  have l0 : ∀ w ∈ wsX00, w.before args s = true := fun w h => hts w (List.mem_cons_of_mem _ (List.mem_append_right _ h))
  have k1 := hts (.fieldLink RX0 21 "PairStairs$Deeds" "sank" "[I") (by decide +kernel)
  have k2 := hts (.fieldLink RX0 24 "PairStairs$Deeds" "done" "I") (by decide +kernel)
  unfold X0_stepsSunk at h
  refine lv_aload_n hx hb dX0_stepsSunk_0 rfl (lv_at hl 0 rfl) ?_
  refine g_get hx hb l0 hown hK hG (k := b) hB.1.1 (cE_0 hB.1 _ _) vwCl_0 4 (by decide) k1 (fun _ h9 => h9) rfl dX0_stepsSunk_1 ?_
  refine lv_aload_n hx hb dX0_stepsSunk_4 rfl (lv_at hl 0 rfl) ?_
  refine g_get hx hb l0 hown hK hG (k := b) hB.1.1 (cE_0 hB.1 _ _) vwCl_0 0 (by decide) k2 (fun _ h9 => h9) rfl dX0_stepsSunk_5 ?_
  refine g_ald hx hb hK hG (k := (b + 4)) (n := 41) hB.2.2.2.2.1.1 (cIA_e hB.2.2.2.2 _ _) 0 rfl h dX0_stepsSunk_8 (fun v1 h => ?_)
  have h := Option.some.inj h
  subst h
  subst hQ
  exact g_iret hx hb hr hlocks cZm hK hZ hG hS rfl dX0_stepsSunk_9
