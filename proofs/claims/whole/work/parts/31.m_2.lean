def X5_sinkUnder (I : xMem) (x1 : Int32) (x2 : Int32) (x3 : Int32) (x4 : Int32) : Option (Int32) := if x1 = (1 : Int32) then ((rdI I 3 6 x3).bind fun v2 => if v2 = (1 : Int32) then (some ((X5_apart x2 x4) / (2 : Int32))) else (some (X5_apart x2 x4))) else (some (X5_apart x2 x4))
abbrev rm_X5_sinkUnder : Room := { frames := 1, cells := 0, slots := 0, locals := 21 }
theorem cd_X5_sinkUnder : yX5_sinkUnder.cls = RX5 ∧ yX5_sinkUnder.cls ≠ "java/lang/invoke/MethodHandle" ∧ yX5_sinkUnder.cls ≠ "java/lang/invoke/VarHandle" ∧ (parseMethodDescriptor yX5_sinkUnder.desc).map (fun d => d.parameters.length) = some 4 := by decide +kernel
set_option maxHeartbeats 4000000 in
set_option maxRecDepth 100000 in
theorem k_X5_sinkUnder (l : Launch) (D : va_G) (cy : Nat → ClassId) (ad : Nat → Nat) (hi : gInj 18 ad) (I : xMem) (L : xLon) (x1 : Int32) (x2 : Int32) (x3 : Int32) (x4 : Int32) (r : Int32) (h : X5_sinkUnder I x1 x2 x3 x4 = some r) : Met l yX5_sinkUnder wsX5_sinkUnder rm_X5_sinkUnder (va_Pc [.ref (ad 0), .int x1, .int x2, .int x3, .int x4] (mW D cy ad I L)) (mPi D cy ad I L r) 0 0 (gA 18 ad) := by
  refine g_met (own := RX5) (cc := cX5_sinkUnder) (maxL := 6) (ret := (some .int)) (by decide) rfl (Nat.le_of_ble_eq_true rfl) rfl ?_
  intro p e s m args below meth c ls hx hb hml hr hlocks hown hts hG hK hZ hl
  generalize hQ : MQ below _ args s 0 0 _ = Q
  have hl : lv_has ls 6 [(0, .ref (ad 0)), (1, .int x1), (2, .int x2), (3, .int x3), (4, .int x4)] := hl
  have hS : va_S (gA 18 ad) s.heap s.heap [] := va_S.rf
  have l5 : ∀ w ∈ wsX50, w.before args s = true := fun w h => hts w (List.mem_cons_of_mem _ (List.mem_append_right _ h))
  have k1 := hts (.fieldLink RX5 16 "PairStairsModel" "kinds" "[I") (by decide +kernel)
  unfold X5_sinkUnder at h
  refine lv_iload_n hx hb dX5_sinkUnder_0 rfl (lv_at hl 2 rfl) ?_
  refine lv_iload hx hb dX5_sinkUnder_1 (lv_at hl 4 rfl) ?_
  refine g_endi (va_runS (As := [.int x2, .int x4]) (rest := []) ⟨hx, hb, hml, hown, hts⟩ (k_X5_apart l D cy ad hi I L x2 x4 _ rfl) (va_cwS 2 hts gX5_sinkUnder_X5_apart rfl rfl rfl cd_X5_apart.2 ⟨Nat.le_of_ble_eq_true rfl, Nat.le_of_ble_eq_true rfl⟩) ⟨g_blind mZm, g_pre mZm hK hG hZ hS⟩ rfl rfl hl.1 rfl (lv_room (Nat.le_of_ble_eq_true rfl)) dX5_sinkUnder_3 ⟨Nat.le_refl _, Nat.le_refl _⟩) hS (fun H locs hG hS => ?_)
  refine lv_istore (lv' := [(5, .int (X5_apart x2 x4)), (0, .ref (ad 0)), (1, .int x1), (2, .int x2), (3, .int x3), (4, .int x4)]) hx hb dX5_sinkUnder_6 hl (by decide) rfl (fun ls hl => ?_)
  refine lv_iload_n hx hb dX5_sinkUnder_8 rfl (lv_at hl 2 rfl) ?_
  refine lv_iconst (v := (1 : Int32)) hx hb dX5_sinkUnder_9 (by decide) ?_
  refine lv_icmp_ne (tgt := 30) hx hb dX5_sinkUnder_10 (by decide) (fun c1 => ?_) (fun c1 => ?_)
  · have h := ite_f h c1
    refine lv_iload hx hb dX5_sinkUnder_30 (lv_at hl 0 rfl) ?_
    have h := Option.some.inj h
    subst h
    subst hQ
    exact g_iret hx hb hr hlocks mZm hK hZ hG hS rfl dX5_sinkUnder_32
  · have h := ite_t h c1
    refine lv_aload_n hx hb dX5_sinkUnder_13 rfl (lv_at hl 1 rfl) ?_
    refine g_get hx hb l5 hown hK hG (k := 0) (by decide) (mE_5 _ _) vwCl_5 5 (by decide) k1 (fun _ h9 => h9) rfl dX5_sinkUnder_14 ?_
    refine lv_iload_n hx hb dX5_sinkUnder_17 rfl (lv_at hl 4 rfl) ?_
    refine g_ald hx hb hK hG (k := 3) (n := 6) (show mIA 3 6 from by decide +kernel).1.1 (mIA_e (show mIA 3 6 from by decide +kernel) _ _) 0 rfl h dX5_sinkUnder_18 (fun v2 h => ?_)
    refine lv_iconst (v := (1 : Int32)) hx hb dX5_sinkUnder_19 (by decide) ?_
    refine lv_icmp_ne (tgt := 30) hx hb dX5_sinkUnder_20 (by decide) (fun c3 => ?_) (fun c3 => ?_)
    · have h := ite_f h c3
      refine lv_iload hx hb dX5_sinkUnder_30 (lv_at hl 0 rfl) ?_
      have h := Option.some.inj h
      subst h
      subst hQ
      exact g_iret hx hb hr hlocks mZm hK hZ hG hS rfl dX5_sinkUnder_32
    · have h := ite_t h c3
      refine lv_iload hx hb dX5_sinkUnder_23 (lv_at hl 0 rfl) ?_
      refine lv_iconst (v := (2 : Int32)) hx hb dX5_sinkUnder_25 (by decide) ?_
      refine lv_idiv hx hb dX5_sinkUnder_26 (by decide) ?_
      refine lv_goto (tgt := 32) hx hb dX5_sinkUnder_27 (by decide) ?_
      have h := Option.some.inj h
      subst h
      subst hQ
      exact g_iret hx hb hr hlocks mZm hK hZ hG hS rfl dX5_sinkUnder_32
def X5_sinkOf (I : xMem) (x1 : Int32) (x2 : Int32) (x3 : Int32) (x4 : Int32) : Option (Int32) := (rdI I 3 6 x1).bind fun v1 => (X5_counts I x1).bind fun v2 => (X5_poundsOf I x3).bind fun v3 => (X5_counts I x2).bind fun v4 => (X5_poundsOf I x4).bind fun v5 => (X5_sinkUnder I v1 (v2 + v3) x2 (v4 + v5)).bind fun v6 => some v6
abbrev rm_X5_sinkOf : Room := { frames := 2, cells := 0, slots := 0, locals := 46 }
theorem cd_X5_sinkOf : yX5_sinkOf.cls = RX5 ∧ yX5_sinkOf.cls ≠ "java/lang/invoke/MethodHandle" ∧ yX5_sinkOf.cls ≠ "java/lang/invoke/VarHandle" ∧ (parseMethodDescriptor yX5_sinkOf.desc).map (fun d => d.parameters.length) = some 4 := by decide +kernel
set_option maxHeartbeats 4000000 in
set_option maxRecDepth 100000 in
theorem k_X5_sinkOf (l : Launch) (D : va_G) (cy : Nat → ClassId) (ad : Nat → Nat) (hi : gInj 18 ad) (I : xMem) (L : xLon) (x1 : Int32) (x2 : Int32) (x3 : Int32) (x4 : Int32) (r : Int32) (h : X5_sinkOf I x1 x2 x3 x4 = some r) : Met l yX5_sinkOf wsX5_sinkOf rm_X5_sinkOf (va_Pc [.ref (ad 0), .int x1, .int x2, .int x3, .int x4] (mW D cy ad I L)) (mPi D cy ad I L r) 0 0 (gA 18 ad) := by
  refine g_met (own := RX5) (cc := cX5_sinkOf) (maxL := 5) (ret := (some .int)) (by decide) rfl (Nat.le_of_ble_eq_true rfl) rfl ?_
  intro p e s m args below meth c ls hx hb hml hr hlocks hown hts hG hK hZ hl
  generalize hQ : MQ below _ args s 0 0 _ = Q
  have hl : lv_has ls 5 [(0, .ref (ad 0)), (1, .int x1), (2, .int x2), (3, .int x3), (4, .int x4)] := hl
  have hS : va_S (gA 18 ad) s.heap s.heap [] := va_S.rf
  have l5 : ∀ w ∈ wsX50, w.before args s = true := fun w h => hts w (List.mem_cons_of_mem _ (List.mem_append_right _ h))
  have k1 := hts (.fieldLink RX5 16 "PairStairsModel" "kinds" "[I") (by decide +kernel)
  unfold X5_sinkOf at h
  refine lv_aload_n hx hb dX5_sinkOf_0 rfl (lv_at hl 0 rfl) ?_
  refine lv_aload_n hx hb dX5_sinkOf_1 rfl (lv_at hl 0 rfl) ?_
  refine g_get hx hb l5 hown hK hG (k := 0) (by decide) (mE_5 _ _) vwCl_5 5 (by decide) k1 (fun _ h9 => h9) rfl dX5_sinkOf_2 ?_
  refine lv_iload_n hx hb dX5_sinkOf_5 rfl (lv_at hl 1 rfl) ?_
  refine g_ald hx hb hK hG (k := 3) (n := 6) (show mIA 3 6 from by decide +kernel).1.1 (mIA_e (show mIA 3 6 from by decide +kernel) _ _) 0 rfl h dX5_sinkOf_6 (fun v1 h => ?_)
  refine lv_aload_n hx hb dX5_sinkOf_7 rfl (lv_at hl 0 rfl) ?_
  refine lv_iload_n hx hb dX5_sinkOf_8 rfl (lv_at hl 1 rfl) ?_
  obtain ⟨v2, ev2, h⟩ := obind h
  refine g_endi (va_runV (As := [.int x1]) (rest := [.int v1, .ref (ad 0)]) ⟨hx, hb, hml, hown, hts⟩ (k_X5_counts l D cy ad hi I L x1 v2 ev2) (cwV 1 hts gX5_sinkOf_X5_counts rfl rfl rfl cd_X5_counts ⟨Nat.le_of_ble_eq_true rfl, Nat.le_of_ble_eq_true rfl⟩) ⟨g_blind mZm, g_recv hK hG (k := 0) (by decide) (mE_5 _ _) vwCl_5, g_pre mZm hK hG hZ hS⟩ rfl rfl hl.1 rfl (lv_room (Nat.le_of_ble_eq_true rfl)) dX5_sinkOf_9 ⟨Nat.le_refl _, Nat.le_refl _⟩) hS (fun H locs hG hS => ?_)
  refine lv_aload_n hx hb dX5_sinkOf_12 rfl (lv_at hl 0 rfl) ?_
  refine lv_iload_n hx hb dX5_sinkOf_13 rfl (lv_at hl 3 rfl) ?_
  obtain ⟨v3, ev3, h⟩ := obind h
  refine g_endi (va_runV (As := [.int x3]) (rest := [.int v2, .int v1, .ref (ad 0)]) ⟨hx, hb, hml, hown, hts⟩ (k_X5_poundsOf l D cy ad hi I L x3 v3 ev3) (cwV 1 hts gX5_sinkOf_X5_poundsOf rfl rfl rfl cd_X5_poundsOf ⟨Nat.le_of_ble_eq_true rfl, Nat.le_of_ble_eq_true rfl⟩) ⟨g_blind mZm, g_recv hK hG (k := 0) (by decide) (mE_5 _ _) vwCl_5, g_pre mZm hK hG hZ hS⟩ rfl rfl hl.1 rfl (lv_room (Nat.le_of_ble_eq_true rfl)) dX5_sinkOf_14 ⟨Nat.le_refl _, Nat.le_refl _⟩) hS (fun H locs hG hS => ?_)
  refine lv_iadd hx hb dX5_sinkOf_17 ?_
  refine lv_iload_n hx hb dX5_sinkOf_18 rfl (lv_at hl 2 rfl) ?_
  refine lv_aload_n hx hb dX5_sinkOf_19 rfl (lv_at hl 0 rfl) ?_
  refine lv_iload_n hx hb dX5_sinkOf_20 rfl (lv_at hl 2 rfl) ?_
  obtain ⟨v4, ev4, h⟩ := obind h
  refine g_endi (va_runV (As := [.int x2]) (rest := [.int x2, .int (v2 + v3), .int v1, .ref (ad 0)]) ⟨hx, hb, hml, hown, hts⟩ (k_X5_counts l D cy ad hi I L x2 v4 ev4) (cwV 1 hts gX5_sinkOf_X5_counts rfl rfl rfl cd_X5_counts ⟨Nat.le_of_ble_eq_true rfl, Nat.le_of_ble_eq_true rfl⟩) ⟨g_blind mZm, g_recv hK hG (k := 0) (by decide) (mE_5 _ _) vwCl_5, g_pre mZm hK hG hZ hS⟩ rfl rfl hl.1 rfl (lv_room (Nat.le_of_ble_eq_true rfl)) dX5_sinkOf_21 ⟨Nat.le_refl _, Nat.le_refl _⟩) hS (fun H locs hG hS => ?_)
  refine lv_aload_n hx hb dX5_sinkOf_24 rfl (lv_at hl 0 rfl) ?_
  refine lv_iload hx hb dX5_sinkOf_25 (lv_at hl 4 rfl) ?_
  obtain ⟨v5, ev5, h⟩ := obind h
  refine g_endi (va_runV (As := [.int x4]) (rest := [.int v4, .int x2, .int (v2 + v3), .int v1, .ref (ad 0)]) ⟨hx, hb, hml, hown, hts⟩ (k_X5_poundsOf l D cy ad hi I L x4 v5 ev5) (cwV 1 hts gX5_sinkOf_X5_poundsOf rfl rfl rfl cd_X5_poundsOf ⟨Nat.le_of_ble_eq_true rfl, Nat.le_of_ble_eq_true rfl⟩) ⟨g_blind mZm, g_recv hK hG (k := 0) (by decide) (mE_5 _ _) vwCl_5, g_pre mZm hK hG hZ hS⟩ rfl rfl hl.1 rfl (lv_room (Nat.le_of_ble_eq_true rfl)) dX5_sinkOf_27 ⟨Nat.le_refl _, Nat.le_refl _⟩) hS (fun H locs hG hS => ?_)
  refine lv_iadd hx hb dX5_sinkOf_30 ?_
  obtain ⟨v6, ev6, h⟩ := obind h
  refine g_endi (va_runV (As := [.int v1, .int (v2 + v3), .int x2, .int (v4 + v5)]) (rest := []) ⟨hx, hb, hml, hown, hts⟩ (k_X5_sinkUnder l D cy ad hi I L v1 (v2 + v3) x2 (v4 + v5) v6 ev6) (cwV 4 hts gX5_sinkOf_X5_sinkUnder rfl rfl rfl cd_X5_sinkUnder ⟨Nat.le_of_ble_eq_true rfl, Nat.le_of_ble_eq_true rfl⟩) ⟨g_blind mZm, g_recv hK hG (k := 0) (by decide) (mE_5 _ _) vwCl_5, g_pre mZm hK hG hZ hS⟩ rfl rfl hl.1 rfl (lv_room (Nat.le_of_ble_eq_true rfl)) dX5_sinkOf_31 ⟨Nat.le_refl _, Nat.le_refl _⟩) hS (fun H locs hG hS => ?_)
  have h := Option.some.inj h
  subst h
  subst hQ
  exact g_iret hx hb hr hlocks mZm hK hZ hG hS rfl dX5_sinkOf_34
def X5_isTop (I : xMem) (x1 : Int32) : Option (Int32) := (rdI I 1 660 (2 : Int32)).bind fun v1 => some (nz (X5_has v1 x1))
abbrev rm_X5_isTop : Room := { frames := 1, cells := 0, slots := 0, locals := 21 }
theorem cd_X5_isTop : yX5_isTop.cls = RX5 ∧ yX5_isTop.cls ≠ "java/lang/invoke/MethodHandle" ∧ yX5_isTop.cls ≠ "java/lang/invoke/VarHandle" ∧ (parseMethodDescriptor yX5_isTop.desc).map (fun d => d.parameters.length) = some 1 := by decide +kernel
set_option maxHeartbeats 4000000 in
set_option maxRecDepth 100000 in
theorem k_X5_isTop (l : Launch) (D : va_G) (cy : Nat → ClassId) (ad : Nat → Nat) (hi : gInj 18 ad) (I : xMem) (L : xLon) (x1 : Int32) (r : Int32) (h : X5_isTop I x1 = some r) : Met l yX5_isTop wsX5_isTop rm_X5_isTop (va_Pc [.ref (ad 0), .int x1] (mW D cy ad I L)) (mPi D cy ad I L r) 0 0 (gA 18 ad) := by
  refine g_met (own := RX5) (cc := cX5_isTop) (maxL := 2) (ret := (some .boolean)) (by decide) rfl (Nat.le_of_ble_eq_true rfl) rfl ?_
  intro p e s m args below meth c ls hx hb hml hr hlocks hown hts hG hK hZ hl
  generalize hQ : MQ below _ args s 0 0 _ = Q
  have hl : lv_has ls 2 [(0, .ref (ad 0)), (1, .int x1)] := hl
  have hS : va_S (gA 18 ad) s.heap s.heap [] := va_S.rf
  have l5 : ∀ w ∈ wsX50, w.before args s = true := fun w h => hts w (List.mem_cons_of_mem _ (List.mem_append_right _ h))
  have k1 := hts (.fieldLink RX5 7 "PairStairsModel" "row" "[I") (by decide +kernel)
  unfold X5_isTop at h
  refine lv_aload_n hx hb dX5_isTop_0 rfl (lv_at hl 0 rfl) ?_
  refine g_get hx hb l5 hown hK hG (k := 0) (by decide) (mE_5 _ _) vwCl_5 0 (by decide) k1 (fun _ h9 => h9) rfl dX5_isTop_1 ?_
  refine lv_iconst (v := (2 : Int32)) hx hb dX5_isTop_4 (by decide) ?_
  refine g_ald hx hb hK hG (k := 1) (n := 660) (show mIA 1 660 from by decide +kernel).1.1 (mIA_e (show mIA 1 660 from by decide +kernel) _ _) 0 rfl h dX5_isTop_5 (fun v1 h => ?_)
  refine lv_iload_n hx hb dX5_isTop_6 rfl (lv_at hl 1 rfl) ?_
  refine g_endi (va_runS (As := [.int v1, .int x1]) (rest := []) ⟨hx, hb, hml, hown, hts⟩ (k_X5_has l D cy ad hi I L v1 x1 _ rfl) (va_cwS 2 hts gX5_isTop_X5_has rfl rfl rfl cd_X5_has.2 ⟨Nat.le_of_ble_eq_true rfl, Nat.le_of_ble_eq_true rfl⟩) ⟨g_blind mZm, g_pre mZm hK hG hZ hS⟩ rfl rfl hl.1 rfl (lv_room (Nat.le_of_ble_eq_true rfl)) dX5_isTop_7 ⟨Nat.le_refl _, Nat.le_refl _⟩) hS (fun H locs hG hS => ?_)
  have h := Option.some.inj h
  subst h
  subst hQ
  exact g_zret hx hb hr hlocks mZm hK hZ hG hS rfl dX5_isTop_10
def X5_areAtOneEnd (I : xMem) (x1 : Int32) (x2 : Int32) : Option (Int32) := (X5_isTop I x1).bind fun v1 => (X5_isTop I x2).bind fun v2 => if v1 = v2 then (some (nz (1 : Int32))) else (some (nz (0 : Int32)))
abbrev rm_X5_areAtOneEnd : Room := { frames := 2, cells := 0, slots := 0, locals := 42 }
theorem cd_X5_areAtOneEnd : yX5_areAtOneEnd.cls = RX5 ∧ yX5_areAtOneEnd.cls ≠ "java/lang/invoke/MethodHandle" ∧ yX5_areAtOneEnd.cls ≠ "java/lang/invoke/VarHandle" ∧ (parseMethodDescriptor yX5_areAtOneEnd.desc).map (fun d => d.parameters.length) = some 2 := by decide +kernel
set_option maxHeartbeats 4000000 in
set_option maxRecDepth 100000 in
theorem k_X5_areAtOneEnd (l : Launch) (D : va_G) (cy : Nat → ClassId) (ad : Nat → Nat) (hi : gInj 18 ad) (I : xMem) (L : xLon) (x1 : Int32) (x2 : Int32) (r : Int32) (h : X5_areAtOneEnd I x1 x2 = some r) : Met l yX5_areAtOneEnd wsX5_areAtOneEnd rm_X5_areAtOneEnd (va_Pc [.ref (ad 0), .int x1, .int x2] (mW D cy ad I L)) (mPi D cy ad I L r) 0 0 (gA 18 ad) := by
  refine g_met (own := RX5) (cc := cX5_areAtOneEnd) (maxL := 3) (ret := (some .boolean)) (by decide) rfl (Nat.le_of_ble_eq_true rfl) rfl ?_
  intro p e s m args below meth c ls hx hb hml hr hlocks hown hts hG hK hZ hl
  generalize hQ : MQ below _ args s 0 0 _ = Q
  have hl : lv_has ls 3 [(0, .ref (ad 0)), (1, .int x1), (2, .int x2)] := hl
  have hS : va_S (gA 18 ad) s.heap s.heap [] := va_S.rf
  unfold X5_areAtOneEnd at h
  refine lv_aload_n hx hb dX5_areAtOneEnd_0 rfl (lv_at hl 0 rfl) ?_
  refine lv_iload_n hx hb dX5_areAtOneEnd_1 rfl (lv_at hl 1 rfl) ?_
  obtain ⟨v1, ev1, h⟩ := obind h
  refine g_endi (va_runV (As := [.int x1]) (rest := []) ⟨hx, hb, hml, hown, hts⟩ (k_X5_isTop l D cy ad hi I L x1 v1 ev1) (cwV 1 hts gX5_areAtOneEnd_X5_isTop rfl rfl rfl cd_X5_isTop ⟨Nat.le_of_ble_eq_true rfl, Nat.le_of_ble_eq_true rfl⟩) ⟨g_blind mZm, g_recv hK hG (k := 0) (by decide) (mE_5 _ _) vwCl_5, g_pre mZm hK hG hZ hS⟩ rfl rfl hl.1 rfl (lv_room (Nat.le_of_ble_eq_true rfl)) dX5_areAtOneEnd_2 ⟨Nat.le_refl _, Nat.le_refl _⟩) hS (fun H locs hG hS => ?_)
  refine lv_aload_n hx hb dX5_areAtOneEnd_5 rfl (lv_at hl 0 rfl) ?_
  refine lv_iload_n hx hb dX5_areAtOneEnd_6 rfl (lv_at hl 2 rfl) ?_
  obtain ⟨v2, ev2, h⟩ := obind h
  refine g_endi (va_runV (As := [.int x2]) (rest := [.int v1]) ⟨hx, hb, hml, hown, hts⟩ (k_X5_isTop l D cy ad hi I L x2 v2 ev2) (cwV 1 hts gX5_areAtOneEnd_X5_isTop rfl rfl rfl cd_X5_isTop ⟨Nat.le_of_ble_eq_true rfl, Nat.le_of_ble_eq_true rfl⟩) ⟨g_blind mZm, g_recv hK hG (k := 0) (by decide) (mE_5 _ _) vwCl_5, g_pre mZm hK hG hZ hS⟩ rfl rfl hl.1 rfl (lv_room (Nat.le_of_ble_eq_true rfl)) dX5_areAtOneEnd_7 ⟨Nat.le_refl _, Nat.le_refl _⟩) hS (fun H locs hG hS => ?_)
  refine lv_icmp_ne (tgt := 17) hx hb dX5_areAtOneEnd_10 (by decide) (fun c3 => ?_) (fun c3 => ?_)
  · have h := ite_f h c3
    refine lv_iconst (v := (0 : Int32)) hx hb dX5_areAtOneEnd_17 (by decide) ?_
    have h := Option.some.inj h
    subst h
    subst hQ
    exact g_zret hx hb hr hlocks mZm hK hZ hG hS rfl dX5_areAtOneEnd_18
  · have h := ite_t h c3
    refine lv_iconst (v := (1 : Int32)) hx hb dX5_areAtOneEnd_13 (by decide) ?_
    refine lv_goto (tgt := 18) hx hb dX5_areAtOneEnd_14 (by decide) ?_
    have h := Option.some.inj h
    subst h
    subst hQ
    exact g_zret hx hb hr hlocks mZm hK hZ hG hS rfl dX5_areAtOneEnd_18
def X5_stonesBy (I : xMem) (x1 : Int32) : Option (Int32) := (X5_isTop I x1).bind fun v1 => if v1 = (0 : Int32) then ((rdI I 1 660 (3 : Int32)).bind fun v3 => some ((((1 : Int32) <<< ((I 0 2) &&& 31)) - (1 : Int32)) &&& (v3 ^^^ (-1 : Int32)))) else ((rdI I 1 660 (3 : Int32)).bind fun v4 => some v4)
abbrev rm_X5_stonesBy : Room := { frames := 2, cells := 0, slots := 0, locals := 42 }
theorem cd_X5_stonesBy : yX5_stonesBy.cls = RX5 ∧ yX5_stonesBy.cls ≠ "java/lang/invoke/MethodHandle" ∧ yX5_stonesBy.cls ≠ "java/lang/invoke/VarHandle" ∧ (parseMethodDescriptor yX5_stonesBy.desc).map (fun d => d.parameters.length) = some 1 := by decide +kernel
set_option maxHeartbeats 4000000 in
set_option maxRecDepth 100000 in
theorem k_X5_stonesBy (l : Launch) (D : va_G) (cy : Nat → ClassId) (ad : Nat → Nat) (hi : gInj 18 ad) (I : xMem) (L : xLon) (x1 : Int32) (r : Int32) (h : X5_stonesBy I x1 = some r) : Met l yX5_stonesBy wsX5_stonesBy rm_X5_stonesBy (va_Pc [.ref (ad 0), .int x1] (mW D cy ad I L)) (mPi D cy ad I L r) 0 0 (gA 18 ad) := by
  refine g_met (own := RX5) (cc := cX5_stonesBy) (maxL := 3) (ret := (some .int)) (by decide) rfl (Nat.le_of_ble_eq_true rfl) rfl ?_
  intro p e s m args below meth c ls hx hb hml hr hlocks hown hts hG hK hZ hl
  generalize hQ : MQ below _ args s 0 0 _ = Q
  have hl : lv_has ls 3 [(0, .ref (ad 0)), (1, .int x1)] := hl
  have hS : va_S (gA 18 ad) s.heap s.heap [] := va_S.rf
  have l5 : ∀ w ∈ wsX50, w.before args s = true := fun w h => hts w (List.mem_cons_of_mem _ (List.mem_append_right _ h))
  have k1 := hts (.fieldLink RX5 154 "PairStairsModel" "stoneMany" "I") (by decide +kernel)
  have k2 := hts (.fieldLink RX5 7 "PairStairsModel" "row" "[I") (by decide +kernel)
  unfold X5_stonesBy at h
  refine lv_iconst (v := (1 : Int32)) hx hb dX5_stonesBy_0 (by decide) ?_
  refine lv_aload_n hx hb dX5_stonesBy_1 rfl (lv_at hl 0 rfl) ?_
  refine g_get hx hb l5 hown hK hG (k := 0) (by decide) (mE_5 _ _) vwCl_5 2 (by decide) k1 (fun _ h9 => h9) rfl dX5_stonesBy_2 ?_
  refine lv_ishl hx hb dX5_stonesBy_5 ?_
  refine lv_iconst (v := (1 : Int32)) hx hb dX5_stonesBy_6 (by decide) ?_
  refine lv_isub hx hb dX5_stonesBy_7 ?_
  refine lv_istore_n (lv' := [(2, .int (((1 : Int32) <<< ((I 0 2) &&& 31)) - (1 : Int32))), (0, .ref (ad 0)), (1, .int x1)]) hx hb dX5_stonesBy_8 rfl hl (by decide) rfl (fun ls hl => ?_)
  refine lv_aload_n hx hb dX5_stonesBy_9 rfl (lv_at hl 1 rfl) ?_
  refine lv_iload_n hx hb dX5_stonesBy_10 rfl (lv_at hl 2 rfl) ?_
  obtain ⟨v1, ev1, h⟩ := obind h
  refine g_endi (va_runV (As := [.int x1]) (rest := []) ⟨hx, hb, hml, hown, hts⟩ (k_X5_isTop l D cy ad hi I L x1 v1 ev1) (cwV 1 hts gX5_stonesBy_X5_isTop rfl rfl rfl cd_X5_isTop ⟨Nat.le_of_ble_eq_true rfl, Nat.le_of_ble_eq_true rfl⟩) ⟨g_blind mZm, g_recv hK hG (k := 0) (by decide) (mE_5 _ _) vwCl_5, g_pre mZm hK hG hZ hS⟩ rfl rfl hl.1 rfl (lv_room (Nat.le_of_ble_eq_true rfl)) dX5_stonesBy_11 ⟨Nat.le_refl _, Nat.le_refl _⟩) hS (fun H locs hG hS => ?_)
  refine lv_if_eq (tgt := 26) hx hb dX5_stonesBy_14 (by decide) (fun c2 => ?_) (fun c2 => ?_)
  · have h := ite_t h c2
    refine lv_iload_n hx hb dX5_stonesBy_26 rfl (lv_at hl 0 rfl) ?_
    refine lv_aload_n hx hb dX5_stonesBy_27 rfl (lv_at hl 1 rfl) ?_
    refine g_get hx hb l5 hown hK hG (k := 0) (by decide) (mE_5 _ _) vwCl_5 0 (by decide) k2 (fun _ h9 => h9) rfl dX5_stonesBy_28 ?_
    refine lv_iconst (v := (3 : Int32)) hx hb dX5_stonesBy_31 (by decide) ?_
    refine g_ald hx hb hK hG (k := 1) (n := 660) (show mIA 1 660 from by decide +kernel).1.1 (mIA_e (show mIA 1 660 from by decide +kernel) _ _) 0 rfl h dX5_stonesBy_32 (fun v3 h => ?_)
    refine lv_iconst (v := (-1 : Int32)) hx hb dX5_stonesBy_33 (by decide) ?_
    refine lv_ixor hx hb dX5_stonesBy_34 ?_
    refine lv_iand hx hb dX5_stonesBy_35 ?_
    have h := Option.some.inj h
    subst h
    subst hQ
    exact g_iret hx hb hr hlocks mZm hK hZ hG hS rfl dX5_stonesBy_36
  · have h := ite_f h c2
    refine lv_aload_n hx hb dX5_stonesBy_17 rfl (lv_at hl 1 rfl) ?_
    refine g_get hx hb l5 hown hK hG (k := 0) (by decide) (mE_5 _ _) vwCl_5 0 (by decide) k2 (fun _ h9 => h9) rfl dX5_stonesBy_18 ?_
    refine lv_iconst (v := (3 : Int32)) hx hb dX5_stonesBy_21 (by decide) ?_
    refine g_ald hx hb hK hG (k := 1) (n := 660) (show mIA 1 660 from by decide +kernel).1.1 (mIA_e (show mIA 1 660 from by decide +kernel) _ _) 0 rfl h dX5_stonesBy_22 (fun v4 h => ?_)
    refine lv_goto (tgt := 36) hx hb dX5_stonesBy_23 (by decide) ?_
    have h := Option.some.inj h
    subst h
    subst hQ
    exact g_iret hx hb hr hlocks mZm hK hZ hG hS rfl dX5_stonesBy_36
def X5_leastSink_L1 (x1 : Int32) (x2 : Int32) (x3 : Int32) (K1 : Int32 → xMem → Option (Int32 × xMem)) : Nat → Int32 → Int32 → xMem → Option (Int32 × xMem)
  | 0, _, _, _ => none
  | n2 + 1, x4_2, x5_2, I3 => if (256 : Int32) ≤ x5_2 then (K1 x4_2 I3) else (if ((x5_2 / (16 : Int32)) &&& (x5_2 - x5_2 / (16 : Int32) * (16 : Int32))) = (0 : Int32) then (if (((x5_2 / (16 : Int32)) ||| (x5_2 - x5_2 / (16 : Int32) * (16 : Int32))) &&& (x3 ^^^ (-1 : Int32))) = (0 : Int32) then ((X5_sinkOf I3 x1 x2 (x5_2 / (16 : Int32)) (x5_2 - x5_2 / (16 : Int32) * (16 : Int32))).bind fun v8 => (if x4_2 ≤ v8 then (some (I3 0 24)) else (some x5_2)).bind fun q9 => (some (wr I3 0 24 q9)).bind fun I11 => if x4_2 ≤ v8 then (X5_leastSink_L1 x1 x2 x3 K1 n2 x4_2 (x5_2 + (1 : Int32)) I11) else (X5_leastSink_L1 x1 x2 x3 K1 n2 v8 (x5_2 + (1 : Int32)) I11)) else (X5_leastSink_L1 x1 x2 x3 K1 n2 x4_2 (x5_2 + (1 : Int32)) I3)) else (X5_leastSink_L1 x1 x2 x3 K1 n2 x4_2 (x5_2 + (1 : Int32)) I3))
def X5_leastSink (I : xMem) (x1 : Int32) (x2 : Int32) (x3 : Int32) : Option (Int32 × xMem) := X5_leastSink_L1 x1 x2 x3 (fun (z4_3 : Int32) (I4 : xMem) => some (z4_3, I4)) bigF (9999 : Int32) (0 : Int32) I
abbrev rm_X5_leastSink : Room := { frames := 3, cells := 0, slots := 0, locals := 70 }
theorem cd_X5_leastSink : yX5_leastSink.cls = RX5 ∧ yX5_leastSink.cls ≠ "java/lang/invoke/MethodHandle" ∧ yX5_leastSink.cls ≠ "java/lang/invoke/VarHandle" ∧ (parseMethodDescriptor yX5_leastSink.desc).map (fun d => d.parameters.length) = some 3 := by decide +kernel
set_option maxHeartbeats 4000000 in
set_option maxRecDepth 100000 in
theorem k_X5_leastSink (l : Launch) (D : va_G) (cy : Nat → ClassId) (ad : Nat → Nat) (hi : gInj 18 ad) (I : xMem) (L : xLon) (x1 : Int32) (x2 : Int32) (x3 : Int32) (r : Int32 × xMem) (h : X5_leastSink I x1 x2 x3 = some r) : Met l yX5_leastSink wsX5_leastSink rm_X5_leastSink (va_Pc [.ref (ad 0), .int x1, .int x2, .int x3] (mW D cy ad I L)) (mPi D cy ad r.2 L r.1) 0 0 (gA 18 ad) := by
  refine g_met (own := RX5) (cc := cX5_leastSink) (maxL := 9) (ret := (some .int)) (by decide) rfl (Nat.le_of_ble_eq_true rfl) rfl ?_
  intro p e s m args below meth c ls hx hb hml hr hlocks hown hts hG hK hZ hl
  generalize hQ : MQ below _ args s 0 0 _ = Q
  have hl : lv_has ls 9 [(0, .ref (ad 0)), (1, .int x1), (2, .int x2), (3, .int x3)] := hl
  have hS : va_S (gA 18 ad) s.heap s.heap [] := va_S.rf
  have l5 : ∀ w ∈ wsX50, w.before args s = true := fun w h => hts w (List.mem_cons_of_mem _ (List.mem_append_right _ h))
  have k1 := hts (.fieldLink RX5 190 "PairStairsModel" "bestSets" "I") (by decide +kernel)
  unfold X5_leastSink at h
  refine lv_sipush (v := (9999 : Int32)) hx hb dX5_leastSink_0 (by decide) ?_
  refine lv_istore (lv' := [(4, .int (9999 : Int32)), (0, .ref (ad 0)), (1, .int x1), (2, .int x2), (3, .int x3)]) hx hb dX5_leastSink_3 hl (by decide) rfl (fun ls hl => ?_)
  refine lv_iconst (v := (0 : Int32)) hx hb dX5_leastSink_5 (by decide) ?_
  refine lv_istore (lv' := [(5, .int (0 : Int32)), (4, .int (9999 : Int32)), (0, .ref (ad 0)), (1, .int x1), (2, .int x2), (3, .int x3)]) hx hb dX5_leastSink_6 hl (by decide) rfl (fun ls hl => ?_)
  have keyK1 : ∀ (K1 : Int32 → xMem → Option (Int32 × xMem)), (∀ (z4_3 : Int32) (I4 : xMem) (H : Heap) (locs : List Loc) (ls : Array Slot), K1 z4_3 I4 = some r → mG D cy ad I4 L H → va_S (gA 18 ad) s.heap H locs → lv_has ls 9 [(4, .int z4_3)] → W p l e rm_X5_leastSink s m args below meth c H locs 0 0 Q (F0 m 104 ls [])) → ∀ (n2 : Nat) (x4_2 : Int32) (x5_2 : Int32) (I3 : xMem) (H : Heap) (locs : List Loc) (ls : Array Slot), X5_leastSink_L1 x1 x2 x3 K1 n2 x4_2 x5_2 I3 = some r → mG D cy ad I3 L H → va_S (gA 18 ad) s.heap H locs → lv_has ls 9 [(0, .ref (ad 0)), (1, .int x1), (2, .int x2), (3, .int x3), (4, .int x4_2), (5, .int x5_2)] → W p l e rm_X5_leastSink s m args below meth c H locs 0 0 Q (F0 m 8 ls []) := by
    intro K1 hkK1 n2
    induction n2 with
    | zero =>
      intro x4_2 x5_2 I3 H locs ls h
      exact ono h
    | succ n2 ihn2 =>
      intro x4_2 x5_2 I3 H locs ls h hG hS hl
      rw [X5_leastSink_L1] at h
      refine lv_iload hx hb dX5_leastSink_8 (lv_at hl 5 rfl) ?_
      refine lv_sipush (v := (256 : Int32)) hx hb dX5_leastSink_10 (by decide) ?_
      refine lv_icmp_ge (tgt := 104) hx hb dX5_leastSink_13 (by decide) (fun c5 => ?_) (fun c5 => ?_)
      · have h := ite_t h c5
        exact hkK1 x4_2 I3 _ _ _ h hG hS (lv_sub hl [4] rfl)
      · have h := ite_f h c5
        refine lv_iload hx hb dX5_leastSink_16 (lv_at hl 5 rfl) ?_
        refine lv_bipush (v := (16 : Int32)) hx hb dX5_leastSink_18 (by decide) ?_
        refine lv_idiv hx hb dX5_leastSink_20 (by decide) ?_
        refine lv_istore (lv' := [(6, .int (x5_2 / (16 : Int32))), (0, .ref (ad 0)), (1, .int x1), (2, .int x2), (3, .int x3), (4, .int x4_2), (5, .int x5_2)]) hx hb dX5_leastSink_21 hl (by decide) rfl (fun ls hl => ?_)
        refine lv_iload hx hb dX5_leastSink_23 (lv_at hl 6 rfl) ?_
        refine lv_bipush (v := (16 : Int32)) hx hb dX5_leastSink_25 (by decide) ?_
        refine lv_irem hx hb dX5_leastSink_27 (by decide) ?_
        refine lv_istore (lv' := [(7, .int (x5_2 - x5_2 / (16 : Int32) * (16 : Int32))), (6, .int (x5_2 / (16 : Int32))), (0, .ref (ad 0)), (1, .int x1), (2, .int x2), (3, .int x3), (4, .int x4_2), (5, .int x5_2)]) hx hb dX5_leastSink_28 hl (by decide) rfl (fun ls hl => ?_)
        refine lv_iload hx hb dX5_leastSink_30 (lv_at hl 1 rfl) ?_
        refine lv_iload hx hb dX5_leastSink_32 (lv_at hl 0 rfl) ?_
        refine lv_iand hx hb dX5_leastSink_34 ?_
        refine lv_if_ne (tgt := 98) hx hb dX5_leastSink_35 (by decide) (fun c6 => ?_) (fun c6 => ?_)
        · have h := ite_f h c6
          refine lv_iinc (v := (x5_2 + (1 : Int32))) (lv' := [(5, .int (x5_2 + (1 : Int32))), (7, .int (x5_2 - x5_2 / (16 : Int32) * (16 : Int32))), (6, .int (x5_2 / (16 : Int32))), (0, .ref (ad 0)), (1, .int x1), (2, .int x2), (3, .int x3), (4, .int x4_2)]) hx hb dX5_leastSink_98 hl (k := 7) rfl rfl (by decide) rfl (fun ls hl => ?_)
          refine lv_goto (tgt := 8) hx hb dX5_leastSink_101 (by decide) ?_
          exact ihn2 x4_2 (x5_2 + (1 : Int32)) I3 _ _ _ h hG hS (lv_sub hl [3, 4, 5, 6, 7, 0] rfl)
        · have h := ite_t h c6
          refine lv_iload hx hb dX5_leastSink_38 (lv_at hl 1 rfl) ?_
          refine lv_iload hx hb dX5_leastSink_40 (lv_at hl 0 rfl) ?_
          refine lv_ior hx hb dX5_leastSink_42 ?_
          refine lv_iload_n hx hb dX5_leastSink_43 rfl (lv_at hl 5 rfl) ?_
          refine lv_iconst (v := (-1 : Int32)) hx hb dX5_leastSink_44 (by decide) ?_
          refine lv_ixor hx hb dX5_leastSink_45 ?_
          refine lv_iand hx hb dX5_leastSink_46 ?_
          refine lv_if_ne (tgt := 98) hx hb dX5_leastSink_47 (by decide) (fun c7 => ?_) (fun c7 => ?_)
          · have h := ite_f h c7
            refine lv_iinc (v := (x5_2 + (1 : Int32))) (lv' := [(5, .int (x5_2 + (1 : Int32))), (7, .int (x5_2 - x5_2 / (16 : Int32) * (16 : Int32))), (6, .int (x5_2 / (16 : Int32))), (0, .ref (ad 0)), (1, .int x1), (2, .int x2), (3, .int x3), (4, .int x4_2)]) hx hb dX5_leastSink_98 hl (k := 7) rfl rfl (by decide) rfl (fun ls hl => ?_)
            refine lv_goto (tgt := 8) hx hb dX5_leastSink_101 (by decide) ?_
            exact ihn2 x4_2 (x5_2 + (1 : Int32)) I3 _ _ _ h hG hS (lv_sub hl [3, 4, 5, 6, 7, 0] rfl)
          · have h := ite_t h c7
            refine lv_aload_n hx hb dX5_leastSink_50 rfl (lv_at hl 2 rfl) ?_
            refine lv_iload_n hx hb dX5_leastSink_51 rfl (lv_at hl 3 rfl) ?_
            refine lv_iload_n hx hb dX5_leastSink_52 rfl (lv_at hl 4 rfl) ?_
            refine lv_iload hx hb dX5_leastSink_53 (lv_at hl 1 rfl) ?_
            refine lv_iload hx hb dX5_leastSink_55 (lv_at hl 0 rfl) ?_
            obtain ⟨v8, ev8, h⟩ := obind h
            refine g_endi (va_runV (As := [.int x1, .int x2, .int (x5_2 / (16 : Int32)), .int (x5_2 - x5_2 / (16 : Int32) * (16 : Int32))]) (rest := []) ⟨hx, hb, hml, hown, hts⟩ (k_X5_sinkOf l D cy ad hi I3 L x1 x2 (x5_2 / (16 : Int32)) (x5_2 - x5_2 / (16 : Int32) * (16 : Int32)) v8 ev8) (cwV 4 hts gX5_leastSink_X5_sinkOf rfl rfl rfl cd_X5_sinkOf ⟨Nat.le_of_ble_eq_true rfl, Nat.le_of_ble_eq_true rfl⟩) ⟨g_blind mZm, g_recv hK hG (k := 0) (by decide) (mE_5 _ _) vwCl_5, g_pre mZm hK hG hZ hS⟩ rfl rfl hl.1 rfl (lv_room (Nat.le_of_ble_eq_true rfl)) dX5_leastSink_57 ⟨Nat.le_refl _, Nat.le_refl _⟩) hS (fun H locs hG hS => ?_)
            refine lv_istore (lv' := [(8, .int v8), (7, .int (x5_2 - x5_2 / (16 : Int32) * (16 : Int32))), (6, .int (x5_2 / (16 : Int32))), (0, .ref (ad 0)), (1, .int x1), (2, .int x2), (3, .int x3), (4, .int x4_2), (5, .int x5_2)]) hx hb dX5_leastSink_60 hl (by decide) rfl (fun ls hl => ?_)
            refine lv_aload_n hx hb dX5_leastSink_62 rfl (lv_at hl 3 rfl) ?_
            refine lv_iload hx hb dX5_leastSink_63 (lv_at hl 0 rfl) ?_
            refine lv_iload hx hb dX5_leastSink_65 (lv_at hl 7 rfl) ?_
            obtain ⟨q9, h9, h⟩ := obind h
            have hk_q9 : ∀ (H : Heap) (locs : List Loc) (ls : Array Slot), mG D cy ad I3 L H → va_S (gA 18 ad) s.heap H locs → lv_has ls 9 [(0, .ref (ad 0)), (1, .int x1), (2, .int x2), (3, .int x3), (4, .int x4_2), (5, .int x5_2), (8, .int v8)] → W p l e rm_X5_leastSink s m args below meth c H locs 0 0 Q (F0 m 79 ls [.int q9, .ref (ad 0)]) := by
              intro H locs ls hG hS hl
              obtain ⟨I11, eI11, h⟩ := obind h
              refine g_put hx hb l5 tyX5_ok nmX5 hown hK hG hi hS (k := 0) (by decide) (mE_5 _ _) vwCl_5 24 (by decide) k1 (fun _ h9 => h9) rfl rfl (Nat.le_of_ble_eq_true rfl) (by rw [mE_5 _ _]; rfl) dX5_leastSink_79 (fun H locs hG hS => ?_)
              rw [Option.some.inj eI11] at hG
              refine lv_iload hx hb dX5_leastSink_82 (lv_at hl 6 rfl) ?_
              refine lv_iload hx hb dX5_leastSink_84 (lv_at hl 4 rfl) ?_
              refine lv_icmp_ge (tgt := 94) hx hb dX5_leastSink_86 (by decide) (fun c12 => ?_) (fun c12 => ?_)
              · have h := ite_t h c12
                refine lv_iload hx hb dX5_leastSink_94 (lv_at hl 4 rfl) ?_
                refine lv_istore (lv' := [(4, .int x4_2), (0, .ref (ad 0)), (1, .int x1), (2, .int x2), (3, .int x3), (5, .int x5_2), (8, .int v8)]) hx hb dX5_leastSink_96 hl (by decide) rfl (fun ls hl => ?_)
                refine lv_iinc (v := (x5_2 + (1 : Int32))) (lv' := [(5, .int (x5_2 + (1 : Int32))), (4, .int x4_2), (0, .ref (ad 0)), (1, .int x1), (2, .int x2), (3, .int x3), (8, .int v8)]) hx hb dX5_leastSink_98 hl (k := 5) rfl rfl (by decide) rfl (fun ls hl => ?_)
                refine lv_goto (tgt := 8) hx hb dX5_leastSink_101 (by decide) ?_
                exact ihn2 x4_2 (x5_2 + (1 : Int32)) I11 _ _ _ h hG hS (lv_sub hl [2, 3, 4, 5, 1, 0] rfl)
              · have h := ite_f h c12
                refine lv_iload hx hb dX5_leastSink_89 (lv_at hl 6 rfl) ?_
                refine lv_goto (tgt := 96) hx hb dX5_leastSink_91 (by decide) ?_
                refine lv_istore (lv' := [(4, .int v8), (0, .ref (ad 0)), (1, .int x1), (2, .int x2), (3, .int x3), (5, .int x5_2), (8, .int v8)]) hx hb dX5_leastSink_96 hl (by decide) rfl (fun ls hl => ?_)
                refine lv_iinc (v := (x5_2 + (1 : Int32))) (lv' := [(5, .int (x5_2 + (1 : Int32))), (4, .int v8), (0, .ref (ad 0)), (1, .int x1), (2, .int x2), (3, .int x3), (8, .int v8)]) hx hb dX5_leastSink_98 hl (k := 5) rfl rfl (by decide) rfl (fun ls hl => ?_)
                refine lv_goto (tgt := 8) hx hb dX5_leastSink_101 (by decide) ?_
                exact ihn2 v8 (x5_2 + (1 : Int32)) I11 _ _ _ h hG hS (lv_sub hl [2, 3, 4, 5, 1, 0] rfl)
            clear h
            have h := h9
            clear h9
            refine lv_icmp_ge (tgt := 75) hx hb dX5_leastSink_67 (by decide) (fun c10 => ?_) (fun c10 => ?_)
            · have h := ite_t h c10
              refine lv_aload_n hx hb dX5_leastSink_75 rfl (lv_at hl 3 rfl) ?_
              refine g_get hx hb l5 hown hK hG (k := 0) (by decide) (mE_5 _ _) vwCl_5 24 (by decide) k1 (fun _ h9 => h9) rfl dX5_leastSink_76 ?_
              have h := Option.some.inj h
              subst h
              exact hk_q9 _ _ _ hG hS (lv_sub hl [3, 4, 5, 6, 7, 8, 0] rfl)
            · have h := ite_f h c10
              refine lv_iload hx hb dX5_leastSink_70 (lv_at hl 8 rfl) ?_
              refine lv_goto (tgt := 79) hx hb dX5_leastSink_72 (by decide) ?_
              have h := Option.some.inj h
              subst h
              exact hk_q9 _ _ _ hG hS (lv_sub hl [3, 4, 5, 6, 7, 8, 0] rfl)
  refine keyK1 _ (fun z4_3 I4 H locs ls h hG hS hl => ?_) bigF (9999 : Int32) (0 : Int32) I _ _ _ h hG hS (lv_sub hl [2, 3, 4, 5, 1, 0] rfl)
  clear keyK1
  refine lv_iload hx hb dX5_leastSink_104 (lv_at hl 0 rfl) ?_
  have h := Option.some.inj h
  subst h
  subst hQ
  exact g_iret hx hb hr hlocks mZm hK hZ hG hS rfl dX5_leastSink_106
def X5_can (I : xMem) (x1 : Int32) (x2 : Int32) (x3 : Int32) : Option (Int32 × xMem) := if x1 = x2 then (some ((nz (0 : Int32)), I)) else ((X5_areAtOneEnd I x1 x2).bind fun v2 => if v2 = (0 : Int32) then (some ((nz (0 : Int32)), I)) else ((X5_stonesBy I x1).bind fun v4 => (X5_leastSink I x1 x2 (v4 &&& (x3 ^^^ (-1 : Int32)))).bind fun q5 => if (q5.2 0 1) < q5.1 then (some ((nz (0 : Int32)), q5.2)) else (some ((nz (1 : Int32)), q5.2))))
abbrev rm_X5_can : Room := { frames := 4, cells := 0, slots := 0, locals := 98 }
theorem cd_X5_can : yX5_can.cls = RX5 ∧ yX5_can.cls ≠ "java/lang/invoke/MethodHandle" ∧ yX5_can.cls ≠ "java/lang/invoke/VarHandle" ∧ (parseMethodDescriptor yX5_can.desc).map (fun d => d.parameters.length) = some 3 := by decide +kernel
set_option maxHeartbeats 4000000 in
set_option maxRecDepth 100000 in
theorem k_X5_can (l : Launch) (D : va_G) (cy : Nat → ClassId) (ad : Nat → Nat) (hi : gInj 18 ad) (I : xMem) (L : xLon) (x1 : Int32) (x2 : Int32) (x3 : Int32) (r : Int32 × xMem) (h : X5_can I x1 x2 x3 = some r) : Met l yX5_can wsX5_can rm_X5_can (va_Pc [.ref (ad 0), .int x1, .int x2, .int x3] (mW D cy ad I L)) (mPi D cy ad r.2 L r.1) 0 0 (gA 18 ad) := by
  refine g_met (own := RX5) (cc := cX5_can) (maxL := 4) (ret := (some .boolean)) (by decide) rfl (Nat.le_of_ble_eq_true rfl) rfl ?_
  intro p e s m args below meth c ls hx hb hml hr hlocks hown hts hG hK hZ hl
  generalize hQ : MQ below _ args s 0 0 _ = Q
  have hl : lv_has ls 4 [(0, .ref (ad 0)), (1, .int x1), (2, .int x2), (3, .int x3)] := hl
  have hS : va_S (gA 18 ad) s.heap s.heap [] := va_S.rf
  have l5 : ∀ w ∈ wsX50, w.before args s = true := fun w h => hts w (List.mem_cons_of_mem _ (List.mem_append_right _ h))
  have k1 := hts (.fieldLink RX5 151 "PairStairsModel" "limit" "I") (by decide +kernel)
  unfold X5_can at h
  refine lv_iload_n hx hb dX5_can_0 rfl (lv_at hl 1 rfl) ?_
  refine lv_iload_n hx hb dX5_can_1 rfl (lv_at hl 2 rfl) ?_
  refine lv_icmp_eq (tgt := 40) hx hb dX5_can_2 (by decide) (fun c1 => ?_) (fun c1 => ?_)
  · have h := ite_t h c1
    refine lv_iconst (v := (0 : Int32)) hx hb dX5_can_40 (by decide) ?_
    have h := Option.some.inj h
    subst h
    subst hQ
    exact g_zret hx hb hr hlocks mZm hK hZ hG hS rfl dX5_can_41
  · have h := ite_f h c1
    refine lv_aload_n hx hb dX5_can_5 rfl (lv_at hl 0 rfl) ?_
    refine lv_iload_n hx hb dX5_can_6 rfl (lv_at hl 1 rfl) ?_
    refine lv_iload_n hx hb dX5_can_7 rfl (lv_at hl 2 rfl) ?_
    obtain ⟨v2, ev2, h⟩ := obind h
    refine g_endi (va_runV (As := [.int x1, .int x2]) (rest := []) ⟨hx, hb, hml, hown, hts⟩ (k_X5_areAtOneEnd l D cy ad hi I L x1 x2 v2 ev2) (cwV 2 hts gX5_can_X5_areAtOneEnd rfl rfl rfl cd_X5_areAtOneEnd ⟨Nat.le_of_ble_eq_true rfl, Nat.le_of_ble_eq_true rfl⟩) ⟨g_blind mZm, g_recv hK hG (k := 0) (by decide) (mE_5 _ _) vwCl_5, g_pre mZm hK hG hZ hS⟩ rfl rfl hl.1 rfl (lv_room (Nat.le_of_ble_eq_true rfl)) dX5_can_8 ⟨Nat.le_refl _, Nat.le_refl _⟩) hS (fun H locs hG hS => ?_)
    refine lv_if_eq (tgt := 40) hx hb dX5_can_11 (by decide) (fun c3 => ?_) (fun c3 => ?_)
    · have h := ite_t h c3
      refine lv_iconst (v := (0 : Int32)) hx hb dX5_can_40 (by decide) ?_
      have h := Option.some.inj h
      subst h
      subst hQ
      exact g_zret hx hb hr hlocks mZm hK hZ hG hS rfl dX5_can_41
    · have h := ite_f h c3
      refine lv_aload_n hx hb dX5_can_14 rfl (lv_at hl 0 rfl) ?_
      refine lv_iload_n hx hb dX5_can_15 rfl (lv_at hl 1 rfl) ?_
      refine lv_iload_n hx hb dX5_can_16 rfl (lv_at hl 2 rfl) ?_
      refine lv_aload_n hx hb dX5_can_17 rfl (lv_at hl 0 rfl) ?_
      refine lv_iload_n hx hb dX5_can_18 rfl (lv_at hl 1 rfl) ?_
      obtain ⟨v4, ev4, h⟩ := obind h
      refine g_endi (va_runV (As := [.int x1]) (rest := [.int x2, .int x1, .ref (ad 0)]) ⟨hx, hb, hml, hown, hts⟩ (k_X5_stonesBy l D cy ad hi I L x1 v4 ev4) (cwV 1 hts gX5_can_X5_stonesBy rfl rfl rfl cd_X5_stonesBy ⟨Nat.le_of_ble_eq_true rfl, Nat.le_of_ble_eq_true rfl⟩) ⟨g_blind mZm, g_recv hK hG (k := 0) (by decide) (mE_5 _ _) vwCl_5, g_pre mZm hK hG hZ hS⟩ rfl rfl hl.1 rfl (lv_room (Nat.le_of_ble_eq_true rfl)) dX5_can_19 ⟨Nat.le_refl _, Nat.le_refl _⟩) hS (fun H locs hG hS => ?_)
      refine lv_iload_n hx hb dX5_can_22 rfl (lv_at hl 3 rfl) ?_
      refine lv_iconst (v := (-1 : Int32)) hx hb dX5_can_23 (by decide) ?_
      refine lv_ixor hx hb dX5_can_24 ?_
      refine lv_iand hx hb dX5_can_25 ?_
      obtain ⟨q5, eq5, h⟩ := obind h
      refine g_endi (va_runV (As := [.int x1, .int x2, .int (v4 &&& (x3 ^^^ (-1 : Int32)))]) (rest := []) ⟨hx, hb, hml, hown, hts⟩ (k_X5_leastSink l D cy ad hi I L x1 x2 (v4 &&& (x3 ^^^ (-1 : Int32))) q5 eq5) (cwV 3 hts gX5_can_X5_leastSink rfl rfl rfl cd_X5_leastSink ⟨Nat.le_of_ble_eq_true rfl, Nat.le_of_ble_eq_true rfl⟩) ⟨g_blind mZm, g_recv hK hG (k := 0) (by decide) (mE_5 _ _) vwCl_5, g_pre mZm hK hG hZ hS⟩ rfl rfl hl.1 rfl (lv_room (Nat.le_of_ble_eq_true rfl)) dX5_can_26 ⟨Nat.le_refl _, Nat.le_refl _⟩) hS (fun H locs hG hS => ?_)
      refine lv_aload_n hx hb dX5_can_29 rfl (lv_at hl 0 rfl) ?_
      refine g_get hx hb l5 hown hK hG (k := 0) (by decide) (mE_5 _ _) vwCl_5 1 (by decide) k1 (fun _ h9 => h9) rfl dX5_can_30 ?_
      refine lv_icmp_gt (tgt := 40) hx hb dX5_can_33 (by decide) (fun c6 => ?_) (fun c6 => ?_)
      · have h := ite_t h c6
        refine lv_iconst (v := (0 : Int32)) hx hb dX5_can_40 (by decide) ?_
        have h := Option.some.inj h
        subst h
        subst hQ
        exact g_zret hx hb hr hlocks mZm hK hZ hG hS rfl dX5_can_41
      · have h := ite_f h c6
        refine lv_iconst (v := (1 : Int32)) hx hb dX5_can_36 (by decide) ?_
        refine lv_goto (tgt := 41) hx hb dX5_can_37 (by decide) ?_
        have h := Option.some.inj h
        subst h
        subst hQ
        exact g_zret hx hb hr hlocks mZm hK hZ hG hS rfl dX5_can_41
def X5_toldOf_L1 (x1 : Int32) (K10 : Int32 → xMem → Option (Int32 × xMem)) : Nat → Int32 → Int32 → xMem → Option (Int32 × xMem)
  | 0, _, _, _ => none
  | n11 + 1, x3_11, x4_11, I12 => if (I12 0 4) ≤ x4_11 then (K10 x3_11 I12) else ((X5_can I12 x1 x4_11 (0 : Int32)).bind fun q15 => (if q15.1 = (0 : Int32) then (some (0 : Int32)) else (some ((1 : Int32) <<< (x4_11 &&& 31)))).bind fun q16 => X5_toldOf_L1 x1 K10 n11 (x3_11 ||| q16) (x4_11 + (1 : Int32)) q15.2)
def X5_toldOf (I : xMem) (x1 : Int32) (x2 : Int32) : Option (Int32 × xMem) := if x2 = (0 : Int32) then ((rdI I 3 6 x1).bind fun v2 => some (v2, I)) else (if x2 = (1 : Int32) then ((rdI I 4 6 x1).bind fun v4 => some (v4, I)) else (if x2 = (2 : Int32) then ((X5_counts I x1).bind fun v6 => some (v6, I)) else (if x2 = (3 : Int32) then ((X5_isTop I x1).bind fun v8 => if v8 = (0 : Int32) then (some ((0 : Int32), I)) else (some ((1 : Int32), I))) else (X5_toldOf_L1 x1 (fun (z3_12 : Int32) (I13 : xMem) => some (z3_12, I13)) bigF (0 : Int32) (0 : Int32) I))))
abbrev rm_X5_toldOf : Room := { frames := 5, cells := 0, slots := 0, locals := 121 }
theorem cd_X5_toldOf : yX5_toldOf.cls = RX5 ∧ yX5_toldOf.cls ≠ "java/lang/invoke/MethodHandle" ∧ yX5_toldOf.cls ≠ "java/lang/invoke/VarHandle" ∧ (parseMethodDescriptor yX5_toldOf.desc).map (fun d => d.parameters.length) = some 2 := by decide +kernel
set_option maxHeartbeats 4000000 in
set_option maxRecDepth 100000 in
theorem k_X5_toldOf (l : Launch) (D : va_G) (cy : Nat → ClassId) (ad : Nat → Nat) (hi : gInj 18 ad) (I : xMem) (L : xLon) (x1 : Int32) (x2 : Int32) (r : Int32 × xMem) (h : X5_toldOf I x1 x2 = some r) : Met l yX5_toldOf wsX5_toldOf rm_X5_toldOf (va_Pc [.ref (ad 0), .int x1, .int x2] (mW D cy ad I L)) (mPi D cy ad r.2 L r.1) 0 0 (gA 18 ad) := by
  refine g_met (own := RX5) (cc := cX5_toldOf) (maxL := 5) (ret := (some .int)) (by decide) rfl (Nat.le_of_ble_eq_true rfl) rfl ?_
  intro p e s m args below meth c ls hx hb hml hr hlocks hown hts hG hK hZ hl
  generalize hQ : MQ below _ args s 0 0 _ = Q
  have hl : lv_has ls 5 [(0, .ref (ad 0)), (1, .int x1), (2, .int x2)] := hl
  have hS : va_S (gA 18 ad) s.heap s.heap [] := va_S.rf
  have l5 : ∀ w ∈ wsX50, w.before args s = true := fun w h => hts w (List.mem_cons_of_mem _ (List.mem_append_right _ h))
  have k1 := hts (.fieldLink RX5 16 "PairStairsModel" "kinds" "[I") (by decide +kernel)
  have k2 := hts (.fieldLink RX5 19 "PairStairsModel" "pounds" "[I") (by decide +kernel)
  have k3 := hts (.fieldLink RX5 157 "PairStairsModel" "people" "I") (by decide +kernel)
  unfold X5_toldOf at h
  refine lv_iconst (v := (0 : Int32)) hx hb dX5_toldOf_0 (by decide) ?_
  refine lv_istore_n (lv' := [(3, .int (0 : Int32)), (0, .ref (ad 0)), (1, .int x1), (2, .int x2)]) hx hb dX5_toldOf_1 rfl hl (by decide) rfl (fun ls hl => ?_)
  refine lv_iload_n hx hb dX5_toldOf_2 rfl (lv_at hl 3 rfl) ?_
  by_cases c1 : x2 = (0 : Int32)
  · have h := ite_t h c1
    refine lv_tableIn (tgt := 32) hx hb dX5_toldOf_3 (by rw [c1]; decide) (by rw [c1]; decide) (by rw [c1]; rfl) (by decide) ?_
    refine lv_aload_n hx hb dX5_toldOf_32 rfl (lv_at hl 1 rfl) ?_
    refine g_get hx hb l5 hown hK hG (k := 0) (by decide) (mE_5 _ _) vwCl_5 5 (by decide) k1 (fun _ h9 => h9) rfl dX5_toldOf_33 ?_
    refine lv_iload_n hx hb dX5_toldOf_36 rfl (lv_at hl 2 rfl) ?_
    refine g_ald hx hb hK hG (k := 3) (n := 6) (show mIA 3 6 from by decide +kernel).1.1 (mIA_e (show mIA 3 6 from by decide +kernel) _ _) 0 rfl h dX5_toldOf_37 (fun v2 h => ?_)
    have h := Option.some.inj h
    subst h
    subst hQ
    exact g_iret hx hb hr hlocks mZm hK hZ hG hS rfl dX5_toldOf_38
  · have h := ite_f h c1
    by_cases c3 : x2 = (1 : Int32)
    · have h := ite_t h c3
      refine lv_tableIn (tgt := 39) hx hb dX5_toldOf_3 (by rw [c3]; decide) (by rw [c3]; decide) (by rw [c3]; rfl) (by decide) ?_
      refine lv_aload_n hx hb dX5_toldOf_39 rfl (lv_at hl 1 rfl) ?_
      refine g_get hx hb l5 hown hK hG (k := 0) (by decide) (mE_5 _ _) vwCl_5 6 (by decide) k2 (fun _ h9 => h9) rfl dX5_toldOf_40 ?_
      refine lv_iload_n hx hb dX5_toldOf_43 rfl (lv_at hl 2 rfl) ?_
      refine g_ald hx hb hK hG (k := 4) (n := 6) (show mIA 4 6 from by decide +kernel).1.1 (mIA_e (show mIA 4 6 from by decide +kernel) _ _) 0 rfl h dX5_toldOf_44 (fun v4 h => ?_)
      have h := Option.some.inj h
      subst h
      subst hQ
      exact g_iret hx hb hr hlocks mZm hK hZ hG hS rfl dX5_toldOf_45
    · have h := ite_f h c3
      by_cases c5 : x2 = (2 : Int32)
      · have h := ite_t h c5
        refine lv_tableIn (tgt := 46) hx hb dX5_toldOf_3 (by rw [c5]; decide) (by rw [c5]; decide) (by rw [c5]; rfl) (by decide) ?_
        refine lv_aload_n hx hb dX5_toldOf_46 rfl (lv_at hl 1 rfl) ?_
        refine lv_iload_n hx hb dX5_toldOf_47 rfl (lv_at hl 2 rfl) ?_
        obtain ⟨v6, ev6, h⟩ := obind h
        refine g_endi (va_runV (As := [.int x1]) (rest := []) ⟨hx, hb, hml, hown, hts⟩ (k_X5_counts l D cy ad hi I L x1 v6 ev6) (cwV 1 hts gX5_toldOf_X5_counts rfl rfl rfl cd_X5_counts ⟨Nat.le_of_ble_eq_true rfl, Nat.le_of_ble_eq_true rfl⟩) ⟨g_blind mZm, g_recv hK hG (k := 0) (by decide) (mE_5 _ _) vwCl_5, g_pre mZm hK hG hZ hS⟩ rfl rfl hl.1 rfl (lv_room (Nat.le_of_ble_eq_true rfl)) dX5_toldOf_48 ⟨Nat.le_refl _, Nat.le_refl _⟩) hS (fun H locs hG hS => ?_)
        have h := Option.some.inj h
        subst h
        subst hQ
        exact g_iret hx hb hr hlocks mZm hK hZ hG hS rfl dX5_toldOf_51
      · have h := ite_f h c5
        by_cases c7 : x2 = (3 : Int32)
        · have h := ite_t h c7
          refine lv_tableIn (tgt := 52) hx hb dX5_toldOf_3 (by rw [c7]; decide) (by rw [c7]; decide) (by rw [c7]; rfl) (by decide) ?_
          refine lv_aload_n hx hb dX5_toldOf_52 rfl (lv_at hl 1 rfl) ?_
          refine lv_iload_n hx hb dX5_toldOf_53 rfl (lv_at hl 2 rfl) ?_
          obtain ⟨v8, ev8, h⟩ := obind h
          refine g_endi (va_runV (As := [.int x1]) (rest := []) ⟨hx, hb, hml, hown, hts⟩ (k_X5_isTop l D cy ad hi I L x1 v8 ev8) (cwV 1 hts gX5_toldOf_X5_isTop rfl rfl rfl cd_X5_isTop ⟨Nat.le_of_ble_eq_true rfl, Nat.le_of_ble_eq_true rfl⟩) ⟨g_blind mZm, g_recv hK hG (k := 0) (by decide) (mE_5 _ _) vwCl_5, g_pre mZm hK hG hZ hS⟩ rfl rfl hl.1 rfl (lv_room (Nat.le_of_ble_eq_true rfl)) dX5_toldOf_54 ⟨Nat.le_refl _, Nat.le_refl _⟩) hS (fun H locs hG hS => ?_)
          refine lv_if_eq (tgt := 64) hx hb dX5_toldOf_57 (by decide) (fun c9 => ?_) (fun c9 => ?_)
          · have h := ite_t h c9
            refine lv_iconst (v := (0 : Int32)) hx hb dX5_toldOf_64 (by decide) ?_
            have h := Option.some.inj h
            subst h
            subst hQ
            exact g_iret hx hb hr hlocks mZm hK hZ hG hS rfl dX5_toldOf_65
          · have h := ite_f h c9
            refine lv_iconst (v := (1 : Int32)) hx hb dX5_toldOf_60 (by decide) ?_
            refine lv_goto (tgt := 65) hx hb dX5_toldOf_61 (by decide) ?_
            have h := Option.some.inj h
            subst h
            subst hQ
            exact g_iret hx hb hr hlocks mZm hK hZ hG hS rfl dX5_toldOf_65
        · have h := ite_f h c7
          refine lv_tableOut (tgt := 66) hx hb dX5_toldOf_3 (tsw_out 0 3 (fun k h1 h2 => ?_)) (by decide) ?_
          · rcases (show k = 0 ∨ k = 1 ∨ k = 2 ∨ k = 3 by omega) with rfl | rfl | rfl | rfl
            · exact c1
            · exact c3
            · exact c5
            · exact c7
          · refine lv_iconst (v := (0 : Int32)) hx hb dX5_toldOf_66 (by decide) ?_
            refine lv_istore (lv' := [(4, .int (0 : Int32)), (3, .int (0 : Int32)), (0, .ref (ad 0)), (1, .int x1), (2, .int x2)]) hx hb dX5_toldOf_67 hl (by decide) rfl (fun ls hl => ?_)
            have keyK10 : ∀ (K10 : Int32 → xMem → Option (Int32 × xMem)), (∀ (z3_12 : Int32) (I13 : xMem) (H : Heap) (locs : List Loc) (ls : Array Slot), K10 z3_12 I13 = some r → mG D cy ad I13 L H → va_S (gA 18 ad) s.heap H locs → lv_has ls 5 [(3, .int z3_12)] → W p l e rm_X5_toldOf s m args below meth c H locs 0 0 Q (F0 m 106 ls [])) → ∀ (n11 : Nat) (x3_11 : Int32) (x4_11 : Int32) (I12 : xMem) (H : Heap) (locs : List Loc) (ls : Array Slot), X5_toldOf_L1 x1 K10 n11 x3_11 x4_11 I12 = some r → mG D cy ad I12 L H → va_S (gA 18 ad) s.heap H locs → lv_has ls 5 [(0, .ref (ad 0)), (1, .int x1), (3, .int x3_11), (4, .int x4_11)] → W p l e rm_X5_toldOf s m args below meth c H locs 0 0 Q (F0 m 69 ls []) := by
              intro K10 hkK10 n11
              induction n11 with
              | zero =>
                intro x3_11 x4_11 I12 H locs ls h
                exact ono h
              | succ n11 ihn11 =>
                intro x3_11 x4_11 I12 H locs ls h hG hS hl
                rw [X5_toldOf_L1] at h
                refine lv_iload hx hb dX5_toldOf_69 (lv_at hl 3 rfl) ?_
                refine lv_aload_n hx hb dX5_toldOf_71 rfl (lv_at hl 0 rfl) ?_
                refine g_get hx hb l5 hown hK hG (k := 0) (by decide) (mE_5 _ _) vwCl_5 4 (by decide) k3 (fun _ h9 => h9) rfl dX5_toldOf_72 ?_
                refine lv_icmp_ge (tgt := 106) hx hb dX5_toldOf_75 (by decide) (fun c14 => ?_) (fun c14 => ?_)
                · have h := ite_t h c14
                  exact hkK10 x3_11 I12 _ _ _ h hG hS (lv_sub hl [2] rfl)
                · have h := ite_f h c14
                  refine lv_iload_n hx hb dX5_toldOf_78 rfl (lv_at hl 2 rfl) ?_
                  refine lv_aload_n hx hb dX5_toldOf_79 rfl (lv_at hl 0 rfl) ?_
                  refine lv_iload_n hx hb dX5_toldOf_80 rfl (lv_at hl 1 rfl) ?_
                  refine lv_iload hx hb dX5_toldOf_81 (lv_at hl 3 rfl) ?_
                  refine lv_iconst (v := (0 : Int32)) hx hb dX5_toldOf_83 (by decide) ?_
                  obtain ⟨q15, eq15, h⟩ := obind h
                  refine g_endi (va_runV (As := [.int x1, .int x4_11, .int (0 : Int32)]) (rest := [.int x3_11]) ⟨hx, hb, hml, hown, hts⟩ (k_X5_can l D cy ad hi I12 L x1 x4_11 (0 : Int32) q15 eq15) (cwV 3 hts gX5_toldOf_X5_can rfl rfl rfl cd_X5_can ⟨Nat.le_of_ble_eq_true rfl, Nat.le_of_ble_eq_true rfl⟩) ⟨g_blind mZm, g_recv hK hG (k := 0) (by decide) (mE_5 _ _) vwCl_5, g_pre mZm hK hG hZ hS⟩ rfl rfl hl.1 rfl (lv_room (Nat.le_of_ble_eq_true rfl)) dX5_toldOf_84 ⟨Nat.le_refl _, Nat.le_refl _⟩) hS (fun H locs hG hS => ?_)
                  obtain ⟨q16, h9, h⟩ := obind h
                  have hk_q16 : ∀ (H : Heap) (locs : List Loc) (ls : Array Slot), mG D cy ad q15.2 L H → va_S (gA 18 ad) s.heap H locs → lv_has ls 5 [(0, .ref (ad 0)), (1, .int x1), (4, .int x4_11)] → W p l e rm_X5_toldOf s m args below meth c H locs 0 0 Q (F0 m 98 ls [.int q16, .int x3_11]) := by
                    intro H locs ls hG hS hl
                    refine lv_ior hx hb dX5_toldOf_98 ?_
                    refine lv_istore_n (lv' := [(3, .int (x3_11 ||| q16)), (0, .ref (ad 0)), (1, .int x1), (4, .int x4_11)]) hx hb dX5_toldOf_99 rfl hl (by decide) rfl (fun ls hl => ?_)
                    refine lv_iinc (v := (x4_11 + (1 : Int32))) (lv' := [(4, .int (x4_11 + (1 : Int32))), (3, .int (x3_11 ||| q16)), (0, .ref (ad 0)), (1, .int x1)]) hx hb dX5_toldOf_100 hl (k := 3) rfl rfl (by decide) rfl (fun ls hl => ?_)
                    refine lv_goto (tgt := 69) hx hb dX5_toldOf_103 (by decide) ?_
                    exact ihn11 (x3_11 ||| q16) (x4_11 + (1 : Int32)) q15.2 _ _ _ h hG hS (lv_sub hl [2, 3, 1, 0] rfl)
                  clear h
                  have h := h9
                  clear h9
                  refine lv_if_eq (tgt := 97) hx hb dX5_toldOf_87 (by decide) (fun c17 => ?_) (fun c17 => ?_)
                  · have h := ite_t h c17
                    refine lv_iconst (v := (0 : Int32)) hx hb dX5_toldOf_97 (by decide) ?_
                    have h := Option.some.inj h
                    subst h
                    exact hk_q16 _ _ _ hG hS (lv_sub hl [0, 1, 3] rfl)
                  · have h := ite_f h c17
                    refine lv_iconst (v := (1 : Int32)) hx hb dX5_toldOf_90 (by decide) ?_
                    refine lv_iload hx hb dX5_toldOf_91 (lv_at hl 3 rfl) ?_
                    refine lv_ishl hx hb dX5_toldOf_93 ?_
                    refine lv_goto (tgt := 98) hx hb dX5_toldOf_94 (by decide) ?_
                    have h := Option.some.inj h
                    subst h
                    exact hk_q16 _ _ _ hG hS (lv_sub hl [0, 1, 3] rfl)
            refine keyK10 _ (fun z3_12 I13 H locs ls h hG hS hl => ?_) bigF (0 : Int32) (0 : Int32) I _ _ _ h hG hS (lv_sub hl [2, 3, 1, 0] rfl)
            clear keyK10
            refine lv_iload_n hx hb dX5_toldOf_106 rfl (lv_at hl 0 rfl) ?_
            have h := Option.some.inj h
            subst h
            subst hQ
            exact g_iret hx hb hr hlocks mZm hK hZ hG hS rfl dX5_toldOf_107
def X5_one (I : xMem) (x1 : Int32) (x2 : Int32) : Option (Int32 × xMem) := if (X5_isOne I x1) = (0 : Int32) then (some ((-1 : Int32), I)) else (if (X5_in x2.toInt64 (0 : Int64) (4 : Int64)) = (0 : Int32) then (some ((-1 : Int32), I)) else ((X5_toldOf I x1 x2).bind fun q3 => (X5_tell q3.2 q3.1).bind fun q4 => some (q4.1, q4.2)))
abbrev rm_X5_one : Room := { frames := 6, cells := 0, slots := 0, locals := 145 }
theorem cd_X5_one : yX5_one.cls = RX5 ∧ yX5_one.cls ≠ "java/lang/invoke/MethodHandle" ∧ yX5_one.cls ≠ "java/lang/invoke/VarHandle" ∧ (parseMethodDescriptor yX5_one.desc).map (fun d => d.parameters.length) = some 2 := by decide +kernel
set_option maxHeartbeats 4000000 in
set_option maxRecDepth 100000 in
theorem k_X5_one (l : Launch) (D : va_G) (cy : Nat → ClassId) (ad : Nat → Nat) (hi : gInj 18 ad) (I : xMem) (L : xLon) (x1 : Int32) (x2 : Int32) (r : Int32 × xMem) (h : X5_one I x1 x2 = some r) : Met l yX5_one wsX5_one rm_X5_one (va_Pc [.ref (ad 0), .int x1, .int x2] (mW D cy ad I L)) (mPi D cy ad r.2 L r.1) 0 0 (gA 18 ad) := by
  refine g_met (own := RX5) (cc := cX5_one) (maxL := 3) (ret := (some .int)) (by decide) rfl (Nat.le_of_ble_eq_true rfl) rfl ?_
  intro p e s m args below meth c ls hx hb hml hr hlocks hown hts hG hK hZ hl
  generalize hQ : MQ below _ args s 0 0 _ = Q
  have hl : lv_has ls 3 [(0, .ref (ad 0)), (1, .int x1), (2, .int x2)] := hl
  have hS : va_S (gA 18 ad) s.heap s.heap [] := va_S.rf
  have k1 := hts (.constantLong RX5 205 (4)) (by decide +kernel)
  unfold X5_one at h
  refine lv_aload_n hx hb dX5_one_0 rfl (lv_at hl 0 rfl) ?_
  refine lv_iload_n hx hb dX5_one_1 rfl (lv_at hl 1 rfl) ?_
  refine g_endi (va_runV (As := [.int x1]) (rest := []) ⟨hx, hb, hml, hown, hts⟩ (k_X5_isOne l D cy ad hi I L x1 _ rfl) (cwV 1 hts gX5_one_X5_isOne rfl rfl rfl cd_X5_isOne ⟨Nat.le_of_ble_eq_true rfl, Nat.le_of_ble_eq_true rfl⟩) ⟨g_blind mZm, g_recv hK hG (k := 0) (by decide) (mE_5 _ _) vwCl_5, g_pre mZm hK hG hZ hS⟩ rfl rfl hl.1 rfl (lv_room (Nat.le_of_ble_eq_true rfl)) dX5_one_2 ⟨Nat.le_refl _, Nat.le_refl _⟩) hS (fun H locs hG hS => ?_)
  refine lv_if_eq (tgt := 33) hx hb dX5_one_5 (by decide) (fun c1 => ?_) (fun c1 => ?_)
  · have h := ite_t h c1
    refine lv_iconst (v := (-1 : Int32)) hx hb dX5_one_33 (by decide) ?_
    have h := Option.some.inj h
    subst h
    subst hQ
    exact g_iret hx hb hr hlocks mZm hK hZ hG hS rfl dX5_one_34
  · have h := ite_f h c1
    refine lv_iload_n hx hb dX5_one_8 rfl (lv_at hl 2 rfl) ?_
    refine lv_i2l hx hb dX5_one_9 rfl ?_
    refine lv_lconst (v := (0 : Int64)) hx hb dX5_one_10 (by decide) ?_
    refine lv_ldc2 (v := (4 : Int64)) hx hb hown k1 dX5_one_11 ?_
    refine g_endi (va_runS (As := [.long x2.toInt64, .long (0 : Int64), .long (4 : Int64)]) (rest := []) ⟨hx, hb, hml, hown, hts⟩ (k_X5_in l D cy ad hi I L x2.toInt64 (0 : Int64) (4 : Int64) _ rfl) (va_cwS 3 hts gX5_one_X5_in rfl rfl rfl cd_X5_in.2 ⟨Nat.le_of_ble_eq_true rfl, Nat.le_of_ble_eq_true rfl⟩) ⟨g_blind mZm, g_pre mZm hK hG hZ hS⟩ rfl rfl hl.1 rfl (lv_room (Nat.le_of_ble_eq_true rfl)) dX5_one_14 ⟨Nat.le_refl _, Nat.le_refl _⟩) hS (fun H locs hG hS => ?_)
    refine lv_if_eq (tgt := 33) hx hb dX5_one_17 (by decide) (fun c2 => ?_) (fun c2 => ?_)
    · have h := ite_t h c2
      refine lv_iconst (v := (-1 : Int32)) hx hb dX5_one_33 (by decide) ?_
      have h := Option.some.inj h
      subst h
      subst hQ
      exact g_iret hx hb hr hlocks mZm hK hZ hG hS rfl dX5_one_34
    · have h := ite_f h c2
      refine lv_aload_n hx hb dX5_one_20 rfl (lv_at hl 0 rfl) ?_
      refine lv_aload_n hx hb dX5_one_21 rfl (lv_at hl 0 rfl) ?_
      refine lv_iload_n hx hb dX5_one_22 rfl (lv_at hl 1 rfl) ?_
      refine lv_iload_n hx hb dX5_one_23 rfl (lv_at hl 2 rfl) ?_
      obtain ⟨q3, eq3, h⟩ := obind h
      refine g_endi (va_runV (As := [.int x1, .int x2]) (rest := [.ref (ad 0)]) ⟨hx, hb, hml, hown, hts⟩ (k_X5_toldOf l D cy ad hi I L x1 x2 q3 eq3) (cwV 2 hts gX5_one_X5_toldOf rfl rfl rfl cd_X5_toldOf ⟨Nat.le_of_ble_eq_true rfl, Nat.le_of_ble_eq_true rfl⟩) ⟨g_blind mZm, g_recv hK hG (k := 0) (by decide) (mE_5 _ _) vwCl_5, g_pre mZm hK hG hZ hS⟩ rfl rfl hl.1 rfl (lv_room (Nat.le_of_ble_eq_true rfl)) dX5_one_24 ⟨Nat.le_refl _, Nat.le_refl _⟩) hS (fun H locs hG hS => ?_)
      obtain ⟨q4, eq4, h⟩ := obind h
      refine g_endi (va_runV (As := [.int q3.1]) (rest := []) ⟨hx, hb, hml, hown, hts⟩ (k_X5_tell l D cy ad hi q3.2 L q3.1 q4 eq4) (cwV 1 hts gX5_one_X5_tell rfl rfl rfl cd_X5_tell ⟨Nat.le_of_ble_eq_true rfl, Nat.le_of_ble_eq_true rfl⟩) ⟨g_blind mZm, g_recv hK hG (k := 0) (by decide) (mE_5 _ _) vwCl_5, g_pre mZm hK hG hZ hS⟩ rfl rfl hl.1 rfl (lv_room (Nat.le_of_ble_eq_true rfl)) dX5_one_27 ⟨Nat.le_refl _, Nat.le_refl _⟩) hS (fun H locs hG hS => ?_)
      refine lv_goto (tgt := 34) hx hb dX5_one_30 (by decide) ?_
      have h := Option.some.inj h
      subst h
      subst hQ
      exact g_iret hx hb hr hlocks mZm hK hZ hG hS rfl dX5_one_34
def X5_isOf (I : xMem) (x1 : Int32) (x2 : Int32) : Option (Int32) := (rdI I 3 6 x1).bind fun v1 => if v1 = x2 then (some (nz (1 : Int32))) else (if x2 = (2 : Int32) then (if v1 = (5 : Int32) then (some (nz (1 : Int32))) else (if x2 = (3 : Int32) then (if v1 = (4 : Int32) then (some (nz (1 : Int32))) else (some (nz (0 : Int32)))) else (some (nz (0 : Int32))))) else (if x2 = (3 : Int32) then (if v1 = (4 : Int32) then (some (nz (1 : Int32))) else (some (nz (0 : Int32)))) else (some (nz (0 : Int32)))))
abbrev rm_X5_isOf : Room := { frames := 0, cells := 0, slots := 0, locals := 0 }
theorem cd_X5_isOf : yX5_isOf.cls = RX5 ∧ yX5_isOf.cls ≠ "java/lang/invoke/MethodHandle" ∧ yX5_isOf.cls ≠ "java/lang/invoke/VarHandle" ∧ (parseMethodDescriptor yX5_isOf.desc).map (fun d => d.parameters.length) = some 2 := by decide +kernel
set_option maxHeartbeats 4000000 in
set_option maxRecDepth 100000 in
theorem k_X5_isOf (l : Launch) (D : va_G) (cy : Nat → ClassId) (ad : Nat → Nat) (hi : gInj 18 ad) (I : xMem) (L : xLon) (x1 : Int32) (x2 : Int32) (r : Int32) (h : X5_isOf I x1 x2 = some r) : Met l yX5_isOf wsX5_isOf rm_X5_isOf (va_Pc [.ref (ad 0), .int x1, .int x2] (mW D cy ad I L)) (mPi D cy ad I L r) 0 0 (gA 18 ad) := by
  refine g_met (own := RX5) (cc := cX5_isOf) (maxL := 4) (ret := (some .boolean)) (by decide) rfl (Nat.le_of_ble_eq_true rfl) rfl ?_
  intro p e s m args below meth c ls hx hb hml hr hlocks hown hts hG hK hZ hl
  generalize hQ : MQ below _ args s 0 0 _ = Q
  have hl : lv_has ls 4 [(0, .ref (ad 0)), (1, .int x1), (2, .int x2)] := hl
  have hS : va_S (gA 18 ad) s.heap s.heap [] := va_S.rf
  have l5 : ∀ w ∈ wsX50, w.before args s = true := fun w h => hts w (List.mem_cons_of_mem _ (List.mem_append_right _ h))
  have k1 := hts (.fieldLink RX5 16 "PairStairsModel" "kinds" "[I") (by decide +kernel)
  unfold X5_isOf at h
  refine lv_aload_n hx hb dX5_isOf_0 rfl (lv_at hl 0 rfl) ?_
  refine g_get hx hb l5 hown hK hG (k := 0) (by decide) (mE_5 _ _) vwCl_5 5 (by decide) k1 (fun _ h9 => h9) rfl dX5_isOf_1 ?_
  refine lv_iload_n hx hb dX5_isOf_4 rfl (lv_at hl 1 rfl) ?_
  refine g_ald hx hb hK hG (k := 3) (n := 6) (show mIA 3 6 from by decide +kernel).1.1 (mIA_e (show mIA 3 6 from by decide +kernel) _ _) 0 rfl h dX5_isOf_5 (fun v1 h => ?_)
  refine lv_istore_n (lv' := [(3, .int v1), (0, .ref (ad 0)), (1, .int x1), (2, .int x2)]) hx hb dX5_isOf_6 rfl hl (by decide) rfl (fun ls hl => ?_)
  refine lv_iload_n hx hb dX5_isOf_7 rfl (lv_at hl 0 rfl) ?_
  refine lv_iload_n hx hb dX5_isOf_8 rfl (lv_at hl 3 rfl) ?_
  refine lv_icmp_eq (tgt := 32) hx hb dX5_isOf_9 (by decide) (fun c2 => ?_) (fun c2 => ?_)
  · have h := ite_t h c2
    refine lv_iconst (v := (1 : Int32)) hx hb dX5_isOf_32 (by decide) ?_
    refine lv_goto (tgt := 37) hx hb dX5_isOf_33 (by decide) ?_
    have h := Option.some.inj h
    subst h
    subst hQ
    exact g_zret hx hb hr hlocks mZm hK hZ hG hS rfl dX5_isOf_37
  · have h := ite_f h c2
    refine lv_iload_n hx hb dX5_isOf_12 rfl (lv_at hl 3 rfl) ?_
    refine lv_iconst (v := (2 : Int32)) hx hb dX5_isOf_13 (by decide) ?_
    refine lv_icmp_ne (tgt := 22) hx hb dX5_isOf_14 (by decide) (fun c3 => ?_) (fun c3 => ?_)
    · have h := ite_f h c3
      refine lv_iload_n hx hb dX5_isOf_22 rfl (lv_at hl 3 rfl) ?_
      refine lv_iconst (v := (3 : Int32)) hx hb dX5_isOf_23 (by decide) ?_
      refine lv_icmp_ne (tgt := 36) hx hb dX5_isOf_24 (by decide) (fun c4 => ?_) (fun c4 => ?_)
      · have h := ite_f h c4
        refine lv_iconst (v := (0 : Int32)) hx hb dX5_isOf_36 (by decide) ?_
        have h := Option.some.inj h
        subst h
        subst hQ
        exact g_zret hx hb hr hlocks mZm hK hZ hG hS rfl dX5_isOf_37
      · have h := ite_t h c4
        refine lv_iload_n hx hb dX5_isOf_27 rfl (lv_at hl 0 rfl) ?_
        refine lv_iconst (v := (4 : Int32)) hx hb dX5_isOf_28 (by decide) ?_
        refine lv_icmp_ne (tgt := 36) hx hb dX5_isOf_29 (by decide) (fun c5 => ?_) (fun c5 => ?_)
        · have h := ite_f h c5
          refine lv_iconst (v := (0 : Int32)) hx hb dX5_isOf_36 (by decide) ?_
          have h := Option.some.inj h
          subst h
          subst hQ
          exact g_zret hx hb hr hlocks mZm hK hZ hG hS rfl dX5_isOf_37
        · have h := ite_t h c5
          refine lv_iconst (v := (1 : Int32)) hx hb dX5_isOf_32 (by decide) ?_
          refine lv_goto (tgt := 37) hx hb dX5_isOf_33 (by decide) ?_
          have h := Option.some.inj h
          subst h
          subst hQ
          exact g_zret hx hb hr hlocks mZm hK hZ hG hS rfl dX5_isOf_37
    · have h := ite_t h c3
      refine lv_iload_n hx hb dX5_isOf_17 rfl (lv_at hl 0 rfl) ?_
      refine lv_iconst (v := (5 : Int32)) hx hb dX5_isOf_18 (by decide) ?_
      refine lv_icmp_eq (tgt := 32) hx hb dX5_isOf_19 (by decide) (fun c6 => ?_) (fun c6 => ?_)
      · have h := ite_t h c6
        refine lv_iconst (v := (1 : Int32)) hx hb dX5_isOf_32 (by decide) ?_
        refine lv_goto (tgt := 37) hx hb dX5_isOf_33 (by decide) ?_
        have h := Option.some.inj h
        subst h
        subst hQ
        exact g_zret hx hb hr hlocks mZm hK hZ hG hS rfl dX5_isOf_37
      · have h := ite_f h c6
        refine lv_iload_n hx hb dX5_isOf_22 rfl (lv_at hl 3 rfl) ?_
        refine lv_iconst (v := (3 : Int32)) hx hb dX5_isOf_23 (by decide) ?_
        refine lv_icmp_ne (tgt := 36) hx hb dX5_isOf_24 (by decide) (fun c7 => ?_) (fun c7 => ?_)
        · have h := ite_f h c7
          refine lv_iconst (v := (0 : Int32)) hx hb dX5_isOf_36 (by decide) ?_
          have h := Option.some.inj h
          subst h
          subst hQ
          exact g_zret hx hb hr hlocks mZm hK hZ hG hS rfl dX5_isOf_37
        · have h := ite_t h c7
          refine lv_iload_n hx hb dX5_isOf_27 rfl (lv_at hl 0 rfl) ?_
          refine lv_iconst (v := (4 : Int32)) hx hb dX5_isOf_28 (by decide) ?_
          refine lv_icmp_ne (tgt := 36) hx hb dX5_isOf_29 (by decide) (fun c8 => ?_) (fun c8 => ?_)
          · have h := ite_f h c8
            refine lv_iconst (v := (0 : Int32)) hx hb dX5_isOf_36 (by decide) ?_
            have h := Option.some.inj h
            subst h
            subst hQ
            exact g_zret hx hb hr hlocks mZm hK hZ hG hS rfl dX5_isOf_37
          · have h := ite_t h c8
            refine lv_iconst (v := (1 : Int32)) hx hb dX5_isOf_32 (by decide) ?_
            refine lv_goto (tgt := 37) hx hb dX5_isOf_33 (by decide) ?_
            have h := Option.some.inj h
            subst h
            subst hQ
            exact g_zret hx hb hr hlocks mZm hK hZ hG hS rfl dX5_isOf_37
def X5_othersThat_L1 (I : xMem) (x1 : Int32) (x2 : Int32) (K1 : Int32 → Option (Int32)) : Nat → Int32 → Int32 → Option (Int32)
  | 0, _, _ => none
  | n2 + 1, x3_2, x4_2 => if (I 0 4) ≤ x4_2 then (K1 x3_2) else ((if x4_2 = x1 then (some (0 : Int32)) else (if x2 = (0 : Int32) then ((X5_counts I x4_2).bind fun v7 => (X5_counts I x1).bind fun v8 => if v7 ≤ v8 then (some (0 : Int32)) else (some (1 : Int32))) else ((rdI I 3 6 x4_2).bind fun v10 => if v10 = (1 : Int32) then (some (1 : Int32)) else (some (0 : Int32))))).bind fun q4 => X5_othersThat_L1 I x1 x2 K1 n2 (x3_2 + q4) (x4_2 + (1 : Int32)))
def X5_othersThat (I : xMem) (x1 : Int32) (x2 : Int32) : Option (Int32) := X5_othersThat_L1 I x1 x2 (fun (z3_2 : Int32) => some z3_2) bigF (0 : Int32) (0 : Int32)
abbrev rm_X5_othersThat : Room := { frames := 2, cells := 0, slots := 0, locals := 43 }
theorem cd_X5_othersThat : yX5_othersThat.cls = RX5 ∧ yX5_othersThat.cls ≠ "java/lang/invoke/MethodHandle" ∧ yX5_othersThat.cls ≠ "java/lang/invoke/VarHandle" ∧ (parseMethodDescriptor yX5_othersThat.desc).map (fun d => d.parameters.length) = some 2 := by decide +kernel
set_option maxHeartbeats 4000000 in
set_option maxRecDepth 100000 in
theorem k_X5_othersThat (l : Launch) (D : va_G) (cy : Nat → ClassId) (ad : Nat → Nat) (hi : gInj 18 ad) (I : xMem) (L : xLon) (x1 : Int32) (x2 : Int32) (r : Int32) (h : X5_othersThat I x1 x2 = some r) : Met l yX5_othersThat wsX5_othersThat rm_X5_othersThat (va_Pc [.ref (ad 0), .int x1, .int x2] (mW D cy ad I L)) (mPi D cy ad I L r) 0 0 (gA 18 ad) := by
  refine g_met (own := RX5) (cc := cX5_othersThat) (maxL := 5) (ret := (some .int)) (by decide) rfl (Nat.le_of_ble_eq_true rfl) rfl ?_
  intro p e s m args below meth c ls hx hb hml hr hlocks hown hts hG hK hZ hl
  generalize hQ : MQ below _ args s 0 0 _ = Q
  have hl : lv_has ls 5 [(0, .ref (ad 0)), (1, .int x1), (2, .int x2)] := hl
  have hS : va_S (gA 18 ad) s.heap s.heap [] := va_S.rf
  have l5 : ∀ w ∈ wsX50, w.before args s = true := fun w h => hts w (List.mem_cons_of_mem _ (List.mem_append_right _ h))
  have k1 := hts (.fieldLink RX5 157 "PairStairsModel" "people" "I") (by decide +kernel)
  have k2 := hts (.fieldLink RX5 16 "PairStairsModel" "kinds" "[I") (by decide +kernel)
  unfold X5_othersThat at h
  refine lv_iconst (v := (0 : Int32)) hx hb dX5_othersThat_0 (by decide) ?_
  refine lv_istore_n (lv' := [(3, .int (0 : Int32)), (0, .ref (ad 0)), (1, .int x1), (2, .int x2)]) hx hb dX5_othersThat_1 rfl hl (by decide) rfl (fun ls hl => ?_)
  refine lv_iconst (v := (0 : Int32)) hx hb dX5_othersThat_2 (by decide) ?_
  refine lv_istore (lv' := [(4, .int (0 : Int32)), (3, .int (0 : Int32)), (0, .ref (ad 0)), (1, .int x1), (2, .int x2)]) hx hb dX5_othersThat_3 hl (by decide) rfl (fun ls hl => ?_)
  have keyK1 : ∀ (K1 : Int32 → Option (Int32)), (∀ (z3_2 : Int32) (H : Heap) (locs : List Loc) (ls : Array Slot), K1 z3_2 = some r → mG D cy ad I L H → va_S (gA 18 ad) s.heap H locs → lv_has ls 5 [(3, .int z3_2)] → W p l e rm_X5_othersThat s m args below meth c H locs 0 0 Q (F0 m 66 ls [])) → ∀ (n2 : Nat) (x3_2 : Int32) (x4_2 : Int32) (H : Heap) (locs : List Loc) (ls : Array Slot), X5_othersThat_L1 I x1 x2 K1 n2 x3_2 x4_2 = some r → mG D cy ad I L H → va_S (gA 18 ad) s.heap H locs → lv_has ls 5 [(0, .ref (ad 0)), (1, .int x1), (2, .int x2), (3, .int x3_2), (4, .int x4_2)] → W p l e rm_X5_othersThat s m args below meth c H locs 0 0 Q (F0 m 5 ls []) := by
    intro K1 hkK1 n2
    induction n2 with
    | zero =>
      intro x3_2 x4_2 H locs ls h
      exact ono h
    | succ n2 ihn2 =>
      intro x3_2 x4_2 H locs ls h hG hS hl
      rw [X5_othersThat_L1] at h
      refine lv_iload hx hb dX5_othersThat_5 (lv_at hl 4 rfl) ?_
      refine lv_aload_n hx hb dX5_othersThat_7 rfl (lv_at hl 0 rfl) ?_
      refine g_get hx hb l5 hown hK hG (k := 0) (by decide) (mE_5 _ _) vwCl_5 4 (by decide) k1 (fun _ h9 => h9) rfl dX5_othersThat_8 ?_
      refine lv_icmp_ge (tgt := 66) hx hb dX5_othersThat_11 (by decide) (fun c3 => ?_) (fun c3 => ?_)
      · have h := ite_t h c3
        exact hkK1 x3_2 _ _ _ h hG hS (lv_sub hl [3] rfl)
      · have h := ite_f h c3
        refine lv_iload_n hx hb dX5_othersThat_14 rfl (lv_at hl 3 rfl) ?_
        refine lv_iload hx hb dX5_othersThat_15 (lv_at hl 4 rfl) ?_
        refine lv_iload_n hx hb dX5_othersThat_17 rfl (lv_at hl 1 rfl) ?_
        obtain ⟨q4, h9, h⟩ := obind h
        have hk_q4 : ∀ (H : Heap) (locs : List Loc) (ls : Array Slot), mG D cy ad I L H → va_S (gA 18 ad) s.heap H locs → lv_has ls 5 [(0, .ref (ad 0)), (1, .int x1), (2, .int x2), (4, .int x4_2)] → W p l e rm_X5_othersThat s m args below meth c H locs 0 0 Q (F0 m 58 ls [.int q4, .int x3_2]) := by
          intro H locs ls hG hS hl
          refine lv_iadd hx hb dX5_othersThat_58 ?_
          refine lv_istore_n (lv' := [(3, .int (x3_2 + q4)), (0, .ref (ad 0)), (1, .int x1), (2, .int x2), (4, .int x4_2)]) hx hb dX5_othersThat_59 rfl hl (by decide) rfl (fun ls hl => ?_)
          refine lv_iinc (v := (x4_2 + (1 : Int32))) (lv' := [(4, .int (x4_2 + (1 : Int32))), (3, .int (x3_2 + q4)), (0, .ref (ad 0)), (1, .int x1), (2, .int x2)]) hx hb dX5_othersThat_60 hl (k := 4) rfl rfl (by decide) rfl (fun ls hl => ?_)
          refine lv_goto (tgt := 5) hx hb dX5_othersThat_63 (by decide) ?_
          exact ihn2 (x3_2 + q4) (x4_2 + (1 : Int32)) _ _ _ h hG hS (lv_sub hl [2, 3, 4, 1, 0] rfl)
        clear h
        have h := h9
        clear h9
        refine lv_icmp_eq (tgt := 57) hx hb dX5_othersThat_18 (by decide) (fun c5 => ?_) (fun c5 => ?_)
        · have h := ite_t h c5
          refine lv_iconst (v := (0 : Int32)) hx hb dX5_othersThat_57 (by decide) ?_
          have h := Option.some.inj h
          subst h
          exact hk_q4 _ _ _ hG hS (lv_sub hl [0, 1, 2, 4] rfl)
        · have h := ite_f h c5
          refine lv_iload_n hx hb dX5_othersThat_21 rfl (lv_at hl 2 rfl) ?_
          refine lv_if_eq (tgt := 39) hx hb dX5_othersThat_22 (by decide) (fun c6 => ?_) (fun c6 => ?_)
          · have h := ite_t h c6
            refine lv_aload_n hx hb dX5_othersThat_39 rfl (lv_at hl 0 rfl) ?_
            refine lv_iload hx hb dX5_othersThat_40 (lv_at hl 4 rfl) ?_
            obtain ⟨v7, ev7, h⟩ := obind h
            refine g_endi (va_runV (As := [.int x4_2]) (rest := [.int x3_2]) ⟨hx, hb, hml, hown, hts⟩ (k_X5_counts l D cy ad hi I L x4_2 v7 ev7) (cwV 1 hts gX5_othersThat_X5_counts rfl rfl rfl cd_X5_counts ⟨Nat.le_of_ble_eq_true rfl, Nat.le_of_ble_eq_true rfl⟩) ⟨g_blind mZm, g_recv hK hG (k := 0) (by decide) (mE_5 _ _) vwCl_5, g_pre mZm hK hG hZ hS⟩ rfl rfl hl.1 rfl (lv_room (Nat.le_of_ble_eq_true rfl)) dX5_othersThat_42 ⟨Nat.le_refl _, Nat.le_refl _⟩) hS (fun H locs hG hS => ?_)
            refine lv_aload_n hx hb dX5_othersThat_45 rfl (lv_at hl 0 rfl) ?_
            refine lv_iload_n hx hb dX5_othersThat_46 rfl (lv_at hl 1 rfl) ?_
            obtain ⟨v8, ev8, h⟩ := obind h
            refine g_endi (va_runV (As := [.int x1]) (rest := [.int v7, .int x3_2]) ⟨hx, hb, hml, hown, hts⟩ (k_X5_counts l D cy ad hi I L x1 v8 ev8) (cwV 1 hts gX5_othersThat_X5_counts rfl rfl rfl cd_X5_counts ⟨Nat.le_of_ble_eq_true rfl, Nat.le_of_ble_eq_true rfl⟩) ⟨g_blind mZm, g_recv hK hG (k := 0) (by decide) (mE_5 _ _) vwCl_5, g_pre mZm hK hG hZ hS⟩ rfl rfl hl.1 rfl (lv_room (Nat.le_of_ble_eq_true rfl)) dX5_othersThat_47 ⟨Nat.le_refl _, Nat.le_refl _⟩) hS (fun H locs hG hS => ?_)
            refine lv_icmp_le (tgt := 57) hx hb dX5_othersThat_50 (by decide) (fun c9 => ?_) (fun c9 => ?_)
            · have h := ite_t h c9
              refine lv_iconst (v := (0 : Int32)) hx hb dX5_othersThat_57 (by decide) ?_
              have h := Option.some.inj h
              subst h
              exact hk_q4 _ _ _ hG hS (lv_sub hl [0, 1, 2, 4] rfl)
            · have h := ite_f h c9
              refine lv_iconst (v := (1 : Int32)) hx hb dX5_othersThat_53 (by decide) ?_
              refine lv_goto (tgt := 58) hx hb dX5_othersThat_54 (by decide) ?_
              have h := Option.some.inj h
              subst h
              exact hk_q4 _ _ _ hG hS (lv_sub hl [0, 1, 2, 4] rfl)
          · have h := ite_f h c6
            refine lv_aload_n hx hb dX5_othersThat_25 rfl (lv_at hl 0 rfl) ?_
            refine g_get hx hb l5 hown hK hG (k := 0) (by decide) (mE_5 _ _) vwCl_5 5 (by decide) k2 (fun _ h9 => h9) rfl dX5_othersThat_26 ?_
            refine lv_iload hx hb dX5_othersThat_29 (lv_at hl 4 rfl) ?_
            refine g_ald hx hb hK hG (k := 3) (n := 6) (show mIA 3 6 from by decide +kernel).1.1 (mIA_e (show mIA 3 6 from by decide +kernel) _ _) 0 rfl h dX5_othersThat_31 (fun v10 h => ?_)
            refine lv_iconst (v := (1 : Int32)) hx hb dX5_othersThat_32 (by decide) ?_
            refine lv_icmp_ne (tgt := 57) hx hb dX5_othersThat_33 (by decide) (fun c11 => ?_) (fun c11 => ?_)
            · have h := ite_f h c11
              refine lv_iconst (v := (0 : Int32)) hx hb dX5_othersThat_57 (by decide) ?_
              have h := Option.some.inj h
              subst h
              exact hk_q4 _ _ _ hG hS (lv_sub hl [0, 1, 2, 4] rfl)
            · have h := ite_t h c11
              refine lv_goto (tgt := 53) hx hb dX5_othersThat_36 (by decide) ?_
              refine lv_iconst (v := (1 : Int32)) hx hb dX5_othersThat_53 (by decide) ?_
              refine lv_goto (tgt := 58) hx hb dX5_othersThat_54 (by decide) ?_
              have h := Option.some.inj h
              subst h
              exact hk_q4 _ _ _ hG hS (lv_sub hl [0, 1, 2, 4] rfl)
  refine keyK1 _ (fun z3_2 H locs ls h hG hS hl => ?_) bigF (0 : Int32) (0 : Int32) _ _ _ h hG hS (lv_sub hl [2, 3, 4, 1, 0] rfl)
  clear keyK1
  refine lv_iload_n hx hb dX5_othersThat_66 rfl (lv_at hl 0 rfl) ?_
  have h := Option.some.inj h
  subst h
  subst hQ
  exact g_iret hx hb hr hlocks mZm hK hZ hG hS rfl dX5_othersThat_67
def X5_mark (I : xMem) (x1 : Int32) (x2 : Int32) : Option (Int32 × xMem) := if (X5_isOne I x1) = (0 : Int32) then (some ((-1 : Int32), I)) else (if (X5_in x2.toInt64 (1 : Int64) (5 : Int64)) = (0 : Int32) then (some ((-1 : Int32), I)) else ((X5_isOf I x1 x2).bind fun v3 => if v3 = (0 : Int32) then ((X5_find I (3 : Int32)).bind fun q16 => some (q16.1, q16.2)) else (if x2 = (1 : Int32) then ((X5_othersThat I x1 (1 : Int32)).bind fun v6 => some (v6, I)) else (if x2 = (2 : Int32) then ((rdI I 4 6 x1).bind fun v8 => (X5_counts I x1).bind fun v9 => some ((v8 - v9), I)) else (if x2 = (3 : Int32) then ((X5_othersThat I x1 (0 : Int32)).bind fun v11 => some (v11, I)) else (if x2 = (4 : Int32) then ((rdI I 1 660 (1 : Int32)).bind fun v13 => some (((9 : Int32) - v13), I)) else ((rdI I 4 6 x1).bind fun v14 => (X5_counts I x1).bind fun v15 => some (((v14 / (2 : Int32)) - v15), I))))))))
abbrev rm_X5_mark : Room := { frames := 3, cells := 0, slots := 0, locals := 67 }
theorem cd_X5_mark : yX5_mark.cls = RX5 ∧ yX5_mark.cls ≠ "java/lang/invoke/MethodHandle" ∧ yX5_mark.cls ≠ "java/lang/invoke/VarHandle" ∧ (parseMethodDescriptor yX5_mark.desc).map (fun d => d.parameters.length) = some 2 := by decide +kernel
set_option maxHeartbeats 4000000 in
set_option maxRecDepth 100000 in
theorem k_X5_mark (l : Launch) (D : va_G) (cy : Nat → ClassId) (ad : Nat → Nat) (hi : gInj 18 ad) (I : xMem) (L : xLon) (x1 : Int32) (x2 : Int32) (r : Int32 × xMem) (h : X5_mark I x1 x2 = some r) : Met l yX5_mark wsX5_mark rm_X5_mark (va_Pc [.ref (ad 0), .int x1, .int x2] (mW D cy ad I L)) (mPi D cy ad r.2 L r.1) 0 0 (gA 18 ad) := by
  refine g_met (own := RX5) (cc := cX5_mark) (maxL := 3) (ret := (some .int)) (by decide) rfl (Nat.le_of_ble_eq_true rfl) rfl ?_
  intro p e s m args below meth c ls hx hb hml hr hlocks hown hts hG hK hZ hl
  generalize hQ : MQ below _ args s 0 0 _ = Q
  have hl : lv_has ls 3 [(0, .ref (ad 0)), (1, .int x1), (2, .int x2)] := hl
  have hS : va_S (gA 18 ad) s.heap s.heap [] := va_S.rf
  have l5 : ∀ w ∈ wsX50, w.before args s = true := fun w h => hts w (List.mem_cons_of_mem _ (List.mem_append_right _ h))
  have k1 := hts (.constantLong RX5 73 (5)) (by decide +kernel)
  have k2 := hts (.fieldLink RX5 19 "PairStairsModel" "pounds" "[I") (by decide +kernel)
  have k3 := hts (.fieldLink RX5 7 "PairStairsModel" "row" "[I") (by decide +kernel)
  unfold X5_mark at h
  refine lv_aload_n hx hb dX5_mark_0 rfl (lv_at hl 0 rfl) ?_
  refine lv_iload_n hx hb dX5_mark_1 rfl (lv_at hl 1 rfl) ?_
  refine g_endi (va_runV (As := [.int x1]) (rest := []) ⟨hx, hb, hml, hown, hts⟩ (k_X5_isOne l D cy ad hi I L x1 _ rfl) (cwV 1 hts gX5_mark_X5_isOne rfl rfl rfl cd_X5_isOne ⟨Nat.le_of_ble_eq_true rfl, Nat.le_of_ble_eq_true rfl⟩) ⟨g_blind mZm, g_recv hK hG (k := 0) (by decide) (mE_5 _ _) vwCl_5, g_pre mZm hK hG hZ hS⟩ rfl rfl hl.1 rfl (lv_room (Nat.le_of_ble_eq_true rfl)) dX5_mark_2 ⟨Nat.le_refl _, Nat.le_refl _⟩) hS (fun H locs hG hS => ?_)
  refine lv_if_eq (tgt := 20) hx hb dX5_mark_5 (by decide) (fun c1 => ?_) (fun c1 => ?_)
  · have h := ite_t h c1
    refine lv_iconst (v := (-1 : Int32)) hx hb dX5_mark_20 (by decide) ?_
    have h := Option.some.inj h
    subst h
    subst hQ
    exact g_iret hx hb hr hlocks mZm hK hZ hG hS rfl dX5_mark_21
  · have h := ite_f h c1
    refine lv_iload_n hx hb dX5_mark_8 rfl (lv_at hl 2 rfl) ?_
    refine lv_i2l hx hb dX5_mark_9 rfl ?_
    refine lv_lconst (v := (1 : Int64)) hx hb dX5_mark_10 (by decide) ?_
    refine lv_ldc2 (v := (5 : Int64)) hx hb hown k1 dX5_mark_11 ?_
    refine g_endi (va_runS (As := [.long x2.toInt64, .long (1 : Int64), .long (5 : Int64)]) (rest := []) ⟨hx, hb, hml, hown, hts⟩ (k_X5_in l D cy ad hi I L x2.toInt64 (1 : Int64) (5 : Int64) _ rfl) (va_cwS 3 hts gX5_mark_X5_in rfl rfl rfl cd_X5_in.2 ⟨Nat.le_of_ble_eq_true rfl, Nat.le_of_ble_eq_true rfl⟩) ⟨g_blind mZm, g_pre mZm hK hG hZ hS⟩ rfl rfl hl.1 rfl (lv_room (Nat.le_of_ble_eq_true rfl)) dX5_mark_14 ⟨Nat.le_refl _, Nat.le_refl _⟩) hS (fun H locs hG hS => ?_)
    refine lv_if_ne (tgt := 22) hx hb dX5_mark_17 (by decide) (fun c2 => ?_) (fun c2 => ?_)
    · have h := ite_f h c2
      refine lv_aload_n hx hb dX5_mark_22 rfl (lv_at hl 0 rfl) ?_
      refine lv_iload_n hx hb dX5_mark_23 rfl (lv_at hl 1 rfl) ?_
      refine lv_iload_n hx hb dX5_mark_24 rfl (lv_at hl 2 rfl) ?_
      obtain ⟨v3, ev3, h⟩ := obind h
      refine g_endi (va_runV (As := [.int x1, .int x2]) (rest := []) ⟨hx, hb, hml, hown, hts⟩ (k_X5_isOf l D cy ad hi I L x1 x2 v3 ev3) (cwV 2 hts gX5_mark_X5_isOf rfl rfl rfl cd_X5_isOf ⟨Nat.le_of_ble_eq_true rfl, Nat.le_of_ble_eq_true rfl⟩) ⟨g_blind mZm, g_recv hK hG (k := 0) (by decide) (mE_5 _ _) vwCl_5, g_pre mZm hK hG hZ hS⟩ rfl rfl hl.1 rfl (lv_room (Nat.le_of_ble_eq_true rfl)) dX5_mark_25 ⟨Nat.le_refl _, Nat.le_refl _⟩) hS (fun H locs hG hS => ?_)
      refine lv_if_ne (tgt := 37) hx hb dX5_mark_28 (by decide) (fun c4 => ?_) (fun c4 => ?_)
      · have h := ite_f h c4
        refine lv_iload_n hx hb dX5_mark_37 rfl (lv_at hl 2 rfl) ?_
        by_cases c5 : x2 = (1 : Int32)
        · have h := ite_t h c5
          refine lv_tableIn (tgt := 68) hx hb dX5_mark_38 (by rw [c5]; decide) (by rw [c5]; decide) (by rw [c5]; rfl) (by decide) ?_
          refine lv_aload_n hx hb dX5_mark_68 rfl (lv_at hl 0 rfl) ?_
          refine lv_iload_n hx hb dX5_mark_69 rfl (lv_at hl 1 rfl) ?_
          refine lv_iconst (v := (1 : Int32)) hx hb dX5_mark_70 (by decide) ?_
          obtain ⟨v6, ev6, h⟩ := obind h
          refine g_endi (va_runV (As := [.int x1, .int (1 : Int32)]) (rest := []) ⟨hx, hb, hml, hown, hts⟩ (k_X5_othersThat l D cy ad hi I L x1 (1 : Int32) v6 ev6) (cwV 2 hts gX5_mark_X5_othersThat rfl rfl rfl cd_X5_othersThat ⟨Nat.le_of_ble_eq_true rfl, Nat.le_of_ble_eq_true rfl⟩) ⟨g_blind mZm, g_recv hK hG (k := 0) (by decide) (mE_5 _ _) vwCl_5, g_pre mZm hK hG hZ hS⟩ rfl rfl hl.1 rfl (lv_room (Nat.le_of_ble_eq_true rfl)) dX5_mark_71 ⟨Nat.le_refl _, Nat.le_refl _⟩) hS (fun H locs hG hS => ?_)
          have h := Option.some.inj h
          subst h
          subst hQ
          exact g_iret hx hb hr hlocks mZm hK hZ hG hS rfl dX5_mark_74
        · have h := ite_f h c5
          by_cases c7 : x2 = (2 : Int32)
          · have h := ite_t h c7
            refine lv_tableIn (tgt := 75) hx hb dX5_mark_38 (by rw [c7]; decide) (by rw [c7]; decide) (by rw [c7]; rfl) (by decide) ?_
            refine lv_aload_n hx hb dX5_mark_75 rfl (lv_at hl 0 rfl) ?_
            refine g_get hx hb l5 hown hK hG (k := 0) (by decide) (mE_5 _ _) vwCl_5 6 (by decide) k2 (fun _ h9 => h9) rfl dX5_mark_76 ?_
            refine lv_iload_n hx hb dX5_mark_79 rfl (lv_at hl 1 rfl) ?_
            refine g_ald hx hb hK hG (k := 4) (n := 6) (show mIA 4 6 from by decide +kernel).1.1 (mIA_e (show mIA 4 6 from by decide +kernel) _ _) 0 rfl h dX5_mark_80 (fun v8 h => ?_)
            refine lv_aload_n hx hb dX5_mark_81 rfl (lv_at hl 0 rfl) ?_
            refine lv_iload_n hx hb dX5_mark_82 rfl (lv_at hl 1 rfl) ?_
            obtain ⟨v9, ev9, h⟩ := obind h
            refine g_endi (va_runV (As := [.int x1]) (rest := [.int v8]) ⟨hx, hb, hml, hown, hts⟩ (k_X5_counts l D cy ad hi I L x1 v9 ev9) (cwV 1 hts gX5_mark_X5_counts rfl rfl rfl cd_X5_counts ⟨Nat.le_of_ble_eq_true rfl, Nat.le_of_ble_eq_true rfl⟩) ⟨g_blind mZm, g_recv hK hG (k := 0) (by decide) (mE_5 _ _) vwCl_5, g_pre mZm hK hG hZ hS⟩ rfl rfl hl.1 rfl (lv_room (Nat.le_of_ble_eq_true rfl)) dX5_mark_83 ⟨Nat.le_refl _, Nat.le_refl _⟩) hS (fun H locs hG hS => ?_)
            refine lv_isub hx hb dX5_mark_86 ?_
            have h := Option.some.inj h
            subst h
            subst hQ
            exact g_iret hx hb hr hlocks mZm hK hZ hG hS rfl dX5_mark_87
          · have h := ite_f h c7
            by_cases c10 : x2 = (3 : Int32)
            · have h := ite_t h c10
              refine lv_tableIn (tgt := 88) hx hb dX5_mark_38 (by rw [c10]; decide) (by rw [c10]; decide) (by rw [c10]; rfl) (by decide) ?_
              refine lv_aload_n hx hb dX5_mark_88 rfl (lv_at hl 0 rfl) ?_
              refine lv_iload_n hx hb dX5_mark_89 rfl (lv_at hl 1 rfl) ?_
              refine lv_iconst (v := (0 : Int32)) hx hb dX5_mark_90 (by decide) ?_
              obtain ⟨v11, ev11, h⟩ := obind h
              refine g_endi (va_runV (As := [.int x1, .int (0 : Int32)]) (rest := []) ⟨hx, hb, hml, hown, hts⟩ (k_X5_othersThat l D cy ad hi I L x1 (0 : Int32) v11 ev11) (cwV 2 hts gX5_mark_X5_othersThat rfl rfl rfl cd_X5_othersThat ⟨Nat.le_of_ble_eq_true rfl, Nat.le_of_ble_eq_true rfl⟩) ⟨g_blind mZm, g_recv hK hG (k := 0) (by decide) (mE_5 _ _) vwCl_5, g_pre mZm hK hG hZ hS⟩ rfl rfl hl.1 rfl (lv_room (Nat.le_of_ble_eq_true rfl)) dX5_mark_91 ⟨Nat.le_refl _, Nat.le_refl _⟩) hS (fun H locs hG hS => ?_)
              have h := Option.some.inj h
              subst h
              subst hQ
              exact g_iret hx hb hr hlocks mZm hK hZ hG hS rfl dX5_mark_94
            · have h := ite_f h c10
              by_cases c12 : x2 = (4 : Int32)
              · have h := ite_t h c12
                refine lv_tableIn (tgt := 95) hx hb dX5_mark_38 (by rw [c12]; decide) (by rw [c12]; decide) (by rw [c12]; rfl) (by decide) ?_
                refine lv_bipush (v := (9 : Int32)) hx hb dX5_mark_95 (by decide) ?_
                refine lv_aload_n hx hb dX5_mark_97 rfl (lv_at hl 0 rfl) ?_
                refine g_get hx hb l5 hown hK hG (k := 0) (by decide) (mE_5 _ _) vwCl_5 0 (by decide) k3 (fun _ h9 => h9) rfl dX5_mark_98 ?_
                refine lv_iconst (v := (1 : Int32)) hx hb dX5_mark_101 (by decide) ?_
                refine g_ald hx hb hK hG (k := 1) (n := 660) (show mIA 1 660 from by decide +kernel).1.1 (mIA_e (show mIA 1 660 from by decide +kernel) _ _) 0 rfl h dX5_mark_102 (fun v13 h => ?_)
                refine lv_isub hx hb dX5_mark_103 ?_
                have h := Option.some.inj h
                subst h
                subst hQ
                exact g_iret hx hb hr hlocks mZm hK hZ hG hS rfl dX5_mark_104
              · have h := ite_f h c12
                refine lv_tableOut (tgt := 105) hx hb dX5_mark_38 (tsw_out 1 4 (fun k h1 h2 => ?_)) (by decide) ?_
                · rcases (show k = 1 ∨ k = 2 ∨ k = 3 ∨ k = 4 by omega) with rfl | rfl | rfl | rfl
                  · exact c5
                  · exact c7
                  · exact c10
                  · exact c12
                · refine lv_aload_n hx hb dX5_mark_105 rfl (lv_at hl 0 rfl) ?_
                  refine g_get hx hb l5 hown hK hG (k := 0) (by decide) (mE_5 _ _) vwCl_5 6 (by decide) k2 (fun _ h9 => h9) rfl dX5_mark_106 ?_
                  refine lv_iload_n hx hb dX5_mark_109 rfl (lv_at hl 1 rfl) ?_
                  refine g_ald hx hb hK hG (k := 4) (n := 6) (show mIA 4 6 from by decide +kernel).1.1 (mIA_e (show mIA 4 6 from by decide +kernel) _ _) 0 rfl h dX5_mark_110 (fun v14 h => ?_)
                  refine lv_iconst (v := (2 : Int32)) hx hb dX5_mark_111 (by decide) ?_
                  refine lv_idiv hx hb dX5_mark_112 (by decide) ?_
                  refine lv_aload_n hx hb dX5_mark_113 rfl (lv_at hl 0 rfl) ?_
                  refine lv_iload_n hx hb dX5_mark_114 rfl (lv_at hl 1 rfl) ?_
                  obtain ⟨v15, ev15, h⟩ := obind h
                  refine g_endi (va_runV (As := [.int x1]) (rest := [.int (v14 / (2 : Int32))]) ⟨hx, hb, hml, hown, hts⟩ (k_X5_counts l D cy ad hi I L x1 v15 ev15) (cwV 1 hts gX5_mark_X5_counts rfl rfl rfl cd_X5_counts ⟨Nat.le_of_ble_eq_true rfl, Nat.le_of_ble_eq_true rfl⟩) ⟨g_blind mZm, g_recv hK hG (k := 0) (by decide) (mE_5 _ _) vwCl_5, g_pre mZm hK hG hZ hS⟩ rfl rfl hl.1 rfl (lv_room (Nat.le_of_ble_eq_true rfl)) dX5_mark_115 ⟨Nat.le_refl _, Nat.le_refl _⟩) hS (fun H locs hG hS => ?_)
                  refine lv_isub hx hb dX5_mark_118 ?_
                  have h := Option.some.inj h
                  subst h
                  subst hQ
                  exact g_iret hx hb hr hlocks mZm hK hZ hG hS rfl dX5_mark_119
      · have h := ite_t h c4
        refine lv_aload_n hx hb dX5_mark_31 rfl (lv_at hl 0 rfl) ?_
        refine lv_iconst (v := (3 : Int32)) hx hb dX5_mark_32 (by decide) ?_
        obtain ⟨q16, eq16, h⟩ := obind h
        refine g_endi (va_runV (As := [.int (3 : Int32)]) (rest := []) ⟨hx, hb, hml, hown, hts⟩ (k_X5_find l D cy ad hi I L (3 : Int32) q16 eq16) (cwV 1 hts gX5_mark_X5_find rfl rfl rfl cd_X5_find ⟨Nat.le_of_ble_eq_true rfl, Nat.le_of_ble_eq_true rfl⟩) ⟨g_blind mZm, g_recv hK hG (k := 0) (by decide) (mE_5 _ _) vwCl_5, g_pre mZm hK hG hZ hS⟩ rfl rfl hl.1 rfl (lv_room (Nat.le_of_ble_eq_true rfl)) dX5_mark_33 ⟨Nat.le_refl _, Nat.le_refl _⟩) hS (fun H locs hG hS => ?_)
        have h := Option.some.inj h
        subst h
        subst hQ
        exact g_iret hx hb hr hlocks mZm hK hZ hG hS rfl dX5_mark_36
    · have h := ite_t h c2
      refine lv_iconst (v := (-1 : Int32)) hx hb dX5_mark_20 (by decide) ?_
      have h := Option.some.inj h
      subst h
      subst hQ
      exact g_iret hx hb hr hlocks mZm hK hZ hG hS rfl dX5_mark_21
def X5_keepPast_L1 (K1 : xMem → Option (xMem)) : Nat → Int32 → xMem → Option (xMem)
  | 0, _, _ => none
  | n2 + 1, x1_2, I3 => if (4 : Int32) ≤ x1_2 then (K1 I3) else ((rdI I3 1 660 (0 : Int32)).bind fun v6 => (rdI I3 1 660 ((1 : Int32) + x1_2)).bind fun v7 => (wrI I3 1 660 (((5 : Int32) + ((4 : Int32) * v6)) + x1_2) v7).bind fun I8 => X5_keepPast_L1 K1 n2 (x1_2 + (1 : Int32)) I8)
def X5_keepPast (I : xMem) : Option (xMem) := X5_keepPast_L1 (fun (I4 : xMem) => (rdI I4 1 660 (0 : Int32)).bind fun v9 => (wrI I4 1 660 (0 : Int32) (v9 + (1 : Int32))).bind fun I10 => some I10) bigF (0 : Int32) I
abbrev rm_X5_keepPast : Room := { frames := 0, cells := 0, slots := 0, locals := 0 }
theorem cd_X5_keepPast : yX5_keepPast.cls = RX5 ∧ yX5_keepPast.cls ≠ "java/lang/invoke/MethodHandle" ∧ yX5_keepPast.cls ≠ "java/lang/invoke/VarHandle" ∧ (parseMethodDescriptor yX5_keepPast.desc).map (fun d => d.parameters.length) = some 0 := by decide +kernel
set_option maxHeartbeats 4000000 in
set_option maxRecDepth 100000 in
theorem k_X5_keepPast (l : Launch) (D : va_G) (cy : Nat → ClassId) (ad : Nat → Nat) (hi : gInj 18 ad) (I : xMem) (L : xLon)  (r : xMem) (h : X5_keepPast I = some r) : Met l yX5_keepPast wsX5_keepPast rm_X5_keepPast (va_Pc [.ref (ad 0)] (mW D cy ad I L)) (mPv D cy ad r L) 0 0 (gA 18 ad) := by
  refine g_met (own := RX5) (cc := cX5_keepPast) (maxL := 2) (ret := none) (by decide) rfl (Nat.le_of_ble_eq_true rfl) rfl ?_
  intro p e s m args below meth c ls hx hb hml hr hlocks hown hts hG hK hZ hl
  generalize hQ : MQ below _ args s 0 0 _ = Q
  have hl : lv_has ls 2 [(0, .ref (ad 0))] := hl
  have hS : va_S (gA 18 ad) s.heap s.heap [] := va_S.rf
  have l5 : ∀ w ∈ wsX50, w.before args s = true := fun w h => hts w (List.mem_cons_of_mem _ (List.mem_append_right _ h))
  have k1 := hts (.fieldLink RX5 7 "PairStairsModel" "row" "[I") (by decide +kernel)
  unfold X5_keepPast at h
  refine lv_iconst (v := (0 : Int32)) hx hb dX5_keepPast_0 (by decide) ?_
  refine lv_istore_n (lv' := [(1, .int (0 : Int32)), (0, .ref (ad 0))]) hx hb dX5_keepPast_1 rfl hl (by decide) rfl (fun ls hl => ?_)
  have keyK1 : ∀ (K1 : xMem → Option (xMem)), (∀ (I4 : xMem) (H : Heap) (locs : List Loc) (ls : Array Slot), K1 I4 = some r → mG D cy ad I4 L H → va_S (gA 18 ad) s.heap H locs → lv_has ls 2 [(0, .ref (ad 0))] → W p l e rm_X5_keepPast s m args below meth c H locs 0 0 Q (F0 m 38 ls [])) → ∀ (n2 : Nat) (x1_2 : Int32) (I3 : xMem) (H : Heap) (locs : List Loc) (ls : Array Slot), X5_keepPast_L1 K1 n2 x1_2 I3 = some r → mG D cy ad I3 L H → va_S (gA 18 ad) s.heap H locs → lv_has ls 2 [(0, .ref (ad 0)), (1, .int x1_2)] → W p l e rm_X5_keepPast s m args below meth c H locs 0 0 Q (F0 m 2 ls []) := by
    intro K1 hkK1 n2
    induction n2 with
    | zero =>
      intro x1_2 I3 H locs ls h
      exact ono h
    | succ n2 ihn2 =>
      intro x1_2 I3 H locs ls h hG hS hl
      rw [X5_keepPast_L1] at h
      refine lv_iload_n hx hb dX5_keepPast_2 rfl (lv_at hl 1 rfl) ?_
      refine lv_iconst (v := (4 : Int32)) hx hb dX5_keepPast_3 (by decide) ?_
      refine lv_icmp_ge (tgt := 38) hx hb dX5_keepPast_4 (by decide) (fun c5 => ?_) (fun c5 => ?_)
      · have h := ite_t h c5
        exact hkK1 I3 _ _ _ h hG hS (lv_sub hl [0] rfl)
      · have h := ite_f h c5
        refine lv_aload_n hx hb dX5_keepPast_7 rfl (lv_at hl 0 rfl) ?_
        refine g_get hx hb l5 hown hK hG (k := 0) (by decide) (mE_5 _ _) vwCl_5 0 (by decide) k1 (fun _ h9 => h9) rfl dX5_keepPast_8 ?_
        refine lv_iconst (v := (5 : Int32)) hx hb dX5_keepPast_11 (by decide) ?_
        refine lv_iconst (v := (4 : Int32)) hx hb dX5_keepPast_12 (by decide) ?_
        refine lv_aload_n hx hb dX5_keepPast_13 rfl (lv_at hl 0 rfl) ?_
        refine g_get hx hb l5 hown hK hG (k := 0) (by decide) (mE_5 _ _) vwCl_5 0 (by decide) k1 (fun _ h9 => h9) rfl dX5_keepPast_14 ?_
        refine lv_iconst (v := (0 : Int32)) hx hb dX5_keepPast_17 (by decide) ?_
        refine g_ald hx hb hK hG (k := 1) (n := 660) (show mIA 1 660 from by decide +kernel).1.1 (mIA_e (show mIA 1 660 from by decide +kernel) _ _) 0 rfl h dX5_keepPast_18 (fun v6 h => ?_)
        refine lv_imul hx hb dX5_keepPast_19 ?_
        refine lv_iadd hx hb dX5_keepPast_20 ?_
        refine lv_iload_n hx hb dX5_keepPast_21 rfl (lv_at hl 1 rfl) ?_
        refine lv_iadd hx hb dX5_keepPast_22 ?_
        refine lv_aload_n hx hb dX5_keepPast_23 rfl (lv_at hl 0 rfl) ?_
        refine g_get hx hb l5 hown hK hG (k := 0) (by decide) (mE_5 _ _) vwCl_5 0 (by decide) k1 (fun _ h9 => h9) rfl dX5_keepPast_24 ?_
        refine lv_iconst (v := (1 : Int32)) hx hb dX5_keepPast_27 (by decide) ?_
        refine lv_iload_n hx hb dX5_keepPast_28 rfl (lv_at hl 1 rfl) ?_
        refine lv_iadd hx hb dX5_keepPast_29 ?_
        refine g_ald hx hb hK hG (k := 1) (n := 660) (show mIA 1 660 from by decide +kernel).1.1 (mIA_e (show mIA 1 660 from by decide +kernel) _ _) 0 rfl h dX5_keepPast_30 (fun v7 h => ?_)
        refine g_ast hx hb hK hG hi hS (k := 1) (n := 660) (show mIA 1 660 from by decide +kernel).1.1 (fun f => mIA_e (show mIA 1 660 from by decide +kernel) f _) 0 rfl h dX5_keepPast_31 (fun I8 H locs h hG hS => ?_)
        refine lv_iinc (v := (x1_2 + (1 : Int32))) (lv' := [(1, .int (x1_2 + (1 : Int32))), (0, .ref (ad 0))]) hx hb dX5_keepPast_32 hl (k := 1) rfl rfl (by decide) rfl (fun ls hl => ?_)
        refine lv_goto (tgt := 2) hx hb dX5_keepPast_35 (by decide) ?_
        exact ihn2 (x1_2 + (1 : Int32)) I8 _ _ _ h hG hS (lv_sub hl [1, 0] rfl)
  refine keyK1 _ (fun I4 H locs ls h hG hS hl => ?_) bigF (0 : Int32) I _ _ _ h hG hS (lv_sub hl [1, 0] rfl)
  clear keyK1
  refine lv_aload_n hx hb dX5_keepPast_38 rfl (lv_at hl 0 rfl) ?_
  refine g_get hx hb l5 hown hK hG (k := 0) (by decide) (mE_5 _ _) vwCl_5 0 (by decide) k1 (fun _ h9 => h9) rfl dX5_keepPast_39 ?_
  refine lv_iconst (v := (0 : Int32)) hx hb dX5_keepPast_42 (by decide) ?_
  refine lv_dup2_11 hx hb dX5_keepPast_43 rfl rfl ?_
  refine g_ald hx hb hK hG (k := 1) (n := 660) (show mIA 1 660 from by decide +kernel).1.1 (mIA_e (show mIA 1 660 from by decide +kernel) _ _) 0 rfl h dX5_keepPast_44 (fun v9 h => ?_)
  refine lv_iconst (v := (1 : Int32)) hx hb dX5_keepPast_45 (by decide) ?_
  refine lv_iadd hx hb dX5_keepPast_46 ?_
  refine g_ast hx hb hK hG hi hS (k := 1) (n := 660) (show mIA 1 660 from by decide +kernel).1.1 (fun f => mIA_e (show mIA 1 660 from by decide +kernel) f _) 0 rfl h dX5_keepPast_47 (fun I10 H locs h hG hS => ?_)
  have h := Option.some.inj h
  subst h
  subst hQ
  exact g_vret hx hb hr hlocks mZm hK hZ hG hS dX5_keepPast_48
def X5_areSets (I : xMem) (x1 : Int32) (x2 : Int32) : Int32 := if (X5_in x1.toInt64 (0 : Int64) ((((1 : Int32) <<< ((I 0 2) &&& 31)) - (1 : Int32)).toInt64)) = (0 : Int32) then ((nz (0 : Int32))) else (if (X5_in x2.toInt64 (0 : Int64) ((((1 : Int32) <<< ((I 0 2) &&& 31)) - (1 : Int32)).toInt64)) = (0 : Int32) then ((nz (0 : Int32))) else (if (x1 &&& x2) = (0 : Int32) then ((nz (1 : Int32))) else ((nz (0 : Int32)))))
abbrev rm_X5_areSets : Room := { frames := 1, cells := 0, slots := 0, locals := 25 }
theorem cd_X5_areSets : yX5_areSets.cls = RX5 ∧ yX5_areSets.cls ≠ "java/lang/invoke/MethodHandle" ∧ yX5_areSets.cls ≠ "java/lang/invoke/VarHandle" ∧ (parseMethodDescriptor yX5_areSets.desc).map (fun d => d.parameters.length) = some 2 := by decide +kernel
set_option maxHeartbeats 4000000 in
set_option maxRecDepth 100000 in
theorem k_X5_areSets (l : Launch) (D : va_G) (cy : Nat → ClassId) (ad : Nat → Nat) (hi : gInj 18 ad) (I : xMem) (L : xLon) (x1 : Int32) (x2 : Int32) (r : Int32) (h : X5_areSets I x1 x2 = r) : Met l yX5_areSets wsX5_areSets rm_X5_areSets (va_Pc [.ref (ad 0), .int x1, .int x2] (mW D cy ad I L)) (mPi D cy ad I L r) 0 0 (gA 18 ad) := by
  refine g_met (own := RX5) (cc := cX5_areSets) (maxL := 4) (ret := (some .boolean)) (by decide) rfl (Nat.le_of_ble_eq_true rfl) rfl ?_
  intro p e s m args below meth c ls hx hb hml hr hlocks hown hts hG hK hZ hl
  generalize hQ : MQ below _ args s 0 0 _ = Q
  have hl : lv_has ls 4 [(0, .ref (ad 0)), (1, .int x1), (2, .int x2)] := hl
  have hS : va_S (gA 18 ad) s.heap s.heap [] := va_S.rf
  have l5 : ∀ w ∈ wsX50, w.before args s = true := fun w h => hts w (List.mem_cons_of_mem _ (List.mem_append_right _ h))
  have k1 := hts (.fieldLink RX5 154 "PairStairsModel" "stoneMany" "I") (by decide +kernel)
  unfold X5_areSets at h
  refine lv_iconst (v := (1 : Int32)) hx hb dX5_areSets_0 (by decide) ?_
  refine lv_aload_n hx hb dX5_areSets_1 rfl (lv_at hl 0 rfl) ?_
  refine g_get hx hb l5 hown hK hG (k := 0) (by decide) (mE_5 _ _) vwCl_5 2 (by decide) k1 (fun _ h9 => h9) rfl dX5_areSets_2 ?_
  refine lv_ishl hx hb dX5_areSets_5 ?_
  refine lv_iconst (v := (1 : Int32)) hx hb dX5_areSets_6 (by decide) ?_
  refine lv_isub hx hb dX5_areSets_7 ?_
  refine lv_istore_n (lv' := [(3, .int (((1 : Int32) <<< ((I 0 2) &&& 31)) - (1 : Int32))), (0, .ref (ad 0)), (1, .int x1), (2, .int x2)]) hx hb dX5_areSets_8 rfl hl (by decide) rfl (fun ls hl => ?_)
  refine lv_iload_n hx hb dX5_areSets_9 rfl (lv_at hl 2 rfl) ?_
  refine lv_i2l hx hb dX5_areSets_10 rfl ?_
  refine lv_lconst (v := (0 : Int64)) hx hb dX5_areSets_11 (by decide) ?_
  refine lv_iload_n hx hb dX5_areSets_12 rfl (lv_at hl 0 rfl) ?_
  refine lv_i2l hx hb dX5_areSets_13 rfl ?_
  refine g_endi (va_runS (As := [.long x1.toInt64, .long (0 : Int64), .long ((((1 : Int32) <<< ((I 0 2) &&& 31)) - (1 : Int32)).toInt64)]) (rest := []) ⟨hx, hb, hml, hown, hts⟩ (k_X5_in l D cy ad hi I L x1.toInt64 (0 : Int64) ((((1 : Int32) <<< ((I 0 2) &&& 31)) - (1 : Int32)).toInt64) _ rfl) (va_cwS 3 hts gX5_areSets_X5_in rfl rfl rfl cd_X5_in.2 ⟨Nat.le_of_ble_eq_true rfl, Nat.le_of_ble_eq_true rfl⟩) ⟨g_blind mZm, g_pre mZm hK hG hZ hS⟩ rfl rfl hl.1 rfl (lv_room (Nat.le_of_ble_eq_true rfl)) dX5_areSets_14 ⟨Nat.le_refl _, Nat.le_refl _⟩) hS (fun H locs hG hS => ?_)
  refine lv_if_eq (tgt := 41) hx hb dX5_areSets_17 (by decide) (fun c1 => ?_) (fun c1 => ?_)
  · have h := ite_t h c1
    refine lv_iconst (v := (0 : Int32)) hx hb dX5_areSets_41 (by decide) ?_
    subst h
    subst hQ
    exact g_zret hx hb hr hlocks mZm hK hZ hG hS rfl dX5_areSets_42
  · have h := ite_f h c1
    refine lv_iload_n hx hb dX5_areSets_20 rfl (lv_at hl 3 rfl) ?_
    refine lv_i2l hx hb dX5_areSets_21 rfl ?_
    refine lv_lconst (v := (0 : Int64)) hx hb dX5_areSets_22 (by decide) ?_
    refine lv_iload_n hx hb dX5_areSets_23 rfl (lv_at hl 0 rfl) ?_
    refine lv_i2l hx hb dX5_areSets_24 rfl ?_
    refine g_endi (va_runS (As := [.long x2.toInt64, .long (0 : Int64), .long ((((1 : Int32) <<< ((I 0 2) &&& 31)) - (1 : Int32)).toInt64)]) (rest := []) ⟨hx, hb, hml, hown, hts⟩ (k_X5_in l D cy ad hi I L x2.toInt64 (0 : Int64) ((((1 : Int32) <<< ((I 0 2) &&& 31)) - (1 : Int32)).toInt64) _ rfl) (va_cwS 3 hts gX5_areSets_X5_in rfl rfl rfl cd_X5_in.2 ⟨Nat.le_of_ble_eq_true rfl, Nat.le_of_ble_eq_true rfl⟩) ⟨g_blind mZm, g_pre mZm hK hG hZ hS⟩ rfl rfl hl.1 rfl (lv_room (Nat.le_of_ble_eq_true rfl)) dX5_areSets_25 ⟨Nat.le_refl _, Nat.le_refl _⟩) hS (fun H locs hG hS => ?_)
    refine lv_if_eq (tgt := 41) hx hb dX5_areSets_28 (by decide) (fun c2 => ?_) (fun c2 => ?_)
    · have h := ite_t h c2
      refine lv_iconst (v := (0 : Int32)) hx hb dX5_areSets_41 (by decide) ?_
      subst h
      subst hQ
      exact g_zret hx hb hr hlocks mZm hK hZ hG hS rfl dX5_areSets_42
    · have h := ite_f h c2
      refine lv_iload_n hx hb dX5_areSets_31 rfl (lv_at hl 2 rfl) ?_
      refine lv_iload_n hx hb dX5_areSets_32 rfl (lv_at hl 3 rfl) ?_
      refine lv_iand hx hb dX5_areSets_33 ?_
      refine lv_if_ne (tgt := 41) hx hb dX5_areSets_34 (by decide) (fun c3 => ?_) (fun c3 => ?_)
      · have h := ite_f h c3
        refine lv_iconst (v := (0 : Int32)) hx hb dX5_areSets_41 (by decide) ?_
        subst h
        subst hQ
        exact g_zret hx hb hr hlocks mZm hK hZ hG hS rfl dX5_areSets_42
      · have h := ite_t h c3
        refine lv_iconst (v := (1 : Int32)) hx hb dX5_areSets_37 (by decide) ?_
        refine lv_goto (tgt := 42) hx hb dX5_areSets_38 (by decide) ?_
        subst h
        subst hQ
        exact g_zret hx hb hr hlocks mZm hK hZ hG hS rfl dX5_areSets_42
def X5_goes (I : xMem) (x1 : Int32) (x2 : Int32) (x3 : Int32) (x4 : Int32) : Option (xMem) := (rdI I 1 660 (4 : Int32)).bind fun v1 => (X5_sinkOf I x1 x2 x3 x4).bind fun v2 => (wrI I 1 660 (4 : Int32) (v1 + v2)).bind fun I3 => (rdI I3 1 660 (2 : Int32)).bind fun v4 => (wrI I3 1 660 (2 : Int32) (v4 ^^^ (((1 : Int32) <<< (x1 &&& 31)) ||| ((1 : Int32) <<< (x2 &&& 31))))).bind fun I5 => (rdI I5 1 660 (3 : Int32)).bind fun v6 => (wrI I5 1 660 (3 : Int32) (v6 ^^^ (x3 ||| x4))).bind fun I7 => some I7
abbrev rm_X5_goes : Room := { frames := 3, cells := 0, slots := 0, locals := 70 }
theorem cd_X5_goes : yX5_goes.cls = RX5 ∧ yX5_goes.cls ≠ "java/lang/invoke/MethodHandle" ∧ yX5_goes.cls ≠ "java/lang/invoke/VarHandle" ∧ (parseMethodDescriptor yX5_goes.desc).map (fun d => d.parameters.length) = some 4 := by decide +kernel
set_option maxHeartbeats 4000000 in
set_option maxRecDepth 100000 in
theorem k_X5_goes (l : Launch) (D : va_G) (cy : Nat → ClassId) (ad : Nat → Nat) (hi : gInj 18 ad) (I : xMem) (L : xLon) (x1 : Int32) (x2 : Int32) (x3 : Int32) (x4 : Int32) (r : xMem) (h : X5_goes I x1 x2 x3 x4 = some r) : Met l yX5_goes wsX5_goes rm_X5_goes (va_Pc [.ref (ad 0), .int x1, .int x2, .int x3, .int x4] (mW D cy ad I L)) (mPv D cy ad r L) 0 0 (gA 18 ad) := by
  refine g_met (own := RX5) (cc := cX5_goes) (maxL := 5) (ret := none) (by decide) rfl (Nat.le_of_ble_eq_true rfl) rfl ?_
  intro p e s m args below meth c ls hx hb hml hr hlocks hown hts hG hK hZ hl
  generalize hQ : MQ below _ args s 0 0 _ = Q
  have hl : lv_has ls 5 [(0, .ref (ad 0)), (1, .int x1), (2, .int x2), (3, .int x3), (4, .int x4)] := hl
  have hS : va_S (gA 18 ad) s.heap s.heap [] := va_S.rf
  have l5 : ∀ w ∈ wsX50, w.before args s = true := fun w h => hts w (List.mem_cons_of_mem _ (List.mem_append_right _ h))
  have k1 := hts (.fieldLink RX5 7 "PairStairsModel" "row" "[I") (by decide +kernel)
  unfold X5_goes at h
  refine lv_aload_n hx hb dX5_goes_0 rfl (lv_at hl 0 rfl) ?_
  refine g_get hx hb l5 hown hK hG (k := 0) (by decide) (mE_5 _ _) vwCl_5 0 (by decide) k1 (fun _ h9 => h9) rfl dX5_goes_1 ?_
  refine lv_iconst (v := (4 : Int32)) hx hb dX5_goes_4 (by decide) ?_
  refine lv_dup2_11 hx hb dX5_goes_5 rfl rfl ?_
  refine g_ald hx hb hK hG (k := 1) (n := 660) (show mIA 1 660 from by decide +kernel).1.1 (mIA_e (show mIA 1 660 from by decide +kernel) _ _) 0 rfl h dX5_goes_6 (fun v1 h => ?_)
  refine lv_aload_n hx hb dX5_goes_7 rfl (lv_at hl 0 rfl) ?_
  refine lv_iload_n hx hb dX5_goes_8 rfl (lv_at hl 1 rfl) ?_
  refine lv_iload_n hx hb dX5_goes_9 rfl (lv_at hl 2 rfl) ?_
  refine lv_iload_n hx hb dX5_goes_10 rfl (lv_at hl 3 rfl) ?_
  refine lv_iload hx hb dX5_goes_11 (lv_at hl 4 rfl) ?_
  obtain ⟨v2, ev2, h⟩ := obind h
  refine g_endi (va_runV (As := [.int x1, .int x2, .int x3, .int x4]) (rest := [.int v1, .int (4 : Int32), .ref (ad 1)]) ⟨hx, hb, hml, hown, hts⟩ (k_X5_sinkOf l D cy ad hi I L x1 x2 x3 x4 v2 ev2) (cwV 4 hts gX5_goes_X5_sinkOf rfl rfl rfl cd_X5_sinkOf ⟨Nat.le_of_ble_eq_true rfl, Nat.le_of_ble_eq_true rfl⟩) ⟨g_blind mZm, g_recv hK hG (k := 0) (by decide) (mE_5 _ _) vwCl_5, g_pre mZm hK hG hZ hS⟩ rfl rfl hl.1 rfl (lv_room (Nat.le_of_ble_eq_true rfl)) dX5_goes_13 ⟨Nat.le_refl _, Nat.le_refl _⟩) hS (fun H locs hG hS => ?_)
  refine lv_iadd hx hb dX5_goes_16 ?_
  refine g_ast hx hb hK hG hi hS (k := 1) (n := 660) (show mIA 1 660 from by decide +kernel).1.1 (fun f => mIA_e (show mIA 1 660 from by decide +kernel) f _) 0 rfl h dX5_goes_17 (fun I3 H locs h hG hS => ?_)
  refine lv_aload_n hx hb dX5_goes_18 rfl (lv_at hl 0 rfl) ?_
  refine g_get hx hb l5 hown hK hG (k := 0) (by decide) (mE_5 _ _) vwCl_5 0 (by decide) k1 (fun _ h9 => h9) rfl dX5_goes_19 ?_
  refine lv_iconst (v := (2 : Int32)) hx hb dX5_goes_22 (by decide) ?_
  refine lv_dup2_11 hx hb dX5_goes_23 rfl rfl ?_
  refine g_ald hx hb hK hG (k := 1) (n := 660) (show mIA 1 660 from by decide +kernel).1.1 (mIA_e (show mIA 1 660 from by decide +kernel) _ _) 0 rfl h dX5_goes_24 (fun v4 h => ?_)
  refine lv_iconst (v := (1 : Int32)) hx hb dX5_goes_25 (by decide) ?_
  refine lv_iload_n hx hb dX5_goes_26 rfl (lv_at hl 1 rfl) ?_
  refine lv_ishl hx hb dX5_goes_27 ?_
  refine lv_iconst (v := (1 : Int32)) hx hb dX5_goes_28 (by decide) ?_
  refine lv_iload_n hx hb dX5_goes_29 rfl (lv_at hl 2 rfl) ?_
  refine lv_ishl hx hb dX5_goes_30 ?_
  refine lv_ior hx hb dX5_goes_31 ?_
  refine lv_ixor hx hb dX5_goes_32 ?_
  refine g_ast hx hb hK hG hi hS (k := 1) (n := 660) (show mIA 1 660 from by decide +kernel).1.1 (fun f => mIA_e (show mIA 1 660 from by decide +kernel) f _) 0 rfl h dX5_goes_33 (fun I5 H locs h hG hS => ?_)
  refine lv_aload_n hx hb dX5_goes_34 rfl (lv_at hl 0 rfl) ?_
  refine g_get hx hb l5 hown hK hG (k := 0) (by decide) (mE_5 _ _) vwCl_5 0 (by decide) k1 (fun _ h9 => h9) rfl dX5_goes_35 ?_
  refine lv_iconst (v := (3 : Int32)) hx hb dX5_goes_38 (by decide) ?_
  refine lv_dup2_11 hx hb dX5_goes_39 rfl rfl ?_
  refine g_ald hx hb hK hG (k := 1) (n := 660) (show mIA 1 660 from by decide +kernel).1.1 (mIA_e (show mIA 1 660 from by decide +kernel) _ _) 0 rfl h dX5_goes_40 (fun v6 h => ?_)
  refine lv_iload_n hx hb dX5_goes_41 rfl (lv_at hl 3 rfl) ?_
  refine lv_iload hx hb dX5_goes_42 (lv_at hl 4 rfl) ?_
  refine lv_ior hx hb dX5_goes_44 ?_
  refine lv_ixor hx hb dX5_goes_45 ?_
  refine g_ast hx hb hK hG hi hS (k := 1) (n := 660) (show mIA 1 660 from by decide +kernel).1.1 (fun f => mIA_e (show mIA 1 660 from by decide +kernel) f _) 0 rfl h dX5_goes_46 (fun I7 H locs h hG hS => ?_)
  have h := Option.some.inj h
  subst h
  subst hQ
  exact g_vret hx hb hr hlocks mZm hK hZ hG hS dX5_goes_47
def X5_go (I : xMem) (x1 : Int32) (x2 : Int32) (x3 : Int32) (x4 : Int32) : Option (Int32 × xMem) := if (X5_areTwo I x1 x2) = (0 : Int32) then (some ((-1 : Int32), I)) else (if (X5_areSets I x3 x4) = (0 : Int32) then (some ((-1 : Int32), I)) else ((X5_areAtOneEnd I x1 x2).bind fun v3 => if v3 = (0 : Int32) then (some ((-4 : Int32), I)) else ((X5_stonesBy I x1).bind fun v5 => if ((x3 ||| x4) &&& (v5 ^^^ (-1 : Int32))) = (0 : Int32) then ((X5_sinkOf I x1 x2 x3 x4).bind fun v7 => if v7 ≤ (I 0 1) then ((rdI I 1 660 (0 : Int32)).bind fun v9 => if v9 = (40 : Int32) then (some ((-2 : Int32), I)) else ((X5_keepPast I).bind fun q11 => (X5_goes q11 x1 x2 x3 x4).bind fun q12 => some (v7, q12))) else (some ((-6 : Int32), I))) else (some ((-4 : Int32), I)))))
abbrev rm_X5_go : Room := { frames := 4, cells := 0, slots := 0, locals := 94 }
theorem cd_X5_go : yX5_go.cls = RX5 ∧ yX5_go.cls ≠ "java/lang/invoke/MethodHandle" ∧ yX5_go.cls ≠ "java/lang/invoke/VarHandle" ∧ (parseMethodDescriptor yX5_go.desc).map (fun d => d.parameters.length) = some 4 := by decide +kernel
set_option maxHeartbeats 4000000 in
set_option maxRecDepth 100000 in
theorem k_X5_go (l : Launch) (D : va_G) (cy : Nat → ClassId) (ad : Nat → Nat) (hi : gInj 18 ad) (I : xMem) (L : xLon) (x1 : Int32) (x2 : Int32) (x3 : Int32) (x4 : Int32) (r : Int32 × xMem) (h : X5_go I x1 x2 x3 x4 = some r) : Met l yX5_go wsX5_go rm_X5_go (va_Pc [.ref (ad 0), .int x1, .int x2, .int x3, .int x4] (mW D cy ad I L)) (mPi D cy ad r.2 L r.1) 0 0 (gA 18 ad) := by
  refine g_met (own := RX5) (cc := cX5_go) (maxL := 6) (ret := (some .int)) (by decide) rfl (Nat.le_of_ble_eq_true rfl) rfl ?_
  intro p e s m args below meth c ls hx hb hml hr hlocks hown hts hG hK hZ hl
  generalize hQ : MQ below _ args s 0 0 _ = Q
  have hl : lv_has ls 6 [(0, .ref (ad 0)), (1, .int x1), (2, .int x2), (3, .int x3), (4, .int x4)] := hl
  have hS : va_S (gA 18 ad) s.heap s.heap [] := va_S.rf
  have l5 : ∀ w ∈ wsX50, w.before args s = true := fun w h => hts w (List.mem_cons_of_mem _ (List.mem_append_right _ h))
  have k1 := hts (.fieldLink RX5 151 "PairStairsModel" "limit" "I") (by decide +kernel)
  have k2 := hts (.fieldLink RX5 7 "PairStairsModel" "row" "[I") (by decide +kernel)
  unfold X5_go at h
  refine lv_aload_n hx hb dX5_go_0 rfl (lv_at hl 0 rfl) ?_
  refine lv_iload_n hx hb dX5_go_1 rfl (lv_at hl 1 rfl) ?_
  refine lv_iload_n hx hb dX5_go_2 rfl (lv_at hl 2 rfl) ?_
  refine g_endi (va_runV (As := [.int x1, .int x2]) (rest := []) ⟨hx, hb, hml, hown, hts⟩ (k_X5_areTwo l D cy ad hi I L x1 x2 _ rfl) (cwV 2 hts gX5_go_X5_areTwo rfl rfl rfl cd_X5_areTwo ⟨Nat.le_of_ble_eq_true rfl, Nat.le_of_ble_eq_true rfl⟩) ⟨g_blind mZm, g_recv hK hG (k := 0) (by decide) (mE_5 _ _) vwCl_5, g_pre mZm hK hG hZ hS⟩ rfl rfl hl.1 rfl (lv_room (Nat.le_of_ble_eq_true rfl)) dX5_go_3 ⟨Nat.le_refl _, Nat.le_refl _⟩) hS (fun H locs hG hS => ?_)
  refine lv_if_eq (tgt := 19) hx hb dX5_go_6 (by decide) (fun c1 => ?_) (fun c1 => ?_)
  · have h := ite_t h c1
    refine lv_iconst (v := (-1 : Int32)) hx hb dX5_go_19 (by decide) ?_
    have h := Option.some.inj h
    subst h
    subst hQ
    exact g_iret hx hb hr hlocks mZm hK hZ hG hS rfl dX5_go_20
  · have h := ite_f h c1
    refine lv_aload_n hx hb dX5_go_9 rfl (lv_at hl 0 rfl) ?_
    refine lv_iload_n hx hb dX5_go_10 rfl (lv_at hl 3 rfl) ?_
    refine lv_iload hx hb dX5_go_11 (lv_at hl 4 rfl) ?_
    refine g_endi (va_runV (As := [.int x3, .int x4]) (rest := []) ⟨hx, hb, hml, hown, hts⟩ (k_X5_areSets l D cy ad hi I L x3 x4 _ rfl) (cwV 2 hts gX5_go_X5_areSets rfl rfl rfl cd_X5_areSets ⟨Nat.le_of_ble_eq_true rfl, Nat.le_of_ble_eq_true rfl⟩) ⟨g_blind mZm, g_recv hK hG (k := 0) (by decide) (mE_5 _ _) vwCl_5, g_pre mZm hK hG hZ hS⟩ rfl rfl hl.1 rfl (lv_room (Nat.le_of_ble_eq_true rfl)) dX5_go_13 ⟨Nat.le_refl _, Nat.le_refl _⟩) hS (fun H locs hG hS => ?_)
    refine lv_if_ne (tgt := 21) hx hb dX5_go_16 (by decide) (fun c2 => ?_) (fun c2 => ?_)
    · have h := ite_f h c2
      refine lv_aload_n hx hb dX5_go_21 rfl (lv_at hl 0 rfl) ?_
      refine lv_iload_n hx hb dX5_go_22 rfl (lv_at hl 1 rfl) ?_
      refine lv_iload_n hx hb dX5_go_23 rfl (lv_at hl 2 rfl) ?_
      obtain ⟨v3, ev3, h⟩ := obind h
      refine g_endi (va_runV (As := [.int x1, .int x2]) (rest := []) ⟨hx, hb, hml, hown, hts⟩ (k_X5_areAtOneEnd l D cy ad hi I L x1 x2 v3 ev3) (cwV 2 hts gX5_go_X5_areAtOneEnd rfl rfl rfl cd_X5_areAtOneEnd ⟨Nat.le_of_ble_eq_true rfl, Nat.le_of_ble_eq_true rfl⟩) ⟨g_blind mZm, g_recv hK hG (k := 0) (by decide) (mE_5 _ _) vwCl_5, g_pre mZm hK hG hZ hS⟩ rfl rfl hl.1 rfl (lv_room (Nat.le_of_ble_eq_true rfl)) dX5_go_24 ⟨Nat.le_refl _, Nat.le_refl _⟩) hS (fun H locs hG hS => ?_)
      refine lv_if_eq (tgt := 45) hx hb dX5_go_27 (by decide) (fun c4 => ?_) (fun c4 => ?_)
      · have h := ite_t h c4
        refine lv_bipush (v := (-4 : Int32)) hx hb dX5_go_45 (by decide) ?_
        have h := Option.some.inj h
        subst h
        subst hQ
        exact g_iret hx hb hr hlocks mZm hK hZ hG hS rfl dX5_go_47
      · have h := ite_f h c4
        refine lv_iload_n hx hb dX5_go_30 rfl (lv_at hl 3 rfl) ?_
        refine lv_iload hx hb dX5_go_31 (lv_at hl 4 rfl) ?_
        refine lv_ior hx hb dX5_go_33 ?_
        refine lv_aload_n hx hb dX5_go_34 rfl (lv_at hl 0 rfl) ?_
        refine lv_iload_n hx hb dX5_go_35 rfl (lv_at hl 1 rfl) ?_
        obtain ⟨v5, ev5, h⟩ := obind h
        refine g_endi (va_runV (As := [.int x1]) (rest := [.int (x3 ||| x4)]) ⟨hx, hb, hml, hown, hts⟩ (k_X5_stonesBy l D cy ad hi I L x1 v5 ev5) (cwV 1 hts gX5_go_X5_stonesBy rfl rfl rfl cd_X5_stonesBy ⟨Nat.le_of_ble_eq_true rfl, Nat.le_of_ble_eq_true rfl⟩) ⟨g_blind mZm, g_recv hK hG (k := 0) (by decide) (mE_5 _ _) vwCl_5, g_pre mZm hK hG hZ hS⟩ rfl rfl hl.1 rfl (lv_room (Nat.le_of_ble_eq_true rfl)) dX5_go_36 ⟨Nat.le_refl _, Nat.le_refl _⟩) hS (fun H locs hG hS => ?_)
        refine lv_iconst (v := (-1 : Int32)) hx hb dX5_go_39 (by decide) ?_
        refine lv_ixor hx hb dX5_go_40 ?_
        refine lv_iand hx hb dX5_go_41 ?_
        refine lv_if_eq (tgt := 48) hx hb dX5_go_42 (by decide) (fun c6 => ?_) (fun c6 => ?_)
        · have h := ite_t h c6
          refine lv_aload_n hx hb dX5_go_48 rfl (lv_at hl 0 rfl) ?_
          refine lv_iload_n hx hb dX5_go_49 rfl (lv_at hl 1 rfl) ?_
          refine lv_iload_n hx hb dX5_go_50 rfl (lv_at hl 2 rfl) ?_
          refine lv_iload_n hx hb dX5_go_51 rfl (lv_at hl 3 rfl) ?_
          refine lv_iload hx hb dX5_go_52 (lv_at hl 4 rfl) ?_
          obtain ⟨v7, ev7, h⟩ := obind h
          refine g_endi (va_runV (As := [.int x1, .int x2, .int x3, .int x4]) (rest := []) ⟨hx, hb, hml, hown, hts⟩ (k_X5_sinkOf l D cy ad hi I L x1 x2 x3 x4 v7 ev7) (cwV 4 hts gX5_go_X5_sinkOf rfl rfl rfl cd_X5_sinkOf ⟨Nat.le_of_ble_eq_true rfl, Nat.le_of_ble_eq_true rfl⟩) ⟨g_blind mZm, g_recv hK hG (k := 0) (by decide) (mE_5 _ _) vwCl_5, g_pre mZm hK hG hZ hS⟩ rfl rfl hl.1 rfl (lv_room (Nat.le_of_ble_eq_true rfl)) dX5_go_54 ⟨Nat.le_refl _, Nat.le_refl _⟩) hS (fun H locs hG hS => ?_)
          refine lv_istore (lv' := [(5, .int v7), (0, .ref (ad 0)), (1, .int x1), (2, .int x2), (3, .int x3), (4, .int x4)]) hx hb dX5_go_57 hl (by decide) rfl (fun ls hl => ?_)
          refine lv_iload hx hb dX5_go_59 (lv_at hl 0 rfl) ?_
          refine lv_aload_n hx hb dX5_go_61 rfl (lv_at hl 1 rfl) ?_
          refine g_get hx hb l5 hown hK hG (k := 0) (by decide) (mE_5 _ _) vwCl_5 1 (by decide) k1 (fun _ h9 => h9) rfl dX5_go_62 ?_
          refine lv_icmp_le (tgt := 71) hx hb dX5_go_65 (by decide) (fun c8 => ?_) (fun c8 => ?_)
          · have h := ite_t h c8
            refine lv_aload_n hx hb dX5_go_71 rfl (lv_at hl 1 rfl) ?_
            refine g_get hx hb l5 hown hK hG (k := 0) (by decide) (mE_5 _ _) vwCl_5 0 (by decide) k2 (fun _ h9 => h9) rfl dX5_go_72 ?_
            refine lv_iconst (v := (0 : Int32)) hx hb dX5_go_75 (by decide) ?_
            refine g_ald hx hb hK hG (k := 1) (n := 660) (show mIA 1 660 from by decide +kernel).1.1 (mIA_e (show mIA 1 660 from by decide +kernel) _ _) 0 rfl h dX5_go_76 (fun v9 h => ?_)
            refine lv_bipush (v := (40 : Int32)) hx hb dX5_go_77 (by decide) ?_
            refine lv_icmp_ne (tgt := 85) hx hb dX5_go_79 (by decide) (fun c10 => ?_) (fun c10 => ?_)
            · have h := ite_f h c10
              refine lv_aload_n hx hb dX5_go_85 rfl (lv_at hl 1 rfl) ?_
              obtain ⟨q11, eq11, h⟩ := obind h
              refine g_endv (va_runV (As := []) (rest := []) ⟨hx, hb, hml, hown, hts⟩ (k_X5_keepPast l D cy ad hi I L q11 eq11) (cwV 0 hts gX5_go_X5_keepPast rfl rfl rfl cd_X5_keepPast ⟨Nat.le_of_ble_eq_true rfl, Nat.le_of_ble_eq_true rfl⟩) ⟨g_blind mZm, g_recv hK hG (k := 0) (by decide) (mE_5 _ _) vwCl_5, g_pre mZm hK hG hZ hS⟩ rfl rfl hl.1 rfl (lv_room (Nat.le_of_ble_eq_true rfl)) dX5_go_86 ⟨Nat.le_refl _, Nat.le_refl _⟩) hS (fun H locs hG hS => ?_)
              refine lv_aload_n hx hb dX5_go_89 rfl (lv_at hl 1 rfl) ?_
              refine lv_iload_n hx hb dX5_go_90 rfl (lv_at hl 2 rfl) ?_
              refine lv_iload_n hx hb dX5_go_91 rfl (lv_at hl 3 rfl) ?_
              refine lv_iload_n hx hb dX5_go_92 rfl (lv_at hl 4 rfl) ?_
              refine lv_iload hx hb dX5_go_93 (lv_at hl 5 rfl) ?_
              obtain ⟨q12, eq12, h⟩ := obind h
              refine g_endv (va_runV (As := [.int x1, .int x2, .int x3, .int x4]) (rest := []) ⟨hx, hb, hml, hown, hts⟩ (k_X5_goes l D cy ad hi q11 L x1 x2 x3 x4 q12 eq12) (cwV 4 hts gX5_go_X5_goes rfl rfl rfl cd_X5_goes ⟨Nat.le_of_ble_eq_true rfl, Nat.le_of_ble_eq_true rfl⟩) ⟨g_blind mZm, g_recv hK hG (k := 0) (by decide) (mE_5 _ _) vwCl_5, g_pre mZm hK hG hZ hS⟩ rfl rfl hl.1 rfl (lv_room (Nat.le_of_ble_eq_true rfl)) dX5_go_95 ⟨Nat.le_refl _, Nat.le_refl _⟩) hS (fun H locs hG hS => ?_)
              refine lv_iload hx hb dX5_go_98 (lv_at hl 0 rfl) ?_
              have h := Option.some.inj h
              subst h
              subst hQ
              exact g_iret hx hb hr hlocks mZm hK hZ hG hS rfl dX5_go_100
            · have h := ite_t h c10
              refine lv_bipush (v := (-2 : Int32)) hx hb dX5_go_82 (by decide) ?_
              have h := Option.some.inj h
              subst h
              subst hQ
              exact g_iret hx hb hr hlocks mZm hK hZ hG hS rfl dX5_go_84
          · have h := ite_f h c8
            refine lv_bipush (v := (-6 : Int32)) hx hb dX5_go_68 (by decide) ?_
            have h := Option.some.inj h
            subst h
            subst hQ
            exact g_iret hx hb hr hlocks mZm hK hZ hG hS rfl dX5_go_70
        · have h := ite_f h c6
          refine lv_bipush (v := (-4 : Int32)) hx hb dX5_go_45 (by decide) ?_
          have h := Option.some.inj h
          subst h
          subst hQ
          exact g_iret hx hb hr hlocks mZm hK hZ hG hS rfl dX5_go_47
    · have h := ite_t h c2
      refine lv_iconst (v := (-1 : Int32)) hx hb dX5_go_19 (by decide) ?_
      have h := Option.some.inj h
      subst h
      subst hQ
      exact g_iret hx hb hr hlocks mZm hK hZ hG hS rfl dX5_go_20
def X5_loaf (I : xMem) : Option (Int32 × xMem) := if (I 0 4) = (0 : Int32) then (some ((-4 : Int32), I)) else ((rdI I 1 660 (1 : Int32)).bind fun v2 => if v2 = (9 : Int32) then (some ((-4 : Int32), I)) else ((rdI I 1 660 (0 : Int32)).bind fun v4 => if v4 = (40 : Int32) then (some ((-2 : Int32), I)) else ((X5_keepPast I).bind fun q6 => (rdI q6 1 660 (1 : Int32)).bind fun v7 => (wrI q6 1 660 (1 : Int32) (v7 + (1 : Int32))).bind fun I8 => (rdI I8 1 660 (1 : Int32)).bind fun v9 => some (v9, I8))))
abbrev rm_X5_loaf : Room := { frames := 1, cells := 0, slots := 0, locals := 21 }
theorem cd_X5_loaf : yX5_loaf.cls = RX5 ∧ yX5_loaf.cls ≠ "java/lang/invoke/MethodHandle" ∧ yX5_loaf.cls ≠ "java/lang/invoke/VarHandle" ∧ (parseMethodDescriptor yX5_loaf.desc).map (fun d => d.parameters.length) = some 0 := by decide +kernel
set_option maxHeartbeats 4000000 in
set_option maxRecDepth 100000 in
theorem k_X5_loaf (l : Launch) (D : va_G) (cy : Nat → ClassId) (ad : Nat → Nat) (hi : gInj 18 ad) (I : xMem) (L : xLon)  (r : Int32 × xMem) (h : X5_loaf I = some r) : Met l yX5_loaf wsX5_loaf rm_X5_loaf (va_Pc [.ref (ad 0)] (mW D cy ad I L)) (mPi D cy ad r.2 L r.1) 0 0 (gA 18 ad) := by
  refine g_met (own := RX5) (cc := cX5_loaf) (maxL := 1) (ret := (some .int)) (by decide) rfl (Nat.le_of_ble_eq_true rfl) rfl ?_
  intro p e s m args below meth c ls hx hb hml hr hlocks hown hts hG hK hZ hl
  generalize hQ : MQ below _ args s 0 0 _ = Q
  have hl : lv_has ls 1 [(0, .ref (ad 0))] := hl
  have hS : va_S (gA 18 ad) s.heap s.heap [] := va_S.rf
  have l5 : ∀ w ∈ wsX50, w.before args s = true := fun w h => hts w (List.mem_cons_of_mem _ (List.mem_append_right _ h))
  have k1 := hts (.fieldLink RX5 157 "PairStairsModel" "people" "I") (by decide +kernel)
  have k2 := hts (.fieldLink RX5 7 "PairStairsModel" "row" "[I") (by decide +kernel)
  unfold X5_loaf at h
  refine lv_aload_n hx hb dX5_loaf_0 rfl (lv_at hl 0 rfl) ?_
  refine g_get hx hb l5 hown hK hG (k := 0) (by decide) (mE_5 _ _) vwCl_5 4 (by decide) k1 (fun _ h9 => h9) rfl dX5_loaf_1 ?_
  refine lv_if_eq (tgt := 18) hx hb dX5_loaf_4 (by decide) (fun c1 => ?_) (fun c1 => ?_)
  · have h := ite_t h c1
    refine lv_bipush (v := (-4 : Int32)) hx hb dX5_loaf_18 (by decide) ?_
    have h := Option.some.inj h
    subst h
    subst hQ
    exact g_iret hx hb hr hlocks mZm hK hZ hG hS rfl dX5_loaf_20
  · have h := ite_f h c1
    refine lv_aload_n hx hb dX5_loaf_7 rfl (lv_at hl 0 rfl) ?_
    refine g_get hx hb l5 hown hK hG (k := 0) (by decide) (mE_5 _ _) vwCl_5 0 (by decide) k2 (fun _ h9 => h9) rfl dX5_loaf_8 ?_
    refine lv_iconst (v := (1 : Int32)) hx hb dX5_loaf_11 (by decide) ?_
    refine g_ald hx hb hK hG (k := 1) (n := 660) (show mIA 1 660 from by decide +kernel).1.1 (mIA_e (show mIA 1 660 from by decide +kernel) _ _) 0 rfl h dX5_loaf_12 (fun v2 h => ?_)
    refine lv_bipush (v := (9 : Int32)) hx hb dX5_loaf_13 (by decide) ?_
    refine lv_icmp_ne (tgt := 21) hx hb dX5_loaf_15 (by decide) (fun c3 => ?_) (fun c3 => ?_)
    · have h := ite_f h c3
      refine lv_aload_n hx hb dX5_loaf_21 rfl (lv_at hl 0 rfl) ?_
      refine g_get hx hb l5 hown hK hG (k := 0) (by decide) (mE_5 _ _) vwCl_5 0 (by decide) k2 (fun _ h9 => h9) rfl dX5_loaf_22 ?_
      refine lv_iconst (v := (0 : Int32)) hx hb dX5_loaf_25 (by decide) ?_
      refine g_ald hx hb hK hG (k := 1) (n := 660) (show mIA 1 660 from by decide +kernel).1.1 (mIA_e (show mIA 1 660 from by decide +kernel) _ _) 0 rfl h dX5_loaf_26 (fun v4 h => ?_)
      refine lv_bipush (v := (40 : Int32)) hx hb dX5_loaf_27 (by decide) ?_
      refine lv_icmp_ne (tgt := 35) hx hb dX5_loaf_29 (by decide) (fun c5 => ?_) (fun c5 => ?_)
      · have h := ite_f h c5
        refine lv_aload_n hx hb dX5_loaf_35 rfl (lv_at hl 0 rfl) ?_
        obtain ⟨q6, eq6, h⟩ := obind h
        refine g_endv (va_runV (As := []) (rest := []) ⟨hx, hb, hml, hown, hts⟩ (k_X5_keepPast l D cy ad hi I L q6 eq6) (cwV 0 hts gX5_loaf_X5_keepPast rfl rfl rfl cd_X5_keepPast ⟨Nat.le_of_ble_eq_true rfl, Nat.le_of_ble_eq_true rfl⟩) ⟨g_blind mZm, g_recv hK hG (k := 0) (by decide) (mE_5 _ _) vwCl_5, g_pre mZm hK hG hZ hS⟩ rfl rfl hl.1 rfl (lv_room (Nat.le_of_ble_eq_true rfl)) dX5_loaf_36 ⟨Nat.le_refl _, Nat.le_refl _⟩) hS (fun H locs hG hS => ?_)
        refine lv_aload_n hx hb dX5_loaf_39 rfl (lv_at hl 0 rfl) ?_
        refine g_get hx hb l5 hown hK hG (k := 0) (by decide) (mE_5 _ _) vwCl_5 0 (by decide) k2 (fun _ h9 => h9) rfl dX5_loaf_40 ?_
        refine lv_iconst (v := (1 : Int32)) hx hb dX5_loaf_43 (by decide) ?_
        refine lv_dup2_11 hx hb dX5_loaf_44 rfl rfl ?_
        refine g_ald hx hb hK hG (k := 1) (n := 660) (show mIA 1 660 from by decide +kernel).1.1 (mIA_e (show mIA 1 660 from by decide +kernel) _ _) 0 rfl h dX5_loaf_45 (fun v7 h => ?_)
        refine lv_iconst (v := (1 : Int32)) hx hb dX5_loaf_46 (by decide) ?_
        refine lv_iadd hx hb dX5_loaf_47 ?_
        refine g_ast hx hb hK hG hi hS (k := 1) (n := 660) (show mIA 1 660 from by decide +kernel).1.1 (fun f => mIA_e (show mIA 1 660 from by decide +kernel) f _) 0 rfl h dX5_loaf_48 (fun I8 H locs h hG hS => ?_)
        refine lv_aload_n hx hb dX5_loaf_49 rfl (lv_at hl 0 rfl) ?_
        refine g_get hx hb l5 hown hK hG (k := 0) (by decide) (mE_5 _ _) vwCl_5 0 (by decide) k2 (fun _ h9 => h9) rfl dX5_loaf_50 ?_
        refine lv_iconst (v := (1 : Int32)) hx hb dX5_loaf_53 (by decide) ?_
        refine g_ald hx hb hK hG (k := 1) (n := 660) (show mIA 1 660 from by decide +kernel).1.1 (mIA_e (show mIA 1 660 from by decide +kernel) _ _) 0 rfl h dX5_loaf_54 (fun v9 h => ?_)
        have h := Option.some.inj h
        subst h
        subst hQ
        exact g_iret hx hb hr hlocks mZm hK hZ hG hS rfl dX5_loaf_55
      · have h := ite_t h c5
        refine lv_bipush (v := (-2 : Int32)) hx hb dX5_loaf_32 (by decide) ?_
        have h := Option.some.inj h
        subst h
        subst hQ
        exact g_iret hx hb hr hlocks mZm hK hZ hG hS rfl dX5_loaf_34
    · have h := ite_t h c3
      refine lv_bipush (v := (-4 : Int32)) hx hb dX5_loaf_18 (by decide) ?_
      have h := Option.some.inj h
      subst h
      subst hQ
      exact g_iret hx hb hr hlocks mZm hK hZ hG hS rfl dX5_loaf_20
def X5_undo_L1 (x1 : Int32) (v3 : Int32) (K4 : xMem → Option (Int32 × xMem)) : Nat → Int32 → xMem → Option (Int32 × xMem)
  | 0, _, _ => none
  | n5 + 1, x3_5, I6 => if (4 : Int32) ≤ x3_5 then (K4 I6) else (if (v3 - x1) ≤ (0 : Int32) then (K4 I6) else ((rdI I6 1 660 (((5 : Int32) + ((4 : Int32) * x1)) + x3_5)).bind fun v10 => (wrI I6 1 660 ((1 : Int32) + x3_5) v10).bind fun I11 => X5_undo_L1 x1 v3 K4 n5 (x3_5 + (1 : Int32)) I11))
def X5_undo (I : xMem) (x1 : Int32) : Option (Int32 × xMem) := (rdI I 1 660 (0 : Int32)).bind fun v1 => if (X5_in x1.toInt64 (0 : Int64) v1.toInt64) = (0 : Int32) then (some ((-1 : Int32), I)) else ((rdI I 1 660 (0 : Int32)).bind fun v3 => X5_undo_L1 x1 v3 (fun (I7 : xMem) => (wrI I7 1 660 (0 : Int32) x1).bind fun I12 => some ((v3 - x1), I12)) bigF (0 : Int32) I)
abbrev rm_X5_undo : Room := { frames := 1, cells := 0, slots := 0, locals := 25 }
theorem cd_X5_undo : yX5_undo.cls = RX5 ∧ yX5_undo.cls ≠ "java/lang/invoke/MethodHandle" ∧ yX5_undo.cls ≠ "java/lang/invoke/VarHandle" ∧ (parseMethodDescriptor yX5_undo.desc).map (fun d => d.parameters.length) = some 1 := by decide +kernel
set_option maxHeartbeats 4000000 in
set_option maxRecDepth 100000 in
theorem k_X5_undo (l : Launch) (D : va_G) (cy : Nat → ClassId) (ad : Nat → Nat) (hi : gInj 18 ad) (I : xMem) (L : xLon) (x1 : Int32) (r : Int32 × xMem) (h : X5_undo I x1 = some r) : Met l yX5_undo wsX5_undo rm_X5_undo (va_Pc [.ref (ad 0), .int x1] (mW D cy ad I L)) (mPi D cy ad r.2 L r.1) 0 0 (gA 18 ad) := by
  refine g_met (own := RX5) (cc := cX5_undo) (maxL := 4) (ret := (some .int)) (by decide) rfl (Nat.le_of_ble_eq_true rfl) rfl ?_
  intro p e s m args below meth c ls hx hb hml hr hlocks hown hts hG hK hZ hl
  generalize hQ : MQ below _ args s 0 0 _ = Q
  have hl : lv_has ls 4 [(0, .ref (ad 0)), (1, .int x1)] := hl
  have hS : va_S (gA 18 ad) s.heap s.heap [] := va_S.rf
  have l5 : ∀ w ∈ wsX50, w.before args s = true := fun w h => hts w (List.mem_cons_of_mem _ (List.mem_append_right _ h))
  have k1 := hts (.fieldLink RX5 7 "PairStairsModel" "row" "[I") (by decide +kernel)
  unfold X5_undo at h
  refine lv_iload_n hx hb dX5_undo_0 rfl (lv_at hl 1 rfl) ?_
  refine lv_i2l hx hb dX5_undo_1 rfl ?_
  refine lv_lconst (v := (0 : Int64)) hx hb dX5_undo_2 (by decide) ?_
  refine lv_aload_n hx hb dX5_undo_3 rfl (lv_at hl 0 rfl) ?_
  refine g_get hx hb l5 hown hK hG (k := 0) (by decide) (mE_5 _ _) vwCl_5 0 (by decide) k1 (fun _ h9 => h9) rfl dX5_undo_4 ?_
  refine lv_iconst (v := (0 : Int32)) hx hb dX5_undo_7 (by decide) ?_
  refine g_ald hx hb hK hG (k := 1) (n := 660) (show mIA 1 660 from by decide +kernel).1.1 (mIA_e (show mIA 1 660 from by decide +kernel) _ _) 0 rfl h dX5_undo_8 (fun v1 h => ?_)
  refine lv_i2l hx hb dX5_undo_9 rfl ?_
  refine g_endi (va_runS (As := [.long x1.toInt64, .long (0 : Int64), .long v1.toInt64]) (rest := []) ⟨hx, hb, hml, hown, hts⟩ (k_X5_in l D cy ad hi I L x1.toInt64 (0 : Int64) v1.toInt64 _ rfl) (va_cwS 3 hts gX5_undo_X5_in rfl rfl rfl cd_X5_in.2 ⟨Nat.le_of_ble_eq_true rfl, Nat.le_of_ble_eq_true rfl⟩) ⟨g_blind mZm, g_pre mZm hK hG hZ hS⟩ rfl rfl hl.1 rfl (lv_room (Nat.le_of_ble_eq_true rfl)) dX5_undo_10 ⟨Nat.le_refl _, Nat.le_refl _⟩) hS (fun H locs hG hS => ?_)
  refine lv_if_ne (tgt := 18) hx hb dX5_undo_13 (by decide) (fun c2 => ?_) (fun c2 => ?_)
  · have h := ite_f h c2
    refine lv_aload_n hx hb dX5_undo_18 rfl (lv_at hl 0 rfl) ?_
    refine g_get hx hb l5 hown hK hG (k := 0) (by decide) (mE_5 _ _) vwCl_5 0 (by decide) k1 (fun _ h9 => h9) rfl dX5_undo_19 ?_
    refine lv_iconst (v := (0 : Int32)) hx hb dX5_undo_22 (by decide) ?_
    refine g_ald hx hb hK hG (k := 1) (n := 660) (show mIA 1 660 from by decide +kernel).1.1 (mIA_e (show mIA 1 660 from by decide +kernel) _ _) 0 rfl h dX5_undo_23 (fun v3 h => ?_)
    refine lv_iload_n hx hb dX5_undo_24 rfl (lv_at hl 1 rfl) ?_
    refine lv_isub hx hb dX5_undo_25 ?_
    refine lv_istore_n (lv' := [(2, .int (v3 - x1)), (0, .ref (ad 0)), (1, .int x1)]) hx hb dX5_undo_26 rfl hl (by decide) rfl (fun ls hl => ?_)
    refine lv_iconst (v := (0 : Int32)) hx hb dX5_undo_27 (by decide) ?_
    refine lv_istore_n (lv' := [(3, .int (0 : Int32)), (2, .int (v3 - x1)), (0, .ref (ad 0)), (1, .int x1)]) hx hb dX5_undo_28 rfl hl (by decide) rfl (fun ls hl => ?_)
    have keyK4 : ∀ (K4 : xMem → Option (Int32 × xMem)), (∀ (I7 : xMem) (H : Heap) (locs : List Loc) (ls : Array Slot), K4 I7 = some r → mG D cy ad I7 L H → va_S (gA 18 ad) s.heap H locs → lv_has ls 4 [(0, .ref (ad 0)), (1, .int x1), (2, .int (v3 - x1))] → W p l e rm_X5_undo s m args below meth c H locs 0 0 Q (F0 m 64 ls [])) → ∀ (n5 : Nat) (x3_5 : Int32) (I6 : xMem) (H : Heap) (locs : List Loc) (ls : Array Slot), X5_undo_L1 x1 v3 K4 n5 x3_5 I6 = some r → mG D cy ad I6 L H → va_S (gA 18 ad) s.heap H locs → lv_has ls 4 [(0, .ref (ad 0)), (1, .int x1), (2, .int (v3 - x1)), (3, .int x3_5)] → W p l e rm_X5_undo s m args below meth c H locs 0 0 Q (F0 m 29 ls []) := by
      intro K4 hkK4 n5
      induction n5 with
      | zero =>
        intro x3_5 I6 H locs ls h
        exact ono h
      | succ n5 ihn5 =>
        intro x3_5 I6 H locs ls h hG hS hl
        rw [X5_undo_L1] at h
        refine lv_iload_n hx hb dX5_undo_29 rfl (lv_at hl 3 rfl) ?_
        refine lv_iconst (v := (4 : Int32)) hx hb dX5_undo_30 (by decide) ?_
        refine lv_icmp_ge (tgt := 64) hx hb dX5_undo_31 (by decide) (fun c8 => ?_) (fun c8 => ?_)
        · have h := ite_t h c8
          exact hkK4 I6 _ _ _ h hG hS (lv_sub hl [0, 1, 2] rfl)
        · have h := ite_f h c8
          refine lv_iload_n hx hb dX5_undo_34 rfl (lv_at hl 2 rfl) ?_
          refine lv_if_le (tgt := 64) hx hb dX5_undo_35 (by decide) (fun c9 => ?_) (fun c9 => ?_)
          · have h := ite_t h c9
            exact hkK4 I6 _ _ _ h hG hS (lv_sub hl [0, 1, 2] rfl)
          · have h := ite_f h c9
            refine lv_aload_n hx hb dX5_undo_38 rfl (lv_at hl 0 rfl) ?_
            refine g_get hx hb l5 hown hK hG (k := 0) (by decide) (mE_5 _ _) vwCl_5 0 (by decide) k1 (fun _ h9 => h9) rfl dX5_undo_39 ?_
            refine lv_iconst (v := (1 : Int32)) hx hb dX5_undo_42 (by decide) ?_
            refine lv_iload_n hx hb dX5_undo_43 rfl (lv_at hl 3 rfl) ?_
            refine lv_iadd hx hb dX5_undo_44 ?_
            refine lv_aload_n hx hb dX5_undo_45 rfl (lv_at hl 0 rfl) ?_
            refine g_get hx hb l5 hown hK hG (k := 0) (by decide) (mE_5 _ _) vwCl_5 0 (by decide) k1 (fun _ h9 => h9) rfl dX5_undo_46 ?_
            refine lv_iconst (v := (5 : Int32)) hx hb dX5_undo_49 (by decide) ?_
            refine lv_iconst (v := (4 : Int32)) hx hb dX5_undo_50 (by decide) ?_
            refine lv_iload_n hx hb dX5_undo_51 rfl (lv_at hl 1 rfl) ?_
            refine lv_imul hx hb dX5_undo_52 ?_
            refine lv_iadd hx hb dX5_undo_53 ?_
            refine lv_iload_n hx hb dX5_undo_54 rfl (lv_at hl 3 rfl) ?_
            refine lv_iadd hx hb dX5_undo_55 ?_
            refine g_ald hx hb hK hG (k := 1) (n := 660) (show mIA 1 660 from by decide +kernel).1.1 (mIA_e (show mIA 1 660 from by decide +kernel) _ _) 0 rfl h dX5_undo_56 (fun v10 h => ?_)
            refine g_ast hx hb hK hG hi hS (k := 1) (n := 660) (show mIA 1 660 from by decide +kernel).1.1 (fun f => mIA_e (show mIA 1 660 from by decide +kernel) f _) 0 rfl h dX5_undo_57 (fun I11 H locs h hG hS => ?_)
            refine lv_iinc (v := (x3_5 + (1 : Int32))) (lv' := [(3, .int (x3_5 + (1 : Int32))), (0, .ref (ad 0)), (1, .int x1), (2, .int (v3 - x1))]) hx hb dX5_undo_58 hl (k := 3) rfl rfl (by decide) rfl (fun ls hl => ?_)
            refine lv_goto (tgt := 29) hx hb dX5_undo_61 (by decide) ?_
            exact ihn5 (x3_5 + (1 : Int32)) I11 _ _ _ h hG hS (lv_sub hl [1, 2, 3, 0] rfl)
    refine keyK4 _ (fun I7 H locs ls h hG hS hl => ?_) bigF (0 : Int32) I _ _ _ h hG hS (lv_sub hl [2, 3, 1, 0] rfl)
    clear keyK4
    refine lv_aload_n hx hb dX5_undo_64 rfl (lv_at hl 0 rfl) ?_
    refine g_get hx hb l5 hown hK hG (k := 0) (by decide) (mE_5 _ _) vwCl_5 0 (by decide) k1 (fun _ h9 => h9) rfl dX5_undo_65 ?_
    refine lv_iconst (v := (0 : Int32)) hx hb dX5_undo_68 (by decide) ?_
    refine lv_iload_n hx hb dX5_undo_69 rfl (lv_at hl 1 rfl) ?_
    refine g_ast hx hb hK hG hi hS (k := 1) (n := 660) (show mIA 1 660 from by decide +kernel).1.1 (fun f => mIA_e (show mIA 1 660 from by decide +kernel) f _) 0 rfl h dX5_undo_70 (fun I12 H locs h hG hS => ?_)
    refine lv_iload_n hx hb dX5_undo_71 rfl (lv_at hl 2 rfl) ?_
    have h := Option.some.inj h
    subst h
    subst hQ
    exact g_iret hx hb hr hlocks mZm hK hZ hG hS rfl dX5_undo_72
  · have h := ite_t h c2
    refine lv_iconst (v := (-1 : Int32)) hx hb dX5_undo_16 (by decide) ?_
    have h := Option.some.inj h
    subst h
    subst hQ
    exact g_iret hx hb hr hlocks mZm hK hZ hG hS rfl dX5_undo_17
def X5_copyTower_L1 (x1 : Int32) (x2 : Int32) (K1 : xMem → Option (xMem)) : Nat → Int32 → xMem → Option (xMem)
  | 0, _, _ => none
  | n2 + 1, x3_2, I3 => if (165 : Int32) ≤ x3_2 then (K1 I3) else ((rdI I3 1 660 (x1 + x3_2)).bind fun v6 => (wrI I3 1 660 (x2 + x3_2) v6).bind fun I7 => X5_copyTower_L1 x1 x2 K1 n2 (x3_2 + (1 : Int32)) I7)
def X5_copyTower (I : xMem) (x1 : Int32) (x2 : Int32) : Option (xMem) := X5_copyTower_L1 x1 x2 (fun (I4 : xMem) => some I4) bigF (0 : Int32) I
abbrev rm_X5_copyTower : Room := { frames := 0, cells := 0, slots := 0, locals := 0 }
theorem cd_X5_copyTower : yX5_copyTower.cls = RX5 ∧ yX5_copyTower.cls ≠ "java/lang/invoke/MethodHandle" ∧ yX5_copyTower.cls ≠ "java/lang/invoke/VarHandle" ∧ (parseMethodDescriptor yX5_copyTower.desc).map (fun d => d.parameters.length) = some 2 := by decide +kernel
set_option maxHeartbeats 4000000 in
set_option maxRecDepth 100000 in
theorem k_X5_copyTower (l : Launch) (D : va_G) (cy : Nat → ClassId) (ad : Nat → Nat) (hi : gInj 18 ad) (I : xMem) (L : xLon) (x1 : Int32) (x2 : Int32) (r : xMem) (h : X5_copyTower I x1 x2 = some r) : Met l yX5_copyTower wsX5_copyTower rm_X5_copyTower (va_Pc [.ref (ad 0), .int x1, .int x2] (mW D cy ad I L)) (mPv D cy ad r L) 0 0 (gA 18 ad) := by
  refine g_met (own := RX5) (cc := cX5_copyTower) (maxL := 4) (ret := none) (by decide) rfl (Nat.le_of_ble_eq_true rfl) rfl ?_
  intro p e s m args below meth c ls hx hb hml hr hlocks hown hts hG hK hZ hl
  generalize hQ : MQ below _ args s 0 0 _ = Q
  have hl : lv_has ls 4 [(0, .ref (ad 0)), (1, .int x1), (2, .int x2)] := hl
  have hS : va_S (gA 18 ad) s.heap s.heap [] := va_S.rf
  have l5 : ∀ w ∈ wsX50, w.before args s = true := fun w h => hts w (List.mem_cons_of_mem _ (List.mem_append_right _ h))
  have k1 := hts (.fieldLink RX5 7 "PairStairsModel" "row" "[I") (by decide +kernel)
  unfold X5_copyTower at h
  refine lv_iconst (v := (0 : Int32)) hx hb dX5_copyTower_0 (by decide) ?_
  refine lv_istore_n (lv' := [(3, .int (0 : Int32)), (0, .ref (ad 0)), (1, .int x1), (2, .int x2)]) hx hb dX5_copyTower_1 rfl hl (by decide) rfl (fun ls hl => ?_)
  have keyK1 : ∀ (K1 : xMem → Option (xMem)), (∀ (I4 : xMem) (H : Heap) (locs : List Loc) (ls : Array Slot), K1 I4 = some r → mG D cy ad I4 L H → va_S (gA 18 ad) s.heap H locs → lv_has ls 4 [] → W p l e rm_X5_copyTower s m args below meth c H locs 0 0 Q (F0 m 31 ls [])) → ∀ (n2 : Nat) (x3_2 : Int32) (I3 : xMem) (H : Heap) (locs : List Loc) (ls : Array Slot), X5_copyTower_L1 x1 x2 K1 n2 x3_2 I3 = some r → mG D cy ad I3 L H → va_S (gA 18 ad) s.heap H locs → lv_has ls 4 [(0, .ref (ad 0)), (1, .int x1), (2, .int x2), (3, .int x3_2)] → W p l e rm_X5_copyTower s m args below meth c H locs 0 0 Q (F0 m 2 ls []) := by
    intro K1 hkK1 n2
    induction n2 with
    | zero =>
      intro x3_2 I3 H locs ls h
      exact ono h
    | succ n2 ihn2 =>
      intro x3_2 I3 H locs ls h hG hS hl
      rw [X5_copyTower_L1] at h
      refine lv_iload_n hx hb dX5_copyTower_2 rfl (lv_at hl 3 rfl) ?_
      refine lv_sipush (v := (165 : Int32)) hx hb dX5_copyTower_3 (by decide) ?_
      refine lv_icmp_ge (tgt := 31) hx hb dX5_copyTower_6 (by decide) (fun c5 => ?_) (fun c5 => ?_)
      · have h := ite_t h c5
        exact hkK1 I3 _ _ _ h hG hS (lv_sub hl [] rfl)
      · have h := ite_f h c5
        refine lv_aload_n hx hb dX5_copyTower_9 rfl (lv_at hl 0 rfl) ?_
        refine g_get hx hb l5 hown hK hG (k := 0) (by decide) (mE_5 _ _) vwCl_5 0 (by decide) k1 (fun _ h9 => h9) rfl dX5_copyTower_10 ?_
        refine lv_iload_n hx hb dX5_copyTower_13 rfl (lv_at hl 2 rfl) ?_
        refine lv_iload_n hx hb dX5_copyTower_14 rfl (lv_at hl 3 rfl) ?_
        refine lv_iadd hx hb dX5_copyTower_15 ?_
        refine lv_aload_n hx hb dX5_copyTower_16 rfl (lv_at hl 0 rfl) ?_
        refine g_get hx hb l5 hown hK hG (k := 0) (by decide) (mE_5 _ _) vwCl_5 0 (by decide) k1 (fun _ h9 => h9) rfl dX5_copyTower_17 ?_
        refine lv_iload_n hx hb dX5_copyTower_20 rfl (lv_at hl 1 rfl) ?_
        refine lv_iload_n hx hb dX5_copyTower_21 rfl (lv_at hl 3 rfl) ?_
        refine lv_iadd hx hb dX5_copyTower_22 ?_
        refine g_ald hx hb hK hG (k := 1) (n := 660) (show mIA 1 660 from by decide +kernel).1.1 (mIA_e (show mIA 1 660 from by decide +kernel) _ _) 0 rfl h dX5_copyTower_23 (fun v6 h => ?_)
        refine g_ast hx hb hK hG hi hS (k := 1) (n := 660) (show mIA 1 660 from by decide +kernel).1.1 (fun f => mIA_e (show mIA 1 660 from by decide +kernel) f _) 0 rfl h dX5_copyTower_24 (fun I7 H locs h hG hS => ?_)
        refine lv_iinc (v := (x3_2 + (1 : Int32))) (lv' := [(3, .int (x3_2 + (1 : Int32))), (0, .ref (ad 0)), (1, .int x1), (2, .int x2)]) hx hb dX5_copyTower_25 hl (k := 3) rfl rfl (by decide) rfl (fun ls hl => ?_)
        refine lv_goto (tgt := 2) hx hb dX5_copyTower_28 (by decide) ?_
        exact ihn2 (x3_2 + (1 : Int32)) I7 _ _ _ h hG hS (lv_sub hl [1, 2, 3, 0] rfl)
  refine keyK1 _ (fun I4 H locs ls h hG hS hl => ?_) bigF (0 : Int32) I _ _ _ h hG hS (lv_sub hl [1, 2, 3, 0] rfl)
  clear keyK1
  have h := Option.some.inj h
  subst h
  subst hQ
  exact g_vret hx hb hr hlocks mZm hK hZ hG hS dX5_copyTower_31
def X5_keep (I : xMem) (x1 : Int32) : Option (Int32 × xMem) := if (X5_in x1.toInt64 (0 : Int64) (2 : Int64)) = (0 : Int32) then (some ((-1 : Int32), I)) else (if (I 0 4) = (0 : Int32) then (some ((-4 : Int32), I)) else ((X5_copyTower I (0 : Int32) ((165 : Int32) * ((1 : Int32) + x1))).bind fun q3 => (rdI q3 1 660 (0 : Int32)).bind fun v4 => some (v4, q3)))
abbrev rm_X5_keep : Room := { frames := 1, cells := 0, slots := 0, locals := 25 }
theorem cd_X5_keep : yX5_keep.cls = RX5 ∧ yX5_keep.cls ≠ "java/lang/invoke/MethodHandle" ∧ yX5_keep.cls ≠ "java/lang/invoke/VarHandle" ∧ (parseMethodDescriptor yX5_keep.desc).map (fun d => d.parameters.length) = some 1 := by decide +kernel
set_option maxHeartbeats 4000000 in
set_option maxRecDepth 100000 in
theorem k_X5_keep (l : Launch) (D : va_G) (cy : Nat → ClassId) (ad : Nat → Nat) (hi : gInj 18 ad) (I : xMem) (L : xLon) (x1 : Int32) (r : Int32 × xMem) (h : X5_keep I x1 = some r) : Met l yX5_keep wsX5_keep rm_X5_keep (va_Pc [.ref (ad 0), .int x1] (mW D cy ad I L)) (mPi D cy ad r.2 L r.1) 0 0 (gA 18 ad) := by
  refine g_met (own := RX5) (cc := cX5_keep) (maxL := 2) (ret := (some .int)) (by decide) rfl (Nat.le_of_ble_eq_true rfl) rfl ?_
  intro p e s m args below meth c ls hx hb hml hr hlocks hown hts hG hK hZ hl
  generalize hQ : MQ below _ args s 0 0 _ = Q
  have hl : lv_has ls 2 [(0, .ref (ad 0)), (1, .int x1)] := hl
  have hS : va_S (gA 18 ad) s.heap s.heap [] := va_S.rf
  have l5 : ∀ w ∈ wsX50, w.before args s = true := fun w h => hts w (List.mem_cons_of_mem _ (List.mem_append_right _ h))
  have k1 := hts (.constantLong RX5 230 (2)) (by decide +kernel)
  have k2 := hts (.fieldLink RX5 157 "PairStairsModel" "people" "I") (by decide +kernel)
  have k3 := hts (.fieldLink RX5 7 "PairStairsModel" "row" "[I") (by decide +kernel)
  unfold X5_keep at h
  refine lv_iload_n hx hb dX5_keep_0 rfl (lv_at hl 1 rfl) ?_
  refine lv_i2l hx hb dX5_keep_1 rfl ?_
  refine lv_lconst (v := (0 : Int64)) hx hb dX5_keep_2 (by decide) ?_
  refine lv_ldc2 (v := (2 : Int64)) hx hb hown k1 dX5_keep_3 ?_
  refine g_endi (va_runS (As := [.long x1.toInt64, .long (0 : Int64), .long (2 : Int64)]) (rest := []) ⟨hx, hb, hml, hown, hts⟩ (k_X5_in l D cy ad hi I L x1.toInt64 (0 : Int64) (2 : Int64) _ rfl) (va_cwS 3 hts gX5_keep_X5_in rfl rfl rfl cd_X5_in.2 ⟨Nat.le_of_ble_eq_true rfl, Nat.le_of_ble_eq_true rfl⟩) ⟨g_blind mZm, g_pre mZm hK hG hZ hS⟩ rfl rfl hl.1 rfl (lv_room (Nat.le_of_ble_eq_true rfl)) dX5_keep_6 ⟨Nat.le_refl _, Nat.le_refl _⟩) hS (fun H locs hG hS => ?_)
  refine lv_if_ne (tgt := 14) hx hb dX5_keep_9 (by decide) (fun c1 => ?_) (fun c1 => ?_)
  · have h := ite_f h c1
    refine lv_aload_n hx hb dX5_keep_14 rfl (lv_at hl 0 rfl) ?_
    refine g_get hx hb l5 hown hK hG (k := 0) (by decide) (mE_5 _ _) vwCl_5 4 (by decide) k2 (fun _ h9 => h9) rfl dX5_keep_15 ?_
    refine lv_if_ne (tgt := 24) hx hb dX5_keep_18 (by decide) (fun c2 => ?_) (fun c2 => ?_)
    · have h := ite_f h c2
      refine lv_aload_n hx hb dX5_keep_24 rfl (lv_at hl 0 rfl) ?_
      refine lv_iconst (v := (0 : Int32)) hx hb dX5_keep_25 (by decide) ?_
      refine lv_sipush (v := (165 : Int32)) hx hb dX5_keep_26 (by decide) ?_
      refine lv_iconst (v := (1 : Int32)) hx hb dX5_keep_29 (by decide) ?_
      refine lv_iload_n hx hb dX5_keep_30 rfl (lv_at hl 1 rfl) ?_
      refine lv_iadd hx hb dX5_keep_31 ?_
      refine lv_imul hx hb dX5_keep_32 ?_
      obtain ⟨q3, eq3, h⟩ := obind h
      refine g_endv (va_runV (As := [.int (0 : Int32), .int ((165 : Int32) * ((1 : Int32) + x1))]) (rest := []) ⟨hx, hb, hml, hown, hts⟩ (k_X5_copyTower l D cy ad hi I L (0 : Int32) ((165 : Int32) * ((1 : Int32) + x1)) q3 eq3) (cwV 2 hts gX5_keep_X5_copyTower rfl rfl rfl cd_X5_copyTower ⟨Nat.le_of_ble_eq_true rfl, Nat.le_of_ble_eq_true rfl⟩) ⟨g_blind mZm, g_recv hK hG (k := 0) (by decide) (mE_5 _ _) vwCl_5, g_pre mZm hK hG hZ hS⟩ rfl rfl hl.1 rfl (lv_room (Nat.le_of_ble_eq_true rfl)) dX5_keep_33 ⟨Nat.le_refl _, Nat.le_refl _⟩) hS (fun H locs hG hS => ?_)
      refine lv_aload_n hx hb dX5_keep_36 rfl (lv_at hl 0 rfl) ?_
      refine g_get hx hb l5 hown hK hG (k := 0) (by decide) (mE_5 _ _) vwCl_5 0 (by decide) k3 (fun _ h9 => h9) rfl dX5_keep_37 ?_
      refine lv_iconst (v := (0 : Int32)) hx hb dX5_keep_40 (by decide) ?_
      refine g_ald hx hb hK hG (k := 1) (n := 660) (show mIA 1 660 from by decide +kernel).1.1 (mIA_e (show mIA 1 660 from by decide +kernel) _ _) 0 rfl h dX5_keep_41 (fun v4 h => ?_)
      have h := Option.some.inj h
      subst h
      subst hQ
      exact g_iret hx hb hr hlocks mZm hK hZ hG hS rfl dX5_keep_42
    · have h := ite_t h c2
      refine lv_bipush (v := (-4 : Int32)) hx hb dX5_keep_21 (by decide) ?_
      have h := Option.some.inj h
      subst h
      subst hQ
      exact g_iret hx hb hr hlocks mZm hK hZ hG hS rfl dX5_keep_23
  · have h := ite_t h c1
    refine lv_iconst (v := (-1 : Int32)) hx hb dX5_keep_12 (by decide) ?_
    have h := Option.some.inj h
    subst h
    subst hQ
    exact g_iret hx hb hr hlocks mZm hK hZ hG hS rfl dX5_keep_13
def X5_on (I : xMem) (x1 : Int32) : Option (Int32 × xMem) := if (X5_in x1.toInt64 (0 : Int64) (2 : Int64)) = (0 : Int32) then (some ((-1 : Int32), I)) else ((rdI I 1 660 (((165 : Int32) * ((1 : Int32) + x1)) + (0 : Int32))).bind fun v2 => if (0 : Int32) ≤ v2 then ((X5_copyTower I ((165 : Int32) * ((1 : Int32) + x1)) (0 : Int32)).bind fun q4 => (rdI q4 1 660 (0 : Int32)).bind fun v5 => some (v5, q4)) else ((X5_find I (1 : Int32)).bind fun q6 => some (q6.1, q6.2)))
abbrev rm_X5_on : Room := { frames := 1, cells := 0, slots := 0, locals := 25 }
theorem cd_X5_on : yX5_on.cls = RX5 ∧ yX5_on.cls ≠ "java/lang/invoke/MethodHandle" ∧ yX5_on.cls ≠ "java/lang/invoke/VarHandle" ∧ (parseMethodDescriptor yX5_on.desc).map (fun d => d.parameters.length) = some 1 := by decide +kernel
set_option maxHeartbeats 4000000 in
set_option maxRecDepth 100000 in
theorem k_X5_on (l : Launch) (D : va_G) (cy : Nat → ClassId) (ad : Nat → Nat) (hi : gInj 18 ad) (I : xMem) (L : xLon) (x1 : Int32) (r : Int32 × xMem) (h : X5_on I x1 = some r) : Met l yX5_on wsX5_on rm_X5_on (va_Pc [.ref (ad 0), .int x1] (mW D cy ad I L)) (mPi D cy ad r.2 L r.1) 0 0 (gA 18 ad) := by
  refine g_met (own := RX5) (cc := cX5_on) (maxL := 2) (ret := (some .int)) (by decide) rfl (Nat.le_of_ble_eq_true rfl) rfl ?_
  intro p e s m args below meth c ls hx hb hml hr hlocks hown hts hG hK hZ hl
  generalize hQ : MQ below _ args s 0 0 _ = Q
  have hl : lv_has ls 2 [(0, .ref (ad 0)), (1, .int x1)] := hl
  have hS : va_S (gA 18 ad) s.heap s.heap [] := va_S.rf
  have l5 : ∀ w ∈ wsX50, w.before args s = true := fun w h => hts w (List.mem_cons_of_mem _ (List.mem_append_right _ h))
  have k1 := hts (.constantLong RX5 230 (2)) (by decide +kernel)
  have k2 := hts (.fieldLink RX5 7 "PairStairsModel" "row" "[I") (by decide +kernel)
  unfold X5_on at h
  refine lv_iload_n hx hb dX5_on_0 rfl (lv_at hl 1 rfl) ?_
  refine lv_i2l hx hb dX5_on_1 rfl ?_
  refine lv_lconst (v := (0 : Int64)) hx hb dX5_on_2 (by decide) ?_
  refine lv_ldc2 (v := (2 : Int64)) hx hb hown k1 dX5_on_3 ?_
  refine g_endi (va_runS (As := [.long x1.toInt64, .long (0 : Int64), .long (2 : Int64)]) (rest := []) ⟨hx, hb, hml, hown, hts⟩ (k_X5_in l D cy ad hi I L x1.toInt64 (0 : Int64) (2 : Int64) _ rfl) (va_cwS 3 hts gX5_on_X5_in rfl rfl rfl cd_X5_in.2 ⟨Nat.le_of_ble_eq_true rfl, Nat.le_of_ble_eq_true rfl⟩) ⟨g_blind mZm, g_pre mZm hK hG hZ hS⟩ rfl rfl hl.1 rfl (lv_room (Nat.le_of_ble_eq_true rfl)) dX5_on_6 ⟨Nat.le_refl _, Nat.le_refl _⟩) hS (fun H locs hG hS => ?_)
  refine lv_if_ne (tgt := 14) hx hb dX5_on_9 (by decide) (fun c1 => ?_) (fun c1 => ?_)
  · have h := ite_f h c1
    refine lv_aload_n hx hb dX5_on_14 rfl (lv_at hl 0 rfl) ?_
    refine g_get hx hb l5 hown hK hG (k := 0) (by decide) (mE_5 _ _) vwCl_5 0 (by decide) k2 (fun _ h9 => h9) rfl dX5_on_15 ?_
    refine lv_sipush (v := (165 : Int32)) hx hb dX5_on_18 (by decide) ?_
    refine lv_iconst (v := (1 : Int32)) hx hb dX5_on_21 (by decide) ?_
    refine lv_iload_n hx hb dX5_on_22 rfl (lv_at hl 1 rfl) ?_
    refine lv_iadd hx hb dX5_on_23 ?_
    refine lv_imul hx hb dX5_on_24 ?_
    refine lv_iconst (v := (0 : Int32)) hx hb dX5_on_25 (by decide) ?_
    refine lv_iadd hx hb dX5_on_26 ?_
    refine g_ald hx hb hK hG (k := 1) (n := 660) (show mIA 1 660 from by decide +kernel).1.1 (mIA_e (show mIA 1 660 from by decide +kernel) _ _) 0 rfl h dX5_on_27 (fun v2 h => ?_)
    refine lv_if_ge (tgt := 37) hx hb dX5_on_28 (by decide) (fun c3 => ?_) (fun c3 => ?_)
    · have h := ite_t h c3
      refine lv_aload_n hx hb dX5_on_37 rfl (lv_at hl 0 rfl) ?_
      refine lv_sipush (v := (165 : Int32)) hx hb dX5_on_38 (by decide) ?_
      refine lv_iconst (v := (1 : Int32)) hx hb dX5_on_41 (by decide) ?_
      refine lv_iload_n hx hb dX5_on_42 rfl (lv_at hl 1 rfl) ?_
      refine lv_iadd hx hb dX5_on_43 ?_
      refine lv_imul hx hb dX5_on_44 ?_
      refine lv_iconst (v := (0 : Int32)) hx hb dX5_on_45 (by decide) ?_
      obtain ⟨q4, eq4, h⟩ := obind h
      refine g_endv (va_runV (As := [.int ((165 : Int32) * ((1 : Int32) + x1)), .int (0 : Int32)]) (rest := []) ⟨hx, hb, hml, hown, hts⟩ (k_X5_copyTower l D cy ad hi I L ((165 : Int32) * ((1 : Int32) + x1)) (0 : Int32) q4 eq4) (cwV 2 hts gX5_on_X5_copyTower rfl rfl rfl cd_X5_copyTower ⟨Nat.le_of_ble_eq_true rfl, Nat.le_of_ble_eq_true rfl⟩) ⟨g_blind mZm, g_recv hK hG (k := 0) (by decide) (mE_5 _ _) vwCl_5, g_pre mZm hK hG hZ hS⟩ rfl rfl hl.1 rfl (lv_room (Nat.le_of_ble_eq_true rfl)) dX5_on_46 ⟨Nat.le_refl _, Nat.le_refl _⟩) hS (fun H locs hG hS => ?_)
      refine lv_aload_n hx hb dX5_on_49 rfl (lv_at hl 0 rfl) ?_
      refine g_get hx hb l5 hown hK hG (k := 0) (by decide) (mE_5 _ _) vwCl_5 0 (by decide) k2 (fun _ h9 => h9) rfl dX5_on_50 ?_
      refine lv_iconst (v := (0 : Int32)) hx hb dX5_on_53 (by decide) ?_
      refine g_ald hx hb hK hG (k := 1) (n := 660) (show mIA 1 660 from by decide +kernel).1.1 (mIA_e (show mIA 1 660 from by decide +kernel) _ _) 0 rfl h dX5_on_54 (fun v5 h => ?_)
      have h := Option.some.inj h
      subst h
      subst hQ
      exact g_iret hx hb hr hlocks mZm hK hZ hG hS rfl dX5_on_55
    · have h := ite_f h c3
      refine lv_aload_n hx hb dX5_on_31 rfl (lv_at hl 0 rfl) ?_
      refine lv_iconst (v := (1 : Int32)) hx hb dX5_on_32 (by decide) ?_
      obtain ⟨q6, eq6, h⟩ := obind h
      refine g_endi (va_runV (As := [.int (1 : Int32)]) (rest := []) ⟨hx, hb, hml, hown, hts⟩ (k_X5_find l D cy ad hi I L (1 : Int32) q6 eq6) (cwV 1 hts gX5_on_X5_find rfl rfl rfl cd_X5_find ⟨Nat.le_of_ble_eq_true rfl, Nat.le_of_ble_eq_true rfl⟩) ⟨g_blind mZm, g_recv hK hG (k := 0) (by decide) (mE_5 _ _) vwCl_5, g_pre mZm hK hG hZ hS⟩ rfl rfl hl.1 rfl (lv_room (Nat.le_of_ble_eq_true rfl)) dX5_on_33 ⟨Nat.le_refl _, Nat.le_refl _⟩) hS (fun H locs hG hS => ?_)
      have h := Option.some.inj h
      subst h
      subst hQ
      exact g_iret hx hb hr hlocks mZm hK hZ hG hS rfl dX5_on_36
  · have h := ite_t h c1
    refine lv_iconst (v := (-1 : Int32)) hx hb dX5_on_12 (by decide) ?_
    have h := Option.some.inj h
    subst h
    subst hQ
    exact g_iret hx hb hr hlocks mZm hK hZ hG hS rfl dX5_on_13
def X5_sink (I : xMem) (x1 : Int32) (x2 : Int32) (x3 : Int32) (x4 : Int32) : Option (Int32) := if (X5_areTwo I x1 x2) = (0 : Int32) then (some (-1 : Int32)) else (if (X5_areSets I x3 x4) = (0 : Int32) then (some (-1 : Int32)) else ((X5_sinkOf I x1 x2 x3 x4).bind fun v3 => some v3))
abbrev rm_X5_sink : Room := { frames := 3, cells := 0, slots := 0, locals := 70 }
theorem cd_X5_sink : yX5_sink.cls = RX5 ∧ yX5_sink.cls ≠ "java/lang/invoke/MethodHandle" ∧ yX5_sink.cls ≠ "java/lang/invoke/VarHandle" ∧ (parseMethodDescriptor yX5_sink.desc).map (fun d => d.parameters.length) = some 4 := by decide +kernel
set_option maxHeartbeats 4000000 in
set_option maxRecDepth 100000 in
theorem k_X5_sink (l : Launch) (D : va_G) (cy : Nat → ClassId) (ad : Nat → Nat) (hi : gInj 18 ad) (I : xMem) (L : xLon) (x1 : Int32) (x2 : Int32) (x3 : Int32) (x4 : Int32) (r : Int32) (h : X5_sink I x1 x2 x3 x4 = some r) : Met l yX5_sink wsX5_sink rm_X5_sink (va_Pc [.ref (ad 0), .int x1, .int x2, .int x3, .int x4] (mW D cy ad I L)) (mPi D cy ad I L r) 0 0 (gA 18 ad) := by
  refine g_met (own := RX5) (cc := cX5_sink) (maxL := 5) (ret := (some .int)) (by decide) rfl (Nat.le_of_ble_eq_true rfl) rfl ?_
  intro p e s m args below meth c ls hx hb hml hr hlocks hown hts hG hK hZ hl
  generalize hQ : MQ below _ args s 0 0 _ = Q
  have hl : lv_has ls 5 [(0, .ref (ad 0)), (1, .int x1), (2, .int x2), (3, .int x3), (4, .int x4)] := hl
  have hS : va_S (gA 18 ad) s.heap s.heap [] := va_S.rf
  unfold X5_sink at h
  refine lv_aload_n hx hb dX5_sink_0 rfl (lv_at hl 0 rfl) ?_
  refine lv_iload_n hx hb dX5_sink_1 rfl (lv_at hl 1 rfl) ?_
  refine lv_iload_n hx hb dX5_sink_2 rfl (lv_at hl 2 rfl) ?_
  refine g_endi (va_runV (As := [.int x1, .int x2]) (rest := []) ⟨hx, hb, hml, hown, hts⟩ (k_X5_areTwo l D cy ad hi I L x1 x2 _ rfl) (cwV 2 hts gX5_sink_X5_areTwo rfl rfl rfl cd_X5_areTwo ⟨Nat.le_of_ble_eq_true rfl, Nat.le_of_ble_eq_true rfl⟩) ⟨g_blind mZm, g_recv hK hG (k := 0) (by decide) (mE_5 _ _) vwCl_5, g_pre mZm hK hG hZ hS⟩ rfl rfl hl.1 rfl (lv_room (Nat.le_of_ble_eq_true rfl)) dX5_sink_3 ⟨Nat.le_refl _, Nat.le_refl _⟩) hS (fun H locs hG hS => ?_)
  refine lv_if_eq (tgt := 31) hx hb dX5_sink_6 (by decide) (fun c1 => ?_) (fun c1 => ?_)
  · have h := ite_t h c1
    refine lv_iconst (v := (-1 : Int32)) hx hb dX5_sink_31 (by decide) ?_
    have h := Option.some.inj h
    subst h
    subst hQ
    exact g_iret hx hb hr hlocks mZm hK hZ hG hS rfl dX5_sink_32
  · have h := ite_f h c1
    refine lv_aload_n hx hb dX5_sink_9 rfl (lv_at hl 0 rfl) ?_
    refine lv_iload_n hx hb dX5_sink_10 rfl (lv_at hl 3 rfl) ?_
    refine lv_iload hx hb dX5_sink_11 (lv_at hl 4 rfl) ?_
    refine g_endi (va_runV (As := [.int x3, .int x4]) (rest := []) ⟨hx, hb, hml, hown, hts⟩ (k_X5_areSets l D cy ad hi I L x3 x4 _ rfl) (cwV 2 hts gX5_sink_X5_areSets rfl rfl rfl cd_X5_areSets ⟨Nat.le_of_ble_eq_true rfl, Nat.le_of_ble_eq_true rfl⟩) ⟨g_blind mZm, g_recv hK hG (k := 0) (by decide) (mE_5 _ _) vwCl_5, g_pre mZm hK hG hZ hS⟩ rfl rfl hl.1 rfl (lv_room (Nat.le_of_ble_eq_true rfl)) dX5_sink_13 ⟨Nat.le_refl _, Nat.le_refl _⟩) hS (fun H locs hG hS => ?_)
    refine lv_if_eq (tgt := 31) hx hb dX5_sink_16 (by decide) (fun c2 => ?_) (fun c2 => ?_)
    · have h := ite_t h c2
      refine lv_iconst (v := (-1 : Int32)) hx hb dX5_sink_31 (by decide) ?_
      have h := Option.some.inj h
      subst h
      subst hQ
      exact g_iret hx hb hr hlocks mZm hK hZ hG hS rfl dX5_sink_32
    · have h := ite_f h c2
      refine lv_aload_n hx hb dX5_sink_19 rfl (lv_at hl 0 rfl) ?_
      refine lv_iload_n hx hb dX5_sink_20 rfl (lv_at hl 1 rfl) ?_
      refine lv_iload_n hx hb dX5_sink_21 rfl (lv_at hl 2 rfl) ?_
      refine lv_iload_n hx hb dX5_sink_22 rfl (lv_at hl 3 rfl) ?_
      refine lv_iload hx hb dX5_sink_23 (lv_at hl 4 rfl) ?_
      obtain ⟨v3, ev3, h⟩ := obind h
      refine g_endi (va_runV (As := [.int x1, .int x2, .int x3, .int x4]) (rest := []) ⟨hx, hb, hml, hown, hts⟩ (k_X5_sinkOf l D cy ad hi I L x1 x2 x3 x4 v3 ev3) (cwV 4 hts gX5_sink_X5_sinkOf rfl rfl rfl cd_X5_sinkOf ⟨Nat.le_of_ble_eq_true rfl, Nat.le_of_ble_eq_true rfl⟩) ⟨g_blind mZm, g_recv hK hG (k := 0) (by decide) (mE_5 _ _) vwCl_5, g_pre mZm hK hG hZ hS⟩ rfl rfl hl.1 rfl (lv_room (Nat.le_of_ble_eq_true rfl)) dX5_sink_25 ⟨Nat.le_refl _, Nat.le_refl _⟩) hS (fun H locs hG hS => ?_)
      refine lv_goto (tgt := 32) hx hb dX5_sink_28 (by decide) ?_
      have h := Option.some.inj h
      subst h
      subst hQ
      exact g_iret hx hb hr hlocks mZm hK hZ hG hS rfl dX5_sink_32
def X5_best (I : xMem) (x1 : Int32) (x2 : Int32) : Option (Int32 × xMem) := if (X5_areTwo I x1 x2) = (0 : Int32) then (some ((-1 : Int32), I)) else ((X5_areAtOneEnd I x1 x2).bind fun v2 => if v2 = (0 : Int32) then (some ((-4 : Int32), I)) else ((X5_stonesBy I x1).bind fun v4 => (X5_leastSink I x1 x2 v4).bind fun q5 => (some (wr q5.2 0 11 (q5.2 0 24))).bind fun I6 => some (q5.1, I6)))
abbrev rm_X5_best : Room := { frames := 4, cells := 0, slots := 0, locals := 98 }
theorem cd_X5_best : yX5_best.cls = RX5 ∧ yX5_best.cls ≠ "java/lang/invoke/MethodHandle" ∧ yX5_best.cls ≠ "java/lang/invoke/VarHandle" ∧ (parseMethodDescriptor yX5_best.desc).map (fun d => d.parameters.length) = some 2 := by decide +kernel
set_option maxHeartbeats 4000000 in
set_option maxRecDepth 100000 in
theorem k_X5_best (l : Launch) (D : va_G) (cy : Nat → ClassId) (ad : Nat → Nat) (hi : gInj 18 ad) (I : xMem) (L : xLon) (x1 : Int32) (x2 : Int32) (r : Int32 × xMem) (h : X5_best I x1 x2 = some r) : Met l yX5_best wsX5_best rm_X5_best (va_Pc [.ref (ad 0), .int x1, .int x2] (mW D cy ad I L)) (mPi D cy ad r.2 L r.1) 0 0 (gA 18 ad) := by
  refine g_met (own := RX5) (cc := cX5_best) (maxL := 4) (ret := (some .int)) (by decide) rfl (Nat.le_of_ble_eq_true rfl) rfl ?_
  intro p e s m args below meth c ls hx hb hml hr hlocks hown hts hG hK hZ hl
  generalize hQ : MQ below _ args s 0 0 _ = Q
  have hl : lv_has ls 4 [(0, .ref (ad 0)), (1, .int x1), (2, .int x2)] := hl
  have hS : va_S (gA 18 ad) s.heap s.heap [] := va_S.rf
  have l5 : ∀ w ∈ wsX50, w.before args s = true := fun w h => hts w (List.mem_cons_of_mem _ (List.mem_append_right _ h))
  have k1 := hts (.fieldLink RX5 190 "PairStairsModel" "bestSets" "I") (by decide +kernel)
  have k2 := hts (.fieldLink RX5 70 "PairStairsModel" "asked" "I") (by decide +kernel)
  unfold X5_best at h
  refine lv_aload_n hx hb dX5_best_0 rfl (lv_at hl 0 rfl) ?_
  refine lv_iload_n hx hb dX5_best_1 rfl (lv_at hl 1 rfl) ?_
  refine lv_iload_n hx hb dX5_best_2 rfl (lv_at hl 2 rfl) ?_
  refine g_endi (va_runV (As := [.int x1, .int x2]) (rest := []) ⟨hx, hb, hml, hown, hts⟩ (k_X5_areTwo l D cy ad hi I L x1 x2 _ rfl) (cwV 2 hts gX5_best_X5_areTwo rfl rfl rfl cd_X5_areTwo ⟨Nat.le_of_ble_eq_true rfl, Nat.le_of_ble_eq_true rfl⟩) ⟨g_blind mZm, g_recv hK hG (k := 0) (by decide) (mE_5 _ _) vwCl_5, g_pre mZm hK hG hZ hS⟩ rfl rfl hl.1 rfl (lv_room (Nat.le_of_ble_eq_true rfl)) dX5_best_3 ⟨Nat.le_refl _, Nat.le_refl _⟩) hS (fun H locs hG hS => ?_)
  refine lv_if_ne (tgt := 11) hx hb dX5_best_6 (by decide) (fun c1 => ?_) (fun c1 => ?_)
  · have h := ite_f h c1
    refine lv_aload_n hx hb dX5_best_11 rfl (lv_at hl 0 rfl) ?_
    refine lv_iload_n hx hb dX5_best_12 rfl (lv_at hl 1 rfl) ?_
    refine lv_iload_n hx hb dX5_best_13 rfl (lv_at hl 2 rfl) ?_
    obtain ⟨v2, ev2, h⟩ := obind h
    refine g_endi (va_runV (As := [.int x1, .int x2]) (rest := []) ⟨hx, hb, hml, hown, hts⟩ (k_X5_areAtOneEnd l D cy ad hi I L x1 x2 v2 ev2) (cwV 2 hts gX5_best_X5_areAtOneEnd rfl rfl rfl cd_X5_areAtOneEnd ⟨Nat.le_of_ble_eq_true rfl, Nat.le_of_ble_eq_true rfl⟩) ⟨g_blind mZm, g_recv hK hG (k := 0) (by decide) (mE_5 _ _) vwCl_5, g_pre mZm hK hG hZ hS⟩ rfl rfl hl.1 rfl (lv_room (Nat.le_of_ble_eq_true rfl)) dX5_best_14 ⟨Nat.le_refl _, Nat.le_refl _⟩) hS (fun H locs hG hS => ?_)
    refine lv_if_ne (tgt := 23) hx hb dX5_best_17 (by decide) (fun c3 => ?_) (fun c3 => ?_)
    · have h := ite_f h c3
      refine lv_aload_n hx hb dX5_best_23 rfl (lv_at hl 0 rfl) ?_
      refine lv_iload_n hx hb dX5_best_24 rfl (lv_at hl 1 rfl) ?_
      refine lv_iload_n hx hb dX5_best_25 rfl (lv_at hl 2 rfl) ?_
      refine lv_aload_n hx hb dX5_best_26 rfl (lv_at hl 0 rfl) ?_
      refine lv_iload_n hx hb dX5_best_27 rfl (lv_at hl 1 rfl) ?_
      obtain ⟨v4, ev4, h⟩ := obind h
      refine g_endi (va_runV (As := [.int x1]) (rest := [.int x2, .int x1, .ref (ad 0)]) ⟨hx, hb, hml, hown, hts⟩ (k_X5_stonesBy l D cy ad hi I L x1 v4 ev4) (cwV 1 hts gX5_best_X5_stonesBy rfl rfl rfl cd_X5_stonesBy ⟨Nat.le_of_ble_eq_true rfl, Nat.le_of_ble_eq_true rfl⟩) ⟨g_blind mZm, g_recv hK hG (k := 0) (by decide) (mE_5 _ _) vwCl_5, g_pre mZm hK hG hZ hS⟩ rfl rfl hl.1 rfl (lv_room (Nat.le_of_ble_eq_true rfl)) dX5_best_28 ⟨Nat.le_refl _, Nat.le_refl _⟩) hS (fun H locs hG hS => ?_)
      obtain ⟨q5, eq5, h⟩ := obind h
      refine g_endi (va_runV (As := [.int x1, .int x2, .int v4]) (rest := []) ⟨hx, hb, hml, hown, hts⟩ (k_X5_leastSink l D cy ad hi I L x1 x2 v4 q5 eq5) (cwV 3 hts gX5_best_X5_leastSink rfl rfl rfl cd_X5_leastSink ⟨Nat.le_of_ble_eq_true rfl, Nat.le_of_ble_eq_true rfl⟩) ⟨g_blind mZm, g_recv hK hG (k := 0) (by decide) (mE_5 _ _) vwCl_5, g_pre mZm hK hG hZ hS⟩ rfl rfl hl.1 rfl (lv_room (Nat.le_of_ble_eq_true rfl)) dX5_best_31 ⟨Nat.le_refl _, Nat.le_refl _⟩) hS (fun H locs hG hS => ?_)
      refine lv_istore_n (lv' := [(3, .int q5.1), (0, .ref (ad 0)), (1, .int x1), (2, .int x2)]) hx hb dX5_best_34 rfl hl (by decide) rfl (fun ls hl => ?_)
      refine lv_aload_n hx hb dX5_best_35 rfl (lv_at hl 1 rfl) ?_
      refine lv_aload_n hx hb dX5_best_36 rfl (lv_at hl 1 rfl) ?_
      refine g_get hx hb l5 hown hK hG (k := 0) (by decide) (mE_5 _ _) vwCl_5 24 (by decide) k1 (fun _ h9 => h9) rfl dX5_best_37 ?_
      obtain ⟨I6, eI6, h⟩ := obind h
      refine g_put hx hb l5 tyX5_ok nmX5 hown hK hG hi hS (k := 0) (by decide) (mE_5 _ _) vwCl_5 11 (by decide) k2 (fun _ h9 => h9) rfl rfl (Nat.le_of_ble_eq_true rfl) (by rw [mE_5 _ _]; rfl) dX5_best_40 (fun H locs hG hS => ?_)
      rw [Option.some.inj eI6] at hG
      refine lv_iload_n hx hb dX5_best_43 rfl (lv_at hl 0 rfl) ?_
      have h := Option.some.inj h
      subst h
      subst hQ
      exact g_iret hx hb hr hlocks mZm hK hZ hG hS rfl dX5_best_44
    · have h := ite_t h c3
      refine lv_bipush (v := (-4 : Int32)) hx hb dX5_best_20 (by decide) ?_
      have h := Option.some.inj h
      subst h
      subst hQ
      exact g_iret hx hb hr hlocks mZm hK hZ hG hS rfl dX5_best_22
  · have h := ite_t h c1
    refine lv_iconst (v := (-1 : Int32)) hx hb dX5_best_9 (by decide) ?_
    have h := Option.some.inj h
    subst h
    subst hQ
    exact g_iret hx hb hr hlocks mZm hK hZ hG hS rfl dX5_best_10
def X5_pairsBut_L2 (x1 : Int32) (x3_2 : Int32) (K6 : Int32 → xMem → Option (Int32 × xMem)) : Nat → Int32 → Int32 → xMem → Option (Int32 × xMem)
  | 0, _, _, _ => none
  | n7 + 1, x2_7, x4_7, I8 => if (I8 0 4) ≤ x4_7 then (K6 x2_7 I8) else ((X5_can I8 x3_2 x4_7 x1).bind fun q11 => (if q11.1 = (0 : Int32) then (some (0 : Int32)) else (some (1 : Int32))).bind fun q12 => X5_pairsBut_L2 x1 x3_2 K6 n7 (x2_7 + q12) (x4_7 + (1 : Int32)) q11.2)
def X5_pairsBut_L1 (x1 : Int32) (K1 : Int32 → xMem → Option (Int32 × xMem)) : Nat → Int32 → Int32 → xMem → Option (Int32 × xMem)
  | 0, _, _, _ => none
  | n2 + 1, x2_2, x3_2, I3 => if (I3 0 4) ≤ x3_2 then (K1 x2_2 I3) else (X5_pairsBut_L2 x1 x3_2 (fun (z2_8 : Int32) (I9 : xMem) => X5_pairsBut_L1 x1 K1 n2 z2_8 (x3_2 + (1 : Int32)) I9) bigF x2_2 (x3_2 + (1 : Int32)) I3)
def X5_pairsBut (I : xMem) (x1 : Int32) : Option (Int32 × xMem) := X5_pairsBut_L1 x1 (fun (z2_3 : Int32) (I4 : xMem) => some (z2_3, I4)) bigF (0 : Int32) (0 : Int32) I
abbrev rm_X5_pairsBut : Room := { frames := 5, cells := 0, slots := 0, locals := 121 }
theorem cd_X5_pairsBut : yX5_pairsBut.cls = RX5 ∧ yX5_pairsBut.cls ≠ "java/lang/invoke/MethodHandle" ∧ yX5_pairsBut.cls ≠ "java/lang/invoke/VarHandle" ∧ (parseMethodDescriptor yX5_pairsBut.desc).map (fun d => d.parameters.length) = some 1 := by decide +kernel
set_option maxHeartbeats 4000000 in
set_option maxRecDepth 100000 in
theorem k_X5_pairsBut (l : Launch) (D : va_G) (cy : Nat → ClassId) (ad : Nat → Nat) (hi : gInj 18 ad) (I : xMem) (L : xLon) (x1 : Int32) (r : Int32 × xMem) (h : X5_pairsBut I x1 = some r) : Met l yX5_pairsBut wsX5_pairsBut rm_X5_pairsBut (va_Pc [.ref (ad 0), .int x1] (mW D cy ad I L)) (mPi D cy ad r.2 L r.1) 0 0 (gA 18 ad) := by
  refine g_met (own := RX5) (cc := cX5_pairsBut) (maxL := 5) (ret := (some .int)) (by decide) rfl (Nat.le_of_ble_eq_true rfl) rfl ?_
  intro p e s m args below meth c ls hx hb hml hr hlocks hown hts hG hK hZ hl
  generalize hQ : MQ below _ args s 0 0 _ = Q
  have hl : lv_has ls 5 [(0, .ref (ad 0)), (1, .int x1)] := hl
  have hS : va_S (gA 18 ad) s.heap s.heap [] := va_S.rf
  have l5 : ∀ w ∈ wsX50, w.before args s = true := fun w h => hts w (List.mem_cons_of_mem _ (List.mem_append_right _ h))
  have k1 := hts (.fieldLink RX5 157 "PairStairsModel" "people" "I") (by decide +kernel)
  unfold X5_pairsBut at h
  refine lv_iconst (v := (0 : Int32)) hx hb dX5_pairsBut_0 (by decide) ?_
  refine lv_istore_n (lv' := [(2, .int (0 : Int32)), (0, .ref (ad 0)), (1, .int x1)]) hx hb dX5_pairsBut_1 rfl hl (by decide) rfl (fun ls hl => ?_)
  refine lv_iconst (v := (0 : Int32)) hx hb dX5_pairsBut_2 (by decide) ?_
  refine lv_istore_n (lv' := [(3, .int (0 : Int32)), (2, .int (0 : Int32)), (0, .ref (ad 0)), (1, .int x1)]) hx hb dX5_pairsBut_3 rfl hl (by decide) rfl (fun ls hl => ?_)
  have keyK1 : ∀ (K1 : Int32 → xMem → Option (Int32 × xMem)), (∀ (z2_3 : Int32) (I4 : xMem) (H : Heap) (locs : List Loc) (ls : Array Slot), K1 z2_3 I4 = some r → mG D cy ad I4 L H → va_S (gA 18 ad) s.heap H locs → lv_has ls 5 [(2, .int z2_3)] → W p l e rm_X5_pairsBut s m args below meth c H locs 0 0 Q (F0 m 57 ls [])) → ∀ (n2 : Nat) (x2_2 : Int32) (x3_2 : Int32) (I3 : xMem) (H : Heap) (locs : List Loc) (ls : Array Slot), X5_pairsBut_L1 x1 K1 n2 x2_2 x3_2 I3 = some r → mG D cy ad I3 L H → va_S (gA 18 ad) s.heap H locs → lv_has ls 5 [(0, .ref (ad 0)), (1, .int x1), (2, .int x2_2), (3, .int x3_2)] → W p l e rm_X5_pairsBut s m args below meth c H locs 0 0 Q (F0 m 4 ls []) := by
    intro K1 hkK1 n2
    induction n2 with
    | zero =>
      intro x2_2 x3_2 I3 H locs ls h
      exact ono h
    | succ n2 ihn2 =>
      intro x2_2 x3_2 I3 H locs ls h hG hS hl
      rw [X5_pairsBut_L1] at h
      refine lv_iload_n hx hb dX5_pairsBut_4 rfl (lv_at hl 3 rfl) ?_
      refine lv_aload_n hx hb dX5_pairsBut_5 rfl (lv_at hl 0 rfl) ?_
      refine g_get hx hb l5 hown hK hG (k := 0) (by decide) (mE_5 _ _) vwCl_5 4 (by decide) k1 (fun _ h9 => h9) rfl dX5_pairsBut_6 ?_
      refine lv_icmp_ge (tgt := 57) hx hb dX5_pairsBut_9 (by decide) (fun c5 => ?_) (fun c5 => ?_)
      · have h := ite_t h c5
        exact hkK1 x2_2 I3 _ _ _ h hG hS (lv_sub hl [2] rfl)
      · have h := ite_f h c5
        refine lv_iload_n hx hb dX5_pairsBut_12 rfl (lv_at hl 3 rfl) ?_
        refine lv_iconst (v := (1 : Int32)) hx hb dX5_pairsBut_13 (by decide) ?_
        refine lv_iadd hx hb dX5_pairsBut_14 ?_
        refine lv_istore (lv' := [(4, .int (x3_2 + (1 : Int32))), (0, .ref (ad 0)), (1, .int x1), (2, .int x2_2), (3, .int x3_2)]) hx hb dX5_pairsBut_15 hl (by decide) rfl (fun ls hl => ?_)
        have keyK6 : ∀ (K6 : Int32 → xMem → Option (Int32 × xMem)), (∀ (z2_8 : Int32) (I9 : xMem) (H : Heap) (locs : List Loc) (ls : Array Slot), K6 z2_8 I9 = some r → mG D cy ad I9 L H → va_S (gA 18 ad) s.heap H locs → lv_has ls 5 [(0, .ref (ad 0)), (1, .int x1), (2, .int z2_8), (3, .int x3_2)] → W p l e rm_X5_pairsBut s m args below meth c H locs 0 0 Q (F0 m 51 ls [])) → ∀ (n7 : Nat) (x2_7 : Int32) (x4_7 : Int32) (I8 : xMem) (H : Heap) (locs : List Loc) (ls : Array Slot), X5_pairsBut_L2 x1 x3_2 K6 n7 x2_7 x4_7 I8 = some r → mG D cy ad I8 L H → va_S (gA 18 ad) s.heap H locs → lv_has ls 5 [(0, .ref (ad 0)), (1, .int x1), (2, .int x2_7), (3, .int x3_2), (4, .int x4_7)] → W p l e rm_X5_pairsBut s m args below meth c H locs 0 0 Q (F0 m 17 ls []) := by
          intro K6 hkK6 n7
          induction n7 with
          | zero =>
            intro x2_7 x4_7 I8 H locs ls h
            exact ono h
          | succ n7 ihn7 =>
            intro x2_7 x4_7 I8 H locs ls h hG hS hl
            rw [X5_pairsBut_L2] at h
            refine lv_iload hx hb dX5_pairsBut_17 (lv_at hl 4 rfl) ?_
            refine lv_aload_n hx hb dX5_pairsBut_19 rfl (lv_at hl 0 rfl) ?_
            refine g_get hx hb l5 hown hK hG (k := 0) (by decide) (mE_5 _ _) vwCl_5 4 (by decide) k1 (fun _ h9 => h9) rfl dX5_pairsBut_20 ?_
            refine lv_icmp_ge (tgt := 51) hx hb dX5_pairsBut_23 (by decide) (fun c10 => ?_) (fun c10 => ?_)
            · have h := ite_t h c10
              exact hkK6 x2_7 I8 _ _ _ h hG hS (lv_sub hl [0, 1, 2, 3] rfl)
            · have h := ite_f h c10
              refine lv_iload_n hx hb dX5_pairsBut_26 rfl (lv_at hl 2 rfl) ?_
              refine lv_aload_n hx hb dX5_pairsBut_27 rfl (lv_at hl 0 rfl) ?_
              refine lv_iload_n hx hb dX5_pairsBut_28 rfl (lv_at hl 3 rfl) ?_
              refine lv_iload hx hb dX5_pairsBut_29 (lv_at hl 4 rfl) ?_
              refine lv_iload_n hx hb dX5_pairsBut_31 rfl (lv_at hl 1 rfl) ?_
              obtain ⟨q11, eq11, h⟩ := obind h
              refine g_endi (va_runV (As := [.int x3_2, .int x4_7, .int x1]) (rest := [.int x2_7]) ⟨hx, hb, hml, hown, hts⟩ (k_X5_can l D cy ad hi I8 L x3_2 x4_7 x1 q11 eq11) (cwV 3 hts gX5_pairsBut_X5_can rfl rfl rfl cd_X5_can ⟨Nat.le_of_ble_eq_true rfl, Nat.le_of_ble_eq_true rfl⟩) ⟨g_blind mZm, g_recv hK hG (k := 0) (by decide) (mE_5 _ _) vwCl_5, g_pre mZm hK hG hZ hS⟩ rfl rfl hl.1 rfl (lv_room (Nat.le_of_ble_eq_true rfl)) dX5_pairsBut_32 ⟨Nat.le_refl _, Nat.le_refl _⟩) hS (fun H locs hG hS => ?_)
              obtain ⟨q12, h9, h⟩ := obind h
              have hk_q12 : ∀ (H : Heap) (locs : List Loc) (ls : Array Slot), mG D cy ad q11.2 L H → va_S (gA 18 ad) s.heap H locs → lv_has ls 5 [(0, .ref (ad 0)), (1, .int x1), (3, .int x3_2), (4, .int x4_7)] → W p l e rm_X5_pairsBut s m args below meth c H locs 0 0 Q (F0 m 43 ls [.int q12, .int x2_7]) := by
                intro H locs ls hG hS hl
                refine lv_iadd hx hb dX5_pairsBut_43 ?_
                refine lv_istore_n (lv' := [(2, .int (x2_7 + q12)), (0, .ref (ad 0)), (1, .int x1), (3, .int x3_2), (4, .int x4_7)]) hx hb dX5_pairsBut_44 rfl hl (by decide) rfl (fun ls hl => ?_)
                refine lv_iinc (v := (x4_7 + (1 : Int32))) (lv' := [(4, .int (x4_7 + (1 : Int32))), (2, .int (x2_7 + q12)), (0, .ref (ad 0)), (1, .int x1), (3, .int x3_2)]) hx hb dX5_pairsBut_45 hl (k := 4) rfl rfl (by decide) rfl (fun ls hl => ?_)
                refine lv_goto (tgt := 17) hx hb dX5_pairsBut_48 (by decide) ?_
                exact ihn7 (x2_7 + q12) (x4_7 + (1 : Int32)) q11.2 _ _ _ h hG hS (lv_sub hl [2, 3, 1, 4, 0] rfl)
              clear h
              have h := h9
              clear h9
              refine lv_if_eq (tgt := 42) hx hb dX5_pairsBut_35 (by decide) (fun c13 => ?_) (fun c13 => ?_)
              · have h := ite_t h c13
                refine lv_iconst (v := (0 : Int32)) hx hb dX5_pairsBut_42 (by decide) ?_
                have h := Option.some.inj h
                subst h
                exact hk_q12 _ _ _ hG hS (lv_sub hl [0, 1, 3, 4] rfl)
              · have h := ite_f h c13
                refine lv_iconst (v := (1 : Int32)) hx hb dX5_pairsBut_38 (by decide) ?_
                refine lv_goto (tgt := 43) hx hb dX5_pairsBut_39 (by decide) ?_
                have h := Option.some.inj h
                subst h
                exact hk_q12 _ _ _ hG hS (lv_sub hl [0, 1, 3, 4] rfl)
        refine keyK6 _ (fun z2_8 I9 H locs ls h hG hS hl => ?_) bigF x2_2 (x3_2 + (1 : Int32)) I3 _ _ _ h hG hS (lv_sub hl [1, 2, 3, 4, 0] rfl)
        clear keyK6
        refine lv_iinc (v := (x3_2 + (1 : Int32))) (lv' := [(3, .int (x3_2 + (1 : Int32))), (0, .ref (ad 0)), (1, .int x1), (2, .int z2_8)]) hx hb dX5_pairsBut_51 hl (k := 3) rfl rfl (by decide) rfl (fun ls hl => ?_)
        refine lv_goto (tgt := 4) hx hb dX5_pairsBut_54 (by decide) ?_
        exact ihn2 z2_8 (x3_2 + (1 : Int32)) I9 _ _ _ h hG hS (lv_sub hl [1, 2, 3, 0] rfl)
  refine keyK1 _ (fun z2_3 I4 H locs ls h hG hS hl => ?_) bigF (0 : Int32) (0 : Int32) I _ _ _ h hG hS (lv_sub hl [2, 3, 1, 0] rfl)
  clear keyK1
  refine lv_iload_n hx hb dX5_pairsBut_57 rfl (lv_at hl 0 rfl) ?_
  have h := Option.some.inj h
  subst h
  subst hQ
  exact g_iret hx hb hr hlocks mZm hK hZ hG hS rfl dX5_pairsBut_58
def X5_pairs_L1 (K2 : xMem → Option (Int32 × xMem)) : Nat → Int32 → xMem → Option (Int32 × xMem)
  | 0, _, _ => none
  | n3 + 1, x1_3, I4 => if x1_3 < (0 : Int32) then (K2 I4) else ((dvI x1_3 (I4 0 4)).bind fun v7 => (rmI x1_3 (I4 0 4)).bind fun v8 => if v8 ≤ v7 then ((some (wr I4 0 11 (I4 0 11))).bind fun I10 => X5_pairs_L1 K2 n3 (x1_3 + (-1 : Int32)) I10) else ((X5_can I4 v7 v8 (0 : Int32)).bind fun q11 => if q11.1 = (0 : Int32) then ((some (wr q11.2 0 11 (q11.2 0 11))).bind fun I13 => X5_pairs_L1 K2 n3 (x1_3 + (-1 : Int32)) I13) else ((some (wr q11.2 0 11 (((6 : Int32) * v7) + v8))).bind fun I14 => X5_pairs_L1 K2 n3 (x1_3 + (-1 : Int32)) I14)))
def X5_pairs (I : xMem) : Option (Int32 × xMem) := (some (wr I 0 11 (-9 : Int32))).bind fun I1 => X5_pairs_L1 (fun (I5 : xMem) => (X5_pairsBut I5 (0 : Int32)).bind fun q15 => some (q15.1, q15.2)) bigF (((I1 0 4) * (I1 0 4)) - (1 : Int32)) I1
abbrev rm_X5_pairs : Room := { frames := 6, cells := 0, slots := 0, locals := 145 }
theorem cd_X5_pairs : yX5_pairs.cls = RX5 ∧ yX5_pairs.cls ≠ "java/lang/invoke/MethodHandle" ∧ yX5_pairs.cls ≠ "java/lang/invoke/VarHandle" ∧ (parseMethodDescriptor yX5_pairs.desc).map (fun d => d.parameters.length) = some 0 := by decide +kernel
set_option maxHeartbeats 4000000 in
set_option maxRecDepth 100000 in
theorem k_X5_pairs (l : Launch) (D : va_G) (cy : Nat → ClassId) (ad : Nat → Nat) (hi : gInj 18 ad) (I : xMem) (L : xLon)  (r : Int32 × xMem) (h : X5_pairs I = some r) : Met l yX5_pairs wsX5_pairs rm_X5_pairs (va_Pc [.ref (ad 0)] (mW D cy ad I L)) (mPi D cy ad r.2 L r.1) 0 0 (gA 18 ad) := by
  refine g_met (own := RX5) (cc := cX5_pairs) (maxL := 4) (ret := (some .int)) (by decide) rfl (Nat.le_of_ble_eq_true rfl) rfl ?_
  intro p e s m args below meth c ls hx hb hml hr hlocks hown hts hG hK hZ hl
  generalize hQ : MQ below _ args s 0 0 _ = Q
  have hl : lv_has ls 4 [(0, .ref (ad 0))] := hl
  have hS : va_S (gA 18 ad) s.heap s.heap [] := va_S.rf
  have l5 : ∀ w ∈ wsX50, w.before args s = true := fun w h => hts w (List.mem_cons_of_mem _ (List.mem_append_right _ h))
  have k1 := hts (.fieldLink RX5 70 "PairStairsModel" "asked" "I") (by decide +kernel)
  have k2 := hts (.fieldLink RX5 157 "PairStairsModel" "people" "I") (by decide +kernel)
  unfold X5_pairs at h
  refine lv_aload_n hx hb dX5_pairs_0 rfl (lv_at hl 0 rfl) ?_
  refine lv_bipush (v := (-9 : Int32)) hx hb dX5_pairs_1 (by decide) ?_
  obtain ⟨I1, eI1, h⟩ := obind h
  refine g_put hx hb l5 tyX5_ok nmX5 hown hK hG hi hS (k := 0) (by decide) (mE_5 _ _) vwCl_5 11 (by decide) k1 (fun _ h9 => h9) rfl rfl (Nat.le_of_ble_eq_true rfl) (by rw [mE_5 _ _]; rfl) dX5_pairs_3 (fun H locs hG hS => ?_)
  rw [Option.some.inj eI1] at hG
  refine lv_aload_n hx hb dX5_pairs_6 rfl (lv_at hl 0 rfl) ?_
  refine g_get hx hb l5 hown hK hG (k := 0) (by decide) (mE_5 _ _) vwCl_5 4 (by decide) k2 (fun _ h9 => h9) rfl dX5_pairs_7 ?_
  refine lv_aload_n hx hb dX5_pairs_10 rfl (lv_at hl 0 rfl) ?_
  refine g_get hx hb l5 hown hK hG (k := 0) (by decide) (mE_5 _ _) vwCl_5 4 (by decide) k2 (fun _ h9 => h9) rfl dX5_pairs_11 ?_
  refine lv_imul hx hb dX5_pairs_14 ?_
  refine lv_iconst (v := (1 : Int32)) hx hb dX5_pairs_15 (by decide) ?_
  refine lv_isub hx hb dX5_pairs_16 ?_
  refine lv_istore_n (lv' := [(1, .int (((I1 0 4) * (I1 0 4)) - (1 : Int32))), (0, .ref (ad 0))]) hx hb dX5_pairs_17 rfl hl (by decide) rfl (fun ls hl => ?_)
  have keyK2 : ∀ (K2 : xMem → Option (Int32 × xMem)), (∀ (I5 : xMem) (H : Heap) (locs : List Loc) (ls : Array Slot), K2 I5 = some r → mG D cy ad I5 L H → va_S (gA 18 ad) s.heap H locs → lv_has ls 4 [(0, .ref (ad 0))] → W p l e rm_X5_pairs s m args below meth c H locs 0 0 Q (F0 m 74 ls [])) → ∀ (n3 : Nat) (x1_3 : Int32) (I4 : xMem) (H : Heap) (locs : List Loc) (ls : Array Slot), X5_pairs_L1 K2 n3 x1_3 I4 = some r → mG D cy ad I4 L H → va_S (gA 18 ad) s.heap H locs → lv_has ls 4 [(0, .ref (ad 0)), (1, .int x1_3)] → W p l e rm_X5_pairs s m args below meth c H locs 0 0 Q (F0 m 18 ls []) := by
    intro K2 hkK2 n3
    induction n3 with
    | zero =>
      intro x1_3 I4 H locs ls h
      exact ono h
    | succ n3 ihn3 =>
      intro x1_3 I4 H locs ls h hG hS hl
      rw [X5_pairs_L1] at h
      refine lv_iload_n hx hb dX5_pairs_18 rfl (lv_at hl 1 rfl) ?_
      refine lv_if_lt (tgt := 74) hx hb dX5_pairs_19 (by decide) (fun c6 => ?_) (fun c6 => ?_)
      · have h := ite_t h c6
        exact hkK2 I4 _ _ _ h hG hS (lv_sub hl [0] rfl)
      · have h := ite_f h c6
        refine lv_iload_n hx hb dX5_pairs_22 rfl (lv_at hl 1 rfl) ?_
        refine lv_aload_n hx hb dX5_pairs_23 rfl (lv_at hl 0 rfl) ?_
        refine g_get hx hb l5 hown hK hG (k := 0) (by decide) (mE_5 _ _) vwCl_5 4 (by decide) k2 (fun _ h9 => h9) rfl dX5_pairs_24 ?_
        refine g_idiv hx hb h dX5_pairs_27 (fun v7 h => ?_)
        refine lv_istore_n (lv' := [(2, .int v7), (0, .ref (ad 0)), (1, .int x1_3)]) hx hb dX5_pairs_28 rfl hl (by decide) rfl (fun ls hl => ?_)
        refine lv_iload_n hx hb dX5_pairs_29 rfl (lv_at hl 2 rfl) ?_
        refine lv_aload_n hx hb dX5_pairs_30 rfl (lv_at hl 1 rfl) ?_
        refine g_get hx hb l5 hown hK hG (k := 0) (by decide) (mE_5 _ _) vwCl_5 4 (by decide) k2 (fun _ h9 => h9) rfl dX5_pairs_31 ?_
        refine g_irem hx hb h dX5_pairs_34 (fun v8 h => ?_)
        refine lv_istore_n (lv' := [(3, .int v8), (2, .int v7), (0, .ref (ad 0)), (1, .int x1_3)]) hx hb dX5_pairs_35 rfl hl (by decide) rfl (fun ls hl => ?_)
        refine lv_aload_n hx hb dX5_pairs_36 rfl (lv_at hl 2 rfl) ?_
        refine lv_iload_n hx hb dX5_pairs_37 rfl (lv_at hl 1 rfl) ?_
        refine lv_iload_n hx hb dX5_pairs_38 rfl (lv_at hl 0 rfl) ?_
        refine lv_icmp_ge (tgt := 61) hx hb dX5_pairs_39 (by decide) (fun c9 => ?_) (fun c9 => ?_)
        · have h := ite_t h c9
          refine lv_aload_n hx hb dX5_pairs_61 rfl (lv_at hl 2 rfl) ?_
          refine g_get hx hb l5 hown hK hG (k := 0) (by decide) (mE_5 _ _) vwCl_5 11 (by decide) k1 (fun _ h9 => h9) rfl dX5_pairs_62 ?_
          obtain ⟨I10, eI10, h⟩ := obind h
          refine g_put hx hb l5 tyX5_ok nmX5 hown hK hG hi hS (k := 0) (by decide) (mE_5 _ _) vwCl_5 11 (by decide) k1 (fun _ h9 => h9) rfl rfl (Nat.le_of_ble_eq_true rfl) (by rw [mE_5 _ _]; rfl) dX5_pairs_65 (fun H locs hG hS => ?_)
          rw [Option.some.inj eI10] at hG
          refine lv_iinc (v := (x1_3 + (-1 : Int32))) (lv' := [(1, .int (x1_3 + (-1 : Int32))), (3, .int v8), (2, .int v7), (0, .ref (ad 0))]) hx hb dX5_pairs_68 hl (k := 3) rfl rfl (by decide) rfl (fun ls hl => ?_)
          refine lv_goto (tgt := 18) hx hb dX5_pairs_71 (by decide) ?_
          exact ihn3 (x1_3 + (-1 : Int32)) I10 _ _ _ h hG hS (lv_sub hl [3, 0] rfl)
        · have h := ite_f h c9
          refine lv_aload_n hx hb dX5_pairs_42 rfl (lv_at hl 2 rfl) ?_
          refine lv_iload_n hx hb dX5_pairs_43 rfl (lv_at hl 1 rfl) ?_
          refine lv_iload_n hx hb dX5_pairs_44 rfl (lv_at hl 0 rfl) ?_
          refine lv_iconst (v := (0 : Int32)) hx hb dX5_pairs_45 (by decide) ?_
          obtain ⟨q11, eq11, h⟩ := obind h
          refine g_endi (va_runV (As := [.int v7, .int v8, .int (0 : Int32)]) (rest := [.ref (ad 0)]) ⟨hx, hb, hml, hown, hts⟩ (k_X5_can l D cy ad hi I4 L v7 v8 (0 : Int32) q11 eq11) (cwV 3 hts gX5_pairs_X5_can rfl rfl rfl cd_X5_can ⟨Nat.le_of_ble_eq_true rfl, Nat.le_of_ble_eq_true rfl⟩) ⟨g_blind mZm, g_recv hK hG (k := 0) (by decide) (mE_5 _ _) vwCl_5, g_pre mZm hK hG hZ hS⟩ rfl rfl hl.1 rfl (lv_room (Nat.le_of_ble_eq_true rfl)) dX5_pairs_46 ⟨Nat.le_refl _, Nat.le_refl _⟩) hS (fun H locs hG hS => ?_)
          refine lv_if_eq (tgt := 61) hx hb dX5_pairs_49 (by decide) (fun c12 => ?_) (fun c12 => ?_)
          · have h := ite_t h c12
            refine lv_aload_n hx hb dX5_pairs_61 rfl (lv_at hl 2 rfl) ?_
            refine g_get hx hb l5 hown hK hG (k := 0) (by decide) (mE_5 _ _) vwCl_5 11 (by decide) k1 (fun _ h9 => h9) rfl dX5_pairs_62 ?_
            obtain ⟨I13, eI13, h⟩ := obind h
            refine g_put hx hb l5 tyX5_ok nmX5 hown hK hG hi hS (k := 0) (by decide) (mE_5 _ _) vwCl_5 11 (by decide) k1 (fun _ h9 => h9) rfl rfl (Nat.le_of_ble_eq_true rfl) (by rw [mE_5 _ _]; rfl) dX5_pairs_65 (fun H locs hG hS => ?_)
            rw [Option.some.inj eI13] at hG
            refine lv_iinc (v := (x1_3 + (-1 : Int32))) (lv' := [(1, .int (x1_3 + (-1 : Int32))), (3, .int v8), (2, .int v7), (0, .ref (ad 0))]) hx hb dX5_pairs_68 hl (k := 3) rfl rfl (by decide) rfl (fun ls hl => ?_)
            refine lv_goto (tgt := 18) hx hb dX5_pairs_71 (by decide) ?_
            exact ihn3 (x1_3 + (-1 : Int32)) I13 _ _ _ h hG hS (lv_sub hl [3, 0] rfl)
          · have h := ite_f h c12
            refine lv_bipush (v := (6 : Int32)) hx hb dX5_pairs_52 (by decide) ?_
            refine lv_iload_n hx hb dX5_pairs_54 rfl (lv_at hl 1 rfl) ?_
            refine lv_imul hx hb dX5_pairs_55 ?_
            refine lv_iload_n hx hb dX5_pairs_56 rfl (lv_at hl 0 rfl) ?_
            refine lv_iadd hx hb dX5_pairs_57 ?_
            refine lv_goto (tgt := 65) hx hb dX5_pairs_58 (by decide) ?_
            obtain ⟨I14, eI14, h⟩ := obind h
            refine g_put hx hb l5 tyX5_ok nmX5 hown hK hG hi hS (k := 0) (by decide) (mE_5 _ _) vwCl_5 11 (by decide) k1 (fun _ h9 => h9) rfl rfl (Nat.le_of_ble_eq_true rfl) (by rw [mE_5 _ _]; rfl) dX5_pairs_65 (fun H locs hG hS => ?_)
            rw [Option.some.inj eI14] at hG
            refine lv_iinc (v := (x1_3 + (-1 : Int32))) (lv' := [(1, .int (x1_3 + (-1 : Int32))), (3, .int v8), (2, .int v7), (0, .ref (ad 0))]) hx hb dX5_pairs_68 hl (k := 3) rfl rfl (by decide) rfl (fun ls hl => ?_)
            refine lv_goto (tgt := 18) hx hb dX5_pairs_71 (by decide) ?_
            exact ihn3 (x1_3 + (-1 : Int32)) I14 _ _ _ h hG hS (lv_sub hl [3, 0] rfl)
  refine keyK2 _ (fun I5 H locs ls h hG hS hl => ?_) bigF (((I1 0 4) * (I1 0 4)) - (1 : Int32)) I1 _ _ _ h hG hS (lv_sub hl [1, 0] rfl)
  clear keyK2
  refine lv_aload_n hx hb dX5_pairs_74 rfl (lv_at hl 0 rfl) ?_
  refine lv_iconst (v := (0 : Int32)) hx hb dX5_pairs_75 (by decide) ?_
  obtain ⟨q15, eq15, h⟩ := obind h
  refine g_endi (va_runV (As := [.int (0 : Int32)]) (rest := []) ⟨hx, hb, hml, hown, hts⟩ (k_X5_pairsBut l D cy ad hi I5 L (0 : Int32) q15 eq15) (cwV 1 hts gX5_pairs_X5_pairsBut rfl rfl rfl cd_X5_pairsBut ⟨Nat.le_of_ble_eq_true rfl, Nat.le_of_ble_eq_true rfl⟩) ⟨g_blind mZm, g_recv hK hG (k := 0) (by decide) (mE_5 _ _) vwCl_5, g_pre mZm hK hG hZ hS⟩ rfl rfl hl.1 rfl (lv_room (Nat.le_of_ble_eq_true rfl)) dX5_pairs_76 ⟨Nat.le_refl _, Nat.le_refl _⟩) hS (fun H locs hG hS => ?_)
  have h := Option.some.inj h
  subst h
  subst hQ
  exact g_iret hx hb hr hlocks mZm hK hZ hG hS rfl dX5_pairs_79
def X5_goWith_L1 (I : xMem) (x1 : Int32) (x2 : Int32) (x3 : Int32) (x4 : Int32) (K1 : Option (Int32)) : Nat → Int32 → Option (Int32)
  | 0, _ => none
  | n2 + 1, x6_2 => if (256 : Int32) ≤ x6_2 then (K1) else ((if ((x6_2 / (16 : Int32)) &&& (x6_2 - x6_2 / (16 : Int32) * (16 : Int32))) = (0 : Int32) then ((X5_stonesBy I x2).bind fun v6 => if (((x6_2 / (16 : Int32)) ||| (x6_2 - x6_2 / (16 : Int32) * (16 : Int32))) &&& ((x4 &&& v6) ^^^ (-1 : Int32))) = (0 : Int32) then ((rdI I 12 1024 (((16 : Int32) * (x1 &&& ((((1 : Int32) <<< (x2 &&& 31)) ||| ((1 : Int32) <<< (x3 &&& 31))) ^^^ (-1 : Int32)))) + (x4 &&& (((x6_2 / (16 : Int32)) ||| (x6_2 - x6_2 / (16 : Int32) * (16 : Int32))) ^^^ (-1 : Int32))))).bind fun v8 => if v8 = (0 : Int32) then (some (0 : Int32)) else (some (1 : Int32))) else (some (0 : Int32))) else (some (0 : Int32))).bind fun q4 => if q4 = (0 : Int32) then (X5_goWith_L1 I x1 x2 x3 x4 K1 n2 (x6_2 + (1 : Int32))) else ((X5_sinkOf I x2 x3 (x6_2 / (16 : Int32)) (x6_2 - x6_2 / (16 : Int32) * (16 : Int32))).bind fun v11 => if (I 0 1) < v11 then (X5_goWith_L1 I x1 x2 x3 x4 K1 n2 (x6_2 + (1 : Int32))) else (some (nz (1 : Int32)))))
def X5_goWith (I : xMem) (x1 : Int32) (x2 : Int32) (x3 : Int32) (x4 : Int32) : Option (Int32) := X5_goWith_L1 I x1 x2 x3 x4 (some (nz (0 : Int32))) bigF (0 : Int32)
abbrev rm_X5_goWith : Room := { frames := 3, cells := 0, slots := 0, locals := 70 }
theorem cd_X5_goWith : yX5_goWith.cls = RX5 ∧ yX5_goWith.cls ≠ "java/lang/invoke/MethodHandle" ∧ yX5_goWith.cls ≠ "java/lang/invoke/VarHandle" ∧ (parseMethodDescriptor yX5_goWith.desc).map (fun d => d.parameters.length) = some 4 := by decide +kernel
set_option maxHeartbeats 4000000 in
set_option maxRecDepth 100000 in
theorem k_X5_goWith (l : Launch) (D : va_G) (cy : Nat → ClassId) (ad : Nat → Nat) (hi : gInj 18 ad) (I : xMem) (L : xLon) (x1 : Int32) (x2 : Int32) (x3 : Int32) (x4 : Int32) (r : Int32) (h : X5_goWith I x1 x2 x3 x4 = some r) : Met l yX5_goWith wsX5_goWith rm_X5_goWith (va_Pc [.ref (ad 0), .int x1, .int x2, .int x3, .int x4] (mW D cy ad I L)) (mPi D cy ad I L r) 0 0 (gA 18 ad) := by
  refine g_met (own := RX5) (cc := cX5_goWith) (maxL := 10) (ret := (some .boolean)) (by decide) rfl (Nat.le_of_ble_eq_true rfl) rfl ?_
  intro p e s m args below meth c ls hx hb hml hr hlocks hown hts hG hK hZ hl
  generalize hQ : MQ below _ args s 0 0 _ = Q
  have hl : lv_has ls 10 [(0, .ref (ad 0)), (1, .int x1), (2, .int x2), (3, .int x3), (4, .int x4)] := hl
  have hS : va_S (gA 18 ad) s.heap s.heap [] := va_S.rf
  have l5 : ∀ w ∈ wsX50, w.before args s = true := fun w h => hts w (List.mem_cons_of_mem _ (List.mem_append_right _ h))
  have k1 := hts (.fieldLink RX5 47 "PairStairsModel" "atOnce" "[Z") (by decide +kernel)
  have k2 := hts (.fieldLink RX5 151 "PairStairsModel" "limit" "I") (by decide +kernel)
  unfold X5_goWith at h
  refine lv_iload_n hx hb dX5_goWith_0 rfl (lv_at hl 1 rfl) ?_
  refine lv_iconst (v := (1 : Int32)) hx hb dX5_goWith_1 (by decide) ?_
  refine lv_iload_n hx hb dX5_goWith_2 rfl (lv_at hl 2 rfl) ?_
  refine lv_ishl hx hb dX5_goWith_3 ?_
  refine lv_iconst (v := (1 : Int32)) hx hb dX5_goWith_4 (by decide) ?_
  refine lv_iload_n hx hb dX5_goWith_5 rfl (lv_at hl 3 rfl) ?_
  refine lv_ishl hx hb dX5_goWith_6 ?_
  refine lv_ior hx hb dX5_goWith_7 ?_
  refine lv_iconst (v := (-1 : Int32)) hx hb dX5_goWith_8 (by decide) ?_
  refine lv_ixor hx hb dX5_goWith_9 ?_
  refine lv_iand hx hb dX5_goWith_10 ?_
  refine lv_istore (lv' := [(5, .int (x1 &&& ((((1 : Int32) <<< (x2 &&& 31)) ||| ((1 : Int32) <<< (x3 &&& 31))) ^^^ (-1 : Int32)))), (0, .ref (ad 0)), (1, .int x1), (2, .int x2), (3, .int x3), (4, .int x4)]) hx hb dX5_goWith_11 hl (by decide) rfl (fun ls hl => ?_)
  refine lv_iconst (v := (0 : Int32)) hx hb dX5_goWith_13 (by decide) ?_
  refine lv_istore (lv' := [(6, .int (0 : Int32)), (5, .int (x1 &&& ((((1 : Int32) <<< (x2 &&& 31)) ||| ((1 : Int32) <<< (x3 &&& 31))) ^^^ (-1 : Int32)))), (0, .ref (ad 0)), (1, .int x1), (2, .int x2), (3, .int x3), (4, .int x4)]) hx hb dX5_goWith_14 hl (by decide) rfl (fun ls hl => ?_)
  have keyK1 : ∀ (K1 : Option (Int32)), (∀ (H : Heap) (locs : List Loc) (ls : Array Slot), K1 = some r → mG D cy ad I L H → va_S (gA 18 ad) s.heap H locs → lv_has ls 10 [] → W p l e rm_X5_goWith s m args below meth c H locs 0 0 Q (F0 m 126 ls [])) → ∀ (n2 : Nat) (x6_2 : Int32) (H : Heap) (locs : List Loc) (ls : Array Slot), X5_goWith_L1 I x1 x2 x3 x4 K1 n2 x6_2 = some r → mG D cy ad I L H → va_S (gA 18 ad) s.heap H locs → lv_has ls 10 [(0, .ref (ad 0)), (2, .int x2), (3, .int x3), (4, .int x4), (5, .int (x1 &&& ((((1 : Int32) <<< (x2 &&& 31)) ||| ((1 : Int32) <<< (x3 &&& 31))) ^^^ (-1 : Int32)))), (6, .int x6_2)] → W p l e rm_X5_goWith s m args below meth c H locs 0 0 Q (F0 m 16 ls []) := by
    intro K1 hkK1 n2
    induction n2 with
    | zero =>
      intro x6_2 H locs ls h
      exact ono h
    | succ n2 ihn2 =>
      intro x6_2 H locs ls h hG hS hl
      rw [X5_goWith_L1] at h
      refine lv_iload hx hb dX5_goWith_16 (lv_at hl 5 rfl) ?_
      refine lv_sipush (v := (256 : Int32)) hx hb dX5_goWith_18 (by decide) ?_
      refine lv_icmp_ge (tgt := 126) hx hb dX5_goWith_21 (by decide) (fun c3 => ?_) (fun c3 => ?_)
      · have h := ite_t h c3
        exact hkK1 _ _ _ h hG hS (lv_sub hl [] rfl)
      · have h := ite_f h c3
        refine lv_iload hx hb dX5_goWith_24 (lv_at hl 5 rfl) ?_
        refine lv_bipush (v := (16 : Int32)) hx hb dX5_goWith_26 (by decide) ?_
        refine lv_idiv hx hb dX5_goWith_28 (by decide) ?_
        refine lv_istore (lv' := [(7, .int (x6_2 / (16 : Int32))), (0, .ref (ad 0)), (2, .int x2), (3, .int x3), (4, .int x4), (5, .int (x1 &&& ((((1 : Int32) <<< (x2 &&& 31)) ||| ((1 : Int32) <<< (x3 &&& 31))) ^^^ (-1 : Int32)))), (6, .int x6_2)]) hx hb dX5_goWith_29 hl (by decide) rfl (fun ls hl => ?_)
        refine lv_iload hx hb dX5_goWith_31 (lv_at hl 6 rfl) ?_
        refine lv_bipush (v := (16 : Int32)) hx hb dX5_goWith_33 (by decide) ?_
        refine lv_irem hx hb dX5_goWith_35 (by decide) ?_
        refine lv_istore (lv' := [(8, .int (x6_2 - x6_2 / (16 : Int32) * (16 : Int32))), (7, .int (x6_2 / (16 : Int32))), (0, .ref (ad 0)), (2, .int x2), (3, .int x3), (4, .int x4), (5, .int (x1 &&& ((((1 : Int32) <<< (x2 &&& 31)) ||| ((1 : Int32) <<< (x3 &&& 31))) ^^^ (-1 : Int32)))), (6, .int x6_2)]) hx hb dX5_goWith_36 hl (by decide) rfl (fun ls hl => ?_)
        refine lv_iload hx hb dX5_goWith_38 (lv_at hl 1 rfl) ?_
        refine lv_iload hx hb dX5_goWith_40 (lv_at hl 0 rfl) ?_
        refine lv_iand hx hb dX5_goWith_42 ?_
        obtain ⟨q4, h9, h⟩ := obind h
        have hk_q4 : ∀ (H : Heap) (locs : List Loc) (ls : Array Slot), mG D cy ad I L H → va_S (gA 18 ad) s.heap H locs → lv_has ls 10 [(0, .ref (ad 0)), (2, .int x2), (3, .int x3), (4, .int x4), (5, .int (x1 &&& ((((1 : Int32) <<< (x2 &&& 31)) ||| ((1 : Int32) <<< (x3 &&& 31))) ^^^ (-1 : Int32)))), (6, .int x6_2), (7, .int (x6_2 / (16 : Int32))), (8, .int (x6_2 - x6_2 / (16 : Int32) * (16 : Int32)))] → W p l e rm_X5_goWith s m args below meth c H locs 0 0 Q (F0 m 94 ls [.int q4]) := by
          intro H locs ls hG hS hl
          refine lv_istore (lv' := [(9, .int q4), (0, .ref (ad 0)), (2, .int x2), (3, .int x3), (4, .int x4), (5, .int (x1 &&& ((((1 : Int32) <<< (x2 &&& 31)) ||| ((1 : Int32) <<< (x3 &&& 31))) ^^^ (-1 : Int32)))), (6, .int x6_2), (7, .int (x6_2 / (16 : Int32))), (8, .int (x6_2 - x6_2 / (16 : Int32) * (16 : Int32)))]) hx hb dX5_goWith_94 hl (by decide) rfl (fun ls hl => ?_)
          refine lv_iload hx hb dX5_goWith_96 (lv_at hl 0 rfl) ?_
          refine lv_if_eq (tgt := 120) hx hb dX5_goWith_98 (by decide) (fun c10 => ?_) (fun c10 => ?_)
          · have h := ite_t h c10
            refine lv_iinc (v := (x6_2 + (1 : Int32))) (lv' := [(6, .int (x6_2 + (1 : Int32))), (9, .int q4), (0, .ref (ad 0)), (2, .int x2), (3, .int x3), (4, .int x4), (5, .int (x1 &&& ((((1 : Int32) <<< (x2 &&& 31)) ||| ((1 : Int32) <<< (x3 &&& 31))) ^^^ (-1 : Int32)))), (7, .int (x6_2 / (16 : Int32))), (8, .int (x6_2 - x6_2 / (16 : Int32) * (16 : Int32)))]) hx hb dX5_goWith_120 hl (k := 6) rfl rfl (by decide) rfl (fun ls hl => ?_)
            refine lv_goto (tgt := 16) hx hb dX5_goWith_123 (by decide) ?_
            exact ihn2 (x6_2 + (1 : Int32)) _ _ _ h hG hS (lv_sub hl [2, 3, 4, 5, 6, 0] rfl)
          · have h := ite_f h c10
            refine lv_aload_n hx hb dX5_goWith_101 rfl (lv_at hl 1 rfl) ?_
            refine lv_iload_n hx hb dX5_goWith_102 rfl (lv_at hl 2 rfl) ?_
            refine lv_iload_n hx hb dX5_goWith_103 rfl (lv_at hl 3 rfl) ?_
            refine lv_iload hx hb dX5_goWith_104 (lv_at hl 7 rfl) ?_
            refine lv_iload hx hb dX5_goWith_106 (lv_at hl 8 rfl) ?_
            obtain ⟨v11, ev11, h⟩ := obind h
            refine g_endi (va_runV (As := [.int x2, .int x3, .int (x6_2 / (16 : Int32)), .int (x6_2 - x6_2 / (16 : Int32) * (16 : Int32))]) (rest := []) ⟨hx, hb, hml, hown, hts⟩ (k_X5_sinkOf l D cy ad hi I L x2 x3 (x6_2 / (16 : Int32)) (x6_2 - x6_2 / (16 : Int32) * (16 : Int32)) v11 ev11) (cwV 4 hts gX5_goWith_X5_sinkOf rfl rfl rfl cd_X5_sinkOf ⟨Nat.le_of_ble_eq_true rfl, Nat.le_of_ble_eq_true rfl⟩) ⟨g_blind mZm, g_recv hK hG (k := 0) (by decide) (mE_5 _ _) vwCl_5, g_pre mZm hK hG hZ hS⟩ rfl rfl hl.1 rfl (lv_room (Nat.le_of_ble_eq_true rfl)) dX5_goWith_108 ⟨Nat.le_refl _, Nat.le_refl _⟩) hS (fun H locs hG hS => ?_)
            refine lv_aload_n hx hb dX5_goWith_111 rfl (lv_at hl 1 rfl) ?_
            refine g_get hx hb l5 hown hK hG (k := 0) (by decide) (mE_5 _ _) vwCl_5 1 (by decide) k2 (fun _ h9 => h9) rfl dX5_goWith_112 ?_
            refine lv_icmp_gt (tgt := 120) hx hb dX5_goWith_115 (by decide) (fun c12 => ?_) (fun c12 => ?_)
            · have h := ite_t h c12
              refine lv_iinc (v := (x6_2 + (1 : Int32))) (lv' := [(6, .int (x6_2 + (1 : Int32))), (9, .int q4), (0, .ref (ad 0)), (2, .int x2), (3, .int x3), (4, .int x4), (5, .int (x1 &&& ((((1 : Int32) <<< (x2 &&& 31)) ||| ((1 : Int32) <<< (x3 &&& 31))) ^^^ (-1 : Int32)))), (7, .int (x6_2 / (16 : Int32))), (8, .int (x6_2 - x6_2 / (16 : Int32) * (16 : Int32)))]) hx hb dX5_goWith_120 hl (k := 6) rfl rfl (by decide) rfl (fun ls hl => ?_)
              refine lv_goto (tgt := 16) hx hb dX5_goWith_123 (by decide) ?_
              exact ihn2 (x6_2 + (1 : Int32)) _ _ _ h hG hS (lv_sub hl [2, 3, 4, 5, 6, 0] rfl)
            · have h := ite_f h c12
              refine lv_iconst (v := (1 : Int32)) hx hb dX5_goWith_118 (by decide) ?_
              have h := Option.some.inj h
              subst h
              subst hQ
              exact g_zret hx hb hr hlocks mZm hK hZ hG hS rfl dX5_goWith_119
        clear h
        have h := h9
        clear h9
        refine lv_if_ne (tgt := 93) hx hb dX5_goWith_43 (by decide) (fun c5 => ?_) (fun c5 => ?_)
        · have h := ite_f h c5
          refine lv_iconst (v := (0 : Int32)) hx hb dX5_goWith_93 (by decide) ?_
          have h := Option.some.inj h
          subst h
          exact hk_q4 _ _ _ hG hS (lv_sub hl [2, 3, 4, 5, 6, 7, 1, 0] rfl)
        · have h := ite_t h c5
          refine lv_iload hx hb dX5_goWith_46 (lv_at hl 1 rfl) ?_
          refine lv_iload hx hb dX5_goWith_48 (lv_at hl 0 rfl) ?_
          refine lv_ior hx hb dX5_goWith_50 ?_
          refine lv_iload hx hb dX5_goWith_51 (lv_at hl 5 rfl) ?_
          refine lv_aload_n hx hb dX5_goWith_53 rfl (lv_at hl 2 rfl) ?_
          refine lv_iload_n hx hb dX5_goWith_54 rfl (lv_at hl 3 rfl) ?_
          obtain ⟨v6, ev6, h⟩ := obind h
          refine g_endi (va_runV (As := [.int x2]) (rest := [.int x4, .int ((x6_2 / (16 : Int32)) ||| (x6_2 - x6_2 / (16 : Int32) * (16 : Int32)))]) ⟨hx, hb, hml, hown, hts⟩ (k_X5_stonesBy l D cy ad hi I L x2 v6 ev6) (cwV 1 hts gX5_goWith_X5_stonesBy rfl rfl rfl cd_X5_stonesBy ⟨Nat.le_of_ble_eq_true rfl, Nat.le_of_ble_eq_true rfl⟩) ⟨g_blind mZm, g_recv hK hG (k := 0) (by decide) (mE_5 _ _) vwCl_5, g_pre mZm hK hG hZ hS⟩ rfl rfl hl.1 rfl (lv_room (Nat.le_of_ble_eq_true rfl)) dX5_goWith_55 ⟨Nat.le_refl _, Nat.le_refl _⟩) hS (fun H locs hG hS => ?_)
          refine lv_iand hx hb dX5_goWith_58 ?_
          refine lv_iconst (v := (-1 : Int32)) hx hb dX5_goWith_59 (by decide) ?_
          refine lv_ixor hx hb dX5_goWith_60 ?_
          refine lv_iand hx hb dX5_goWith_61 ?_
          refine lv_if_ne (tgt := 93) hx hb dX5_goWith_62 (by decide) (fun c7 => ?_) (fun c7 => ?_)
          · have h := ite_f h c7
            refine lv_iconst (v := (0 : Int32)) hx hb dX5_goWith_93 (by decide) ?_
            have h := Option.some.inj h
            subst h
            exact hk_q4 _ _ _ hG hS (lv_sub hl [2, 3, 4, 5, 6, 7, 1, 0] rfl)
          · have h := ite_t h c7
            refine lv_aload_n hx hb dX5_goWith_65 rfl (lv_at hl 2 rfl) ?_
            refine g_get hx hb l5 hown hK hG (k := 0) (by decide) (mE_5 _ _) vwCl_5 25 (by decide) k1 (fun _ h9 => h9) rfl dX5_goWith_66 ?_
            refine lv_bipush (v := (16 : Int32)) hx hb dX5_goWith_69 (by decide) ?_
            refine lv_iload hx hb dX5_goWith_71 (lv_at hl 6 rfl) ?_
            refine lv_imul hx hb dX5_goWith_73 ?_
            refine lv_iload hx hb dX5_goWith_74 (lv_at hl 5 rfl) ?_
            refine lv_iload hx hb dX5_goWith_76 (lv_at hl 1 rfl) ?_
            refine lv_iload hx hb dX5_goWith_78 (lv_at hl 0 rfl) ?_
            refine lv_ior hx hb dX5_goWith_80 ?_
            refine lv_iconst (v := (-1 : Int32)) hx hb dX5_goWith_81 (by decide) ?_
            refine lv_ixor hx hb dX5_goWith_82 ?_
            refine lv_iand hx hb dX5_goWith_83 ?_
            refine lv_iadd hx hb dX5_goWith_84 ?_
            refine g_zald hx hb hK hG (k := 12) (n := 1024) (by decide) (mE_7 _ _) 1 rfl h dX5_goWith_85 (fun v8 h => ?_)
            refine lv_if_eq (tgt := 93) hx hb dX5_goWith_86 (by decide) (fun c9 => ?_) (fun c9 => ?_)
            · have h := ite_t h c9
              refine lv_iconst (v := (0 : Int32)) hx hb dX5_goWith_93 (by decide) ?_
              have h := Option.some.inj h
              subst h
              exact hk_q4 _ _ _ hG hS (lv_sub hl [2, 3, 4, 5, 6, 7, 1, 0] rfl)
            · have h := ite_f h c9
              refine lv_iconst (v := (1 : Int32)) hx hb dX5_goWith_89 (by decide) ?_
              refine lv_goto (tgt := 94) hx hb dX5_goWith_90 (by decide) ?_
              have h := Option.some.inj h
              subst h
              exact hk_q4 _ _ _ hG hS (lv_sub hl [2, 3, 4, 5, 6, 7, 1, 0] rfl)
  refine keyK1 _ (fun H locs ls h hG hS hl => ?_) bigF (0 : Int32) _ _ _ h hG hS (lv_sub hl [2, 4, 5, 6, 1, 0] rfl)
  clear keyK1
  refine lv_iconst (v := (0 : Int32)) hx hb dX5_goWith_126 (by decide) ?_
  have h := Option.some.inj h
  subst h
  subst hQ
  exact g_zret hx hb hr hlocks mZm hK hZ hG hS rfl dX5_goWith_127
def X5_isAtOnce_L1 (x1 : Int32) (K1 : Int32 → Option (Int32)) : Nat → Int32 → Option (Int32)
  | 0, _ => none
  | n2 + 1, x3_2 => if (X5_has x1 x3_2) = (0 : Int32) then (X5_isAtOnce_L1 x1 K1 n2 (x3_2 + (1 : Int32))) else (K1 x3_2)
def X5_isAtOnce_L2 (I : xMem) (x1 : Int32) (x2 : Int32) (z3_2 : Int32) (K4 : Option (Int32)) : Nat → Int32 → Option (Int32)
  | 0, _ => none
  | n5 + 1, x4_5 => if (I 0 4) ≤ x4_5 then (K4) else (if (X5_has x1 x4_5) = (0 : Int32) then (X5_isAtOnce_L2 I x1 x2 z3_2 K4 n5 (x4_5 + (1 : Int32))) else ((X5_areAtOneEnd I z3_2 x4_5).bind fun v8 => if v8 = (0 : Int32) then (X5_isAtOnce_L2 I x1 x2 z3_2 K4 n5 (x4_5 + (1 : Int32))) else ((X5_goWith I x1 z3_2 x4_5 x2).bind fun v10 => if v10 = (0 : Int32) then (X5_isAtOnce_L2 I x1 x2 z3_2 K4 n5 (x4_5 + (1 : Int32))) else (some (nz (1 : Int32))))))
def X5_isAtOnce (I : xMem) (x1 : Int32) (x2 : Int32) : Option (Int32) := X5_isAtOnce_L1 x1 (fun (z3_2 : Int32) => X5_isAtOnce_L2 I x1 x2 z3_2 (some (nz (0 : Int32))) bigF (z3_2 + (1 : Int32))) bigF (0 : Int32)
abbrev rm_X5_isAtOnce : Room := { frames := 4, cells := 0, slots := 0, locals := 99 }
theorem cd_X5_isAtOnce : yX5_isAtOnce.cls = RX5 ∧ yX5_isAtOnce.cls ≠ "java/lang/invoke/MethodHandle" ∧ yX5_isAtOnce.cls ≠ "java/lang/invoke/VarHandle" ∧ (parseMethodDescriptor yX5_isAtOnce.desc).map (fun d => d.parameters.length) = some 2 := by decide +kernel
set_option maxHeartbeats 4000000 in
set_option maxRecDepth 100000 in
theorem k_X5_isAtOnce (l : Launch) (D : va_G) (cy : Nat → ClassId) (ad : Nat → Nat) (hi : gInj 18 ad) (I : xMem) (L : xLon) (x1 : Int32) (x2 : Int32) (r : Int32) (h : X5_isAtOnce I x1 x2 = some r) : Met l yX5_isAtOnce wsX5_isAtOnce rm_X5_isAtOnce (va_Pc [.ref (ad 0), .int x1, .int x2] (mW D cy ad I L)) (mPi D cy ad I L r) 0 0 (gA 18 ad) := by
  refine g_met (own := RX5) (cc := cX5_isAtOnce) (maxL := 5) (ret := (some .boolean)) (by decide) rfl (Nat.le_of_ble_eq_true rfl) rfl ?_
  intro p e s m args below meth c ls hx hb hml hr hlocks hown hts hG hK hZ hl
  generalize hQ : MQ below _ args s 0 0 _ = Q
  have hl : lv_has ls 5 [(0, .ref (ad 0)), (1, .int x1), (2, .int x2)] := hl
  have hS : va_S (gA 18 ad) s.heap s.heap [] := va_S.rf
  have l5 : ∀ w ∈ wsX50, w.before args s = true := fun w h => hts w (List.mem_cons_of_mem _ (List.mem_append_right _ h))
  have k1 := hts (.fieldLink RX5 157 "PairStairsModel" "people" "I") (by decide +kernel)
  unfold X5_isAtOnce at h
  refine lv_iconst (v := (0 : Int32)) hx hb dX5_isAtOnce_0 (by decide) ?_
  refine lv_istore_n (lv' := [(3, .int (0 : Int32)), (0, .ref (ad 0)), (1, .int x1), (2, .int x2)]) hx hb dX5_isAtOnce_1 rfl hl (by decide) rfl (fun ls hl => ?_)
  have keyK1 : ∀ (K1 : Int32 → Option (Int32)), (∀ (z3_2 : Int32) (H : Heap) (locs : List Loc) (ls : Array Slot), K1 z3_2 = some r → mG D cy ad I L H → va_S (gA 18 ad) s.heap H locs → lv_has ls 5 [(0, .ref (ad 0)), (1, .int x1), (2, .int x2), (3, .int z3_2)] → W p l e rm_X5_isAtOnce s m args below meth c H locs 0 0 Q (F0 m 16 ls [])) → ∀ (n2 : Nat) (x3_2 : Int32) (H : Heap) (locs : List Loc) (ls : Array Slot), X5_isAtOnce_L1 x1 K1 n2 x3_2 = some r → mG D cy ad I L H → va_S (gA 18 ad) s.heap H locs → lv_has ls 5 [(0, .ref (ad 0)), (1, .int x1), (2, .int x2), (3, .int x3_2)] → W p l e rm_X5_isAtOnce s m args below meth c H locs 0 0 Q (F0 m 2 ls []) := by
    intro K1 hkK1 n2
    induction n2 with
    | zero =>
      intro x3_2 H locs ls h
      exact ono h
    | succ n2 ihn2 =>
      intro x3_2 H locs ls h hG hS hl
      rw [X5_isAtOnce_L1] at h
      refine lv_iload_n hx hb dX5_isAtOnce_2 rfl (lv_at hl 1 rfl) ?_
      refine lv_iload_n hx hb dX5_isAtOnce_3 rfl (lv_at hl 3 rfl) ?_
      refine g_endi (va_runS (As := [.int x1, .int x3_2]) (rest := []) ⟨hx, hb, hml, hown, hts⟩ (k_X5_has l D cy ad hi I L x1 x3_2 _ rfl) (va_cwS 2 hts gX5_isAtOnce_X5_has rfl rfl rfl cd_X5_has.2 ⟨Nat.le_of_ble_eq_true rfl, Nat.le_of_ble_eq_true rfl⟩) ⟨g_blind mZm, g_pre mZm hK hG hZ hS⟩ rfl rfl hl.1 rfl (lv_room (Nat.le_of_ble_eq_true rfl)) dX5_isAtOnce_4 ⟨Nat.le_refl _, Nat.le_refl _⟩) hS (fun H locs hG hS => ?_)
      refine lv_if_ne (tgt := 16) hx hb dX5_isAtOnce_7 (by decide) (fun c3 => ?_) (fun c3 => ?_)
      · have h := ite_f h c3
        exact hkK1 x3_2 _ _ _ h hG hS (lv_sub hl [0, 1, 2, 3] rfl)
      · have h := ite_t h c3
        refine lv_iinc (v := (x3_2 + (1 : Int32))) (lv' := [(3, .int (x3_2 + (1 : Int32))), (0, .ref (ad 0)), (1, .int x1), (2, .int x2)]) hx hb dX5_isAtOnce_10 hl (k := 3) rfl rfl (by decide) rfl (fun ls hl => ?_)
        refine lv_goto (tgt := 2) hx hb dX5_isAtOnce_13 (by decide) ?_
        exact ihn2 (x3_2 + (1 : Int32)) _ _ _ h hG hS (lv_sub hl [1, 2, 3, 0] rfl)
  refine keyK1 _ (fun z3_2 H locs ls h hG hS hl => ?_) bigF (0 : Int32) _ _ _ h hG hS (lv_sub hl [1, 2, 3, 0] rfl)
  clear keyK1
  refine lv_iload_n hx hb dX5_isAtOnce_16 rfl (lv_at hl 3 rfl) ?_
  refine lv_iconst (v := (1 : Int32)) hx hb dX5_isAtOnce_17 (by decide) ?_
  refine lv_iadd hx hb dX5_isAtOnce_18 ?_
  refine lv_istore (lv' := [(4, .int (z3_2 + (1 : Int32))), (0, .ref (ad 0)), (1, .int x1), (2, .int x2), (3, .int z3_2)]) hx hb dX5_isAtOnce_19 hl (by decide) rfl (fun ls hl => ?_)
  have keyK4 : ∀ (K4 : Option (Int32)), (∀ (H : Heap) (locs : List Loc) (ls : Array Slot), K4 = some r → mG D cy ad I L H → va_S (gA 18 ad) s.heap H locs → lv_has ls 5 [] → W p l e rm_X5_isAtOnce s m args below meth c H locs 0 0 Q (F0 m 69 ls [])) → ∀ (n5 : Nat) (x4_5 : Int32) (H : Heap) (locs : List Loc) (ls : Array Slot), X5_isAtOnce_L2 I x1 x2 z3_2 K4 n5 x4_5 = some r → mG D cy ad I L H → va_S (gA 18 ad) s.heap H locs → lv_has ls 5 [(0, .ref (ad 0)), (1, .int x1), (2, .int x2), (3, .int z3_2), (4, .int x4_5)] → W p l e rm_X5_isAtOnce s m args below meth c H locs 0 0 Q (F0 m 21 ls []) := by
    intro K4 hkK4 n5
    induction n5 with
    | zero =>
      intro x4_5 H locs ls h
      exact ono h
    | succ n5 ihn5 =>
      intro x4_5 H locs ls h hG hS hl
      rw [X5_isAtOnce_L2] at h
      refine lv_iload hx hb dX5_isAtOnce_21 (lv_at hl 4 rfl) ?_
      refine lv_aload_n hx hb dX5_isAtOnce_23 rfl (lv_at hl 0 rfl) ?_
      refine g_get hx hb l5 hown hK hG (k := 0) (by decide) (mE_5 _ _) vwCl_5 4 (by decide) k1 (fun _ h9 => h9) rfl dX5_isAtOnce_24 ?_
      refine lv_icmp_ge (tgt := 69) hx hb dX5_isAtOnce_27 (by decide) (fun c6 => ?_) (fun c6 => ?_)
      · have h := ite_t h c6
        exact hkK4 _ _ _ h hG hS (lv_sub hl [] rfl)
      · have h := ite_f h c6
        refine lv_iload_n hx hb dX5_isAtOnce_30 rfl (lv_at hl 1 rfl) ?_
        refine lv_iload hx hb dX5_isAtOnce_31 (lv_at hl 4 rfl) ?_
        refine g_endi (va_runS (As := [.int x1, .int x4_5]) (rest := []) ⟨hx, hb, hml, hown, hts⟩ (k_X5_has l D cy ad hi I L x1 x4_5 _ rfl) (va_cwS 2 hts gX5_isAtOnce_X5_has rfl rfl rfl cd_X5_has.2 ⟨Nat.le_of_ble_eq_true rfl, Nat.le_of_ble_eq_true rfl⟩) ⟨g_blind mZm, g_pre mZm hK hG hZ hS⟩ rfl rfl hl.1 rfl (lv_room (Nat.le_of_ble_eq_true rfl)) dX5_isAtOnce_33 ⟨Nat.le_refl _, Nat.le_refl _⟩) hS (fun H locs hG hS => ?_)
        refine lv_if_eq (tgt := 63) hx hb dX5_isAtOnce_36 (by decide) (fun c7 => ?_) (fun c7 => ?_)
        · have h := ite_t h c7
          refine lv_iinc (v := (x4_5 + (1 : Int32))) (lv' := [(4, .int (x4_5 + (1 : Int32))), (0, .ref (ad 0)), (1, .int x1), (2, .int x2), (3, .int z3_2)]) hx hb dX5_isAtOnce_63 hl (k := 4) rfl rfl (by decide) rfl (fun ls hl => ?_)
          refine lv_goto (tgt := 21) hx hb dX5_isAtOnce_66 (by decide) ?_
          exact ihn5 (x4_5 + (1 : Int32)) _ _ _ h hG hS (lv_sub hl [1, 2, 3, 4, 0] rfl)
        · have h := ite_f h c7
          refine lv_aload_n hx hb dX5_isAtOnce_39 rfl (lv_at hl 0 rfl) ?_
          refine lv_iload_n hx hb dX5_isAtOnce_40 rfl (lv_at hl 3 rfl) ?_
          refine lv_iload hx hb dX5_isAtOnce_41 (lv_at hl 4 rfl) ?_
          obtain ⟨v8, ev8, h⟩ := obind h
          refine g_endi (va_runV (As := [.int z3_2, .int x4_5]) (rest := []) ⟨hx, hb, hml, hown, hts⟩ (k_X5_areAtOneEnd l D cy ad hi I L z3_2 x4_5 v8 ev8) (cwV 2 hts gX5_isAtOnce_X5_areAtOneEnd rfl rfl rfl cd_X5_areAtOneEnd ⟨Nat.le_of_ble_eq_true rfl, Nat.le_of_ble_eq_true rfl⟩) ⟨g_blind mZm, g_recv hK hG (k := 0) (by decide) (mE_5 _ _) vwCl_5, g_pre mZm hK hG hZ hS⟩ rfl rfl hl.1 rfl (lv_room (Nat.le_of_ble_eq_true rfl)) dX5_isAtOnce_43 ⟨Nat.le_refl _, Nat.le_refl _⟩) hS (fun H locs hG hS => ?_)
          refine lv_if_eq (tgt := 63) hx hb dX5_isAtOnce_46 (by decide) (fun c9 => ?_) (fun c9 => ?_)
          · have h := ite_t h c9
            refine lv_iinc (v := (x4_5 + (1 : Int32))) (lv' := [(4, .int (x4_5 + (1 : Int32))), (0, .ref (ad 0)), (1, .int x1), (2, .int x2), (3, .int z3_2)]) hx hb dX5_isAtOnce_63 hl (k := 4) rfl rfl (by decide) rfl (fun ls hl => ?_)
            refine lv_goto (tgt := 21) hx hb dX5_isAtOnce_66 (by decide) ?_
            exact ihn5 (x4_5 + (1 : Int32)) _ _ _ h hG hS (lv_sub hl [1, 2, 3, 4, 0] rfl)
          · have h := ite_f h c9
            refine lv_aload_n hx hb dX5_isAtOnce_49 rfl (lv_at hl 0 rfl) ?_
            refine lv_iload_n hx hb dX5_isAtOnce_50 rfl (lv_at hl 1 rfl) ?_
            refine lv_iload_n hx hb dX5_isAtOnce_51 rfl (lv_at hl 3 rfl) ?_
            refine lv_iload hx hb dX5_isAtOnce_52 (lv_at hl 4 rfl) ?_
            refine lv_iload_n hx hb dX5_isAtOnce_54 rfl (lv_at hl 2 rfl) ?_
            obtain ⟨v10, ev10, h⟩ := obind h
            refine g_endi (va_runV (As := [.int x1, .int z3_2, .int x4_5, .int x2]) (rest := []) ⟨hx, hb, hml, hown, hts⟩ (k_X5_goWith l D cy ad hi I L x1 z3_2 x4_5 x2 v10 ev10) (cwV 4 hts gX5_isAtOnce_X5_goWith rfl rfl rfl cd_X5_goWith ⟨Nat.le_of_ble_eq_true rfl, Nat.le_of_ble_eq_true rfl⟩) ⟨g_blind mZm, g_recv hK hG (k := 0) (by decide) (mE_5 _ _) vwCl_5, g_pre mZm hK hG hZ hS⟩ rfl rfl hl.1 rfl (lv_room (Nat.le_of_ble_eq_true rfl)) dX5_isAtOnce_55 ⟨Nat.le_refl _, Nat.le_refl _⟩) hS (fun H locs hG hS => ?_)
            refine lv_if_eq (tgt := 63) hx hb dX5_isAtOnce_58 (by decide) (fun c11 => ?_) (fun c11 => ?_)
            · have h := ite_t h c11
              refine lv_iinc (v := (x4_5 + (1 : Int32))) (lv' := [(4, .int (x4_5 + (1 : Int32))), (0, .ref (ad 0)), (1, .int x1), (2, .int x2), (3, .int z3_2)]) hx hb dX5_isAtOnce_63 hl (k := 4) rfl rfl (by decide) rfl (fun ls hl => ?_)
              refine lv_goto (tgt := 21) hx hb dX5_isAtOnce_66 (by decide) ?_
              exact ihn5 (x4_5 + (1 : Int32)) _ _ _ h hG hS (lv_sub hl [1, 2, 3, 4, 0] rfl)
            · have h := ite_f h c11
              refine lv_iconst (v := (1 : Int32)) hx hb dX5_isAtOnce_61 (by decide) ?_
              have h := Option.some.inj h
              subst h
              subst hQ
              exact g_zret hx hb hr hlocks mZm hK hZ hG hS rfl dX5_isAtOnce_62
  refine keyK4 _ (fun H locs ls h hG hS hl => ?_) bigF (z3_2 + (1 : Int32)) _ _ _ h hG hS (lv_sub hl [1, 2, 3, 4, 0] rfl)
  clear keyK4
  refine lv_iconst (v := (0 : Int32)) hx hb dX5_isAtOnce_69 (by decide) ?_
  have h := Option.some.inj h
  subst h
  subst hQ
  exact g_zret hx hb hr hlocks mZm hK hZ hG hS rfl dX5_isAtOnce_70
def X5_match_L2 (I : xMem) (x3_3 : Int32) (K7 : xMem → Option (Int32 × xMem)) : Nat → Int32 → xMem → Option (Int32 × xMem)
  | 0, _, _ => none
  | n8 + 1, x4_8, I9 => if (((1 : Int32) <<< ((I 0 2) &&& 31)) - (1 : Int32)) < x4_8 then (K7 I9) else (if x3_3 = (0 : Int32) then ((wrI I9 12 1024 (((16 : Int32) * x3_3) + x4_8) (nz (1 : Int32))).bind fun I13 => X5_match_L2 I x3_3 K7 n8 (x4_8 + (1 : Int32)) I13) else ((X5_bits x3_3).bind fun v14 => if (v14 - v14 / (2 : Int32) * (2 : Int32)) = (0 : Int32) then ((X5_isAtOnce I9 x3_3 x4_8).bind fun v17 => if v17 = (0 : Int32) then ((wrI I9 12 1024 (((16 : Int32) * x3_3) + x4_8) (nz (0 : Int32))).bind fun I19 => X5_match_L2 I x3_3 K7 n8 (x4_8 + (1 : Int32)) I19) else ((wrI I9 12 1024 (((16 : Int32) * x3_3) + x4_8) (nz (1 : Int32))).bind fun I20 => X5_match_L2 I x3_3 K7 n8 (x4_8 + (1 : Int32)) I20)) else ((wrI I9 12 1024 (((16 : Int32) * x3_3) + x4_8) (nz (0 : Int32))).bind fun I16 => X5_match_L2 I x3_3 K7 n8 (x4_8 + (1 : Int32)) I16)))
def X5_match_L1 (I : xMem) (K2 : Int32 → xMem → Option (Int32 × xMem)) : Nat → Int32 → Int32 → xMem → Option (Int32 × xMem)
  | 0, _, _, _ => none
  | n3 + 1, x1_3, x3_3, I4 => if ((1 : Int32) <<< ((I4 0 4) &&& 31)) ≤ x3_3 then (K2 x1_3 I4) else (X5_match_L2 I x3_3 (fun (I10 : xMem) => (rdI I10 12 1024 (((16 : Int32) * x3_3) + (((1 : Int32) <<< ((I 0 2) &&& 31)) - (1 : Int32)))).bind fun v21 => if v21 = (0 : Int32) then (X5_match_L1 I K2 n3 x1_3 (x3_3 + (1 : Int32)) I10) else ((X5_bits x3_3).bind fun v23 => (X5_bits x1_3).bind fun v24 => if v23 ≤ v24 then (X5_match_L1 I K2 n3 x1_3 (x3_3 + (1 : Int32)) I10) else (X5_match_L1 I K2 n3 x3_3 (x3_3 + (1 : Int32)) I10))) bigF (0 : Int32) I4)
def X5_match (I : xMem) : Option (Int32 × xMem) := if (I 0 4) = (0 : Int32) then (some ((-4 : Int32), I)) else (X5_match_L1 I (fun (z1_4 : Int32) (I5 : xMem) => (some (wr I5 0 11 z1_4)).bind fun I26 => (X5_bits z1_4).bind fun v27 => some ((v27 / (2 : Int32)), I26)) bigF (0 : Int32) (0 : Int32) I)
abbrev rm_X5_match : Room := { frames := 5, cells := 0, slots := 0, locals := 123 }
theorem cd_X5_match : yX5_match.cls = RX5 ∧ yX5_match.cls ≠ "java/lang/invoke/MethodHandle" ∧ yX5_match.cls ≠ "java/lang/invoke/VarHandle" ∧ (parseMethodDescriptor yX5_match.desc).map (fun d => d.parameters.length) = some 0 := by decide +kernel
set_option maxHeartbeats 4000000 in
set_option maxRecDepth 100000 in
theorem k_X5_match (l : Launch) (D : va_G) (cy : Nat → ClassId) (ad : Nat → Nat) (hi : gInj 18 ad) (I : xMem) (L : xLon)  (r : Int32 × xMem) (h : X5_match I = some r) : Met l yX5_match wsX5_match rm_X5_match (va_Pc [.ref (ad 0)] (mW D cy ad I L)) (mPi D cy ad r.2 L r.1) 0 0 (gA 18 ad) := by
  refine g_met (own := RX5) (cc := cX5_match) (maxL := 5) (ret := (some .int)) (by decide) rfl (Nat.le_of_ble_eq_true rfl) rfl ?_
  intro p e s m args below meth c ls hx hb hml hr hlocks hown hts hG hK hZ hl
  generalize hQ : MQ below _ args s 0 0 _ = Q
  have hl : lv_has ls 5 [(0, .ref (ad 0))] := hl
  have hS : va_S (gA 18 ad) s.heap s.heap [] := va_S.rf
  have l5 : ∀ w ∈ wsX50, w.before args s = true := fun w h => hts w (List.mem_cons_of_mem _ (List.mem_append_right _ h))
  have k1 := hts (.fieldLink RX5 157 "PairStairsModel" "people" "I") (by decide +kernel)
  have k2 := hts (.fieldLink RX5 154 "PairStairsModel" "stoneMany" "I") (by decide +kernel)
  have k3 := hts (.fieldLink RX5 47 "PairStairsModel" "atOnce" "[Z") (by decide +kernel)
  have k4 := hts (.fieldLink RX5 70 "PairStairsModel" "asked" "I") (by decide +kernel)
  unfold X5_match at h
  refine lv_aload_n hx hb dX5_match_0 rfl (lv_at hl 0 rfl) ?_
  refine g_get hx hb l5 hown hK hG (k := 0) (by decide) (mE_5 _ _) vwCl_5 4 (by decide) k1 (fun _ h9 => h9) rfl dX5_match_1 ?_
  refine lv_if_ne (tgt := 10) hx hb dX5_match_4 (by decide) (fun c1 => ?_) (fun c1 => ?_)
  · have h := ite_f h c1
    refine lv_iconst (v := (0 : Int32)) hx hb dX5_match_10 (by decide) ?_
    refine lv_istore_n (lv' := [(1, .int (0 : Int32)), (0, .ref (ad 0))]) hx hb dX5_match_11 rfl hl (by decide) rfl (fun ls hl => ?_)
    refine lv_iconst (v := (1 : Int32)) hx hb dX5_match_12 (by decide) ?_
    refine lv_aload_n hx hb dX5_match_13 rfl (lv_at hl 1 rfl) ?_
    refine g_get hx hb l5 hown hK hG (k := 0) (by decide) (mE_5 _ _) vwCl_5 2 (by decide) k2 (fun _ h9 => h9) rfl dX5_match_14 ?_
    refine lv_ishl hx hb dX5_match_17 ?_
    refine lv_iconst (v := (1 : Int32)) hx hb dX5_match_18 (by decide) ?_
    refine lv_isub hx hb dX5_match_19 ?_
    refine lv_istore_n (lv' := [(2, .int (((1 : Int32) <<< ((I 0 2) &&& 31)) - (1 : Int32))), (1, .int (0 : Int32)), (0, .ref (ad 0))]) hx hb dX5_match_20 rfl hl (by decide) rfl (fun ls hl => ?_)
    refine lv_iconst (v := (0 : Int32)) hx hb dX5_match_21 (by decide) ?_
    refine lv_istore_n (lv' := [(3, .int (0 : Int32)), (2, .int (((1 : Int32) <<< ((I 0 2) &&& 31)) - (1 : Int32))), (1, .int (0 : Int32)), (0, .ref (ad 0))]) hx hb dX5_match_22 rfl hl (by decide) rfl (fun ls hl => ?_)
    have keyK2 : ∀ (K2 : Int32 → xMem → Option (Int32 × xMem)), (∀ (z1_4 : Int32) (I5 : xMem) (H : Heap) (locs : List Loc) (ls : Array Slot), K2 z1_4 I5 = some r → mG D cy ad I5 L H → va_S (gA 18 ad) s.heap H locs → lv_has ls 5 [(0, .ref (ad 0)), (1, .int z1_4)] → W p l e rm_X5_match s m args below meth c H locs 0 0 Q (F0 m 125 ls [])) → ∀ (n3 : Nat) (x1_3 : Int32) (x3_3 : Int32) (I4 : xMem) (H : Heap) (locs : List Loc) (ls : Array Slot), X5_match_L1 I K2 n3 x1_3 x3_3 I4 = some r → mG D cy ad I4 L H → va_S (gA 18 ad) s.heap H locs → lv_has ls 5 [(0, .ref (ad 0)), (1, .int x1_3), (2, .int (((1 : Int32) <<< ((I 0 2) &&& 31)) - (1 : Int32))), (3, .int x3_3)] → W p l e rm_X5_match s m args below meth c H locs 0 0 Q (F0 m 23 ls []) := by
      intro K2 hkK2 n3
      induction n3 with
      | zero =>
        intro x1_3 x3_3 I4 H locs ls h
        exact ono h
      | succ n3 ihn3 =>
        intro x1_3 x3_3 I4 H locs ls h hG hS hl
        rw [X5_match_L1] at h
        refine lv_iload_n hx hb dX5_match_23 rfl (lv_at hl 3 rfl) ?_
        refine lv_iconst (v := (1 : Int32)) hx hb dX5_match_24 (by decide) ?_
        refine lv_aload_n hx hb dX5_match_25 rfl (lv_at hl 0 rfl) ?_
        refine g_get hx hb l5 hown hK hG (k := 0) (by decide) (mE_5 _ _) vwCl_5 4 (by decide) k1 (fun _ h9 => h9) rfl dX5_match_26 ?_
        refine lv_ishl hx hb dX5_match_29 ?_
        refine lv_icmp_ge (tgt := 125) hx hb dX5_match_30 (by decide) (fun c6 => ?_) (fun c6 => ?_)
        · have h := ite_t h c6
          exact hkK2 x1_3 I4 _ _ _ h hG hS (lv_sub hl [0, 1] rfl)
        · have h := ite_f h c6
          refine lv_iconst (v := (0 : Int32)) hx hb dX5_match_33 (by decide) ?_
          refine lv_istore (lv' := [(4, .int (0 : Int32)), (0, .ref (ad 0)), (1, .int x1_3), (2, .int (((1 : Int32) <<< ((I 0 2) &&& 31)) - (1 : Int32))), (3, .int x3_3)]) hx hb dX5_match_34 hl (by decide) rfl (fun ls hl => ?_)
          have keyK7 : ∀ (K7 : xMem → Option (Int32 × xMem)), (∀ (I10 : xMem) (H : Heap) (locs : List Loc) (ls : Array Slot), K7 I10 = some r → mG D cy ad I10 L H → va_S (gA 18 ad) s.heap H locs → lv_has ls 5 [(0, .ref (ad 0)), (1, .int x1_3), (2, .int (((1 : Int32) <<< ((I 0 2) &&& 31)) - (1 : Int32))), (3, .int x3_3)] → W p l e rm_X5_match s m args below meth c H locs 0 0 Q (F0 m 88 ls [])) → ∀ (n8 : Nat) (x4_8 : Int32) (I9 : xMem) (H : Heap) (locs : List Loc) (ls : Array Slot), X5_match_L2 I x3_3 K7 n8 x4_8 I9 = some r → mG D cy ad I9 L H → va_S (gA 18 ad) s.heap H locs → lv_has ls 5 [(0, .ref (ad 0)), (1, .int x1_3), (2, .int (((1 : Int32) <<< ((I 0 2) &&& 31)) - (1 : Int32))), (3, .int x3_3), (4, .int x4_8)] → W p l e rm_X5_match s m args below meth c H locs 0 0 Q (F0 m 36 ls []) := by
            intro K7 hkK7 n8
            induction n8 with
            | zero =>
              intro x4_8 I9 H locs ls h
              exact ono h
            | succ n8 ihn8 =>
              intro x4_8 I9 H locs ls h hG hS hl
              rw [X5_match_L2] at h
              refine lv_iload hx hb dX5_match_36 (lv_at hl 4 rfl) ?_
              refine lv_iload_n hx hb dX5_match_38 rfl (lv_at hl 2 rfl) ?_
              refine lv_icmp_gt (tgt := 88) hx hb dX5_match_39 (by decide) (fun c11 => ?_) (fun c11 => ?_)
              · have h := ite_t h c11
                exact hkK7 I9 _ _ _ h hG hS (lv_sub hl [0, 1, 2, 3] rfl)
              · have h := ite_f h c11
                refine lv_aload_n hx hb dX5_match_42 rfl (lv_at hl 0 rfl) ?_
                refine g_get hx hb l5 hown hK hG (k := 0) (by decide) (mE_5 _ _) vwCl_5 25 (by decide) k3 (fun _ h9 => h9) rfl dX5_match_43 ?_
                refine lv_bipush (v := (16 : Int32)) hx hb dX5_match_46 (by decide) ?_
                refine lv_iload_n hx hb dX5_match_48 rfl (lv_at hl 3 rfl) ?_
                refine lv_imul hx hb dX5_match_49 ?_
                refine lv_iload hx hb dX5_match_50 (lv_at hl 4 rfl) ?_
                refine lv_iadd hx hb dX5_match_52 ?_
                refine lv_iload_n hx hb dX5_match_53 rfl (lv_at hl 3 rfl) ?_
                refine lv_if_eq (tgt := 76) hx hb dX5_match_54 (by decide) (fun c12 => ?_) (fun c12 => ?_)
                · have h := ite_t h c12
                  refine lv_iconst (v := (1 : Int32)) hx hb dX5_match_76 (by decide) ?_
                  refine lv_goto (tgt := 81) hx hb dX5_match_77 (by decide) ?_
                  refine g_zast hx hb hK hG hi hS (k := 12) (n := 1024) (by decide) (fun f => mE_7 f _) 1 rfl h dX5_match_81 (fun I13 H locs h hG hS => ?_)
                  refine lv_iinc (v := (x4_8 + (1 : Int32))) (lv' := [(4, .int (x4_8 + (1 : Int32))), (0, .ref (ad 0)), (1, .int x1_3), (2, .int (((1 : Int32) <<< ((I 0 2) &&& 31)) - (1 : Int32))), (3, .int x3_3)]) hx hb dX5_match_82 hl (k := 4) rfl rfl (by decide) rfl (fun ls hl => ?_)
                  refine lv_goto (tgt := 36) hx hb dX5_match_85 (by decide) ?_
                  exact ihn8 (x4_8 + (1 : Int32)) I13 _ _ _ h hG hS (lv_sub hl [1, 2, 3, 4, 0] rfl)
                · have h := ite_f h c12
                  refine lv_iload_n hx hb dX5_match_57 rfl (lv_at hl 3 rfl) ?_
                  obtain ⟨v14, ev14, h⟩ := obind h
                  refine g_endi (va_runS (As := [.int x3_3]) (rest := [.int (((16 : Int32) * x3_3) + x4_8), .ref (ad 12)]) ⟨hx, hb, hml, hown, hts⟩ (k_X5_bits l D cy ad hi I9 L x3_3 v14 ev14) (va_cwS 1 hts gX5_match_X5_bits rfl rfl rfl cd_X5_bits.2 ⟨Nat.le_of_ble_eq_true rfl, Nat.le_of_ble_eq_true rfl⟩) ⟨g_blind mZm, g_pre mZm hK hG hZ hS⟩ rfl rfl hl.1 rfl (lv_room (Nat.le_of_ble_eq_true rfl)) dX5_match_58 ⟨Nat.le_refl _, Nat.le_refl _⟩) hS (fun H locs hG hS => ?_)
                  refine lv_iconst (v := (2 : Int32)) hx hb dX5_match_61 (by decide) ?_
                  refine lv_irem hx hb dX5_match_62 (by decide) ?_
                  refine lv_if_ne (tgt := 80) hx hb dX5_match_63 (by decide) (fun c15 => ?_) (fun c15 => ?_)
                  · have h := ite_f h c15
                    refine lv_iconst (v := (0 : Int32)) hx hb dX5_match_80 (by decide) ?_
                    refine g_zast hx hb hK hG hi hS (k := 12) (n := 1024) (by decide) (fun f => mE_7 f _) 1 rfl h dX5_match_81 (fun I16 H locs h hG hS => ?_)
                    refine lv_iinc (v := (x4_8 + (1 : Int32))) (lv' := [(4, .int (x4_8 + (1 : Int32))), (0, .ref (ad 0)), (1, .int x1_3), (2, .int (((1 : Int32) <<< ((I 0 2) &&& 31)) - (1 : Int32))), (3, .int x3_3)]) hx hb dX5_match_82 hl (k := 4) rfl rfl (by decide) rfl (fun ls hl => ?_)
                    refine lv_goto (tgt := 36) hx hb dX5_match_85 (by decide) ?_
                    exact ihn8 (x4_8 + (1 : Int32)) I16 _ _ _ h hG hS (lv_sub hl [1, 2, 3, 4, 0] rfl)
                  · have h := ite_t h c15
                    refine lv_aload_n hx hb dX5_match_66 rfl (lv_at hl 0 rfl) ?_
                    refine lv_iload_n hx hb dX5_match_67 rfl (lv_at hl 3 rfl) ?_
                    refine lv_iload hx hb dX5_match_68 (lv_at hl 4 rfl) ?_
                    obtain ⟨v17, ev17, h⟩ := obind h
                    refine g_endi (va_runV (As := [.int x3_3, .int x4_8]) (rest := [.int (((16 : Int32) * x3_3) + x4_8), .ref (ad 12)]) ⟨hx, hb, hml, hown, hts⟩ (k_X5_isAtOnce l D cy ad hi I9 L x3_3 x4_8 v17 ev17) (cwV 2 hts gX5_match_X5_isAtOnce rfl rfl rfl cd_X5_isAtOnce ⟨Nat.le_of_ble_eq_true rfl, Nat.le_of_ble_eq_true rfl⟩) ⟨g_blind mZm, g_recv hK hG (k := 0) (by decide) (mE_5 _ _) vwCl_5, g_pre mZm hK hG hZ hS⟩ rfl rfl hl.1 rfl (lv_room (Nat.le_of_ble_eq_true rfl)) dX5_match_70 ⟨Nat.le_refl _, Nat.le_refl _⟩) hS (fun H locs hG hS => ?_)
                    refine lv_if_eq (tgt := 80) hx hb dX5_match_73 (by decide) (fun c18 => ?_) (fun c18 => ?_)
                    · have h := ite_t h c18
                      refine lv_iconst (v := (0 : Int32)) hx hb dX5_match_80 (by decide) ?_
                      refine g_zast hx hb hK hG hi hS (k := 12) (n := 1024) (by decide) (fun f => mE_7 f _) 1 rfl h dX5_match_81 (fun I19 H locs h hG hS => ?_)
                      refine lv_iinc (v := (x4_8 + (1 : Int32))) (lv' := [(4, .int (x4_8 + (1 : Int32))), (0, .ref (ad 0)), (1, .int x1_3), (2, .int (((1 : Int32) <<< ((I 0 2) &&& 31)) - (1 : Int32))), (3, .int x3_3)]) hx hb dX5_match_82 hl (k := 4) rfl rfl (by decide) rfl (fun ls hl => ?_)
                      refine lv_goto (tgt := 36) hx hb dX5_match_85 (by decide) ?_
                      exact ihn8 (x4_8 + (1 : Int32)) I19 _ _ _ h hG hS (lv_sub hl [1, 2, 3, 4, 0] rfl)
                    · have h := ite_f h c18
                      refine lv_iconst (v := (1 : Int32)) hx hb dX5_match_76 (by decide) ?_
                      refine lv_goto (tgt := 81) hx hb dX5_match_77 (by decide) ?_
                      refine g_zast hx hb hK hG hi hS (k := 12) (n := 1024) (by decide) (fun f => mE_7 f _) 1 rfl h dX5_match_81 (fun I20 H locs h hG hS => ?_)
                      refine lv_iinc (v := (x4_8 + (1 : Int32))) (lv' := [(4, .int (x4_8 + (1 : Int32))), (0, .ref (ad 0)), (1, .int x1_3), (2, .int (((1 : Int32) <<< ((I 0 2) &&& 31)) - (1 : Int32))), (3, .int x3_3)]) hx hb dX5_match_82 hl (k := 4) rfl rfl (by decide) rfl (fun ls hl => ?_)
                      refine lv_goto (tgt := 36) hx hb dX5_match_85 (by decide) ?_
                      exact ihn8 (x4_8 + (1 : Int32)) I20 _ _ _ h hG hS (lv_sub hl [1, 2, 3, 4, 0] rfl)
          refine keyK7 _ (fun I10 H locs ls h hG hS hl => ?_) bigF (0 : Int32) I4 _ _ _ h hG hS (lv_sub hl [1, 2, 3, 4, 0] rfl)
          clear keyK7
          refine lv_aload_n hx hb dX5_match_88 rfl (lv_at hl 0 rfl) ?_
          refine g_get hx hb l5 hown hK hG (k := 0) (by decide) (mE_5 _ _) vwCl_5 25 (by decide) k3 (fun _ h9 => h9) rfl dX5_match_89 ?_
          refine lv_bipush (v := (16 : Int32)) hx hb dX5_match_92 (by decide) ?_
          refine lv_iload_n hx hb dX5_match_94 rfl (lv_at hl 3 rfl) ?_
          refine lv_imul hx hb dX5_match_95 ?_
          refine lv_iload_n hx hb dX5_match_96 rfl (lv_at hl 2 rfl) ?_
          refine lv_iadd hx hb dX5_match_97 ?_
          refine g_zald hx hb hK hG (k := 12) (n := 1024) (by decide) (mE_7 _ _) 1 rfl h dX5_match_98 (fun v21 h => ?_)
          refine lv_if_eq (tgt := 117) hx hb dX5_match_99 (by decide) (fun c22 => ?_) (fun c22 => ?_)
          · have h := ite_t h c22
            refine lv_iload_n hx hb dX5_match_117 rfl (lv_at hl 1 rfl) ?_
            refine lv_istore_n (lv' := [(1, .int x1_3), (0, .ref (ad 0)), (2, .int (((1 : Int32) <<< ((I 0 2) &&& 31)) - (1 : Int32))), (3, .int x3_3)]) hx hb dX5_match_118 rfl hl (by decide) rfl (fun ls hl => ?_)
            refine lv_iinc (v := (x3_3 + (1 : Int32))) (lv' := [(3, .int (x3_3 + (1 : Int32))), (1, .int x1_3), (0, .ref (ad 0)), (2, .int (((1 : Int32) <<< ((I 0 2) &&& 31)) - (1 : Int32)))]) hx hb dX5_match_119 hl (k := 3) rfl rfl (by decide) rfl (fun ls hl => ?_)
            refine lv_goto (tgt := 23) hx hb dX5_match_122 (by decide) ?_
            exact ihn3 x1_3 (x3_3 + (1 : Int32)) I10 _ _ _ h hG hS (lv_sub hl [2, 1, 3, 0] rfl)
          · have h := ite_f h c22
            refine lv_iload_n hx hb dX5_match_102 rfl (lv_at hl 3 rfl) ?_
            obtain ⟨v23, ev23, h⟩ := obind h
            refine g_endi (va_runS (As := [.int x3_3]) (rest := []) ⟨hx, hb, hml, hown, hts⟩ (k_X5_bits l D cy ad hi I10 L x3_3 v23 ev23) (va_cwS 1 hts gX5_match_X5_bits rfl rfl rfl cd_X5_bits.2 ⟨Nat.le_of_ble_eq_true rfl, Nat.le_of_ble_eq_true rfl⟩) ⟨g_blind mZm, g_pre mZm hK hG hZ hS⟩ rfl rfl hl.1 rfl (lv_room (Nat.le_of_ble_eq_true rfl)) dX5_match_103 ⟨Nat.le_refl _, Nat.le_refl _⟩) hS (fun H locs hG hS => ?_)
            refine lv_iload_n hx hb dX5_match_106 rfl (lv_at hl 1 rfl) ?_
            obtain ⟨v24, ev24, h⟩ := obind h
            refine g_endi (va_runS (As := [.int x1_3]) (rest := [.int v23]) ⟨hx, hb, hml, hown, hts⟩ (k_X5_bits l D cy ad hi I10 L x1_3 v24 ev24) (va_cwS 1 hts gX5_match_X5_bits rfl rfl rfl cd_X5_bits.2 ⟨Nat.le_of_ble_eq_true rfl, Nat.le_of_ble_eq_true rfl⟩) ⟨g_blind mZm, g_pre mZm hK hG hZ hS⟩ rfl rfl hl.1 rfl (lv_room (Nat.le_of_ble_eq_true rfl)) dX5_match_107 ⟨Nat.le_refl _, Nat.le_refl _⟩) hS (fun H locs hG hS => ?_)
            refine lv_icmp_le (tgt := 117) hx hb dX5_match_110 (by decide) (fun c25 => ?_) (fun c25 => ?_)
            · have h := ite_t h c25
              refine lv_iload_n hx hb dX5_match_117 rfl (lv_at hl 1 rfl) ?_
              refine lv_istore_n (lv' := [(1, .int x1_3), (0, .ref (ad 0)), (2, .int (((1 : Int32) <<< ((I 0 2) &&& 31)) - (1 : Int32))), (3, .int x3_3)]) hx hb dX5_match_118 rfl hl (by decide) rfl (fun ls hl => ?_)
              refine lv_iinc (v := (x3_3 + (1 : Int32))) (lv' := [(3, .int (x3_3 + (1 : Int32))), (1, .int x1_3), (0, .ref (ad 0)), (2, .int (((1 : Int32) <<< ((I 0 2) &&& 31)) - (1 : Int32)))]) hx hb dX5_match_119 hl (k := 3) rfl rfl (by decide) rfl (fun ls hl => ?_)
              refine lv_goto (tgt := 23) hx hb dX5_match_122 (by decide) ?_
              exact ihn3 x1_3 (x3_3 + (1 : Int32)) I10 _ _ _ h hG hS (lv_sub hl [2, 1, 3, 0] rfl)
            · have h := ite_f h c25
              refine lv_iload_n hx hb dX5_match_113 rfl (lv_at hl 3 rfl) ?_
              refine lv_goto (tgt := 118) hx hb dX5_match_114 (by decide) ?_
              refine lv_istore_n (lv' := [(1, .int x3_3), (0, .ref (ad 0)), (2, .int (((1 : Int32) <<< ((I 0 2) &&& 31)) - (1 : Int32))), (3, .int x3_3)]) hx hb dX5_match_118 rfl hl (by decide) rfl (fun ls hl => ?_)
              refine lv_iinc (v := (x3_3 + (1 : Int32))) (lv' := [(3, .int (x3_3 + (1 : Int32))), (1, .int x3_3), (0, .ref (ad 0)), (2, .int (((1 : Int32) <<< ((I 0 2) &&& 31)) - (1 : Int32)))]) hx hb dX5_match_119 hl (k := 3) rfl rfl (by decide) rfl (fun ls hl => ?_)
              refine lv_goto (tgt := 23) hx hb dX5_match_122 (by decide) ?_
              exact ihn3 x3_3 (x3_3 + (1 : Int32)) I10 _ _ _ h hG hS (lv_sub hl [2, 1, 3, 0] rfl)
    refine keyK2 _ (fun z1_4 I5 H locs ls h hG hS hl => ?_) bigF (0 : Int32) (0 : Int32) I _ _ _ h hG hS (lv_sub hl [3, 2, 1, 0] rfl)
    clear keyK2
    refine lv_aload_n hx hb dX5_match_125 rfl (lv_at hl 0 rfl) ?_
    refine lv_iload_n hx hb dX5_match_126 rfl (lv_at hl 1 rfl) ?_
    obtain ⟨I26, eI26, h⟩ := obind h
    refine g_put hx hb l5 tyX5_ok nmX5 hown hK hG hi hS (k := 0) (by decide) (mE_5 _ _) vwCl_5 11 (by decide) k4 (fun _ h9 => h9) rfl rfl (Nat.le_of_ble_eq_true rfl) (by rw [mE_5 _ _]; rfl) dX5_match_127 (fun H locs hG hS => ?_)
    rw [Option.some.inj eI26] at hG
    refine lv_iload_n hx hb dX5_match_130 rfl (lv_at hl 1 rfl) ?_
    obtain ⟨v27, ev27, h⟩ := obind h
    refine g_endi (va_runS (As := [.int z1_4]) (rest := []) ⟨hx, hb, hml, hown, hts⟩ (k_X5_bits l D cy ad hi I26 L z1_4 v27 ev27) (va_cwS 1 hts gX5_match_X5_bits rfl rfl rfl cd_X5_bits.2 ⟨Nat.le_of_ble_eq_true rfl, Nat.le_of_ble_eq_true rfl⟩) ⟨g_blind mZm, g_pre mZm hK hG hZ hS⟩ rfl rfl hl.1 rfl (lv_room (Nat.le_of_ble_eq_true rfl)) dX5_match_131 ⟨Nat.le_refl _, Nat.le_refl _⟩) hS (fun H locs hG hS => ?_)
    refine lv_iconst (v := (2 : Int32)) hx hb dX5_match_134 (by decide) ?_
    refine lv_idiv hx hb dX5_match_135 (by decide) ?_
    have h := Option.some.inj h
    subst h
    subst hQ
    exact g_iret hx hb hr hlocks mZm hK hZ hG hS rfl dX5_match_136
  · have h := ite_t h c1
    refine lv_bipush (v := (-4 : Int32)) hx hb dX5_match_7 (by decide) ?_
    have h := Option.some.inj h
    subst h
    subst hQ
    exact g_iret hx hb hr hlocks mZm hK hZ hG hS rfl dX5_match_9
def X5_waits_L2 (I : xMem) (x1 : Int32) (v2 : Int32) (x3_4 : Int32) (K6 : Option (Int32)) : Nat → Int32 → Option (Int32)
  | 0, _ => none
  | n7 + 1, x4_7 => if (256 : Int32) ≤ x4_7 then (K6) else ((if ((x4_7 / (16 : Int32)) &&& (x4_7 - x4_7 / (16 : Int32) * (16 : Int32))) = (0 : Int32) then (if (((x4_7 / (16 : Int32)) ||| (x4_7 - x4_7 / (16 : Int32) * (16 : Int32))) &&& (v2 ^^^ (-1 : Int32))) = (0 : Int32) then (some (1 : Int32)) else (some (0 : Int32))) else (some (0 : Int32))).bind fun q9 => if q9 = (0 : Int32) then (X5_waits_L2 I x1 v2 x3_4 K6 n7 (x4_7 + (1 : Int32))) else ((X5_counts I x1).bind fun v13 => (X5_poundsOf I (x4_7 / (16 : Int32))).bind fun v14 => (X5_poundsOf I (x4_7 - x4_7 / (16 : Int32) * (16 : Int32))).bind fun v15 => if (I 0 1) < (X5_apart (v13 + v14) (x3_4 + v15)) then (X5_waits_L2 I x1 v2 x3_4 K6 n7 (x4_7 + (1 : Int32))) else (some x3_4)))
def X5_waits_L1 (I : xMem) (x1 : Int32) (v2 : Int32) (K3 : Option (Int32)) : Nat → Int32 → Option (Int32)
  | 0, _ => none
  | n4 + 1, x3_4 => if (100 : Int32) ≤ x3_4 then (K3) else (X5_waits_L2 I x1 v2 x3_4 (X5_waits_L1 I x1 v2 K3 n4 (x3_4 + (1 : Int32))) bigF (0 : Int32))
def X5_waits (I : xMem) (x1 : Int32) : Option (Int32) := if (X5_isOne I x1) = (0 : Int32) then (some (-1 : Int32)) else ((X5_stonesBy I x1).bind fun v2 => X5_waits_L1 I x1 v2 (some (-9 : Int32)) bigF (1 : Int32))
abbrev rm_X5_waits : Room := { frames := 3, cells := 0, slots := 0, locals := 64 }
theorem cd_X5_waits : yX5_waits.cls = RX5 ∧ yX5_waits.cls ≠ "java/lang/invoke/MethodHandle" ∧ yX5_waits.cls ≠ "java/lang/invoke/VarHandle" ∧ (parseMethodDescriptor yX5_waits.desc).map (fun d => d.parameters.length) = some 1 := by decide +kernel
set_option maxHeartbeats 4000000 in
set_option maxRecDepth 100000 in
theorem k_X5_waits (l : Launch) (D : va_G) (cy : Nat → ClassId) (ad : Nat → Nat) (hi : gInj 18 ad) (I : xMem) (L : xLon) (x1 : Int32) (r : Int32) (h : X5_waits I x1 = some r) : Met l yX5_waits wsX5_waits rm_X5_waits (va_Pc [.ref (ad 0), .int x1] (mW D cy ad I L)) (mPi D cy ad I L r) 0 0 (gA 18 ad) := by
  refine g_met (own := RX5) (cc := cX5_waits) (maxL := 8) (ret := (some .int)) (by decide) rfl (Nat.le_of_ble_eq_true rfl) rfl ?_
  intro p e s m args below meth c ls hx hb hml hr hlocks hown hts hG hK hZ hl
  generalize hQ : MQ below _ args s 0 0 _ = Q
  have hl : lv_has ls 8 [(0, .ref (ad 0)), (1, .int x1)] := hl
  have hS : va_S (gA 18 ad) s.heap s.heap [] := va_S.rf
  have l5 : ∀ w ∈ wsX50, w.before args s = true := fun w h => hts w (List.mem_cons_of_mem _ (List.mem_append_right _ h))
  have k1 := hts (.fieldLink RX5 151 "PairStairsModel" "limit" "I") (by decide +kernel)
  unfold X5_waits at h
  refine lv_aload_n hx hb dX5_waits_0 rfl (lv_at hl 0 rfl) ?_
  refine lv_iload_n hx hb dX5_waits_1 rfl (lv_at hl 1 rfl) ?_
  refine g_endi (va_runV (As := [.int x1]) (rest := []) ⟨hx, hb, hml, hown, hts⟩ (k_X5_isOne l D cy ad hi I L x1 _ rfl) (cwV 1 hts gX5_waits_X5_isOne rfl rfl rfl cd_X5_isOne ⟨Nat.le_of_ble_eq_true rfl, Nat.le_of_ble_eq_true rfl⟩) ⟨g_blind mZm, g_recv hK hG (k := 0) (by decide) (mE_5 _ _) vwCl_5, g_pre mZm hK hG hZ hS⟩ rfl rfl hl.1 rfl (lv_room (Nat.le_of_ble_eq_true rfl)) dX5_waits_2 ⟨Nat.le_refl _, Nat.le_refl _⟩) hS (fun H locs hG hS => ?_)
  refine lv_if_ne (tgt := 10) hx hb dX5_waits_5 (by decide) (fun c1 => ?_) (fun c1 => ?_)
  · have h := ite_f h c1
    refine lv_aload_n hx hb dX5_waits_10 rfl (lv_at hl 0 rfl) ?_
    refine lv_iload_n hx hb dX5_waits_11 rfl (lv_at hl 1 rfl) ?_
    obtain ⟨v2, ev2, h⟩ := obind h
    refine g_endi (va_runV (As := [.int x1]) (rest := []) ⟨hx, hb, hml, hown, hts⟩ (k_X5_stonesBy l D cy ad hi I L x1 v2 ev2) (cwV 1 hts gX5_waits_X5_stonesBy rfl rfl rfl cd_X5_stonesBy ⟨Nat.le_of_ble_eq_true rfl, Nat.le_of_ble_eq_true rfl⟩) ⟨g_blind mZm, g_recv hK hG (k := 0) (by decide) (mE_5 _ _) vwCl_5, g_pre mZm hK hG hZ hS⟩ rfl rfl hl.1 rfl (lv_room (Nat.le_of_ble_eq_true rfl)) dX5_waits_12 ⟨Nat.le_refl _, Nat.le_refl _⟩) hS (fun H locs hG hS => ?_)
    refine lv_istore_n (lv' := [(2, .int v2), (0, .ref (ad 0)), (1, .int x1)]) hx hb dX5_waits_15 rfl hl (by decide) rfl (fun ls hl => ?_)
    refine lv_iconst (v := (1 : Int32)) hx hb dX5_waits_16 (by decide) ?_
    refine lv_istore_n (lv' := [(3, .int (1 : Int32)), (2, .int v2), (0, .ref (ad 0)), (1, .int x1)]) hx hb dX5_waits_17 rfl hl (by decide) rfl (fun ls hl => ?_)
    have keyK3 : ∀ (K3 : Option (Int32)), (∀ (H : Heap) (locs : List Loc) (ls : Array Slot), K3 = some r → mG D cy ad I L H → va_S (gA 18 ad) s.heap H locs → lv_has ls 8 [] → W p l e rm_X5_waits s m args below meth c H locs 0 0 Q (F0 m 125 ls [])) → ∀ (n4 : Nat) (x3_4 : Int32) (H : Heap) (locs : List Loc) (ls : Array Slot), X5_waits_L1 I x1 v2 K3 n4 x3_4 = some r → mG D cy ad I L H → va_S (gA 18 ad) s.heap H locs → lv_has ls 8 [(0, .ref (ad 0)), (1, .int x1), (2, .int v2), (3, .int x3_4)] → W p l e rm_X5_waits s m args below meth c H locs 0 0 Q (F0 m 18 ls []) := by
      intro K3 hkK3 n4
      induction n4 with
      | zero =>
        intro x3_4 H locs ls h
        exact ono h
      | succ n4 ihn4 =>
        intro x3_4 H locs ls h hG hS hl
        rw [X5_waits_L1] at h
        refine lv_iload_n hx hb dX5_waits_18 rfl (lv_at hl 3 rfl) ?_
        refine lv_bipush (v := (100 : Int32)) hx hb dX5_waits_19 (by decide) ?_
        refine lv_icmp_ge (tgt := 125) hx hb dX5_waits_21 (by decide) (fun c5 => ?_) (fun c5 => ?_)
        · have h := ite_t h c5
          exact hkK3 _ _ _ h hG hS (lv_sub hl [] rfl)
        · have h := ite_f h c5
          refine lv_iconst (v := (0 : Int32)) hx hb dX5_waits_24 (by decide) ?_
          refine lv_istore (lv' := [(4, .int (0 : Int32)), (0, .ref (ad 0)), (1, .int x1), (2, .int v2), (3, .int x3_4)]) hx hb dX5_waits_25 hl (by decide) rfl (fun ls hl => ?_)
          have keyK6 : ∀ (K6 : Option (Int32)), (∀ (H : Heap) (locs : List Loc) (ls : Array Slot), K6 = some r → mG D cy ad I L H → va_S (gA 18 ad) s.heap H locs → lv_has ls 8 [(0, .ref (ad 0)), (1, .int x1), (2, .int v2), (3, .int x3_4)] → W p l e rm_X5_waits s m args below meth c H locs 0 0 Q (F0 m 119 ls [])) → ∀ (n7 : Nat) (x4_7 : Int32) (H : Heap) (locs : List Loc) (ls : Array Slot), X5_waits_L2 I x1 v2 x3_4 K6 n7 x4_7 = some r → mG D cy ad I L H → va_S (gA 18 ad) s.heap H locs → lv_has ls 8 [(0, .ref (ad 0)), (1, .int x1), (2, .int v2), (3, .int x3_4), (4, .int x4_7)] → W p l e rm_X5_waits s m args below meth c H locs 0 0 Q (F0 m 27 ls []) := by
            intro K6 hkK6 n7
            induction n7 with
            | zero =>
              intro x4_7 H locs ls h
              exact ono h
            | succ n7 ihn7 =>
              intro x4_7 H locs ls h hG hS hl
              rw [X5_waits_L2] at h
              refine lv_iload hx hb dX5_waits_27 (lv_at hl 4 rfl) ?_
              refine lv_sipush (v := (256 : Int32)) hx hb dX5_waits_29 (by decide) ?_
              refine lv_icmp_ge (tgt := 119) hx hb dX5_waits_32 (by decide) (fun c8 => ?_) (fun c8 => ?_)
              · have h := ite_t h c8
                exact hkK6 _ _ _ h hG hS (lv_sub hl [0, 1, 2, 3] rfl)
              · have h := ite_f h c8
                refine lv_iload hx hb dX5_waits_35 (lv_at hl 4 rfl) ?_
                refine lv_bipush (v := (16 : Int32)) hx hb dX5_waits_37 (by decide) ?_
                refine lv_idiv hx hb dX5_waits_39 (by decide) ?_
                refine lv_istore (lv' := [(5, .int (x4_7 / (16 : Int32))), (0, .ref (ad 0)), (1, .int x1), (2, .int v2), (3, .int x3_4), (4, .int x4_7)]) hx hb dX5_waits_40 hl (by decide) rfl (fun ls hl => ?_)
                refine lv_iload hx hb dX5_waits_42 (lv_at hl 5 rfl) ?_
                refine lv_bipush (v := (16 : Int32)) hx hb dX5_waits_44 (by decide) ?_
                refine lv_irem hx hb dX5_waits_46 (by decide) ?_
                refine lv_istore (lv' := [(6, .int (x4_7 - x4_7 / (16 : Int32) * (16 : Int32))), (5, .int (x4_7 / (16 : Int32))), (0, .ref (ad 0)), (1, .int x1), (2, .int v2), (3, .int x3_4), (4, .int x4_7)]) hx hb dX5_waits_47 hl (by decide) rfl (fun ls hl => ?_)
                refine lv_iload hx hb dX5_waits_49 (lv_at hl 1 rfl) ?_
                refine lv_iload hx hb dX5_waits_51 (lv_at hl 0 rfl) ?_
                refine lv_iand hx hb dX5_waits_53 ?_
                obtain ⟨q9, h9, h⟩ := obind h
                have hk_q9 : ∀ (H : Heap) (locs : List Loc) (ls : Array Slot), mG D cy ad I L H → va_S (gA 18 ad) s.heap H locs → lv_has ls 8 [(0, .ref (ad 0)), (1, .int x1), (2, .int v2), (3, .int x3_4), (4, .int x4_7), (5, .int (x4_7 / (16 : Int32))), (6, .int (x4_7 - x4_7 / (16 : Int32) * (16 : Int32)))] → W p l e rm_X5_waits s m args below meth c H locs 0 0 Q (F0 m 74 ls [.int q9]) := by
                  intro H locs ls hG hS hl
                  refine lv_istore (lv' := [(7, .int q9), (0, .ref (ad 0)), (1, .int x1), (2, .int v2), (3, .int x3_4), (4, .int x4_7), (5, .int (x4_7 / (16 : Int32))), (6, .int (x4_7 - x4_7 / (16 : Int32) * (16 : Int32)))]) hx hb dX5_waits_74 hl (by decide) rfl (fun ls hl => ?_)
                  refine lv_iload hx hb dX5_waits_76 (lv_at hl 0 rfl) ?_
                  refine lv_if_eq (tgt := 113) hx hb dX5_waits_78 (by decide) (fun c12 => ?_) (fun c12 => ?_)
                  · have h := ite_t h c12
                    refine lv_iinc (v := (x4_7 + (1 : Int32))) (lv' := [(4, .int (x4_7 + (1 : Int32))), (7, .int q9), (0, .ref (ad 0)), (1, .int x1), (2, .int v2), (3, .int x3_4), (5, .int (x4_7 / (16 : Int32))), (6, .int (x4_7 - x4_7 / (16 : Int32) * (16 : Int32)))]) hx hb dX5_waits_113 hl (k := 5) rfl rfl (by decide) rfl (fun ls hl => ?_)
                    refine lv_goto (tgt := 27) hx hb dX5_waits_116 (by decide) ?_
                    exact ihn7 (x4_7 + (1 : Int32)) _ _ _ h hG hS (lv_sub hl [2, 3, 4, 5, 0] rfl)
                  · have h := ite_f h c12
                    refine lv_aload_n hx hb dX5_waits_81 rfl (lv_at hl 1 rfl) ?_
                    refine lv_iload_n hx hb dX5_waits_82 rfl (lv_at hl 2 rfl) ?_
                    obtain ⟨v13, ev13, h⟩ := obind h
                    refine g_endi (va_runV (As := [.int x1]) (rest := []) ⟨hx, hb, hml, hown, hts⟩ (k_X5_counts l D cy ad hi I L x1 v13 ev13) (cwV 1 hts gX5_waits_X5_counts rfl rfl rfl cd_X5_counts ⟨Nat.le_of_ble_eq_true rfl, Nat.le_of_ble_eq_true rfl⟩) ⟨g_blind mZm, g_recv hK hG (k := 0) (by decide) (mE_5 _ _) vwCl_5, g_pre mZm hK hG hZ hS⟩ rfl rfl hl.1 rfl (lv_room (Nat.le_of_ble_eq_true rfl)) dX5_waits_83 ⟨Nat.le_refl _, Nat.le_refl _⟩) hS (fun H locs hG hS => ?_)
                    refine lv_aload_n hx hb dX5_waits_86 rfl (lv_at hl 1 rfl) ?_
                    refine lv_iload hx hb dX5_waits_87 (lv_at hl 6 rfl) ?_
                    obtain ⟨v14, ev14, h⟩ := obind h
                    refine g_endi (va_runV (As := [.int (x4_7 / (16 : Int32))]) (rest := [.int v13]) ⟨hx, hb, hml, hown, hts⟩ (k_X5_poundsOf l D cy ad hi I L (x4_7 / (16 : Int32)) v14 ev14) (cwV 1 hts gX5_waits_X5_poundsOf rfl rfl rfl cd_X5_poundsOf ⟨Nat.le_of_ble_eq_true rfl, Nat.le_of_ble_eq_true rfl⟩) ⟨g_blind mZm, g_recv hK hG (k := 0) (by decide) (mE_5 _ _) vwCl_5, g_pre mZm hK hG hZ hS⟩ rfl rfl hl.1 rfl (lv_room (Nat.le_of_ble_eq_true rfl)) dX5_waits_89 ⟨Nat.le_refl _, Nat.le_refl _⟩) hS (fun H locs hG hS => ?_)
                    refine lv_iadd hx hb dX5_waits_92 ?_
                    refine lv_iload_n hx hb dX5_waits_93 rfl (lv_at hl 4 rfl) ?_
                    refine lv_aload_n hx hb dX5_waits_94 rfl (lv_at hl 1 rfl) ?_
                    refine lv_iload hx hb dX5_waits_95 (lv_at hl 7 rfl) ?_
                    obtain ⟨v15, ev15, h⟩ := obind h
                    refine g_endi (va_runV (As := [.int (x4_7 - x4_7 / (16 : Int32) * (16 : Int32))]) (rest := [.int x3_4, .int (v13 + v14)]) ⟨hx, hb, hml, hown, hts⟩ (k_X5_poundsOf l D cy ad hi I L (x4_7 - x4_7 / (16 : Int32) * (16 : Int32)) v15 ev15) (cwV 1 hts gX5_waits_X5_poundsOf rfl rfl rfl cd_X5_poundsOf ⟨Nat.le_of_ble_eq_true rfl, Nat.le_of_ble_eq_true rfl⟩) ⟨g_blind mZm, g_recv hK hG (k := 0) (by decide) (mE_5 _ _) vwCl_5, g_pre mZm hK hG hZ hS⟩ rfl rfl hl.1 rfl (lv_room (Nat.le_of_ble_eq_true rfl)) dX5_waits_97 ⟨Nat.le_refl _, Nat.le_refl _⟩) hS (fun H locs hG hS => ?_)
                    refine lv_iadd hx hb dX5_waits_100 ?_
                    refine g_endi (va_runS (As := [.int (v13 + v14), .int (x3_4 + v15)]) (rest := []) ⟨hx, hb, hml, hown, hts⟩ (k_X5_apart l D cy ad hi I L (v13 + v14) (x3_4 + v15) _ rfl) (va_cwS 2 hts gX5_waits_X5_apart rfl rfl rfl cd_X5_apart.2 ⟨Nat.le_of_ble_eq_true rfl, Nat.le_of_ble_eq_true rfl⟩) ⟨g_blind mZm, g_pre mZm hK hG hZ hS⟩ rfl rfl hl.1 rfl (lv_room (Nat.le_of_ble_eq_true rfl)) dX5_waits_101 ⟨Nat.le_refl _, Nat.le_refl _⟩) hS (fun H locs hG hS => ?_)
                    refine lv_aload_n hx hb dX5_waits_104 rfl (lv_at hl 1 rfl) ?_
                    refine g_get hx hb l5 hown hK hG (k := 0) (by decide) (mE_5 _ _) vwCl_5 1 (by decide) k1 (fun _ h9 => h9) rfl dX5_waits_105 ?_
                    refine lv_icmp_gt (tgt := 113) hx hb dX5_waits_108 (by decide) (fun c16 => ?_) (fun c16 => ?_)
                    · have h := ite_t h c16
                      refine lv_iinc (v := (x4_7 + (1 : Int32))) (lv' := [(4, .int (x4_7 + (1 : Int32))), (7, .int q9), (0, .ref (ad 0)), (1, .int x1), (2, .int v2), (3, .int x3_4), (5, .int (x4_7 / (16 : Int32))), (6, .int (x4_7 - x4_7 / (16 : Int32) * (16 : Int32)))]) hx hb dX5_waits_113 hl (k := 5) rfl rfl (by decide) rfl (fun ls hl => ?_)
                      refine lv_goto (tgt := 27) hx hb dX5_waits_116 (by decide) ?_
                      exact ihn7 (x4_7 + (1 : Int32)) _ _ _ h hG hS (lv_sub hl [2, 3, 4, 5, 0] rfl)
                    · have h := ite_f h c16
                      refine lv_iload_n hx hb dX5_waits_111 rfl (lv_at hl 4 rfl) ?_
                      have h := Option.some.inj h
                      subst h
                      subst hQ
                      exact g_iret hx hb hr hlocks mZm hK hZ hG hS rfl dX5_waits_112
                clear h
                have h := h9
                clear h9
                refine lv_if_ne (tgt := 73) hx hb dX5_waits_54 (by decide) (fun c10 => ?_) (fun c10 => ?_)
                · have h := ite_f h c10
                  refine lv_iconst (v := (0 : Int32)) hx hb dX5_waits_73 (by decide) ?_
                  have h := Option.some.inj h
                  subst h
                  exact hk_q9 _ _ _ hG hS (lv_sub hl [2, 3, 4, 5, 6, 1, 0] rfl)
                · have h := ite_t h c10
                  refine lv_iload hx hb dX5_waits_57 (lv_at hl 1 rfl) ?_
                  refine lv_iload hx hb dX5_waits_59 (lv_at hl 0 rfl) ?_
                  refine lv_ior hx hb dX5_waits_61 ?_
                  refine lv_iload_n hx hb dX5_waits_62 rfl (lv_at hl 4 rfl) ?_
                  refine lv_iconst (v := (-1 : Int32)) hx hb dX5_waits_63 (by decide) ?_
                  refine lv_ixor hx hb dX5_waits_64 ?_
                  refine lv_iand hx hb dX5_waits_65 ?_
                  refine lv_if_ne (tgt := 73) hx hb dX5_waits_66 (by decide) (fun c11 => ?_) (fun c11 => ?_)
                  · have h := ite_f h c11
                    refine lv_iconst (v := (0 : Int32)) hx hb dX5_waits_73 (by decide) ?_
                    have h := Option.some.inj h
                    subst h
                    exact hk_q9 _ _ _ hG hS (lv_sub hl [2, 3, 4, 5, 6, 1, 0] rfl)
                  · have h := ite_t h c11
                    refine lv_iconst (v := (1 : Int32)) hx hb dX5_waits_69 (by decide) ?_
                    refine lv_goto (tgt := 74) hx hb dX5_waits_70 (by decide) ?_
                    have h := Option.some.inj h
                    subst h
                    exact hk_q9 _ _ _ hG hS (lv_sub hl [2, 3, 4, 5, 6, 1, 0] rfl)
          refine keyK6 _ (fun H locs ls h hG hS hl => ?_) bigF (0 : Int32) _ _ _ h hG hS (lv_sub hl [1, 2, 3, 4, 0] rfl)
          clear keyK6
          refine lv_iinc (v := (x3_4 + (1 : Int32))) (lv' := [(3, .int (x3_4 + (1 : Int32))), (0, .ref (ad 0)), (1, .int x1), (2, .int v2)]) hx hb dX5_waits_119 hl (k := 3) rfl rfl (by decide) rfl (fun ls hl => ?_)
          refine lv_goto (tgt := 18) hx hb dX5_waits_122 (by decide) ?_
          exact ihn4 (x3_4 + (1 : Int32)) _ _ _ h hG hS (lv_sub hl [1, 2, 3, 0] rfl)
    refine keyK3 _ (fun H locs ls h hG hS hl => ?_) bigF (1 : Int32) _ _ _ h hG hS (lv_sub hl [2, 3, 1, 0] rfl)
    clear keyK3
    refine lv_bipush (v := (-9 : Int32)) hx hb dX5_waits_125 (by decide) ?_
    have h := Option.some.inj h
    subst h
    subst hQ
    exact g_iret hx hb hr hlocks mZm hK hZ hG hS rfl dX5_waits_127
  · have h := ite_t h c1
    refine lv_iconst (v := (-1 : Int32)) hx hb dX5_waits_8 (by decide) ?_
    have h := Option.some.inj h
    subst h
    subst hQ
    exact g_iret hx hb hr hlocks mZm hK hZ hG hS rfl dX5_waits_9
def X5_worth_L1 (K2 : Int32 → Int32 → xMem → Option (Int32 × xMem)) : Nat → Int32 → Int32 → Int32 → xMem → Option (Int32 × xMem)
  | 0, _, _, _, _ => none
  | n3 + 1, x1_3, x2_3, x3_3, I4 => if (I4 0 2) ≤ x3_3 then (K2 x1_3 x2_3 I4) else ((X5_pairsBut I4 ((1 : Int32) <<< (x3_3 &&& 31))).bind fun q7 => (if x2_3 ≤ q7.1 then (some x1_3) else (some x3_3)).bind fun q8 => if x2_3 ≤ q7.1 then (X5_worth_L1 K2 n3 q8 x2_3 (x3_3 + (1 : Int32)) q7.2) else (X5_worth_L1 K2 n3 q8 q7.1 (x3_3 + (1 : Int32)) q7.2))
def X5_worth (I : xMem) : Option (Int32 × xMem) := if (I 0 4) = (0 : Int32) then (some ((-4 : Int32), I)) else (X5_worth_L1 (fun (z1_4 : Int32) (z2_4 : Int32) (I5 : xMem) => if z1_4 = (-9 : Int32) then ((some (wr I5 0 11 (I5 0 11))).bind fun I14 => some (z1_4, I14)) else ((X5_pairsBut I5 (0 : Int32)).bind fun q12 => (some (wr q12.2 0 11 (q12.1 - z2_4))).bind fun I13 => some (z1_4, I13))) bigF (-9 : Int32) (9999 : Int32) (0 : Int32) I)
abbrev rm_X5_worth : Room := { frames := 6, cells := 0, slots := 0, locals := 145 }
theorem cd_X5_worth : yX5_worth.cls = RX5 ∧ yX5_worth.cls ≠ "java/lang/invoke/MethodHandle" ∧ yX5_worth.cls ≠ "java/lang/invoke/VarHandle" ∧ (parseMethodDescriptor yX5_worth.desc).map (fun d => d.parameters.length) = some 0 := by decide +kernel
set_option maxHeartbeats 4000000 in
set_option maxRecDepth 100000 in
theorem k_X5_worth (l : Launch) (D : va_G) (cy : Nat → ClassId) (ad : Nat → Nat) (hi : gInj 18 ad) (I : xMem) (L : xLon)  (r : Int32 × xMem) (h : X5_worth I = some r) : Met l yX5_worth wsX5_worth rm_X5_worth (va_Pc [.ref (ad 0)] (mW D cy ad I L)) (mPi D cy ad r.2 L r.1) 0 0 (gA 18 ad) := by
  refine g_met (own := RX5) (cc := cX5_worth) (maxL := 5) (ret := (some .int)) (by decide) rfl (Nat.le_of_ble_eq_true rfl) rfl ?_
  intro p e s m args below meth c ls hx hb hml hr hlocks hown hts hG hK hZ hl
  generalize hQ : MQ below _ args s 0 0 _ = Q
  have hl : lv_has ls 5 [(0, .ref (ad 0))] := hl
  have hS : va_S (gA 18 ad) s.heap s.heap [] := va_S.rf
  have l5 : ∀ w ∈ wsX50, w.before args s = true := fun w h => hts w (List.mem_cons_of_mem _ (List.mem_append_right _ h))
  have k1 := hts (.fieldLink RX5 157 "PairStairsModel" "people" "I") (by decide +kernel)
  have k2 := hts (.fieldLink RX5 154 "PairStairsModel" "stoneMany" "I") (by decide +kernel)
  have k3 := hts (.fieldLink RX5 70 "PairStairsModel" "asked" "I") (by decide +kernel)
  unfold X5_worth at h
  refine lv_aload_n hx hb dX5_worth_0 rfl (lv_at hl 0 rfl) ?_
  refine g_get hx hb l5 hown hK hG (k := 0) (by decide) (mE_5 _ _) vwCl_5 4 (by decide) k1 (fun _ h9 => h9) rfl dX5_worth_1 ?_
  refine lv_if_ne (tgt := 10) hx hb dX5_worth_4 (by decide) (fun c1 => ?_) (fun c1 => ?_)
  · have h := ite_f h c1
    refine lv_bipush (v := (-9 : Int32)) hx hb dX5_worth_10 (by decide) ?_
    refine lv_istore_n (lv' := [(1, .int (-9 : Int32)), (0, .ref (ad 0))]) hx hb dX5_worth_12 rfl hl (by decide) rfl (fun ls hl => ?_)
    refine lv_sipush (v := (9999 : Int32)) hx hb dX5_worth_13 (by decide) ?_
    refine lv_istore_n (lv' := [(2, .int (9999 : Int32)), (1, .int (-9 : Int32)), (0, .ref (ad 0))]) hx hb dX5_worth_16 rfl hl (by decide) rfl (fun ls hl => ?_)
    refine lv_iconst (v := (0 : Int32)) hx hb dX5_worth_17 (by decide) ?_
    refine lv_istore_n (lv' := [(3, .int (0 : Int32)), (2, .int (9999 : Int32)), (1, .int (-9 : Int32)), (0, .ref (ad 0))]) hx hb dX5_worth_18 rfl hl (by decide) rfl (fun ls hl => ?_)
    have keyK2 : ∀ (K2 : Int32 → Int32 → xMem → Option (Int32 × xMem)), (∀ (z1_4 : Int32) (z2_4 : Int32) (I5 : xMem) (H : Heap) (locs : List Loc) (ls : Array Slot), K2 z1_4 z2_4 I5 = some r → mG D cy ad I5 L H → va_S (gA 18 ad) s.heap H locs → lv_has ls 5 [(0, .ref (ad 0)), (1, .int z1_4), (2, .int z2_4)] → W p l e rm_X5_worth s m args below meth c H locs 0 0 Q (F0 m 67 ls [])) → ∀ (n3 : Nat) (x1_3 : Int32) (x2_3 : Int32) (x3_3 : Int32) (I4 : xMem) (H : Heap) (locs : List Loc) (ls : Array Slot), X5_worth_L1 K2 n3 x1_3 x2_3 x3_3 I4 = some r → mG D cy ad I4 L H → va_S (gA 18 ad) s.heap H locs → lv_has ls 5 [(0, .ref (ad 0)), (1, .int x1_3), (2, .int x2_3), (3, .int x3_3)] → W p l e rm_X5_worth s m args below meth c H locs 0 0 Q (F0 m 19 ls []) := by
      intro K2 hkK2 n3
      induction n3 with
      | zero =>
        intro x1_3 x2_3 x3_3 I4 H locs ls h
        exact ono h
      | succ n3 ihn3 =>
        intro x1_3 x2_3 x3_3 I4 H locs ls h hG hS hl
        rw [X5_worth_L1] at h
        refine lv_iload_n hx hb dX5_worth_19 rfl (lv_at hl 3 rfl) ?_
        refine lv_aload_n hx hb dX5_worth_20 rfl (lv_at hl 0 rfl) ?_
        refine g_get hx hb l5 hown hK hG (k := 0) (by decide) (mE_5 _ _) vwCl_5 2 (by decide) k2 (fun _ h9 => h9) rfl dX5_worth_21 ?_
        refine lv_icmp_ge (tgt := 67) hx hb dX5_worth_24 (by decide) (fun c6 => ?_) (fun c6 => ?_)
        · have h := ite_t h c6
          exact hkK2 x1_3 x2_3 I4 _ _ _ h hG hS (lv_sub hl [0, 1, 2] rfl)
        · have h := ite_f h c6
          refine lv_aload_n hx hb dX5_worth_27 rfl (lv_at hl 0 rfl) ?_
          refine lv_iconst (v := (1 : Int32)) hx hb dX5_worth_28 (by decide) ?_
          refine lv_iload_n hx hb dX5_worth_29 rfl (lv_at hl 3 rfl) ?_
          refine lv_ishl hx hb dX5_worth_30 ?_
          obtain ⟨q7, eq7, h⟩ := obind h
          refine g_endi (va_runV (As := [.int ((1 : Int32) <<< (x3_3 &&& 31))]) (rest := []) ⟨hx, hb, hml, hown, hts⟩ (k_X5_pairsBut l D cy ad hi I4 L ((1 : Int32) <<< (x3_3 &&& 31)) q7 eq7) (cwV 1 hts gX5_worth_X5_pairsBut rfl rfl rfl cd_X5_pairsBut ⟨Nat.le_of_ble_eq_true rfl, Nat.le_of_ble_eq_true rfl⟩) ⟨g_blind mZm, g_recv hK hG (k := 0) (by decide) (mE_5 _ _) vwCl_5, g_pre mZm hK hG hZ hS⟩ rfl rfl hl.1 rfl (lv_room (Nat.le_of_ble_eq_true rfl)) dX5_worth_31 ⟨Nat.le_refl _, Nat.le_refl _⟩) hS (fun H locs hG hS => ?_)
          refine lv_istore (lv' := [(4, .int q7.1), (0, .ref (ad 0)), (1, .int x1_3), (2, .int x2_3), (3, .int x3_3)]) hx hb dX5_worth_34 hl (by decide) rfl (fun ls hl => ?_)
          refine lv_iload hx hb dX5_worth_36 (lv_at hl 0 rfl) ?_
          refine lv_iload_n hx hb dX5_worth_38 rfl (lv_at hl 3 rfl) ?_
          obtain ⟨q8, h9, h⟩ := obind h
          have hk_q8 : ∀ (H : Heap) (locs : List Loc) (ls : Array Slot), mG D cy ad q7.2 L H → va_S (gA 18 ad) s.heap H locs → lv_has ls 5 [(0, .ref (ad 0)), (2, .int x2_3), (3, .int x3_3), (4, .int q7.1)] → W p l e rm_X5_worth s m args below meth c H locs 0 0 Q (F0 m 47 ls [.int q8]) := by
            intro H locs ls hG hS hl
            refine lv_istore_n (lv' := [(1, .int q8), (0, .ref (ad 0)), (2, .int x2_3), (3, .int x3_3), (4, .int q7.1)]) hx hb dX5_worth_47 rfl hl (by decide) rfl (fun ls hl => ?_)
            refine lv_iload hx hb dX5_worth_48 (lv_at hl 4 rfl) ?_
            refine lv_iload_n hx hb dX5_worth_50 rfl (lv_at hl 2 rfl) ?_
            refine lv_icmp_ge (tgt := 59) hx hb dX5_worth_51 (by decide) (fun c10 => ?_) (fun c10 => ?_)
            · have h := ite_t h c10
              refine lv_iload_n hx hb dX5_worth_59 rfl (lv_at hl 2 rfl) ?_
              refine lv_istore_n (lv' := [(2, .int x2_3), (1, .int q8), (0, .ref (ad 0)), (3, .int x3_3), (4, .int q7.1)]) hx hb dX5_worth_60 rfl hl (by decide) rfl (fun ls hl => ?_)
              refine lv_iinc (v := (x3_3 + (1 : Int32))) (lv' := [(3, .int (x3_3 + (1 : Int32))), (2, .int x2_3), (1, .int q8), (0, .ref (ad 0)), (4, .int q7.1)]) hx hb dX5_worth_61 hl (k := 3) rfl rfl (by decide) rfl (fun ls hl => ?_)
              refine lv_goto (tgt := 19) hx hb dX5_worth_64 (by decide) ?_
              exact ihn3 q8 x2_3 (x3_3 + (1 : Int32)) q7.2 _ _ _ h hG hS (lv_sub hl [3, 2, 1, 0] rfl)
            · have h := ite_f h c10
              refine lv_iload hx hb dX5_worth_54 (lv_at hl 4 rfl) ?_
              refine lv_goto (tgt := 60) hx hb dX5_worth_56 (by decide) ?_
              refine lv_istore_n (lv' := [(2, .int q7.1), (1, .int q8), (0, .ref (ad 0)), (3, .int x3_3), (4, .int q7.1)]) hx hb dX5_worth_60 rfl hl (by decide) rfl (fun ls hl => ?_)
              refine lv_iinc (v := (x3_3 + (1 : Int32))) (lv' := [(3, .int (x3_3 + (1 : Int32))), (2, .int q7.1), (1, .int q8), (0, .ref (ad 0)), (4, .int q7.1)]) hx hb dX5_worth_61 hl (k := 3) rfl rfl (by decide) rfl (fun ls hl => ?_)
              refine lv_goto (tgt := 19) hx hb dX5_worth_64 (by decide) ?_
              exact ihn3 q8 q7.1 (x3_3 + (1 : Int32)) q7.2 _ _ _ h hG hS (lv_sub hl [3, 2, 1, 0] rfl)
          clear h
          have h := h9
          clear h9
          refine lv_icmp_ge (tgt := 46) hx hb dX5_worth_39 (by decide) (fun c9 => ?_) (fun c9 => ?_)
          · have h := ite_t h c9
            refine lv_iload_n hx hb dX5_worth_46 rfl (lv_at hl 2 rfl) ?_
            have h := Option.some.inj h
            subst h
            exact hk_q8 _ _ _ hG hS (lv_sub hl [1, 3, 4, 0] rfl)
          · have h := ite_f h c9
            refine lv_iload_n hx hb dX5_worth_42 rfl (lv_at hl 4 rfl) ?_
            refine lv_goto (tgt := 47) hx hb dX5_worth_43 (by decide) ?_
            have h := Option.some.inj h
            subst h
            exact hk_q8 _ _ _ hG hS (lv_sub hl [1, 3, 4, 0] rfl)
    refine keyK2 _ (fun z1_4 z2_4 I5 H locs ls h hG hS hl => ?_) bigF (-9 : Int32) (9999 : Int32) (0 : Int32) I _ _ _ h hG hS (lv_sub hl [3, 2, 1, 0] rfl)
    clear keyK2
    refine lv_aload_n hx hb dX5_worth_67 rfl (lv_at hl 0 rfl) ?_
    refine lv_iload_n hx hb dX5_worth_68 rfl (lv_at hl 1 rfl) ?_
    refine lv_bipush (v := (-9 : Int32)) hx hb dX5_worth_69 (by decide) ?_
    refine lv_icmp_ne (tgt := 81) hx hb dX5_worth_71 (by decide) (fun c11 => ?_) (fun c11 => ?_)
    · have h := ite_f h c11
      refine lv_aload_n hx hb dX5_worth_81 rfl (lv_at hl 0 rfl) ?_
      refine lv_iconst (v := (0 : Int32)) hx hb dX5_worth_82 (by decide) ?_
      obtain ⟨q12, eq12, h⟩ := obind h
      refine g_endi (va_runV (As := [.int (0 : Int32)]) (rest := [.ref (ad 0)]) ⟨hx, hb, hml, hown, hts⟩ (k_X5_pairsBut l D cy ad hi I5 L (0 : Int32) q12 eq12) (cwV 1 hts gX5_worth_X5_pairsBut rfl rfl rfl cd_X5_pairsBut ⟨Nat.le_of_ble_eq_true rfl, Nat.le_of_ble_eq_true rfl⟩) ⟨g_blind mZm, g_recv hK hG (k := 0) (by decide) (mE_5 _ _) vwCl_5, g_pre mZm hK hG hZ hS⟩ rfl rfl hl.1 rfl (lv_room (Nat.le_of_ble_eq_true rfl)) dX5_worth_83 ⟨Nat.le_refl _, Nat.le_refl _⟩) hS (fun H locs hG hS => ?_)
      refine lv_iload_n hx hb dX5_worth_86 rfl (lv_at hl 2 rfl) ?_
      refine lv_isub hx hb dX5_worth_87 ?_
      obtain ⟨I13, eI13, h⟩ := obind h
      refine g_put hx hb l5 tyX5_ok nmX5 hown hK hG hi hS (k := 0) (by decide) (mE_5 _ _) vwCl_5 11 (by decide) k3 (fun _ h9 => h9) rfl rfl (Nat.le_of_ble_eq_true rfl) (by rw [mE_5 _ _]; rfl) dX5_worth_88 (fun H locs hG hS => ?_)
      rw [Option.some.inj eI13] at hG
      refine lv_iload_n hx hb dX5_worth_91 rfl (lv_at hl 1 rfl) ?_
      have h := Option.some.inj h
      subst h
      subst hQ
      exact g_iret hx hb hr hlocks mZm hK hZ hG hS rfl dX5_worth_92
    · have h := ite_t h c11
      refine lv_aload_n hx hb dX5_worth_74 rfl (lv_at hl 0 rfl) ?_
      refine g_get hx hb l5 hown hK hG (k := 0) (by decide) (mE_5 _ _) vwCl_5 11 (by decide) k3 (fun _ h9 => h9) rfl dX5_worth_75 ?_
      refine lv_goto (tgt := 88) hx hb dX5_worth_78 (by decide) ?_
      obtain ⟨I14, eI14, h⟩ := obind h
      refine g_put hx hb l5 tyX5_ok nmX5 hown hK hG hi hS (k := 0) (by decide) (mE_5 _ _) vwCl_5 11 (by decide) k3 (fun _ h9 => h9) rfl rfl (Nat.le_of_ble_eq_true rfl) (by rw [mE_5 _ _]; rfl) dX5_worth_88 (fun H locs hG hS => ?_)
      rw [Option.some.inj eI14] at hG
      refine lv_iload_n hx hb dX5_worth_91 rfl (lv_at hl 1 rfl) ?_
      have h := Option.some.inj h
      subst h
      subst hQ
      exact g_iret hx hb hr hlocks mZm hK hZ hG hS rfl dX5_worth_92
  · have h := ite_t h c1
    refine lv_bipush (v := (-4 : Int32)) hx hb dX5_worth_7 (by decide) ?_
    have h := Option.some.inj h
    subst h
    subst hQ
    exact g_iret hx hb hr hlocks mZm hK hZ hG hS rfl dX5_worth_9
def X5_loaves_L1 (I : xMem) (x1 : Int32) (x2 : Int32) (K4 : Option (Int32)) : Nat → Int32 → Option (Int32)
  | 0, _ => none
  | n5 + 1, x3_5 => (rdI I 1 660 (1 : Int32)).bind fun v6 => if (10 : Int32) ≤ (v6 + x3_5) then (K4) else ((rdI I 3 6 x1).bind fun v8 => (rdI I 4 6 x1).bind fun v9 => (rdI I 1 660 (1 : Int32)).bind fun v10 => (rdI I 3 6 x2).bind fun v11 => (rdI I 4 6 x2).bind fun v12 => (rdI I 1 660 (1 : Int32)).bind fun v13 => (rdI I 3 6 x1).bind fun v14 => (X5_sinkUnder I v14 (X5_countsBy v8 v9 (v10 + x3_5)) x2 (X5_countsBy v11 v12 (v13 + x3_5))).bind fun v15 => if (I 0 1) < v15 then (X5_loaves_L1 I x1 x2 K4 n5 (x3_5 + (1 : Int32))) else (some x3_5))
def X5_loaves (I : xMem) (x1 : Int32) (x2 : Int32) : Option (Int32) := if (X5_areTwo I x1 x2) = (0 : Int32) then (some (-1 : Int32)) else ((X5_areAtOneEnd I x1 x2).bind fun v2 => if v2 = (0 : Int32) then (some (-4 : Int32)) else (X5_loaves_L1 I x1 x2 (some (-9 : Int32)) bigF (0 : Int32)))
abbrev rm_X5_loaves : Room := { frames := 3, cells := 0, slots := 0, locals := 68 }
theorem cd_X5_loaves : yX5_loaves.cls = RX5 ∧ yX5_loaves.cls ≠ "java/lang/invoke/MethodHandle" ∧ yX5_loaves.cls ≠ "java/lang/invoke/VarHandle" ∧ (parseMethodDescriptor yX5_loaves.desc).map (fun d => d.parameters.length) = some 2 := by decide +kernel
set_option maxHeartbeats 4000000 in
set_option maxRecDepth 100000 in
theorem k_X5_loaves (l : Launch) (D : va_G) (cy : Nat → ClassId) (ad : Nat → Nat) (hi : gInj 18 ad) (I : xMem) (L : xLon) (x1 : Int32) (x2 : Int32) (r : Int32) (h : X5_loaves I x1 x2 = some r) : Met l yX5_loaves wsX5_loaves rm_X5_loaves (va_Pc [.ref (ad 0), .int x1, .int x2] (mW D cy ad I L)) (mPi D cy ad I L r) 0 0 (gA 18 ad) := by
  refine g_met (own := RX5) (cc := cX5_loaves) (maxL := 6) (ret := (some .int)) (by decide) rfl (Nat.le_of_ble_eq_true rfl) rfl ?_
  intro p e s m args below meth c ls hx hb hml hr hlocks hown hts hG hK hZ hl
  generalize hQ : MQ below _ args s 0 0 _ = Q
  have hl : lv_has ls 6 [(0, .ref (ad 0)), (1, .int x1), (2, .int x2)] := hl
  have hS : va_S (gA 18 ad) s.heap s.heap [] := va_S.rf
  have l5 : ∀ w ∈ wsX50, w.before args s = true := fun w h => hts w (List.mem_cons_of_mem _ (List.mem_append_right _ h))
  have k1 := hts (.fieldLink RX5 7 "PairStairsModel" "row" "[I") (by decide +kernel)
  have k2 := hts (.fieldLink RX5 16 "PairStairsModel" "kinds" "[I") (by decide +kernel)
  have k3 := hts (.fieldLink RX5 19 "PairStairsModel" "pounds" "[I") (by decide +kernel)
  have k4 := hts (.fieldLink RX5 151 "PairStairsModel" "limit" "I") (by decide +kernel)
  unfold X5_loaves at h
  refine lv_aload_n hx hb dX5_loaves_0 rfl (lv_at hl 0 rfl) ?_
  refine lv_iload_n hx hb dX5_loaves_1 rfl (lv_at hl 1 rfl) ?_
  refine lv_iload_n hx hb dX5_loaves_2 rfl (lv_at hl 2 rfl) ?_
  refine g_endi (va_runV (As := [.int x1, .int x2]) (rest := []) ⟨hx, hb, hml, hown, hts⟩ (k_X5_areTwo l D cy ad hi I L x1 x2 _ rfl) (cwV 2 hts gX5_loaves_X5_areTwo rfl rfl rfl cd_X5_areTwo ⟨Nat.le_of_ble_eq_true rfl, Nat.le_of_ble_eq_true rfl⟩) ⟨g_blind mZm, g_recv hK hG (k := 0) (by decide) (mE_5 _ _) vwCl_5, g_pre mZm hK hG hZ hS⟩ rfl rfl hl.1 rfl (lv_room (Nat.le_of_ble_eq_true rfl)) dX5_loaves_3 ⟨Nat.le_refl _, Nat.le_refl _⟩) hS (fun H locs hG hS => ?_)
  refine lv_if_ne (tgt := 11) hx hb dX5_loaves_6 (by decide) (fun c1 => ?_) (fun c1 => ?_)
  · have h := ite_f h c1
    refine lv_aload_n hx hb dX5_loaves_11 rfl (lv_at hl 0 rfl) ?_
    refine lv_iload_n hx hb dX5_loaves_12 rfl (lv_at hl 1 rfl) ?_
    refine lv_iload_n hx hb dX5_loaves_13 rfl (lv_at hl 2 rfl) ?_
    obtain ⟨v2, ev2, h⟩ := obind h
    refine g_endi (va_runV (As := [.int x1, .int x2]) (rest := []) ⟨hx, hb, hml, hown, hts⟩ (k_X5_areAtOneEnd l D cy ad hi I L x1 x2 v2 ev2) (cwV 2 hts gX5_loaves_X5_areAtOneEnd rfl rfl rfl cd_X5_areAtOneEnd ⟨Nat.le_of_ble_eq_true rfl, Nat.le_of_ble_eq_true rfl⟩) ⟨g_blind mZm, g_recv hK hG (k := 0) (by decide) (mE_5 _ _) vwCl_5, g_pre mZm hK hG hZ hS⟩ rfl rfl hl.1 rfl (lv_room (Nat.le_of_ble_eq_true rfl)) dX5_loaves_14 ⟨Nat.le_refl _, Nat.le_refl _⟩) hS (fun H locs hG hS => ?_)
    refine lv_if_ne (tgt := 23) hx hb dX5_loaves_17 (by decide) (fun c3 => ?_) (fun c3 => ?_)
    · have h := ite_f h c3
      refine lv_iconst (v := (0 : Int32)) hx hb dX5_loaves_23 (by decide) ?_
      refine lv_istore_n (lv' := [(3, .int (0 : Int32)), (0, .ref (ad 0)), (1, .int x1), (2, .int x2)]) hx hb dX5_loaves_24 rfl hl (by decide) rfl (fun ls hl => ?_)
      have keyK4 : ∀ (K4 : Option (Int32)), (∀ (H : Heap) (locs : List Loc) (ls : Array Slot), K4 = some r → mG D cy ad I L H → va_S (gA 18 ad) s.heap H locs → lv_has ls 6 [] → W p l e rm_X5_loaves s m args below meth c H locs 0 0 Q (F0 m 118 ls [])) → ∀ (n5 : Nat) (x3_5 : Int32) (H : Heap) (locs : List Loc) (ls : Array Slot), X5_loaves_L1 I x1 x2 K4 n5 x3_5 = some r → mG D cy ad I L H → va_S (gA 18 ad) s.heap H locs → lv_has ls 6 [(0, .ref (ad 0)), (1, .int x1), (2, .int x2), (3, .int x3_5)] → W p l e rm_X5_loaves s m args below meth c H locs 0 0 Q (F0 m 25 ls []) := by
        intro K4 hkK4 n5
        induction n5 with
        | zero =>
          intro x3_5 H locs ls h
          exact ono h
        | succ n5 ihn5 =>
          intro x3_5 H locs ls h hG hS hl
          rw [X5_loaves_L1] at h
          refine lv_aload_n hx hb dX5_loaves_25 rfl (lv_at hl 0 rfl) ?_
          refine g_get hx hb l5 hown hK hG (k := 0) (by decide) (mE_5 _ _) vwCl_5 0 (by decide) k1 (fun _ h9 => h9) rfl dX5_loaves_26 ?_
          refine lv_iconst (v := (1 : Int32)) hx hb dX5_loaves_29 (by decide) ?_
          refine g_ald hx hb hK hG (k := 1) (n := 660) (show mIA 1 660 from by decide +kernel).1.1 (mIA_e (show mIA 1 660 from by decide +kernel) _ _) 0 rfl h dX5_loaves_30 (fun v6 h => ?_)
          refine lv_iload_n hx hb dX5_loaves_31 rfl (lv_at hl 3 rfl) ?_
          refine lv_iadd hx hb dX5_loaves_32 ?_
          refine lv_bipush (v := (10 : Int32)) hx hb dX5_loaves_33 (by decide) ?_
          refine lv_icmp_ge (tgt := 118) hx hb dX5_loaves_35 (by decide) (fun c7 => ?_) (fun c7 => ?_)
          · have h := ite_t h c7
            exact hkK4 _ _ _ h hG hS (lv_sub hl [] rfl)
          · have h := ite_f h c7
            refine lv_aload_n hx hb dX5_loaves_38 rfl (lv_at hl 0 rfl) ?_
            refine g_get hx hb l5 hown hK hG (k := 0) (by decide) (mE_5 _ _) vwCl_5 5 (by decide) k2 (fun _ h9 => h9) rfl dX5_loaves_39 ?_
            refine lv_iload_n hx hb dX5_loaves_42 rfl (lv_at hl 1 rfl) ?_
            refine g_ald hx hb hK hG (k := 3) (n := 6) (show mIA 3 6 from by decide +kernel).1.1 (mIA_e (show mIA 3 6 from by decide +kernel) _ _) 0 rfl h dX5_loaves_43 (fun v8 h => ?_)
            refine lv_aload_n hx hb dX5_loaves_44 rfl (lv_at hl 0 rfl) ?_
            refine g_get hx hb l5 hown hK hG (k := 0) (by decide) (mE_5 _ _) vwCl_5 6 (by decide) k3 (fun _ h9 => h9) rfl dX5_loaves_45 ?_
            refine lv_iload_n hx hb dX5_loaves_48 rfl (lv_at hl 1 rfl) ?_
            refine g_ald hx hb hK hG (k := 4) (n := 6) (show mIA 4 6 from by decide +kernel).1.1 (mIA_e (show mIA 4 6 from by decide +kernel) _ _) 0 rfl h dX5_loaves_49 (fun v9 h => ?_)
            refine lv_aload_n hx hb dX5_loaves_50 rfl (lv_at hl 0 rfl) ?_
            refine g_get hx hb l5 hown hK hG (k := 0) (by decide) (mE_5 _ _) vwCl_5 0 (by decide) k1 (fun _ h9 => h9) rfl dX5_loaves_51 ?_
            refine lv_iconst (v := (1 : Int32)) hx hb dX5_loaves_54 (by decide) ?_
            refine g_ald hx hb hK hG (k := 1) (n := 660) (show mIA 1 660 from by decide +kernel).1.1 (mIA_e (show mIA 1 660 from by decide +kernel) _ _) 0 rfl h dX5_loaves_55 (fun v10 h => ?_)
            refine lv_iload_n hx hb dX5_loaves_56 rfl (lv_at hl 3 rfl) ?_
            refine lv_iadd hx hb dX5_loaves_57 ?_
            refine g_endi (va_runS (As := [.int v8, .int v9, .int (v10 + x3_5)]) (rest := []) ⟨hx, hb, hml, hown, hts⟩ (k_X5_countsBy l D cy ad hi I L v8 v9 (v10 + x3_5) _ rfl) (va_cwS 3 hts gX5_loaves_X5_countsBy rfl rfl rfl cd_X5_countsBy.2 ⟨Nat.le_of_ble_eq_true rfl, Nat.le_of_ble_eq_true rfl⟩) ⟨g_blind mZm, g_pre mZm hK hG hZ hS⟩ rfl rfl hl.1 rfl (lv_room (Nat.le_of_ble_eq_true rfl)) dX5_loaves_58 ⟨Nat.le_refl _, Nat.le_refl _⟩) hS (fun H locs hG hS => ?_)
            refine lv_istore (lv' := [(4, .int (X5_countsBy v8 v9 (v10 + x3_5))), (0, .ref (ad 0)), (1, .int x1), (2, .int x2), (3, .int x3_5)]) hx hb dX5_loaves_61 hl (by decide) rfl (fun ls hl => ?_)
            refine lv_aload_n hx hb dX5_loaves_63 rfl (lv_at hl 1 rfl) ?_
            refine g_get hx hb l5 hown hK hG (k := 0) (by decide) (mE_5 _ _) vwCl_5 5 (by decide) k2 (fun _ h9 => h9) rfl dX5_loaves_64 ?_
            refine lv_iload_n hx hb dX5_loaves_67 rfl (lv_at hl 3 rfl) ?_
            refine g_ald hx hb hK hG (k := 3) (n := 6) (show mIA 3 6 from by decide +kernel).1.1 (mIA_e (show mIA 3 6 from by decide +kernel) _ _) 0 rfl h dX5_loaves_68 (fun v11 h => ?_)
            refine lv_aload_n hx hb dX5_loaves_69 rfl (lv_at hl 1 rfl) ?_
            refine g_get hx hb l5 hown hK hG (k := 0) (by decide) (mE_5 _ _) vwCl_5 6 (by decide) k3 (fun _ h9 => h9) rfl dX5_loaves_70 ?_
            refine lv_iload_n hx hb dX5_loaves_73 rfl (lv_at hl 3 rfl) ?_
            refine g_ald hx hb hK hG (k := 4) (n := 6) (show mIA 4 6 from by decide +kernel).1.1 (mIA_e (show mIA 4 6 from by decide +kernel) _ _) 0 rfl h dX5_loaves_74 (fun v12 h => ?_)
            refine lv_aload_n hx hb dX5_loaves_75 rfl (lv_at hl 1 rfl) ?_
            refine g_get hx hb l5 hown hK hG (k := 0) (by decide) (mE_5 _ _) vwCl_5 0 (by decide) k1 (fun _ h9 => h9) rfl dX5_loaves_76 ?_
            refine lv_iconst (v := (1 : Int32)) hx hb dX5_loaves_79 (by decide) ?_
            refine g_ald hx hb hK hG (k := 1) (n := 660) (show mIA 1 660 from by decide +kernel).1.1 (mIA_e (show mIA 1 660 from by decide +kernel) _ _) 0 rfl h dX5_loaves_80 (fun v13 h => ?_)
            refine lv_iload_n hx hb dX5_loaves_81 rfl (lv_at hl 4 rfl) ?_
            refine lv_iadd hx hb dX5_loaves_82 ?_
            refine g_endi (va_runS (As := [.int v11, .int v12, .int (v13 + x3_5)]) (rest := []) ⟨hx, hb, hml, hown, hts⟩ (k_X5_countsBy l D cy ad hi I L v11 v12 (v13 + x3_5) _ rfl) (va_cwS 3 hts gX5_loaves_X5_countsBy rfl rfl rfl cd_X5_countsBy.2 ⟨Nat.le_of_ble_eq_true rfl, Nat.le_of_ble_eq_true rfl⟩) ⟨g_blind mZm, g_pre mZm hK hG hZ hS⟩ rfl rfl hl.1 rfl (lv_room (Nat.le_of_ble_eq_true rfl)) dX5_loaves_83 ⟨Nat.le_refl _, Nat.le_refl _⟩) hS (fun H locs hG hS => ?_)
            refine lv_istore (lv' := [(5, .int (X5_countsBy v11 v12 (v13 + x3_5))), (4, .int (X5_countsBy v8 v9 (v10 + x3_5))), (0, .ref (ad 0)), (1, .int x1), (2, .int x2), (3, .int x3_5)]) hx hb dX5_loaves_86 hl (by decide) rfl (fun ls hl => ?_)
            refine lv_aload_n hx hb dX5_loaves_88 rfl (lv_at hl 2 rfl) ?_
            refine lv_aload_n hx hb dX5_loaves_89 rfl (lv_at hl 2 rfl) ?_
            refine g_get hx hb l5 hown hK hG (k := 0) (by decide) (mE_5 _ _) vwCl_5 5 (by decide) k2 (fun _ h9 => h9) rfl dX5_loaves_90 ?_
            refine lv_iload_n hx hb dX5_loaves_93 rfl (lv_at hl 3 rfl) ?_
            refine g_ald hx hb hK hG (k := 3) (n := 6) (show mIA 3 6 from by decide +kernel).1.1 (mIA_e (show mIA 3 6 from by decide +kernel) _ _) 0 rfl h dX5_loaves_94 (fun v14 h => ?_)
            refine lv_iload hx hb dX5_loaves_95 (lv_at hl 1 rfl) ?_
            refine lv_iload_n hx hb dX5_loaves_97 rfl (lv_at hl 4 rfl) ?_
            refine lv_iload hx hb dX5_loaves_98 (lv_at hl 0 rfl) ?_
            obtain ⟨v15, ev15, h⟩ := obind h
            refine g_endi (va_runV (As := [.int v14, .int (X5_countsBy v8 v9 (v10 + x3_5)), .int x2, .int (X5_countsBy v11 v12 (v13 + x3_5))]) (rest := []) ⟨hx, hb, hml, hown, hts⟩ (k_X5_sinkUnder l D cy ad hi I L v14 (X5_countsBy v8 v9 (v10 + x3_5)) x2 (X5_countsBy v11 v12 (v13 + x3_5)) v15 ev15) (cwV 4 hts gX5_loaves_X5_sinkUnder rfl rfl rfl cd_X5_sinkUnder ⟨Nat.le_of_ble_eq_true rfl, Nat.le_of_ble_eq_true rfl⟩) ⟨g_blind mZm, g_recv hK hG (k := 0) (by decide) (mE_5 _ _) vwCl_5, g_pre mZm hK hG hZ hS⟩ rfl rfl hl.1 rfl (lv_room (Nat.le_of_ble_eq_true rfl)) dX5_loaves_100 ⟨Nat.le_refl _, Nat.le_refl _⟩) hS (fun H locs hG hS => ?_)
            refine lv_aload_n hx hb dX5_loaves_103 rfl (lv_at hl 2 rfl) ?_
            refine g_get hx hb l5 hown hK hG (k := 0) (by decide) (mE_5 _ _) vwCl_5 1 (by decide) k4 (fun _ h9 => h9) rfl dX5_loaves_104 ?_
            refine lv_icmp_gt (tgt := 112) hx hb dX5_loaves_107 (by decide) (fun c16 => ?_) (fun c16 => ?_)
            · have h := ite_t h c16
              refine lv_iinc (v := (x3_5 + (1 : Int32))) (lv' := [(3, .int (x3_5 + (1 : Int32))), (5, .int (X5_countsBy v11 v12 (v13 + x3_5))), (4, .int (X5_countsBy v8 v9 (v10 + x3_5))), (0, .ref (ad 0)), (1, .int x1), (2, .int x2)]) hx hb dX5_loaves_112 hl (k := 5) rfl rfl (by decide) rfl (fun ls hl => ?_)
              refine lv_goto (tgt := 25) hx hb dX5_loaves_115 (by decide) ?_
              exact ihn5 (x3_5 + (1 : Int32)) _ _ _ h hG hS (lv_sub hl [3, 4, 5, 0] rfl)
            · have h := ite_f h c16
              refine lv_iload_n hx hb dX5_loaves_110 rfl (lv_at hl 5 rfl) ?_
              have h := Option.some.inj h
              subst h
              subst hQ
              exact g_iret hx hb hr hlocks mZm hK hZ hG hS rfl dX5_loaves_111
      refine keyK4 _ (fun H locs ls h hG hS hl => ?_) bigF (0 : Int32) _ _ _ h hG hS (lv_sub hl [1, 2, 3, 0] rfl)
      clear keyK4
      refine lv_bipush (v := (-9 : Int32)) hx hb dX5_loaves_118 (by decide) ?_
      have h := Option.some.inj h
      subst h
      subst hQ
      exact g_iret hx hb hr hlocks mZm hK hZ hG hS rfl dX5_loaves_120
    · have h := ite_t h c3
      refine lv_bipush (v := (-4 : Int32)) hx hb dX5_loaves_20 (by decide) ?_
      have h := Option.some.inj h
      subst h
      subst hQ
      exact g_iret hx hb hr hlocks mZm hK hZ hG hS rfl dX5_loaves_22
  · have h := ite_t h c1
    refine lv_iconst (v := (-1 : Int32)) hx hb dX5_loaves_9 (by decide) ?_
    have h := Option.some.inj h
    subst h
    subst hQ
    exact g_iret hx hb hr hlocks mZm hK hZ hG hS rfl dX5_loaves_10
def X5_layLoads_L2 (x1_2 : Int32) (K7 : xMem → Option (xMem)) : Nat → Int32 → xMem → Option (xMem)
  | 0, _, _ => none
  | n8 + 1, x4_8, I9 => if (256 : Int32) ≤ x4_8 then (K7 I9) else (if (x1_2 - x1_2 / (6 : Int32) * (6 : Int32)) ≤ (x1_2 / (6 : Int32)) then (K7 I9) else (if (I9 0 4) ≤ (x1_2 - x1_2 / (6 : Int32) * (6 : Int32)) then (K7 I9) else ((if ((x4_8 / (16 : Int32)) &&& (x4_8 - x4_8 / (16 : Int32) * (16 : Int32))) = (0 : Int32) then (if ((1 : Int32) <<< ((I9 0 2) &&& 31)) ≤ ((x4_8 / (16 : Int32)) ||| (x4_8 - x4_8 / (16 : Int32) * (16 : Int32))) then (some (0 : Int32)) else ((X5_sinkOf I9 (x1_2 / (6 : Int32)) (x1_2 - x1_2 / (6 : Int32) * (6 : Int32)) (x4_8 / (16 : Int32)) (x4_8 - x4_8 / (16 : Int32) * (16 : Int32))).bind fun v17 => if (I9 0 1) < v17 then (some (0 : Int32)) else (some (1 : Int32)))) else (some (0 : Int32))).bind fun q14 => (rdI I9 15 36 x1_2).bind fun v19 => (if q14 = (0 : Int32) then (some (0 : Int32)) else (some ((1 : Int32) <<< (((x4_8 / (16 : Int32)) ||| (x4_8 - x4_8 / (16 : Int32) * (16 : Int32))) &&& 31)))).bind fun q20 => (wrI I9 15 36 x1_2 (v19 ||| q20)).bind fun I22 => X5_layLoads_L2 x1_2 K7 n8 (x4_8 + (1 : Int32)) I22)))
def X5_layLoads_L1 (K1 : xMem → Option (xMem)) : Nat → Int32 → xMem → Option (xMem)
  | 0, _, _ => none
  | n2 + 1, x1_2, I3 => if (36 : Int32) ≤ x1_2 then (K1 I3) else ((wrI I3 15 36 x1_2 (0 : Int32)).bind fun I6 => X5_layLoads_L2 x1_2 (fun (I10 : xMem) => X5_layLoads_L1 K1 n2 (x1_2 + (1 : Int32)) I10) bigF (0 : Int32) I6)
def X5_layLoads (I : xMem) : Option (xMem) := X5_layLoads_L1 (fun (I4 : xMem) => some I4) bigF (0 : Int32) I
abbrev rm_X5_layLoads : Room := { frames := 3, cells := 0, slots := 0, locals := 70 }
theorem cd_X5_layLoads : yX5_layLoads.cls = RX5 ∧ yX5_layLoads.cls ≠ "java/lang/invoke/MethodHandle" ∧ yX5_layLoads.cls ≠ "java/lang/invoke/VarHandle" ∧ (parseMethodDescriptor yX5_layLoads.desc).map (fun d => d.parameters.length) = some 0 := by decide +kernel
set_option maxHeartbeats 4000000 in
set_option maxRecDepth 100000 in
theorem k_X5_layLoads (l : Launch) (D : va_G) (cy : Nat → ClassId) (ad : Nat → Nat) (hi : gInj 18 ad) (I : xMem) (L : xLon)  (r : xMem) (h : X5_layLoads I = some r) : Met l yX5_layLoads wsX5_layLoads rm_X5_layLoads (va_Pc [.ref (ad 0)] (mW D cy ad I L)) (mPv D cy ad r L) 0 0 (gA 18 ad) := by
  refine g_met (own := RX5) (cc := cX5_layLoads) (maxL := 8) (ret := none) (by decide) rfl (Nat.le_of_ble_eq_true rfl) rfl ?_
  intro p e s m args below meth c ls hx hb hml hr hlocks hown hts hG hK hZ hl
  generalize hQ : MQ below _ args s 0 0 _ = Q
  have hl : lv_has ls 8 [(0, .ref (ad 0))] := hl
  have hS : va_S (gA 18 ad) s.heap s.heap [] := va_S.rf
  have l5 : ∀ w ∈ wsX50, w.before args s = true := fun w h => hts w (List.mem_cons_of_mem _ (List.mem_append_right _ h))
  have k1 := hts (.fieldLink RX5 57 "PairStairsModel" "loads" "[I") (by decide +kernel)
  have k2 := hts (.fieldLink RX5 157 "PairStairsModel" "people" "I") (by decide +kernel)
  have k3 := hts (.fieldLink RX5 154 "PairStairsModel" "stoneMany" "I") (by decide +kernel)
  have k4 := hts (.fieldLink RX5 151 "PairStairsModel" "limit" "I") (by decide +kernel)
  unfold X5_layLoads at h
  refine lv_iconst (v := (0 : Int32)) hx hb dX5_layLoads_0 (by decide) ?_
  refine lv_istore_n (lv' := [(1, .int (0 : Int32)), (0, .ref (ad 0))]) hx hb dX5_layLoads_1 rfl hl (by decide) rfl (fun ls hl => ?_)
  have keyK1 : ∀ (K1 : xMem → Option (xMem)), (∀ (I4 : xMem) (H : Heap) (locs : List Loc) (ls : Array Slot), K1 I4 = some r → mG D cy ad I4 L H → va_S (gA 18 ad) s.heap H locs → lv_has ls 8 [] → W p l e rm_X5_layLoads s m args below meth c H locs 0 0 Q (F0 m 146 ls [])) → ∀ (n2 : Nat) (x1_2 : Int32) (I3 : xMem) (H : Heap) (locs : List Loc) (ls : Array Slot), X5_layLoads_L1 K1 n2 x1_2 I3 = some r → mG D cy ad I3 L H → va_S (gA 18 ad) s.heap H locs → lv_has ls 8 [(0, .ref (ad 0)), (1, .int x1_2)] → W p l e rm_X5_layLoads s m args below meth c H locs 0 0 Q (F0 m 2 ls []) := by
    intro K1 hkK1 n2
    induction n2 with
    | zero =>
      intro x1_2 I3 H locs ls h
      exact ono h
    | succ n2 ihn2 =>
      intro x1_2 I3 H locs ls h hG hS hl
      rw [X5_layLoads_L1] at h
      refine lv_iload_n hx hb dX5_layLoads_2 rfl (lv_at hl 1 rfl) ?_
      refine lv_bipush (v := (36 : Int32)) hx hb dX5_layLoads_3 (by decide) ?_
      refine lv_icmp_ge (tgt := 146) hx hb dX5_layLoads_5 (by decide) (fun c5 => ?_) (fun c5 => ?_)
      · have h := ite_t h c5
        exact hkK1 I3 _ _ _ h hG hS (lv_sub hl [] rfl)
      · have h := ite_f h c5
        refine lv_aload_n hx hb dX5_layLoads_8 rfl (lv_at hl 0 rfl) ?_
        refine g_get hx hb l5 hown hK hG (k := 0) (by decide) (mE_5 _ _) vwCl_5 29 (by decide) k1 (fun _ h9 => h9) rfl dX5_layLoads_9 ?_
        refine lv_iload_n hx hb dX5_layLoads_12 rfl (lv_at hl 1 rfl) ?_
        refine lv_iconst (v := (0 : Int32)) hx hb dX5_layLoads_13 (by decide) ?_
        refine g_ast hx hb hK hG hi hS (k := 15) (n := 36) (show mIA 15 36 from by decide +kernel).1.1 (fun f => mIA_e (show mIA 15 36 from by decide +kernel) f _) 0 rfl h dX5_layLoads_14 (fun I6 H locs h hG hS => ?_)
        refine lv_iload_n hx hb dX5_layLoads_15 rfl (lv_at hl 1 rfl) ?_
        refine lv_bipush (v := (6 : Int32)) hx hb dX5_layLoads_16 (by decide) ?_
        refine lv_idiv hx hb dX5_layLoads_18 (by decide) ?_
        refine lv_istore_n (lv' := [(2, .int (x1_2 / (6 : Int32))), (0, .ref (ad 0)), (1, .int x1_2)]) hx hb dX5_layLoads_19 rfl hl (by decide) rfl (fun ls hl => ?_)
        refine lv_iload_n hx hb dX5_layLoads_20 rfl (lv_at hl 2 rfl) ?_
        refine lv_bipush (v := (6 : Int32)) hx hb dX5_layLoads_21 (by decide) ?_
        refine lv_irem hx hb dX5_layLoads_23 (by decide) ?_
        refine lv_istore_n (lv' := [(3, .int (x1_2 - x1_2 / (6 : Int32) * (6 : Int32))), (2, .int (x1_2 / (6 : Int32))), (0, .ref (ad 0)), (1, .int x1_2)]) hx hb dX5_layLoads_24 rfl hl (by decide) rfl (fun ls hl => ?_)
        refine lv_iconst (v := (0 : Int32)) hx hb dX5_layLoads_25 (by decide) ?_
        refine lv_istore (lv' := [(4, .int (0 : Int32)), (3, .int (x1_2 - x1_2 / (6 : Int32) * (6 : Int32))), (2, .int (x1_2 / (6 : Int32))), (0, .ref (ad 0)), (1, .int x1_2)]) hx hb dX5_layLoads_26 hl (by decide) rfl (fun ls hl => ?_)
        have keyK7 : ∀ (K7 : xMem → Option (xMem)), (∀ (I10 : xMem) (H : Heap) (locs : List Loc) (ls : Array Slot), K7 I10 = some r → mG D cy ad I10 L H → va_S (gA 18 ad) s.heap H locs → lv_has ls 8 [(0, .ref (ad 0)), (1, .int x1_2)] → W p l e rm_X5_layLoads s m args below meth c H locs 0 0 Q (F0 m 140 ls [])) → ∀ (n8 : Nat) (x4_8 : Int32) (I9 : xMem) (H : Heap) (locs : List Loc) (ls : Array Slot), X5_layLoads_L2 x1_2 K7 n8 x4_8 I9 = some r → mG D cy ad I9 L H → va_S (gA 18 ad) s.heap H locs → lv_has ls 8 [(0, .ref (ad 0)), (1, .int x1_2), (2, .int (x1_2 / (6 : Int32))), (3, .int (x1_2 - x1_2 / (6 : Int32) * (6 : Int32))), (4, .int x4_8)] → W p l e rm_X5_layLoads s m args below meth c H locs 0 0 Q (F0 m 28 ls []) := by
          intro K7 hkK7 n8
          induction n8 with
          | zero =>
            intro x4_8 I9 H locs ls h
            exact ono h
          | succ n8 ihn8 =>
            intro x4_8 I9 H locs ls h hG hS hl
            rw [X5_layLoads_L2] at h
            refine lv_iload hx hb dX5_layLoads_28 (lv_at hl 4 rfl) ?_
            refine lv_sipush (v := (256 : Int32)) hx hb dX5_layLoads_30 (by decide) ?_
            refine lv_icmp_ge (tgt := 140) hx hb dX5_layLoads_33 (by decide) (fun c11 => ?_) (fun c11 => ?_)
            · have h := ite_t h c11
              exact hkK7 I9 _ _ _ h hG hS (lv_sub hl [0, 1] rfl)
            · have h := ite_f h c11
              refine lv_iload_n hx hb dX5_layLoads_36 rfl (lv_at hl 2 rfl) ?_
              refine lv_iload_n hx hb dX5_layLoads_37 rfl (lv_at hl 3 rfl) ?_
              refine lv_icmp_ge (tgt := 140) hx hb dX5_layLoads_38 (by decide) (fun c12 => ?_) (fun c12 => ?_)
              · have h := ite_t h c12
                exact hkK7 I9 _ _ _ h hG hS (lv_sub hl [0, 1] rfl)
              · have h := ite_f h c12
                refine lv_iload_n hx hb dX5_layLoads_41 rfl (lv_at hl 3 rfl) ?_
                refine lv_aload_n hx hb dX5_layLoads_42 rfl (lv_at hl 0 rfl) ?_
                refine g_get hx hb l5 hown hK hG (k := 0) (by decide) (mE_5 _ _) vwCl_5 4 (by decide) k2 (fun _ h9 => h9) rfl dX5_layLoads_43 ?_
                refine lv_icmp_ge (tgt := 140) hx hb dX5_layLoads_46 (by decide) (fun c13 => ?_) (fun c13 => ?_)
                · have h := ite_t h c13
                  exact hkK7 I9 _ _ _ h hG hS (lv_sub hl [0, 1] rfl)
                · have h := ite_f h c13
                  refine lv_iload hx hb dX5_layLoads_49 (lv_at hl 4 rfl) ?_
                  refine lv_bipush (v := (16 : Int32)) hx hb dX5_layLoads_51 (by decide) ?_
                  refine lv_idiv hx hb dX5_layLoads_53 (by decide) ?_
                  refine lv_istore (lv' := [(5, .int (x4_8 / (16 : Int32))), (0, .ref (ad 0)), (1, .int x1_2), (2, .int (x1_2 / (6 : Int32))), (3, .int (x1_2 - x1_2 / (6 : Int32) * (6 : Int32))), (4, .int x4_8)]) hx hb dX5_layLoads_54 hl (by decide) rfl (fun ls hl => ?_)
                  refine lv_iload hx hb dX5_layLoads_56 (lv_at hl 5 rfl) ?_
                  refine lv_bipush (v := (16 : Int32)) hx hb dX5_layLoads_58 (by decide) ?_
                  refine lv_irem hx hb dX5_layLoads_60 (by decide) ?_
                  refine lv_istore (lv' := [(6, .int (x4_8 - x4_8 / (16 : Int32) * (16 : Int32))), (5, .int (x4_8 / (16 : Int32))), (0, .ref (ad 0)), (1, .int x1_2), (2, .int (x1_2 / (6 : Int32))), (3, .int (x1_2 - x1_2 / (6 : Int32) * (6 : Int32))), (4, .int x4_8)]) hx hb dX5_layLoads_61 hl (by decide) rfl (fun ls hl => ?_)
                  refine lv_iload hx hb dX5_layLoads_63 (lv_at hl 1 rfl) ?_
                  refine lv_iload hx hb dX5_layLoads_65 (lv_at hl 0 rfl) ?_
                  refine lv_iand hx hb dX5_layLoads_67 ?_
                  obtain ⟨q14, h9, h⟩ := obind h
                  have hk_q14 : ∀ (H : Heap) (locs : List Loc) (ls : Array Slot), mG D cy ad I9 L H → va_S (gA 18 ad) s.heap H locs → lv_has ls 8 [(0, .ref (ad 0)), (1, .int x1_2), (2, .int (x1_2 / (6 : Int32))), (3, .int (x1_2 - x1_2 / (6 : Int32) * (6 : Int32))), (4, .int x4_8), (5, .int (x4_8 / (16 : Int32))), (6, .int (x4_8 - x4_8 / (16 : Int32) * (16 : Int32)))] → W p l e rm_X5_layLoads s m args below meth c H locs 0 0 Q (F0 m 107 ls [.int q14]) := by
                    intro H locs ls hG hS hl
                    refine lv_istore (lv' := [(7, .int q14), (0, .ref (ad 0)), (1, .int x1_2), (2, .int (x1_2 / (6 : Int32))), (3, .int (x1_2 - x1_2 / (6 : Int32) * (6 : Int32))), (4, .int x4_8), (5, .int (x4_8 / (16 : Int32))), (6, .int (x4_8 - x4_8 / (16 : Int32) * (16 : Int32)))]) hx hb dX5_layLoads_107 hl (by decide) rfl (fun ls hl => ?_)
                    refine lv_aload_n hx hb dX5_layLoads_109 rfl (lv_at hl 1 rfl) ?_
                    refine g_get hx hb l5 hown hK hG (k := 0) (by decide) (mE_5 _ _) vwCl_5 29 (by decide) k1 (fun _ h9 => h9) rfl dX5_layLoads_110 ?_
                    refine lv_iload_n hx hb dX5_layLoads_113 rfl (lv_at hl 2 rfl) ?_
                    refine lv_dup2_11 hx hb dX5_layLoads_114 rfl rfl ?_
                    refine g_ald hx hb hK hG (k := 15) (n := 36) (show mIA 15 36 from by decide +kernel).1.1 (mIA_e (show mIA 15 36 from by decide +kernel) _ _) 0 rfl h dX5_layLoads_115 (fun v19 h => ?_)
                    refine lv_iload hx hb dX5_layLoads_116 (lv_at hl 0 rfl) ?_
                    obtain ⟨q20, h9, h⟩ := obind h
                    have hk_q20 : ∀ (H : Heap) (locs : List Loc) (ls : Array Slot), mG D cy ad I9 L H → va_S (gA 18 ad) s.heap H locs → lv_has ls 8 [(0, .ref (ad 0)), (1, .int x1_2), (2, .int (x1_2 / (6 : Int32))), (3, .int (x1_2 - x1_2 / (6 : Int32) * (6 : Int32))), (4, .int x4_8)] → W p l e rm_X5_layLoads s m args below meth c H locs 0 0 Q (F0 m 132 ls [.int q20, .int v19, .int x1_2, .ref (ad 15)]) := by
                      intro H locs ls hG hS hl
                      refine lv_ior hx hb dX5_layLoads_132 ?_
                      refine g_ast hx hb hK hG hi hS (k := 15) (n := 36) (show mIA 15 36 from by decide +kernel).1.1 (fun f => mIA_e (show mIA 15 36 from by decide +kernel) f _) 0 rfl h dX5_layLoads_133 (fun I22 H locs h hG hS => ?_)
                      refine lv_iinc (v := (x4_8 + (1 : Int32))) (lv' := [(4, .int (x4_8 + (1 : Int32))), (0, .ref (ad 0)), (1, .int x1_2), (2, .int (x1_2 / (6 : Int32))), (3, .int (x1_2 - x1_2 / (6 : Int32) * (6 : Int32)))]) hx hb dX5_layLoads_134 hl (k := 4) rfl rfl (by decide) rfl (fun ls hl => ?_)
                      refine lv_goto (tgt := 28) hx hb dX5_layLoads_137 (by decide) ?_
                      exact ihn8 (x4_8 + (1 : Int32)) I22 _ _ _ h hG hS (lv_sub hl [1, 2, 3, 4, 0] rfl)
                    clear h
                    have h := h9
                    clear h9
                    refine lv_if_eq (tgt := 131) hx hb dX5_layLoads_118 (by decide) (fun c21 => ?_) (fun c21 => ?_)
                    · have h := ite_t h c21
                      refine lv_iconst (v := (0 : Int32)) hx hb dX5_layLoads_131 (by decide) ?_
                      have h := Option.some.inj h
                      subst h
                      exact hk_q20 _ _ _ hG hS (lv_sub hl [1, 2, 3, 4, 5] rfl)
                    · have h := ite_f h c21
                      refine lv_iconst (v := (1 : Int32)) hx hb dX5_layLoads_121 (by decide) ?_
                      refine lv_iload hx hb dX5_layLoads_122 (lv_at hl 6 rfl) ?_
                      refine lv_iload hx hb dX5_layLoads_124 (lv_at hl 7 rfl) ?_
                      refine lv_ior hx hb dX5_layLoads_126 ?_
                      refine lv_ishl hx hb dX5_layLoads_127 ?_
                      refine lv_goto (tgt := 132) hx hb dX5_layLoads_128 (by decide) ?_
                      have h := Option.some.inj h
                      subst h
                      exact hk_q20 _ _ _ hG hS (lv_sub hl [1, 2, 3, 4, 5] rfl)
                  clear h
                  have h := h9
                  clear h9
                  refine lv_if_ne (tgt := 106) hx hb dX5_layLoads_68 (by decide) (fun c15 => ?_) (fun c15 => ?_)
                  · have h := ite_f h c15
                    refine lv_iconst (v := (0 : Int32)) hx hb dX5_layLoads_106 (by decide) ?_
                    have h := Option.some.inj h
                    subst h
                    exact hk_q14 _ _ _ hG hS (lv_sub hl [2, 3, 4, 5, 6, 1, 0] rfl)
                  · have h := ite_t h c15
                    refine lv_iload hx hb dX5_layLoads_71 (lv_at hl 1 rfl) ?_
                    refine lv_iload hx hb dX5_layLoads_73 (lv_at hl 0 rfl) ?_
                    refine lv_ior hx hb dX5_layLoads_75 ?_
                    refine lv_iconst (v := (1 : Int32)) hx hb dX5_layLoads_76 (by decide) ?_
                    refine lv_aload_n hx hb dX5_layLoads_77 rfl (lv_at hl 2 rfl) ?_
                    refine g_get hx hb l5 hown hK hG (k := 0) (by decide) (mE_5 _ _) vwCl_5 2 (by decide) k3 (fun _ h9 => h9) rfl dX5_layLoads_78 ?_
                    refine lv_ishl hx hb dX5_layLoads_81 ?_
                    refine lv_icmp_ge (tgt := 106) hx hb dX5_layLoads_82 (by decide) (fun c16 => ?_) (fun c16 => ?_)
                    · have h := ite_t h c16
                      refine lv_iconst (v := (0 : Int32)) hx hb dX5_layLoads_106 (by decide) ?_
                      have h := Option.some.inj h
                      subst h
                      exact hk_q14 _ _ _ hG hS (lv_sub hl [2, 3, 4, 5, 6, 1, 0] rfl)
                    · have h := ite_f h c16
                      refine lv_aload_n hx hb dX5_layLoads_85 rfl (lv_at hl 2 rfl) ?_
                      refine lv_iload_n hx hb dX5_layLoads_86 rfl (lv_at hl 4 rfl) ?_
                      refine lv_iload_n hx hb dX5_layLoads_87 rfl (lv_at hl 5 rfl) ?_
                      refine lv_iload hx hb dX5_layLoads_88 (lv_at hl 1 rfl) ?_
                      refine lv_iload hx hb dX5_layLoads_90 (lv_at hl 0 rfl) ?_
                      obtain ⟨v17, ev17, h⟩ := obind h
                      refine g_endi (va_runV (As := [.int (x1_2 / (6 : Int32)), .int (x1_2 - x1_2 / (6 : Int32) * (6 : Int32)), .int (x4_8 / (16 : Int32)), .int (x4_8 - x4_8 / (16 : Int32) * (16 : Int32))]) (rest := []) ⟨hx, hb, hml, hown, hts⟩ (k_X5_sinkOf l D cy ad hi I9 L (x1_2 / (6 : Int32)) (x1_2 - x1_2 / (6 : Int32) * (6 : Int32)) (x4_8 / (16 : Int32)) (x4_8 - x4_8 / (16 : Int32) * (16 : Int32)) v17 ev17) (cwV 4 hts gX5_layLoads_X5_sinkOf rfl rfl rfl cd_X5_sinkOf ⟨Nat.le_of_ble_eq_true rfl, Nat.le_of_ble_eq_true rfl⟩) ⟨g_blind mZm, g_recv hK hG (k := 0) (by decide) (mE_5 _ _) vwCl_5, g_pre mZm hK hG hZ hS⟩ rfl rfl hl.1 rfl (lv_room (Nat.le_of_ble_eq_true rfl)) dX5_layLoads_92 ⟨Nat.le_refl _, Nat.le_refl _⟩) hS (fun H locs hG hS => ?_)
                      refine lv_aload_n hx hb dX5_layLoads_95 rfl (lv_at hl 2 rfl) ?_
                      refine g_get hx hb l5 hown hK hG (k := 0) (by decide) (mE_5 _ _) vwCl_5 1 (by decide) k4 (fun _ h9 => h9) rfl dX5_layLoads_96 ?_
                      refine lv_icmp_gt (tgt := 106) hx hb dX5_layLoads_99 (by decide) (fun c18 => ?_) (fun c18 => ?_)
                      · have h := ite_t h c18
                        refine lv_iconst (v := (0 : Int32)) hx hb dX5_layLoads_106 (by decide) ?_
                        have h := Option.some.inj h
                        subst h
                        exact hk_q14 _ _ _ hG hS (lv_sub hl [2, 3, 4, 5, 6, 1, 0] rfl)
                      · have h := ite_f h c18
                        refine lv_iconst (v := (1 : Int32)) hx hb dX5_layLoads_102 (by decide) ?_
                        refine lv_goto (tgt := 107) hx hb dX5_layLoads_103 (by decide) ?_
                        have h := Option.some.inj h
                        subst h
                        exact hk_q14 _ _ _ hG hS (lv_sub hl [2, 3, 4, 5, 6, 1, 0] rfl)
        refine keyK7 _ (fun I10 H locs ls h hG hS hl => ?_) bigF (0 : Int32) I6 _ _ _ h hG hS (lv_sub hl [3, 4, 2, 1, 0] rfl)
        clear keyK7
        refine lv_iinc (v := (x1_2 + (1 : Int32))) (lv' := [(1, .int (x1_2 + (1 : Int32))), (0, .ref (ad 0))]) hx hb dX5_layLoads_140 hl (k := 1) rfl rfl (by decide) rfl (fun ls hl => ?_)
        refine lv_goto (tgt := 2) hx hb dX5_layLoads_143 (by decide) ?_
        exact ihn2 (x1_2 + (1 : Int32)) I10 _ _ _ h hG hS (lv_sub hl [1, 0] rfl)
  refine keyK1 _ (fun I4 H locs ls h hG hS hl => ?_) bigF (0 : Int32) I _ _ _ h hG hS (lv_sub hl [1, 0] rfl)
  clear keyK1
  have h := Option.some.inj h
  subst h
  subst hQ
  exact g_vret hx hb hr hlocks mZm hK hZ hG hS dX5_layLoads_146
def X5_mayGo (I : xMem) (x1 : Int32) (x2 : Int32) (x3 : Int32) : Option (Int32) := (if (X5_has x1 ((4 : Int32) + (x2 / (6 : Int32)))) = (0 : Int32) then (some ((x1 ^^^ (-1 : Int32)) &&& (15 : Int32))) else (some (x1 &&& (15 : Int32)))).bind fun q1 => (rdI I 15 36 x2).bind fun v3 => if (X5_has v3 x3) = (0 : Int32) then (some (nz (0 : Int32))) else (if (X5_has x1 ((4 : Int32) + (x2 / (6 : Int32)))) = (X5_has x1 ((4 : Int32) + (x2 - x2 / (6 : Int32) * (6 : Int32)))) then (if (x3 &&& (q1 ^^^ (-1 : Int32))) = (0 : Int32) then (some (nz (1 : Int32))) else (some (nz (0 : Int32)))) else (some (nz (0 : Int32))))
abbrev rm_X5_mayGo : Room := { frames := 1, cells := 0, slots := 0, locals := 21 }
theorem cd_X5_mayGo : yX5_mayGo.cls = RX5 ∧ yX5_mayGo.cls ≠ "java/lang/invoke/MethodHandle" ∧ yX5_mayGo.cls ≠ "java/lang/invoke/VarHandle" ∧ (parseMethodDescriptor yX5_mayGo.desc).map (fun d => d.parameters.length) = some 3 := by decide +kernel
set_option maxHeartbeats 4000000 in
set_option maxRecDepth 100000 in
theorem k_X5_mayGo (l : Launch) (D : va_G) (cy : Nat → ClassId) (ad : Nat → Nat) (hi : gInj 18 ad) (I : xMem) (L : xLon) (x1 : Int32) (x2 : Int32) (x3 : Int32) (r : Int32) (h : X5_mayGo I x1 x2 x3 = some r) : Met l yX5_mayGo wsX5_mayGo rm_X5_mayGo (va_Pc [.ref (ad 0), .int x1, .int x2, .int x3] (mW D cy ad I L)) (mPi D cy ad I L r) 0 0 (gA 18 ad) := by
  refine g_met (own := RX5) (cc := cX5_mayGo) (maxL := 8) (ret := (some .boolean)) (by decide) rfl (Nat.le_of_ble_eq_true rfl) rfl ?_
  intro p e s m args below meth c ls hx hb hml hr hlocks hown hts hG hK hZ hl
  generalize hQ : MQ below _ args s 0 0 _ = Q
  have hl : lv_has ls 8 [(0, .ref (ad 0)), (1, .int x1), (2, .int x2), (3, .int x3)] := hl
  have hS : va_S (gA 18 ad) s.heap s.heap [] := va_S.rf
  have l5 : ∀ w ∈ wsX50, w.before args s = true := fun w h => hts w (List.mem_cons_of_mem _ (List.mem_append_right _ h))
  have k1 := hts (.fieldLink RX5 57 "PairStairsModel" "loads" "[I") (by decide +kernel)
  unfold X5_mayGo at h
  refine lv_iload_n hx hb dX5_mayGo_0 rfl (lv_at hl 2 rfl) ?_
  refine lv_bipush (v := (6 : Int32)) hx hb dX5_mayGo_1 (by decide) ?_
  refine lv_idiv hx hb dX5_mayGo_3 (by decide) ?_
  refine lv_istore (lv' := [(4, .int (x2 / (6 : Int32))), (0, .ref (ad 0)), (1, .int x1), (2, .int x2), (3, .int x3)]) hx hb dX5_mayGo_4 hl (by decide) rfl (fun ls hl => ?_)
  refine lv_iload_n hx hb dX5_mayGo_6 rfl (lv_at hl 3 rfl) ?_
  refine lv_bipush (v := (6 : Int32)) hx hb dX5_mayGo_7 (by decide) ?_
  refine lv_irem hx hb dX5_mayGo_9 (by decide) ?_
  refine lv_istore (lv' := [(5, .int (x2 - x2 / (6 : Int32) * (6 : Int32))), (4, .int (x2 / (6 : Int32))), (0, .ref (ad 0)), (1, .int x1), (2, .int x2), (3, .int x3)]) hx hb dX5_mayGo_10 hl (by decide) rfl (fun ls hl => ?_)
  refine lv_iload_n hx hb dX5_mayGo_12 rfl (lv_at hl 3 rfl) ?_
  refine lv_iconst (v := (4 : Int32)) hx hb dX5_mayGo_13 (by decide) ?_
  refine lv_iload hx hb dX5_mayGo_14 (lv_at hl 1 rfl) ?_
  refine lv_iadd hx hb dX5_mayGo_16 ?_
  refine g_endi (va_runS (As := [.int x1, .int ((4 : Int32) + (x2 / (6 : Int32)))]) (rest := []) ⟨hx, hb, hml, hown, hts⟩ (k_X5_has l D cy ad hi I L x1 ((4 : Int32) + (x2 / (6 : Int32))) _ rfl) (va_cwS 2 hts gX5_mayGo_X5_has rfl rfl rfl cd_X5_has.2 ⟨Nat.le_of_ble_eq_true rfl, Nat.le_of_ble_eq_true rfl⟩) ⟨g_blind mZm, g_pre mZm hK hG hZ hS⟩ rfl rfl hl.1 rfl (lv_room (Nat.le_of_ble_eq_true rfl)) dX5_mayGo_17 ⟨Nat.le_refl _, Nat.le_refl _⟩) hS (fun H locs hG hS => ?_)
  refine lv_istore (lv' := [(6, .int (X5_has x1 ((4 : Int32) + (x2 / (6 : Int32))))), (5, .int (x2 - x2 / (6 : Int32) * (6 : Int32))), (4, .int (x2 / (6 : Int32))), (0, .ref (ad 0)), (1, .int x1), (2, .int x2), (3, .int x3)]) hx hb dX5_mayGo_20 hl (by decide) rfl (fun ls hl => ?_)
  refine lv_iload hx hb dX5_mayGo_22 (lv_at hl 0 rfl) ?_
  obtain ⟨q1, h9, h⟩ := obind h
  have hk_q1 : ∀ (H : Heap) (locs : List Loc) (ls : Array Slot), mG D cy ad I L H → va_S (gA 18 ad) s.heap H locs → lv_has ls 8 [(0, .ref (ad 0)), (1, .int x1), (2, .int x2), (3, .int x3), (5, .int (x2 - x2 / (6 : Int32) * (6 : Int32))), (6, .int (X5_has x1 ((4 : Int32) + (x2 / (6 : Int32)))))] → W p l e rm_X5_mayGo s m args below meth c H locs 0 0 Q (F0 m 40 ls [.int q1]) := by
    intro H locs ls hG hS hl
    refine lv_istore (lv' := [(7, .int q1), (0, .ref (ad 0)), (1, .int x1), (2, .int x2), (3, .int x3), (5, .int (x2 - x2 / (6 : Int32) * (6 : Int32))), (6, .int (X5_has x1 ((4 : Int32) + (x2 / (6 : Int32)))))]) hx hb dX5_mayGo_40 hl (by decide) rfl (fun ls hl => ?_)
    refine lv_aload_n hx hb dX5_mayGo_42 rfl (lv_at hl 1 rfl) ?_
    refine g_get hx hb l5 hown hK hG (k := 0) (by decide) (mE_5 _ _) vwCl_5 29 (by decide) k1 (fun _ h9 => h9) rfl dX5_mayGo_43 ?_
    refine lv_iload_n hx hb dX5_mayGo_46 rfl (lv_at hl 3 rfl) ?_
    refine g_ald hx hb hK hG (k := 15) (n := 36) (show mIA 15 36 from by decide +kernel).1.1 (mIA_e (show mIA 15 36 from by decide +kernel) _ _) 0 rfl h dX5_mayGo_47 (fun v3 h => ?_)
    refine lv_iload_n hx hb dX5_mayGo_48 rfl (lv_at hl 4 rfl) ?_
    refine g_endi (va_runS (As := [.int v3, .int x3]) (rest := []) ⟨hx, hb, hml, hown, hts⟩ (k_X5_has l D cy ad hi I L v3 x3 _ rfl) (va_cwS 2 hts gX5_mayGo_X5_has rfl rfl rfl cd_X5_has.2 ⟨Nat.le_of_ble_eq_true rfl, Nat.le_of_ble_eq_true rfl⟩) ⟨g_blind mZm, g_pre mZm hK hG hZ hS⟩ rfl rfl hl.1 rfl (lv_room (Nat.le_of_ble_eq_true rfl)) dX5_mayGo_49 ⟨Nat.le_refl _, Nat.le_refl _⟩) hS (fun H locs hG hS => ?_)
    refine lv_if_eq (tgt := 81) hx hb dX5_mayGo_52 (by decide) (fun c4 => ?_) (fun c4 => ?_)
    · have h := ite_t h c4
      refine lv_iconst (v := (0 : Int32)) hx hb dX5_mayGo_81 (by decide) ?_
      have h := Option.some.inj h
      subst h
      subst hQ
      exact g_zret hx hb hr hlocks mZm hK hZ hG hS rfl dX5_mayGo_82
    · have h := ite_f h c4
      refine lv_iload hx hb dX5_mayGo_55 (lv_at hl 6 rfl) ?_
      refine lv_iload_n hx hb dX5_mayGo_57 rfl (lv_at hl 2 rfl) ?_
      refine lv_iconst (v := (4 : Int32)) hx hb dX5_mayGo_58 (by decide) ?_
      refine lv_iload hx hb dX5_mayGo_59 (lv_at hl 5 rfl) ?_
      refine lv_iadd hx hb dX5_mayGo_61 ?_
      refine g_endi (va_runS (As := [.int x1, .int ((4 : Int32) + (x2 - x2 / (6 : Int32) * (6 : Int32)))]) (rest := [.int (X5_has x1 ((4 : Int32) + (x2 / (6 : Int32))))]) ⟨hx, hb, hml, hown, hts⟩ (k_X5_has l D cy ad hi I L x1 ((4 : Int32) + (x2 - x2 / (6 : Int32) * (6 : Int32))) _ rfl) (va_cwS 2 hts gX5_mayGo_X5_has rfl rfl rfl cd_X5_has.2 ⟨Nat.le_of_ble_eq_true rfl, Nat.le_of_ble_eq_true rfl⟩) ⟨g_blind mZm, g_pre mZm hK hG hZ hS⟩ rfl rfl hl.1 rfl (lv_room (Nat.le_of_ble_eq_true rfl)) dX5_mayGo_62 ⟨Nat.le_refl _, Nat.le_refl _⟩) hS (fun H locs hG hS => ?_)
      refine lv_icmp_ne (tgt := 81) hx hb dX5_mayGo_65 (by decide) (fun c5 => ?_) (fun c5 => ?_)
      · have h := ite_f h c5
        refine lv_iconst (v := (0 : Int32)) hx hb dX5_mayGo_81 (by decide) ?_
        have h := Option.some.inj h
        subst h
        subst hQ
        exact g_zret hx hb hr hlocks mZm hK hZ hG hS rfl dX5_mayGo_82
      · have h := ite_t h c5
        refine lv_iload_n hx hb dX5_mayGo_68 rfl (lv_at hl 4 rfl) ?_
        refine lv_iload hx hb dX5_mayGo_69 (lv_at hl 0 rfl) ?_
        refine lv_iconst (v := (-1 : Int32)) hx hb dX5_mayGo_71 (by decide) ?_
        refine lv_ixor hx hb dX5_mayGo_72 ?_
        refine lv_iand hx hb dX5_mayGo_73 ?_
        refine lv_if_ne (tgt := 81) hx hb dX5_mayGo_74 (by decide) (fun c6 => ?_) (fun c6 => ?_)
        · have h := ite_f h c6
          refine lv_iconst (v := (0 : Int32)) hx hb dX5_mayGo_81 (by decide) ?_
          have h := Option.some.inj h
          subst h
          subst hQ
          exact g_zret hx hb hr hlocks mZm hK hZ hG hS rfl dX5_mayGo_82
        · have h := ite_t h c6
          refine lv_iconst (v := (1 : Int32)) hx hb dX5_mayGo_77 (by decide) ?_
          refine lv_goto (tgt := 82) hx hb dX5_mayGo_78 (by decide) ?_
          have h := Option.some.inj h
          subst h
          subst hQ
          exact g_zret hx hb hr hlocks mZm hK hZ hG hS rfl dX5_mayGo_82
  clear h
  have h := h9
  clear h9
  refine lv_if_eq (tgt := 34) hx hb dX5_mayGo_24 (by decide) (fun c2 => ?_) (fun c2 => ?_)
  · have h := ite_t h c2
    refine lv_iload_n hx hb dX5_mayGo_34 rfl (lv_at hl 4 rfl) ?_
    refine lv_iconst (v := (-1 : Int32)) hx hb dX5_mayGo_35 (by decide) ?_
    refine lv_ixor hx hb dX5_mayGo_36 ?_
    refine lv_bipush (v := (15 : Int32)) hx hb dX5_mayGo_37 (by decide) ?_
    refine lv_iand hx hb dX5_mayGo_39 ?_
    have h := Option.some.inj h
    subst h
    exact hk_q1 _ _ _ hG hS (lv_sub hl [3, 4, 5, 6, 1, 0] rfl)
  · have h := ite_f h c2
    refine lv_iload_n hx hb dX5_mayGo_27 rfl (lv_at hl 4 rfl) ?_
    refine lv_bipush (v := (15 : Int32)) hx hb dX5_mayGo_28 (by decide) ?_
    refine lv_iand hx hb dX5_mayGo_30 ?_
    refine lv_goto (tgt := 40) hx hb dX5_mayGo_31 (by decide) ?_
    have h := Option.some.inj h
    subst h
    exact hk_q1 _ _ _ hG hS (lv_sub hl [3, 4, 5, 6, 1, 0] rfl)
def X5_behind (x1 : Int32) (x2 : Int32) (x3 : Int32) : Int32 := (x1 ^^^ ((((16 : Int32) <<< ((x2 / (6 : Int32)) &&& 31)) ||| ((16 : Int32) <<< ((x2 - x2 / (6 : Int32) * (6 : Int32)) &&& 31))) ||| x3))
abbrev rm_X5_behind : Room := { frames := 0, cells := 0, slots := 0, locals := 0 }
theorem cd_X5_behind : yX5_behind.cls = RX5 ∧ yX5_behind.cls ≠ "java/lang/invoke/MethodHandle" ∧ yX5_behind.cls ≠ "java/lang/invoke/VarHandle" ∧ (parseMethodDescriptor yX5_behind.desc).map (fun d => d.parameters.length) = some 3 := by decide +kernel
set_option maxHeartbeats 4000000 in
set_option maxRecDepth 100000 in
theorem k_X5_behind (l : Launch) (D : va_G) (cy : Nat → ClassId) (ad : Nat → Nat) (hi : gInj 18 ad) (I : xMem) (L : xLon) (x1 : Int32) (x2 : Int32) (x3 : Int32) (r : Int32) (h : X5_behind x1 x2 x3 = r) : Met l yX5_behind wsX5_behind rm_X5_behind (va_Pc [.int x1, .int x2, .int x3] (mW D cy ad I L)) (mPi D cy ad I L r) 0 0 (gA 18 ad) := by
  refine g_met (own := RX5) (cc := cX5_behind) (maxL := 3) (ret := (some .int)) (by decide) rfl (Nat.le_of_ble_eq_true rfl) rfl ?_
  intro p e s m args below meth c ls hx hb hml hr hlocks hown hts hG hK hZ hl
  generalize hQ : MQ below _ args s 0 0 _ = Q
  have hl : lv_has ls 3 [(0, .int x1), (1, .int x2), (2, .int x3)] := hl
  have hS : va_S (gA 18 ad) s.heap s.heap [] := va_S.rf
  unfold X5_behind at h
  refine lv_iload_n hx hb dX5_behind_0 rfl (lv_at hl 0 rfl) ?_
  refine lv_bipush (v := (16 : Int32)) hx hb dX5_behind_1 (by decide) ?_
  refine lv_iload_n hx hb dX5_behind_3 rfl (lv_at hl 1 rfl) ?_
  refine lv_bipush (v := (6 : Int32)) hx hb dX5_behind_4 (by decide) ?_
  refine lv_idiv hx hb dX5_behind_6 (by decide) ?_
  refine lv_ishl hx hb dX5_behind_7 ?_
  refine lv_bipush (v := (16 : Int32)) hx hb dX5_behind_8 (by decide) ?_
  refine lv_iload_n hx hb dX5_behind_10 rfl (lv_at hl 1 rfl) ?_
  refine lv_bipush (v := (6 : Int32)) hx hb dX5_behind_11 (by decide) ?_
  refine lv_irem hx hb dX5_behind_13 (by decide) ?_
  refine lv_ishl hx hb dX5_behind_14 ?_
  refine lv_ior hx hb dX5_behind_15 ?_
  refine lv_iload_n hx hb dX5_behind_16 rfl (lv_at hl 2 rfl) ?_
  refine lv_ior hx hb dX5_behind_17 ?_
  refine lv_ixor hx hb dX5_behind_18 ?_
  subst h
  subst hQ
  exact g_iret hx hb hr hlocks mZm hK hZ hG hS rfl dX5_behind_19
