def X4_found (I : xMem) (x1 : Int32) : Option (Int32 × xMem) := (some (wr I 0 9 x1)).bind fun I1 => (rdI I1 51 6 x1).bind fun v2 => (wrI I1 51 6 x1 (v2 + (1 : Int32))).bind fun I3 => some ((-3 : Int32), I3)
abbrev rm_X4_found : Room := { frames := 0, cells := 0, slots := 0, locals := 0 }
theorem cd_X4_found : yX4_found.cls = RX4 ∧ yX4_found.cls ≠ "java/lang/invoke/MethodHandle" ∧ yX4_found.cls ≠ "java/lang/invoke/VarHandle" ∧ (parseMethodDescriptor yX4_found.desc).map (fun d => d.parameters.length) = some 1 := by decide +kernel
set_option maxHeartbeats 4000000 in
set_option maxRecDepth 100000 in
theorem k_X4_found (l : Launch) (D : va_G) (cy : Nat → ClassId) (ad : Nat → Nat) (P Dr : Nat) (tI : xTab) (hX : cOk ad P Dr) (I : xMem) (L : xLon) (x1 : Int32) (r : Int32 × xMem) (h : X4_found I x1 = some r) : Met l yX4_found wsX4_found rm_X4_found (va_Pc [.ref (ad 0), .int x1] (cW D cy ad P Dr tI I L)) (cPi D cy ad P Dr tI r.2 L r.1) 0 0 (gA 64 ad) := by
  refine g_met (own := RX4) (cc := cX4_found) (maxL := 2) (ret := (some .int)) (by decide) rfl (Nat.le_of_ble_eq_true rfl) rfl ?_
  intro p e s m args below meth c ls hx hb hml hr hlocks hown hts hG hK hZ hl
  generalize hQ : MQ below _ args s 0 0 _ = Q
  have hl : lv_has ls 2 [(0, .ref (ad 0)), (1, .int x1)] := hl
  have hS : va_S (gA 64 ad) s.heap s.heap [] := va_S.rf
  obtain ⟨hi, hP, hDr⟩ := id hX
  have l4 : ∀ w ∈ wsX40, w.before args s = true := fun w h => hts w (List.mem_cons_of_mem _ (List.mem_append_right _ h))
  have k1 := hts (.fieldLink RX4 275 "PairStairs" "latestFinding" "I") (by decide +kernel)
  have k2 := hts (.fieldLink RX4 43 "PairStairs" "findingTimes" "[I") (by decide +kernel)
  unfold X4_found at h
  refine lv_aload_n hx hb dX4_found_0 rfl (lv_at hl 0 rfl) ?_
  refine lv_iload_n hx hb dX4_found_1 rfl (lv_at hl 1 rfl) ?_
  obtain ⟨I1, eI1, h⟩ := obind h
  refine g_put hx hb l4 tyX4_ok nmX4 hown hK hG hi hS (k := 0) (by decide) (cE_4 _ _) vwCl_4 9 (by decide) k1 (fun _ h9 => h9) rfl rfl (Nat.le_of_ble_eq_true rfl) (by rw [cE_4 _ _]; rfl) dX4_found_2 (fun H locs hG hS => ?_)
  rw [Option.some.inj eI1] at hG
  refine lv_aload_n hx hb dX4_found_5 rfl (lv_at hl 0 rfl) ?_
  refine g_get hx hb l4 hown hK hG (k := 0) (by decide) (cE_4 _ _) vwCl_4 6 (by decide) k2 (fun _ h9 => h9) rfl dX4_found_6 ?_
  refine lv_iload_n hx hb dX4_found_9 rfl (lv_at hl 1 rfl) ?_
  refine lv_dup2_11 hx hb dX4_found_10 rfl rfl ?_
  refine g_ald hx hb hK hG (k := 51) (n := 6) (show cIA 51 6 from by decide +kernel).1.1 (cIA_e (show cIA 51 6 from by decide +kernel) _ _) 0 rfl h dX4_found_11 (fun v2 h => ?_)
  refine lv_iconst (v := (1 : Int32)) hx hb dX4_found_12 (by decide) ?_
  refine lv_iadd hx hb dX4_found_13 ?_
  refine g_ast hx hb hK hG hi hS (k := 51) (n := 6) (show cIA 51 6 from by decide +kernel).1.1 (fun f => cIA_e (show cIA 51 6 from by decide +kernel) f _) 0 rfl h dX4_found_14 (fun I3 H locs h hG hS => ?_)
  refine lv_bipush (v := (-3 : Int32)) hx hb dX4_found_15 (by decide) ?_
  have h := Option.some.inj h
  subst h
  subst hQ
  exact g_iret hx hb hr hlocks cZm hK hZ hG hS rfl dX4_found_17
def X4_renewed (I : xMem) (y1 : Nat) (x2 : Int32) (x3 : Int32) : Option (Int32 × xMem) := if (X2_hasNo y1 I x2) = (0 : Int32) then (if x3 ≤ (I y1 1) then (if (0 : Int32) ≤ x3 then ((X2_renew y1 I x2 x3).bind fun q4 => some (x3, q4)) else ((X4_found I (5 : Int32)).bind fun q5 => some (q5.1, q5.2))) else (some ((-1 : Int32), I))) else (some ((-1 : Int32), I))
abbrev rm_X4_renewed : Room := { frames := 2, cells := 0, slots := 0, locals := 45 }
theorem cd_X4_renewed : yX4_renewed.cls = RX4 ∧ yX4_renewed.cls ≠ "java/lang/invoke/MethodHandle" ∧ yX4_renewed.cls ≠ "java/lang/invoke/VarHandle" ∧ (parseMethodDescriptor yX4_renewed.desc).map (fun d => d.parameters.length) = some 3 := by decide +kernel
set_option maxHeartbeats 4000000 in
set_option maxRecDepth 100000 in
theorem k_X4_renewed (l : Launch) (D : va_G) (cy : Nat → ClassId) (ad : Nat → Nat) (P Dr : Nat) (tI : xTab) (hX : cOk ad P Dr) (I : xMem) (L : xLon) {y1 : Nat} (hY1 : cShelf y1) (x2 : Int32) (x3 : Int32) (r : Int32 × xMem) (h : X4_renewed I y1 x2 x3 = some r) : Met l yX4_renewed wsX4_renewed rm_X4_renewed (va_Pc [.ref (ad 0), .ref (ad y1), .int x2, .int x3] (cW D cy ad P Dr tI I L)) (cPi D cy ad P Dr tI r.2 L r.1) 0 0 (gA 64 ad) := by
  refine g_met (own := RX4) (cc := cX4_renewed) (maxL := 4) (ret := (some .int)) (by decide) rfl (Nat.le_of_ble_eq_true rfl) rfl ?_
  intro p e s m args below meth c ls hx hb hml hr hlocks hown hts hG hK hZ hl
  generalize hQ : MQ below _ args s 0 0 _ = Q
  have hl : lv_has ls 4 [(0, .ref (ad 0)), (1, .ref (ad y1)), (2, .int x2), (3, .int x3)] := hl
  have hS : va_S (gA 64 ad) s.heap s.heap [] := va_S.rf
  obtain ⟨hi, hP, hDr⟩ := id hX
  have l2 : ∀ w ∈ wsX20, w.before args s = true := fun w h => hts w (List.mem_cons_of_mem _ (List.mem_append_left _ (List.mem_append_right _ h)))
  have k1 := hts (.fieldLink RX4 292 "PairStairs$Shelf" "most" "I") (by decide +kernel)
  unfold X4_renewed at h
  refine lv_aload_n hx hb dX4_renewed_0 rfl (lv_at hl 1 rfl) ?_
  refine lv_iload_n hx hb dX4_renewed_1 rfl (lv_at hl 2 rfl) ?_
  refine g_endi (va_runV (As := [.int x2]) (rest := []) ⟨hx, hb, hml, hown, hts⟩ (k_X2_hasNo l D cy ad P Dr tI hX (b := y1) hY1 I L x2 _ rfl) (cwV 1 hts gX4_renewed_X2_hasNo rfl rfl rfl cd_X2_hasNo ⟨Nat.le_of_ble_eq_true rfl, Nat.le_of_ble_eq_true rfl⟩) ⟨g_blind cZm, g_recv hK hG (k := y1) hY1.1.1 (cE_2 hY1.1 _ _) vwCl_2, g_pre cZm hK hG hZ hS⟩ rfl rfl hl.1 rfl (lv_room (Nat.le_of_ble_eq_true rfl)) dX4_renewed_2 ⟨Nat.le_refl _, Nat.le_refl _⟩) hS (fun H locs hG hS => ?_)
  refine lv_if_ne (tgt := 16) hx hb dX4_renewed_5 (by decide) (fun c1 => ?_) (fun c1 => ?_)
  · have h := ite_f h c1
    refine lv_iconst (v := (-1 : Int32)) hx hb dX4_renewed_16 (by decide) ?_
    have h := Option.some.inj h
    subst h
    subst hQ
    exact g_iret hx hb hr hlocks cZm hK hZ hG hS rfl dX4_renewed_17
  · have h := ite_t h c1
    refine lv_iload_n hx hb dX4_renewed_8 rfl (lv_at hl 3 rfl) ?_
    refine lv_aload_n hx hb dX4_renewed_9 rfl (lv_at hl 1 rfl) ?_
    refine g_get hx hb l2 hown hK hG (k := y1) hY1.1.1 (cE_2 hY1.1 _ _) vwCl_2 1 (by decide) k1 (fun _ h9 => h9) rfl dX4_renewed_10 ?_
    refine lv_icmp_le (tgt := 18) hx hb dX4_renewed_13 (by decide) (fun c2 => ?_) (fun c2 => ?_)
    · have h := ite_t h c2
      refine lv_iload_n hx hb dX4_renewed_18 rfl (lv_at hl 3 rfl) ?_
      refine lv_if_ge (tgt := 28) hx hb dX4_renewed_19 (by decide) (fun c3 => ?_) (fun c3 => ?_)
      · have h := ite_t h c3
        refine lv_aload_n hx hb dX4_renewed_28 rfl (lv_at hl 1 rfl) ?_
        refine lv_iload_n hx hb dX4_renewed_29 rfl (lv_at hl 2 rfl) ?_
        refine lv_iload_n hx hb dX4_renewed_30 rfl (lv_at hl 3 rfl) ?_
        obtain ⟨q4, eq4, h⟩ := obind h
        refine g_endv (va_runV (As := [.int x2, .int x3]) (rest := []) ⟨hx, hb, hml, hown, hts⟩ (k_X2_renew l D cy ad P Dr tI hX (b := y1) hY1 I L x2 x3 q4 eq4) (cwV 2 hts gX4_renewed_X2_renew rfl rfl rfl cd_X2_renew ⟨Nat.le_of_ble_eq_true rfl, Nat.le_of_ble_eq_true rfl⟩) ⟨g_blind cZm, g_recv hK hG (k := y1) hY1.1.1 (cE_2 hY1.1 _ _) vwCl_2, g_pre cZm hK hG hZ hS⟩ rfl rfl hl.1 rfl (lv_room (Nat.le_of_ble_eq_true rfl)) dX4_renewed_31 ⟨Nat.le_refl _, Nat.le_refl _⟩) hS (fun H locs hG hS => ?_)
        refine lv_iload_n hx hb dX4_renewed_34 rfl (lv_at hl 3 rfl) ?_
        have h := Option.some.inj h
        subst h
        subst hQ
        exact g_iret hx hb hr hlocks cZm hK hZ hG hS rfl dX4_renewed_35
      · have h := ite_f h c3
        refine lv_aload_n hx hb dX4_renewed_22 rfl (lv_at hl 0 rfl) ?_
        refine lv_iconst (v := (5 : Int32)) hx hb dX4_renewed_23 (by decide) ?_
        obtain ⟨q5, eq5, h⟩ := obind h
        refine g_endi (va_runV (As := [.int (5 : Int32)]) (rest := []) ⟨hx, hb, hml, hown, hts⟩ (k_X4_found l D cy ad P Dr tI hX I L (5 : Int32) q5 eq5) (cwV 1 hts gX4_renewed_X4_found rfl rfl rfl cd_X4_found ⟨Nat.le_of_ble_eq_true rfl, Nat.le_of_ble_eq_true rfl⟩) ⟨g_blind cZm, g_recv hK hG (k := 0) (by decide) (cE_4 _ _) vwCl_4, g_pre cZm hK hG hZ hS⟩ rfl rfl hl.1 rfl (lv_room (Nat.le_of_ble_eq_true rfl)) dX4_renewed_24 ⟨Nat.le_refl _, Nat.le_refl _⟩) hS (fun H locs hG hS => ?_)
        have h := Option.some.inj h
        subst h
        subst hQ
        exact g_iret hx hb hr hlocks cZm hK hZ hG hS rfl dX4_renewed_27
    · have h := ite_f h c2
      refine lv_iconst (v := (-1 : Int32)) hx hb dX4_renewed_16 (by decide) ?_
      have h := Option.some.inj h
      subst h
      subst hQ
      exact g_iret hx hb hr hlocks cZm hK hZ hG hS rfl dX4_renewed_17
def X4_row (I : xMem) (x1 : Int32) (x2 : Int32) : Option (Int32 × xMem) := (X4_renewed I 1 x1 x2).bind fun q1 => some (q1.1, q1.2)
abbrev rm_X4_row : Room := { frames := 3, cells := 0, slots := 0, locals := 68 }
theorem cd_X4_row : yX4_row.cls = RX4 ∧ yX4_row.cls ≠ "java/lang/invoke/MethodHandle" ∧ yX4_row.cls ≠ "java/lang/invoke/VarHandle" ∧ (parseMethodDescriptor yX4_row.desc).map (fun d => d.parameters.length) = some 2 := by decide +kernel
set_option maxHeartbeats 4000000 in
set_option maxRecDepth 100000 in
theorem k_X4_row (l : Launch) (D : va_G) (cy : Nat → ClassId) (ad : Nat → Nat) (P Dr : Nat) (tI : xTab) (hX : cOk ad P Dr) (I : xMem) (L : xLon) (x1 : Int32) (x2 : Int32) (r : Int32 × xMem) (h : X4_row I x1 x2 = some r) : Met l yX4_row wsX4_row rm_X4_row (va_Pc [.ref (ad 0), .int x1, .int x2] (cW D cy ad P Dr tI I L)) (cPi D cy ad P Dr tI r.2 L r.1) 0 0 (gA 64 ad) := by
  refine g_met (own := RX4) (cc := cX4_row) (maxL := 3) (ret := (some .int)) (by decide) rfl (Nat.le_of_ble_eq_true rfl) rfl ?_
  intro p e s m args below meth c ls hx hb hml hr hlocks hown hts hG hK hZ hl
  generalize hQ : MQ below _ args s 0 0 _ = Q
  have hl : lv_has ls 3 [(0, .ref (ad 0)), (1, .int x1), (2, .int x2)] := hl
  have hS : va_S (gA 64 ad) s.heap s.heap [] := va_S.rf
  obtain ⟨hi, hP, hDr⟩ := id hX
  have l4 : ∀ w ∈ wsX40, w.before args s = true := fun w h => hts w (List.mem_cons_of_mem _ (List.mem_append_left _ (List.mem_append_right _ h)))
  have k1 := hts (.fieldLink RX4 12 "PairStairs" "rows" "LPairStairs$Shelf;") (by decide +kernel)
  unfold X4_row at h
  refine lv_aload_n hx hb dX4_row_0 rfl (lv_at hl 0 rfl) ?_
  refine lv_aload_n hx hb dX4_row_1 rfl (lv_at hl 0 rfl) ?_
  refine g_get hx hb l4 hown hK hG (k := 0) (by decide) (cE_4 _ _) vwCl_4 0 (by decide) k1 (fun _ h9 => h9) rfl dX4_row_2 ?_
  refine lv_iload_n hx hb dX4_row_5 rfl (lv_at hl 1 rfl) ?_
  refine lv_iload_n hx hb dX4_row_6 rfl (lv_at hl 2 rfl) ?_
  obtain ⟨q1, eq1, h⟩ := obind h
  refine g_endi (va_runV (As := [.ref (ad 1), .int x1, .int x2]) (rest := []) ⟨hx, hb, hml, hown, hts⟩ (k_X4_renewed l D cy ad P Dr tI hX I L (y1 := 1) cShelf_1 x1 x2 q1 eq1) (cwV 3 hts gX4_row_X4_renewed rfl rfl rfl cd_X4_renewed ⟨Nat.le_of_ble_eq_true rfl, Nat.le_of_ble_eq_true rfl⟩) ⟨g_blind cZm, g_recv hK hG (k := 0) (by decide) (cE_4 _ _) vwCl_4, g_pre cZm hK hG hZ hS⟩ rfl rfl hl.1 rfl (lv_room (Nat.le_of_ble_eq_true rfl)) dX4_row_7 ⟨Nat.le_refl _, Nat.le_refl _⟩) hS (fun H locs hG hS => ?_)
  have h := Option.some.inj h
  subst h
  subst hQ
  exact g_iret hx hb hr hlocks cZm hK hZ hG hS rfl dX4_row_10
def X4_refusedRow (I : xMem) (y1 : Nat) (x2 : Int32) : Option (Int32 × xMem) := if (X2_hasNo y1 I x2) = (0 : Int32) then ((X2_isMissing y1 I x2).bind fun v2 => if v2 = (0 : Int32) then (some ((0 : Int32), I)) else ((X4_found I (1 : Int32)).bind fun q4 => some (q4.1, q4.2))) else (some ((-1 : Int32), I))
abbrev rm_X4_refusedRow : Room := { frames := 1, cells := 0, slots := 0, locals := 21 }
theorem cd_X4_refusedRow : yX4_refusedRow.cls = RX4 ∧ yX4_refusedRow.cls ≠ "java/lang/invoke/MethodHandle" ∧ yX4_refusedRow.cls ≠ "java/lang/invoke/VarHandle" ∧ (parseMethodDescriptor yX4_refusedRow.desc).map (fun d => d.parameters.length) = some 2 := by decide +kernel
set_option maxHeartbeats 4000000 in
set_option maxRecDepth 100000 in
theorem k_X4_refusedRow (l : Launch) (D : va_G) (cy : Nat → ClassId) (ad : Nat → Nat) (P Dr : Nat) (tI : xTab) (hX : cOk ad P Dr) (I : xMem) (L : xLon) {y1 : Nat} (hY1 : cShelf y1) (x2 : Int32) (r : Int32 × xMem) (h : X4_refusedRow I y1 x2 = some r) : Met l yX4_refusedRow wsX4_refusedRow rm_X4_refusedRow (va_Pc [.ref (ad 0), .ref (ad y1), .int x2] (cW D cy ad P Dr tI I L)) (cPi D cy ad P Dr tI r.2 L r.1) 0 0 (gA 64 ad) := by
  refine g_met (own := RX4) (cc := cX4_refusedRow) (maxL := 3) (ret := (some .int)) (by decide) rfl (Nat.le_of_ble_eq_true rfl) rfl ?_
  intro p e s m args below meth c ls hx hb hml hr hlocks hown hts hG hK hZ hl
  generalize hQ : MQ below _ args s 0 0 _ = Q
  have hl : lv_has ls 3 [(0, .ref (ad 0)), (1, .ref (ad y1)), (2, .int x2)] := hl
  have hS : va_S (gA 64 ad) s.heap s.heap [] := va_S.rf
  obtain ⟨hi, hP, hDr⟩ := id hX
  unfold X4_refusedRow at h
  refine lv_aload_n hx hb dX4_refusedRow_0 rfl (lv_at hl 1 rfl) ?_
  refine lv_iload_n hx hb dX4_refusedRow_1 rfl (lv_at hl 2 rfl) ?_
  refine g_endi (va_runV (As := [.int x2]) (rest := []) ⟨hx, hb, hml, hown, hts⟩ (k_X2_hasNo l D cy ad P Dr tI hX (b := y1) hY1 I L x2 _ rfl) (cwV 1 hts gX4_refusedRow_X2_hasNo rfl rfl rfl cd_X2_hasNo ⟨Nat.le_of_ble_eq_true rfl, Nat.le_of_ble_eq_true rfl⟩) ⟨g_blind cZm, g_recv hK hG (k := y1) hY1.1.1 (cE_2 hY1.1 _ _) vwCl_2, g_pre cZm hK hG hZ hS⟩ rfl rfl hl.1 rfl (lv_room (Nat.le_of_ble_eq_true rfl)) dX4_refusedRow_2 ⟨Nat.le_refl _, Nat.le_refl _⟩) hS (fun H locs hG hS => ?_)
  refine lv_if_eq (tgt := 10) hx hb dX4_refusedRow_5 (by decide) (fun c1 => ?_) (fun c1 => ?_)
  · have h := ite_t h c1
    refine lv_aload_n hx hb dX4_refusedRow_10 rfl (lv_at hl 1 rfl) ?_
    refine lv_iload_n hx hb dX4_refusedRow_11 rfl (lv_at hl 2 rfl) ?_
    obtain ⟨v2, ev2, h⟩ := obind h
    refine g_endi (va_runV (As := [.int x2]) (rest := []) ⟨hx, hb, hml, hown, hts⟩ (k_X2_isMissing l D cy ad P Dr tI hX (b := y1) hY1 I L x2 v2 ev2) (cwV 1 hts gX4_refusedRow_X2_isMissing rfl rfl rfl cd_X2_isMissing ⟨Nat.le_of_ble_eq_true rfl, Nat.le_of_ble_eq_true rfl⟩) ⟨g_blind cZm, g_recv hK hG (k := y1) hY1.1.1 (cE_2 hY1.1 _ _) vwCl_2, g_pre cZm hK hG hZ hS⟩ rfl rfl hl.1 rfl (lv_room (Nat.le_of_ble_eq_true rfl)) dX4_refusedRow_12 ⟨Nat.le_refl _, Nat.le_refl _⟩) hS (fun H locs hG hS => ?_)
    refine lv_if_eq (tgt := 26) hx hb dX4_refusedRow_15 (by decide) (fun c3 => ?_) (fun c3 => ?_)
    · have h := ite_t h c3
      refine lv_iconst (v := (0 : Int32)) hx hb dX4_refusedRow_26 (by decide) ?_
      have h := Option.some.inj h
      subst h
      subst hQ
      exact g_iret hx hb hr hlocks cZm hK hZ hG hS rfl dX4_refusedRow_27
    · have h := ite_f h c3
      refine lv_aload_n hx hb dX4_refusedRow_18 rfl (lv_at hl 0 rfl) ?_
      refine lv_iconst (v := (1 : Int32)) hx hb dX4_refusedRow_19 (by decide) ?_
      obtain ⟨q4, eq4, h⟩ := obind h
      refine g_endi (va_runV (As := [.int (1 : Int32)]) (rest := []) ⟨hx, hb, hml, hown, hts⟩ (k_X4_found l D cy ad P Dr tI hX I L (1 : Int32) q4 eq4) (cwV 1 hts gX4_refusedRow_X4_found rfl rfl rfl cd_X4_found ⟨Nat.le_of_ble_eq_true rfl, Nat.le_of_ble_eq_true rfl⟩) ⟨g_blind cZm, g_recv hK hG (k := 0) (by decide) (cE_4 _ _) vwCl_4, g_pre cZm hK hG hZ hS⟩ rfl rfl hl.1 rfl (lv_room (Nat.le_of_ble_eq_true rfl)) dX4_refusedRow_20 ⟨Nat.le_refl _, Nat.le_refl _⟩) hS (fun H locs hG hS => ?_)
      refine lv_goto (tgt := 27) hx hb dX4_refusedRow_23 (by decide) ?_
      have h := Option.some.inj h
      subst h
      subst hQ
      exact g_iret hx hb hr hlocks cZm hK hZ hG hS rfl dX4_refusedRow_27
  · have h := ite_f h c1
    refine lv_iconst (v := (-1 : Int32)) hx hb dX4_refusedRow_8 (by decide) ?_
    have h := Option.some.inj h
    subst h
    subst hQ
    exact g_iret hx hb hr hlocks cZm hK hZ hG hS rfl dX4_refusedRow_9
def X4_refusedPlace (I : xMem) (y1 : Nat) (x2 : Int32) (x3 : Int32) : Option (Int32 × xMem) := (X4_refusedRow I y1 x2).bind fun q1 => if q1.1 = (0 : Int32) then ((X2_lacks y1 q1.2 x2 x3 (1 : Int32)).bind fun v3 => if v3 = (0 : Int32) then (some (q1.1, q1.2)) else ((X4_found q1.2 (2 : Int32)).bind fun q5 => some (q5.1, q5.2))) else (some (q1.1, q1.2))
abbrev rm_X4_refusedPlace : Room := { frames := 2, cells := 0, slots := 0, locals := 43 }
theorem cd_X4_refusedPlace : yX4_refusedPlace.cls = RX4 ∧ yX4_refusedPlace.cls ≠ "java/lang/invoke/MethodHandle" ∧ yX4_refusedPlace.cls ≠ "java/lang/invoke/VarHandle" ∧ (parseMethodDescriptor yX4_refusedPlace.desc).map (fun d => d.parameters.length) = some 3 := by decide +kernel
set_option maxHeartbeats 4000000 in
set_option maxRecDepth 100000 in
theorem k_X4_refusedPlace (l : Launch) (D : va_G) (cy : Nat → ClassId) (ad : Nat → Nat) (P Dr : Nat) (tI : xTab) (hX : cOk ad P Dr) (I : xMem) (L : xLon) {y1 : Nat} (hY1 : cShelf y1) (x2 : Int32) (x3 : Int32) (r : Int32 × xMem) (h : X4_refusedPlace I y1 x2 x3 = some r) : Met l yX4_refusedPlace wsX4_refusedPlace rm_X4_refusedPlace (va_Pc [.ref (ad 0), .ref (ad y1), .int x2, .int x3] (cW D cy ad P Dr tI I L)) (cPi D cy ad P Dr tI r.2 L r.1) 0 0 (gA 64 ad) := by
  refine g_met (own := RX4) (cc := cX4_refusedPlace) (maxL := 5) (ret := (some .int)) (by decide) rfl (Nat.le_of_ble_eq_true rfl) rfl ?_
  intro p e s m args below meth c ls hx hb hml hr hlocks hown hts hG hK hZ hl
  generalize hQ : MQ below _ args s 0 0 _ = Q
  have hl : lv_has ls 5 [(0, .ref (ad 0)), (1, .ref (ad y1)), (2, .int x2), (3, .int x3)] := hl
  have hS : va_S (gA 64 ad) s.heap s.heap [] := va_S.rf
  obtain ⟨hi, hP, hDr⟩ := id hX
  unfold X4_refusedPlace at h
  refine lv_aload_n hx hb dX4_refusedPlace_0 rfl (lv_at hl 0 rfl) ?_
  refine lv_aload_n hx hb dX4_refusedPlace_1 rfl (lv_at hl 1 rfl) ?_
  refine lv_iload_n hx hb dX4_refusedPlace_2 rfl (lv_at hl 2 rfl) ?_
  obtain ⟨q1, eq1, h⟩ := obind h
  refine g_endi (va_runV (As := [.ref (ad y1), .int x2]) (rest := []) ⟨hx, hb, hml, hown, hts⟩ (k_X4_refusedRow l D cy ad P Dr tI hX I L (y1 := y1) hY1 x2 q1 eq1) (cwV 2 hts gX4_refusedPlace_X4_refusedRow rfl rfl rfl cd_X4_refusedRow ⟨Nat.le_of_ble_eq_true rfl, Nat.le_of_ble_eq_true rfl⟩) ⟨g_blind cZm, g_recv hK hG (k := 0) (by decide) (cE_4 _ _) vwCl_4, g_pre cZm hK hG hZ hS⟩ rfl rfl hl.1 rfl (lv_room (Nat.le_of_ble_eq_true rfl)) dX4_refusedPlace_3 ⟨Nat.le_refl _, Nat.le_refl _⟩) hS (fun H locs hG hS => ?_)
  refine lv_istore (lv' := [(4, .int q1.1), (0, .ref (ad 0)), (1, .ref (ad y1)), (2, .int x2), (3, .int x3)]) hx hb dX4_refusedPlace_6 hl (by decide) rfl (fun ls hl => ?_)
  refine lv_iload hx hb dX4_refusedPlace_8 (lv_at hl 0 rfl) ?_
  refine lv_if_ne (tgt := 31) hx hb dX4_refusedPlace_10 (by decide) (fun c2 => ?_) (fun c2 => ?_)
  · have h := ite_f h c2
    refine lv_iload hx hb dX4_refusedPlace_31 (lv_at hl 0 rfl) ?_
    have h := Option.some.inj h
    subst h
    subst hQ
    exact g_iret hx hb hr hlocks cZm hK hZ hG hS rfl dX4_refusedPlace_33
  · have h := ite_t h c2
    refine lv_aload_n hx hb dX4_refusedPlace_13 rfl (lv_at hl 2 rfl) ?_
    refine lv_iload_n hx hb dX4_refusedPlace_14 rfl (lv_at hl 3 rfl) ?_
    refine lv_iload_n hx hb dX4_refusedPlace_15 rfl (lv_at hl 4 rfl) ?_
    refine lv_iconst (v := (1 : Int32)) hx hb dX4_refusedPlace_16 (by decide) ?_
    obtain ⟨v3, ev3, h⟩ := obind h
    refine g_endi (va_runV (As := [.int x2, .int x3, .int (1 : Int32)]) (rest := []) ⟨hx, hb, hml, hown, hts⟩ (k_X2_lacks l D cy ad P Dr tI hX (b := y1) hY1 q1.2 L x2 x3 (1 : Int32) v3 ev3) (cwV 3 hts gX4_refusedPlace_X2_lacks rfl rfl rfl cd_X2_lacks ⟨Nat.le_of_ble_eq_true rfl, Nat.le_of_ble_eq_true rfl⟩) ⟨g_blind cZm, g_recv hK hG (k := y1) hY1.1.1 (cE_2 hY1.1 _ _) vwCl_2, g_pre cZm hK hG hZ hS⟩ rfl rfl hl.1 rfl (lv_room (Nat.le_of_ble_eq_true rfl)) dX4_refusedPlace_17 ⟨Nat.le_refl _, Nat.le_refl _⟩) hS (fun H locs hG hS => ?_)
    refine lv_if_eq (tgt := 31) hx hb dX4_refusedPlace_20 (by decide) (fun c4 => ?_) (fun c4 => ?_)
    · have h := ite_t h c4
      refine lv_iload hx hb dX4_refusedPlace_31 (lv_at hl 0 rfl) ?_
      have h := Option.some.inj h
      subst h
      subst hQ
      exact g_iret hx hb hr hlocks cZm hK hZ hG hS rfl dX4_refusedPlace_33
    · have h := ite_f h c4
      refine lv_aload_n hx hb dX4_refusedPlace_23 rfl (lv_at hl 1 rfl) ?_
      refine lv_iconst (v := (2 : Int32)) hx hb dX4_refusedPlace_24 (by decide) ?_
      obtain ⟨q5, eq5, h⟩ := obind h
      refine g_endi (va_runV (As := [.int (2 : Int32)]) (rest := []) ⟨hx, hb, hml, hown, hts⟩ (k_X4_found l D cy ad P Dr tI hX q1.2 L (2 : Int32) q5 eq5) (cwV 1 hts gX4_refusedPlace_X4_found rfl rfl rfl cd_X4_found ⟨Nat.le_of_ble_eq_true rfl, Nat.le_of_ble_eq_true rfl⟩) ⟨g_blind cZm, g_recv hK hG (k := 0) (by decide) (cE_4 _ _) vwCl_4, g_pre cZm hK hG hZ hS⟩ rfl rfl hl.1 rfl (lv_room (Nat.le_of_ble_eq_true rfl)) dX4_refusedPlace_25 ⟨Nat.le_refl _, Nat.le_refl _⟩) hS (fun H locs hG hS => ?_)
      refine lv_goto (tgt := 33) hx hb dX4_refusedPlace_28 (by decide) ?_
      have h := Option.some.inj h
      subst h
      subst hQ
      exact g_iret hx hb hr hlocks cZm hK hZ hG hS rfl dX4_refusedPlace_33
def X4_lay (I : xMem) (x1 : Int32) (x2 : Int32) (x3 : Int32) : Option (Int32 × xMem) := (X4_refusedPlace I 1 x1 x2).bind fun q1 => if q1.1 = (0 : Int32) then ((rdX 6 x1).bind fun j3 => (rdI q1.2 (3 + 1 + j3) 40 x2).bind fun v4 => (some (wr q1.2 0 10 v4)).bind fun I5 => (rdX 6 x1).bind fun j6 => (wrI I5 (3 + 1 + j6) 40 x2 x3).bind fun I7 => some ((1 : Int32), I7)) else (some (q1.1, q1.2))
abbrev rm_X4_lay : Room := { frames := 3, cells := 0, slots := 0, locals := 67 }
theorem cd_X4_lay : yX4_lay.cls = RX4 ∧ yX4_lay.cls ≠ "java/lang/invoke/MethodHandle" ∧ yX4_lay.cls ≠ "java/lang/invoke/VarHandle" ∧ (parseMethodDescriptor yX4_lay.desc).map (fun d => d.parameters.length) = some 3 := by decide +kernel
set_option maxHeartbeats 4000000 in
set_option maxRecDepth 100000 in
theorem k_X4_lay (l : Launch) (D : va_G) (cy : Nat → ClassId) (ad : Nat → Nat) (P Dr : Nat) (tI : xTab) (hX : cOk ad P Dr) (I : xMem) (L : xLon) (x1 : Int32) (x2 : Int32) (x3 : Int32) (r : Int32 × xMem) (h : X4_lay I x1 x2 x3 = some r) : Met l yX4_lay wsX4_lay rm_X4_lay (va_Pc [.ref (ad 0), .int x1, .int x2, .int x3] (cW D cy ad P Dr tI I L)) (cPi D cy ad P Dr tI r.2 L r.1) 0 0 (gA 64 ad) := by
  refine g_met (own := RX4) (cc := cX4_lay) (maxL := 5) (ret := (some .int)) (by decide) rfl (Nat.le_of_ble_eq_true rfl) rfl ?_
  intro p e s m args below meth c ls hx hb hml hr hlocks hown hts hG hK hZ hl
  generalize hQ : MQ below _ args s 0 0 _ = Q
  have hl : lv_has ls 5 [(0, .ref (ad 0)), (1, .int x1), (2, .int x2), (3, .int x3)] := hl
  have hS : va_S (gA 64 ad) s.heap s.heap [] := va_S.rf
  obtain ⟨hi, hP, hDr⟩ := id hX
  have l2 : ∀ w ∈ wsX20, w.before args s = true := fun w h => hts w (List.mem_cons_of_mem _ (List.mem_append_right _ h))
  have l4 : ∀ w ∈ wsX40, w.before args s = true := fun w h => hts w (List.mem_cons_of_mem _ (List.mem_append_left _ (List.mem_append_right _ h)))
  have k1 := hts (.fieldLink RX4 12 "PairStairs" "rows" "LPairStairs$Shelf;") (by decide +kernel)
  have k2 := hts (.fieldLink RX4 68 "PairStairs$Shelf" "places" "[[I") (by decide +kernel)
  have k3 := hts (.fieldLink RX4 72 "PairStairs" "told" "I") (by decide +kernel)
  unfold X4_lay at h
  refine lv_aload_n hx hb dX4_lay_0 rfl (lv_at hl 0 rfl) ?_
  refine lv_aload_n hx hb dX4_lay_1 rfl (lv_at hl 0 rfl) ?_
  refine g_get hx hb l4 hown hK hG (k := 0) (by decide) (cE_4 _ _) vwCl_4 0 (by decide) k1 (fun _ h9 => h9) rfl dX4_lay_2 ?_
  refine lv_iload_n hx hb dX4_lay_5 rfl (lv_at hl 1 rfl) ?_
  refine lv_iload_n hx hb dX4_lay_6 rfl (lv_at hl 2 rfl) ?_
  obtain ⟨q1, eq1, h⟩ := obind h
  refine g_endi (va_runV (As := [.ref (ad 1), .int x1, .int x2]) (rest := []) ⟨hx, hb, hml, hown, hts⟩ (k_X4_refusedPlace l D cy ad P Dr tI hX I L (y1 := 1) cShelf_1 x1 x2 q1 eq1) (cwV 3 hts gX4_lay_X4_refusedPlace rfl rfl rfl cd_X4_refusedPlace ⟨Nat.le_of_ble_eq_true rfl, Nat.le_of_ble_eq_true rfl⟩) ⟨g_blind cZm, g_recv hK hG (k := 0) (by decide) (cE_4 _ _) vwCl_4, g_pre cZm hK hG hZ hS⟩ rfl rfl hl.1 rfl (lv_room (Nat.le_of_ble_eq_true rfl)) dX4_lay_7 ⟨Nat.le_refl _, Nat.le_refl _⟩) hS (fun H locs hG hS => ?_)
  refine lv_istore (lv' := [(4, .int q1.1), (0, .ref (ad 0)), (1, .int x1), (2, .int x2), (3, .int x3)]) hx hb dX4_lay_10 hl (by decide) rfl (fun ls hl => ?_)
  refine lv_iload hx hb dX4_lay_12 (lv_at hl 0 rfl) ?_
  refine lv_if_eq (tgt := 20) hx hb dX4_lay_14 (by decide) (fun c2 => ?_) (fun c2 => ?_)
  · have h := ite_t h c2
    refine lv_aload_n hx hb dX4_lay_20 rfl (lv_at hl 1 rfl) ?_
    refine lv_aload_n hx hb dX4_lay_21 rfl (lv_at hl 1 rfl) ?_
    refine g_get hx hb l4 hown hK hG (k := 0) (by decide) (cE_4 _ _) vwCl_4 0 (by decide) k1 (fun _ h9 => h9) rfl dX4_lay_22 ?_
    refine g_get hx hb l2 hown hK hG (k := 1) cShelf_1.1.1 (cE_2 cShelf_1.1 _ _) vwCl_2 2 (by decide) k2 (fun _ h9 => h9) rfl dX4_lay_25 ?_
    refine lv_iload_n hx hb dX4_lay_28 rfl (lv_at hl 2 rfl) ?_
    refine g_aldq hx hb hK hG (k := 3) (n := 6) (g := fun j => 3 + 1 + j) cShelf_1.2.2.1.1 (cE_9 cShelf_1.2.2.1 _ _) 3 rfl rfl h dX4_lay_29 (fun j3 hj3 h => ?_)
    refine lv_iload_n hx hb dX4_lay_30 rfl (lv_at hl 3 rfl) ?_
    refine g_ald hx hb hK hG (k := (3 + 1 + j3)) (n := 40) (cShelf_1.2.2.2 j3 hj3).1.1 (cIA_e (cShelf_1.2.2.2 j3 hj3) _ _) 0 rfl h dX4_lay_31 (fun v4 h => ?_)
    obtain ⟨I5, eI5, h⟩ := obind h
    refine g_put hx hb l4 tyX4_ok nmX4 hown hK hG hi hS (k := 0) (by decide) (cE_4 _ _) vwCl_4 10 (by decide) k3 (fun _ h9 => h9) rfl rfl (Nat.le_of_ble_eq_true rfl) (by rw [cE_4 _ _]; rfl) dX4_lay_32 (fun H locs hG hS => ?_)
    rw [Option.some.inj eI5] at hG
    refine lv_aload_n hx hb dX4_lay_35 rfl (lv_at hl 1 rfl) ?_
    refine g_get hx hb l4 hown hK hG (k := 0) (by decide) (cE_4 _ _) vwCl_4 0 (by decide) k1 (fun _ h9 => h9) rfl dX4_lay_36 ?_
    refine g_get hx hb l2 hown hK hG (k := 1) cShelf_1.1.1 (cE_2 cShelf_1.1 _ _) vwCl_2 2 (by decide) k2 (fun _ h9 => h9) rfl dX4_lay_39 ?_
    refine lv_iload_n hx hb dX4_lay_42 rfl (lv_at hl 2 rfl) ?_
    refine g_aldq hx hb hK hG (k := 3) (n := 6) (g := fun j => 3 + 1 + j) cShelf_1.2.2.1.1 (cE_9 cShelf_1.2.2.1 _ _) 3 rfl rfl h dX4_lay_43 (fun j6 hj6 h => ?_)
    refine lv_iload_n hx hb dX4_lay_44 rfl (lv_at hl 3 rfl) ?_
    refine lv_iload_n hx hb dX4_lay_45 rfl (lv_at hl 4 rfl) ?_
    refine g_ast hx hb hK hG hi hS (k := (3 + 1 + j6)) (n := 40) (cShelf_1.2.2.2 j6 hj6).1.1 (fun f => cIA_e (cShelf_1.2.2.2 j6 hj6) f _) 0 rfl h dX4_lay_46 (fun I7 H locs h hG hS => ?_)
    refine lv_iconst (v := (1 : Int32)) hx hb dX4_lay_47 (by decide) ?_
    have h := Option.some.inj h
    subst h
    subst hQ
    exact g_iret hx hb hr hlocks cZm hK hZ hG hS rfl dX4_lay_48
  · have h := ite_f h c2
    refine lv_iload hx hb dX4_lay_17 (lv_at hl 0 rfl) ?_
    have h := Option.some.inj h
    subst h
    subst hQ
    exact g_iret hx hb hr hlocks cZm hK hZ hG hS rfl dX4_lay_19
def X4_tear (I : xMem) (x1 : Int32) : Option (Int32 × xMem) := (X4_refusedRow I 1 x1).bind fun q1 => if q1.1 = (0 : Int32) then ((wrI q1.2 2 (cLen 2) x1 (-1 : Int32)).bind fun I3 => some ((1 : Int32), I3)) else (some (q1.1, q1.2))
abbrev rm_X4_tear : Room := { frames := 2, cells := 0, slots := 0, locals := 43 }
theorem cd_X4_tear : yX4_tear.cls = RX4 ∧ yX4_tear.cls ≠ "java/lang/invoke/MethodHandle" ∧ yX4_tear.cls ≠ "java/lang/invoke/VarHandle" ∧ (parseMethodDescriptor yX4_tear.desc).map (fun d => d.parameters.length) = some 1 := by decide +kernel
set_option maxHeartbeats 4000000 in
set_option maxRecDepth 100000 in
theorem k_X4_tear (l : Launch) (D : va_G) (cy : Nat → ClassId) (ad : Nat → Nat) (P Dr : Nat) (tI : xTab) (hX : cOk ad P Dr) (I : xMem) (L : xLon) (x1 : Int32) (r : Int32 × xMem) (h : X4_tear I x1 = some r) : Met l yX4_tear wsX4_tear rm_X4_tear (va_Pc [.ref (ad 0), .int x1] (cW D cy ad P Dr tI I L)) (cPi D cy ad P Dr tI r.2 L r.1) 0 0 (gA 64 ad) := by
  refine g_met (own := RX4) (cc := cX4_tear) (maxL := 3) (ret := (some .int)) (by decide) rfl (Nat.le_of_ble_eq_true rfl) rfl ?_
  intro p e s m args below meth c ls hx hb hml hr hlocks hown hts hG hK hZ hl
  generalize hQ : MQ below _ args s 0 0 _ = Q
  have hl : lv_has ls 3 [(0, .ref (ad 0)), (1, .int x1)] := hl
  have hS : va_S (gA 64 ad) s.heap s.heap [] := va_S.rf
  obtain ⟨hi, hP, hDr⟩ := id hX
  have l2 : ∀ w ∈ wsX20, w.before args s = true := fun w h => hts w (List.mem_cons_of_mem _ (List.mem_append_right _ h))
  have l4 : ∀ w ∈ wsX40, w.before args s = true := fun w h => hts w (List.mem_cons_of_mem _ (List.mem_append_left _ (List.mem_append_right _ h)))
  have k1 := hts (.fieldLink RX4 12 "PairStairs" "rows" "LPairStairs$Shelf;") (by decide +kernel)
  have k2 := hts (.fieldLink RX4 80 "PairStairs$Shelf" "sizes" "[I") (by decide +kernel)
  unfold X4_tear at h
  refine lv_aload_n hx hb dX4_tear_0 rfl (lv_at hl 0 rfl) ?_
  refine lv_aload_n hx hb dX4_tear_1 rfl (lv_at hl 0 rfl) ?_
  refine g_get hx hb l4 hown hK hG (k := 0) (by decide) (cE_4 _ _) vwCl_4 0 (by decide) k1 (fun _ h9 => h9) rfl dX4_tear_2 ?_
  refine lv_iload_n hx hb dX4_tear_5 rfl (lv_at hl 1 rfl) ?_
  obtain ⟨q1, eq1, h⟩ := obind h
  refine g_endi (va_runV (As := [.ref (ad 1), .int x1]) (rest := []) ⟨hx, hb, hml, hown, hts⟩ (k_X4_refusedRow l D cy ad P Dr tI hX I L (y1 := 1) cShelf_1 x1 q1 eq1) (cwV 2 hts gX4_tear_X4_refusedRow rfl rfl rfl cd_X4_refusedRow ⟨Nat.le_of_ble_eq_true rfl, Nat.le_of_ble_eq_true rfl⟩) ⟨g_blind cZm, g_recv hK hG (k := 0) (by decide) (cE_4 _ _) vwCl_4, g_pre cZm hK hG hZ hS⟩ rfl rfl hl.1 rfl (lv_room (Nat.le_of_ble_eq_true rfl)) dX4_tear_6 ⟨Nat.le_refl _, Nat.le_refl _⟩) hS (fun H locs hG hS => ?_)
  refine lv_istore_n (lv' := [(2, .int q1.1), (0, .ref (ad 0)), (1, .int x1)]) hx hb dX4_tear_9 rfl hl (by decide) rfl (fun ls hl => ?_)
  refine lv_iload_n hx hb dX4_tear_10 rfl (lv_at hl 0 rfl) ?_
  refine lv_if_eq (tgt := 16) hx hb dX4_tear_11 (by decide) (fun c2 => ?_) (fun c2 => ?_)
  · have h := ite_t h c2
    refine lv_aload_n hx hb dX4_tear_16 rfl (lv_at hl 1 rfl) ?_
    refine g_get hx hb l4 hown hK hG (k := 0) (by decide) (cE_4 _ _) vwCl_4 0 (by decide) k1 (fun _ h9 => h9) rfl dX4_tear_17 ?_
    refine g_get hx hb l2 hown hK hG (k := 1) cShelf_1.1.1 (cE_2 cShelf_1.1 _ _) vwCl_2 3 (by decide) k2 (fun _ h9 => h9) rfl dX4_tear_20 ?_
    refine lv_iload_n hx hb dX4_tear_23 rfl (lv_at hl 2 rfl) ?_
    refine lv_iconst (v := (-1 : Int32)) hx hb dX4_tear_24 (by decide) ?_
    refine g_ast hx hb hK hG hi hS (k := 2) (n := (cLen 2)) cShelf_1.2.1.1.1 (fun f => cIA_e cShelf_1.2.1 f _) 0 rfl h dX4_tear_25 (fun I3 H locs h hG hS => ?_)
    refine lv_iconst (v := (1 : Int32)) hx hb dX4_tear_26 (by decide) ?_
    have h := Option.some.inj h
    subst h
    subst hQ
    exact g_iret hx hb hr hlocks cZm hK hZ hG hS rfl dX4_tear_27
  · have h := ite_f h c2
    refine lv_iload_n hx hb dX4_tear_14 rfl (lv_at hl 0 rfl) ?_
    have h := Option.some.inj h
    subst h
    subst hQ
    exact g_iret hx hb hr hlocks cZm hK hZ hG hS rfl dX4_tear_15
def X4_text (I : xMem) (x1 : Int32) (x2 : Int32) : Option (Int32 × xMem) := (X4_renewed I 10 x1 x2).bind fun q1 => some (q1.1, q1.2)
abbrev rm_X4_text : Room := { frames := 3, cells := 0, slots := 0, locals := 68 }
theorem cd_X4_text : yX4_text.cls = RX4 ∧ yX4_text.cls ≠ "java/lang/invoke/MethodHandle" ∧ yX4_text.cls ≠ "java/lang/invoke/VarHandle" ∧ (parseMethodDescriptor yX4_text.desc).map (fun d => d.parameters.length) = some 2 := by decide +kernel
set_option maxHeartbeats 4000000 in
set_option maxRecDepth 100000 in
theorem k_X4_text (l : Launch) (D : va_G) (cy : Nat → ClassId) (ad : Nat → Nat) (P Dr : Nat) (tI : xTab) (hX : cOk ad P Dr) (I : xMem) (L : xLon) (x1 : Int32) (x2 : Int32) (r : Int32 × xMem) (h : X4_text I x1 x2 = some r) : Met l yX4_text wsX4_text rm_X4_text (va_Pc [.ref (ad 0), .int x1, .int x2] (cW D cy ad P Dr tI I L)) (cPi D cy ad P Dr tI r.2 L r.1) 0 0 (gA 64 ad) := by
  refine g_met (own := RX4) (cc := cX4_text) (maxL := 3) (ret := (some .int)) (by decide) rfl (Nat.le_of_ble_eq_true rfl) rfl ?_
  intro p e s m args below meth c ls hx hb hml hr hlocks hown hts hG hK hZ hl
  generalize hQ : MQ below _ args s 0 0 _ = Q
  have hl : lv_has ls 3 [(0, .ref (ad 0)), (1, .int x1), (2, .int x2)] := hl
  have hS : va_S (gA 64 ad) s.heap s.heap [] := va_S.rf
  obtain ⟨hi, hP, hDr⟩ := id hX
  have l4 : ∀ w ∈ wsX40, w.before args s = true := fun w h => hts w (List.mem_cons_of_mem _ (List.mem_append_left _ (List.mem_append_right _ h)))
  have k1 := hts (.fieldLink RX4 18 "PairStairs" "texts" "LPairStairs$Shelf;") (by decide +kernel)
  unfold X4_text at h
  refine lv_aload_n hx hb dX4_text_0 rfl (lv_at hl 0 rfl) ?_
  refine lv_aload_n hx hb dX4_text_1 rfl (lv_at hl 0 rfl) ?_
  refine g_get hx hb l4 hown hK hG (k := 0) (by decide) (cE_4 _ _) vwCl_4 1 (by decide) k1 (fun _ h9 => h9) rfl dX4_text_2 ?_
  refine lv_iload_n hx hb dX4_text_5 rfl (lv_at hl 1 rfl) ?_
  refine lv_iload_n hx hb dX4_text_6 rfl (lv_at hl 2 rfl) ?_
  obtain ⟨q1, eq1, h⟩ := obind h
  refine g_endi (va_runV (As := [.ref (ad 10), .int x1, .int x2]) (rest := []) ⟨hx, hb, hml, hown, hts⟩ (k_X4_renewed l D cy ad P Dr tI hX I L (y1 := 10) cShelf_10 x1 x2 q1 eq1) (cwV 3 hts gX4_text_X4_renewed rfl rfl rfl cd_X4_renewed ⟨Nat.le_of_ble_eq_true rfl, Nat.le_of_ble_eq_true rfl⟩) ⟨g_blind cZm, g_recv hK hG (k := 0) (by decide) (cE_4 _ _) vwCl_4, g_pre cZm hK hG hZ hS⟩ rfl rfl hl.1 rfl (lv_room (Nat.le_of_ble_eq_true rfl)) dX4_text_7 ⟨Nat.le_refl _, Nat.le_refl _⟩) hS (fun H locs hG hS => ?_)
  have h := Option.some.inj h
  subst h
  subst hQ
  exact g_iret hx hb hr hlocks cZm hK hZ hG hS rfl dX4_text_10
def X4_put (I : xMem) (x1 : Int32) (x2 : Int32) (x3 : Int32) : Option (Int32 × xMem) := (X4_refusedPlace I 10 x1 x2).bind fun q1 => if q1.1 = (0 : Int32) then ((rdX 4 x1).bind fun j3 => (rdI q1.2 (12 + 1 + j3) 60 x2).bind fun v4 => (rdX 4 x1).bind fun j5 => (wrI q1.2 (12 + 1 + j5) 60 x2 x3.toInt8.toInt32).bind fun I6 => some ((v4 + (1000 : Int32)), I6)) else (some (q1.1, q1.2))
abbrev rm_X4_put : Room := { frames := 3, cells := 0, slots := 0, locals := 67 }
theorem cd_X4_put : yX4_put.cls = RX4 ∧ yX4_put.cls ≠ "java/lang/invoke/MethodHandle" ∧ yX4_put.cls ≠ "java/lang/invoke/VarHandle" ∧ (parseMethodDescriptor yX4_put.desc).map (fun d => d.parameters.length) = some 3 := by decide +kernel
set_option maxHeartbeats 4000000 in
set_option maxRecDepth 100000 in
theorem k_X4_put (l : Launch) (D : va_G) (cy : Nat → ClassId) (ad : Nat → Nat) (P Dr : Nat) (tI : xTab) (hX : cOk ad P Dr) (I : xMem) (L : xLon) (x1 : Int32) (x2 : Int32) (x3 : Int32) (r : Int32 × xMem) (h : X4_put I x1 x2 x3 = some r) : Met l yX4_put wsX4_put rm_X4_put (va_Pc [.ref (ad 0), .int x1, .int x2, .int x3] (cW D cy ad P Dr tI I L)) (cPi D cy ad P Dr tI r.2 L r.1) 0 0 (gA 64 ad) := by
  refine g_met (own := RX4) (cc := cX4_put) (maxL := 6) (ret := (some .int)) (by decide) rfl (Nat.le_of_ble_eq_true rfl) rfl ?_
  intro p e s m args below meth c ls hx hb hml hr hlocks hown hts hG hK hZ hl
  generalize hQ : MQ below _ args s 0 0 _ = Q
  have hl : lv_has ls 6 [(0, .ref (ad 0)), (1, .int x1), (2, .int x2), (3, .int x3)] := hl
  have hS : va_S (gA 64 ad) s.heap s.heap [] := va_S.rf
  obtain ⟨hi, hP, hDr⟩ := id hX
  have l2 : ∀ w ∈ wsX20, w.before args s = true := fun w h => hts w (List.mem_cons_of_mem _ (List.mem_append_right _ h))
  have l4 : ∀ w ∈ wsX40, w.before args s = true := fun w h => hts w (List.mem_cons_of_mem _ (List.mem_append_left _ (List.mem_append_right _ h)))
  have k1 := hts (.fieldLink RX4 18 "PairStairs" "texts" "LPairStairs$Shelf;") (by decide +kernel)
  have k2 := hts (.fieldLink RX4 68 "PairStairs$Shelf" "places" "[[I") (by decide +kernel)
  unfold X4_put at h
  refine lv_aload_n hx hb dX4_put_0 rfl (lv_at hl 0 rfl) ?_
  refine lv_aload_n hx hb dX4_put_1 rfl (lv_at hl 0 rfl) ?_
  refine g_get hx hb l4 hown hK hG (k := 0) (by decide) (cE_4 _ _) vwCl_4 1 (by decide) k1 (fun _ h9 => h9) rfl dX4_put_2 ?_
  refine lv_iload_n hx hb dX4_put_5 rfl (lv_at hl 1 rfl) ?_
  refine lv_iload_n hx hb dX4_put_6 rfl (lv_at hl 2 rfl) ?_
  obtain ⟨q1, eq1, h⟩ := obind h
  refine g_endi (va_runV (As := [.ref (ad 10), .int x1, .int x2]) (rest := []) ⟨hx, hb, hml, hown, hts⟩ (k_X4_refusedPlace l D cy ad P Dr tI hX I L (y1 := 10) cShelf_10 x1 x2 q1 eq1) (cwV 3 hts gX4_put_X4_refusedPlace rfl rfl rfl cd_X4_refusedPlace ⟨Nat.le_of_ble_eq_true rfl, Nat.le_of_ble_eq_true rfl⟩) ⟨g_blind cZm, g_recv hK hG (k := 0) (by decide) (cE_4 _ _) vwCl_4, g_pre cZm hK hG hZ hS⟩ rfl rfl hl.1 rfl (lv_room (Nat.le_of_ble_eq_true rfl)) dX4_put_7 ⟨Nat.le_refl _, Nat.le_refl _⟩) hS (fun H locs hG hS => ?_)
  refine lv_istore (lv' := [(4, .int q1.1), (0, .ref (ad 0)), (1, .int x1), (2, .int x2), (3, .int x3)]) hx hb dX4_put_10 hl (by decide) rfl (fun ls hl => ?_)
  refine lv_iload hx hb dX4_put_12 (lv_at hl 0 rfl) ?_
  refine lv_if_eq (tgt := 20) hx hb dX4_put_14 (by decide) (fun c2 => ?_) (fun c2 => ?_)
  · have h := ite_t h c2
    refine lv_aload_n hx hb dX4_put_20 rfl (lv_at hl 1 rfl) ?_
    refine g_get hx hb l4 hown hK hG (k := 0) (by decide) (cE_4 _ _) vwCl_4 1 (by decide) k1 (fun _ h9 => h9) rfl dX4_put_21 ?_
    refine g_get hx hb l2 hown hK hG (k := 10) cShelf_10.1.1 (cE_2 cShelf_10.1 _ _) vwCl_2 2 (by decide) k2 (fun _ h9 => h9) rfl dX4_put_24 ?_
    refine lv_iload_n hx hb dX4_put_27 rfl (lv_at hl 2 rfl) ?_
    refine g_aldq hx hb hK hG (k := 12) (n := 4) (g := fun j => 12 + 1 + j) cShelf_10.2.2.1.1 (cE_9 cShelf_10.2.2.1 _ _) 3 rfl rfl h dX4_put_28 (fun j3 hj3 h => ?_)
    refine lv_iload_n hx hb dX4_put_29 rfl (lv_at hl 3 rfl) ?_
    refine g_ald hx hb hK hG (k := (12 + 1 + j3)) (n := 60) (cShelf_10.2.2.2 j3 hj3).1.1 (cIA_e (cShelf_10.2.2.2 j3 hj3) _ _) 0 rfl h dX4_put_30 (fun v4 h => ?_)
    refine lv_istore (lv' := [(5, .int v4), (4, .int q1.1), (0, .ref (ad 0)), (1, .int x1), (2, .int x2), (3, .int x3)]) hx hb dX4_put_31 hl (by decide) rfl (fun ls hl => ?_)
    refine lv_aload_n hx hb dX4_put_33 rfl (lv_at hl 2 rfl) ?_
    refine g_get hx hb l4 hown hK hG (k := 0) (by decide) (cE_4 _ _) vwCl_4 1 (by decide) k1 (fun _ h9 => h9) rfl dX4_put_34 ?_
    refine g_get hx hb l2 hown hK hG (k := 10) cShelf_10.1.1 (cE_2 cShelf_10.1 _ _) vwCl_2 2 (by decide) k2 (fun _ h9 => h9) rfl dX4_put_37 ?_
    refine lv_iload_n hx hb dX4_put_40 rfl (lv_at hl 3 rfl) ?_
    refine g_aldq hx hb hK hG (k := 12) (n := 4) (g := fun j => 12 + 1 + j) cShelf_10.2.2.1.1 (cE_9 cShelf_10.2.2.1 _ _) 3 rfl rfl h dX4_put_41 (fun j5 hj5 h => ?_)
    refine lv_iload_n hx hb dX4_put_42 rfl (lv_at hl 4 rfl) ?_
    refine lv_iload_n hx hb dX4_put_43 rfl (lv_at hl 5 rfl) ?_
    refine lv_i2b hx hb dX4_put_44 rfl ?_
    refine g_ast hx hb hK hG hi hS (k := (12 + 1 + j5)) (n := 60) (cShelf_10.2.2.2 j5 hj5).1.1 (fun f => cIA_e (cShelf_10.2.2.2 j5 hj5) f _) 0 rfl h dX4_put_45 (fun I6 H locs h hG hS => ?_)
    refine lv_iload hx hb dX4_put_46 (lv_at hl 0 rfl) ?_
    refine lv_sipush (v := (1000 : Int32)) hx hb dX4_put_48 (by decide) ?_
    refine lv_iadd hx hb dX4_put_51 ?_
    have h := Option.some.inj h
    subst h
    subst hQ
    exact g_iret hx hb hr hlocks cZm hK hZ hG hS rfl dX4_put_52
  · have h := ite_f h c2
    refine lv_iload hx hb dX4_put_17 (lv_at hl 0 rfl) ?_
    have h := Option.some.inj h
    subst h
    subst hQ
    exact g_iret hx hb hr hlocks cZm hK hZ hG hS rfl dX4_put_19
def X4_fault (Dr : Nat) (I : xMem) (x1 : Int32) : Option (Int32 × xMem) := (X4_refusedRow I 10 x1).bind fun q1 => if q1.1 = (0 : Int32) then ((rdX 4 x1).bind fun j3 => (rdI q1.2 11 (cLen 11) x1).bind fun v4 => (X1_read Dr q1.2 (12 + 1 + j3) 60 v4).bind fun q5 => some (q5.1, q5.2)) else (some (q1.1, q1.2))
abbrev rm_X4_fault : Room := { frames := 4, cells := 0, slots := 0, locals := 88 }
theorem cd_X4_fault : yX4_fault.cls = RX4 ∧ yX4_fault.cls ≠ "java/lang/invoke/MethodHandle" ∧ yX4_fault.cls ≠ "java/lang/invoke/VarHandle" ∧ (parseMethodDescriptor yX4_fault.desc).map (fun d => d.parameters.length) = some 1 := by decide +kernel
set_option maxHeartbeats 4000000 in
set_option maxRecDepth 100000 in
theorem k_X4_fault (l : Launch) (D : va_G) (cy : Nat → ClassId) (ad : Nat → Nat) (P Dr : Nat) (tI : xTab) (hX : cOk ad P Dr) (I : xMem) (L : xLon) (x1 : Int32) (r : Int32 × xMem) (h : X4_fault Dr I x1 = some r) : Met l yX4_fault wsX4_fault rm_X4_fault (va_Pc [.ref (ad 0), .int x1] (cW D cy ad P Dr tI I L)) (cPi D cy ad P Dr tI r.2 L r.1) 0 0 (gA 64 ad) := by
  refine g_met (own := RX4) (cc := cX4_fault) (maxL := 3) (ret := (some .int)) (by decide) rfl (Nat.le_of_ble_eq_true rfl) rfl ?_
  intro p e s m args below meth c ls hx hb hml hr hlocks hown hts hG hK hZ hl
  generalize hQ : MQ below _ args s 0 0 _ = Q
  have hl : lv_has ls 3 [(0, .ref (ad 0)), (1, .int x1)] := hl
  have hS : va_S (gA 64 ad) s.heap s.heap [] := va_S.rf
  obtain ⟨hi, hP, hDr⟩ := id hX
  have l2 : ∀ w ∈ wsX20, w.before args s = true := fun w h => hts w (List.mem_cons_of_mem _ (List.mem_append_left _ (List.mem_append_right _ h)))
  have l4 : ∀ w ∈ wsX40, w.before args s = true := fun w h => hts w (List.mem_cons_of_mem _ (List.mem_append_left _ (List.mem_append_left _ (List.mem_append_right _ h))))
  have k1 := hts (.fieldLink RX4 18 "PairStairs" "texts" "LPairStairs$Shelf;") (by decide +kernel)
  have k2 := hts (.fieldLink RX4 54 "PairStairs" "draft" "LPairStairs$Plan;") (by decide +kernel)
  have k3 := hts (.fieldLink RX4 68 "PairStairs$Shelf" "places" "[[I") (by decide +kernel)
  have k4 := hts (.fieldLink RX4 80 "PairStairs$Shelf" "sizes" "[I") (by decide +kernel)
  unfold X4_fault at h
  refine lv_aload_n hx hb dX4_fault_0 rfl (lv_at hl 0 rfl) ?_
  refine lv_aload_n hx hb dX4_fault_1 rfl (lv_at hl 0 rfl) ?_
  refine g_get hx hb l4 hown hK hG (k := 0) (by decide) (cE_4 _ _) vwCl_4 1 (by decide) k1 (fun _ h9 => h9) rfl dX4_fault_2 ?_
  refine lv_iload_n hx hb dX4_fault_5 rfl (lv_at hl 1 rfl) ?_
  obtain ⟨q1, eq1, h⟩ := obind h
  refine g_endi (va_runV (As := [.ref (ad 10), .int x1]) (rest := []) ⟨hx, hb, hml, hown, hts⟩ (k_X4_refusedRow l D cy ad P Dr tI hX I L (y1 := 10) cShelf_10 x1 q1 eq1) (cwV 2 hts gX4_fault_X4_refusedRow rfl rfl rfl cd_X4_refusedRow ⟨Nat.le_of_ble_eq_true rfl, Nat.le_of_ble_eq_true rfl⟩) ⟨g_blind cZm, g_recv hK hG (k := 0) (by decide) (cE_4 _ _) vwCl_4, g_pre cZm hK hG hZ hS⟩ rfl rfl hl.1 rfl (lv_room (Nat.le_of_ble_eq_true rfl)) dX4_fault_6 ⟨Nat.le_refl _, Nat.le_refl _⟩) hS (fun H locs hG hS => ?_)
  refine lv_istore_n (lv' := [(2, .int q1.1), (0, .ref (ad 0)), (1, .int x1)]) hx hb dX4_fault_9 rfl hl (by decide) rfl (fun ls hl => ?_)
  refine lv_iload_n hx hb dX4_fault_10 rfl (lv_at hl 0 rfl) ?_
  refine lv_if_eq (tgt := 18) hx hb dX4_fault_11 (by decide) (fun c2 => ?_) (fun c2 => ?_)
  · have h := ite_t h c2
    refine lv_aload_n hx hb dX4_fault_18 rfl (lv_at hl 1 rfl) ?_
    refine g_get hx hb l4 hown hK hG (k := 0) (by decide) (cE_4 _ _) vwCl_4 8 (by decide) k2 (fun _ h9 => h9) rfl dX4_fault_19 ?_
    refine lv_aload_n hx hb dX4_fault_22 rfl (lv_at hl 1 rfl) ?_
    refine g_get hx hb l4 hown hK hG (k := 0) (by decide) (cE_4 _ _) vwCl_4 1 (by decide) k1 (fun _ h9 => h9) rfl dX4_fault_23 ?_
    refine g_get hx hb l2 hown hK hG (k := 10) cShelf_10.1.1 (cE_2 cShelf_10.1 _ _) vwCl_2 2 (by decide) k3 (fun _ h9 => h9) rfl dX4_fault_26 ?_
    refine lv_iload_n hx hb dX4_fault_29 rfl (lv_at hl 2 rfl) ?_
    refine g_aldq hx hb hK hG (k := 12) (n := 4) (g := fun j => 12 + 1 + j) cShelf_10.2.2.1.1 (cE_9 cShelf_10.2.2.1 _ _) 3 rfl rfl h dX4_fault_30 (fun j3 hj3 h => ?_)
    refine lv_aload_n hx hb dX4_fault_31 rfl (lv_at hl 1 rfl) ?_
    refine g_get hx hb l4 hown hK hG (k := 0) (by decide) (cE_4 _ _) vwCl_4 1 (by decide) k1 (fun _ h9 => h9) rfl dX4_fault_32 ?_
    refine g_get hx hb l2 hown hK hG (k := 10) cShelf_10.1.1 (cE_2 cShelf_10.1 _ _) vwCl_2 3 (by decide) k4 (fun _ h9 => h9) rfl dX4_fault_35 ?_
    refine lv_iload_n hx hb dX4_fault_38 rfl (lv_at hl 2 rfl) ?_
    refine g_ald hx hb hK hG (k := 11) (n := (cLen 11)) cShelf_10.2.1.1.1 (cIA_e cShelf_10.2.1 _ _) 0 rfl h dX4_fault_39 (fun v4 h => ?_)
    obtain ⟨q5, eq5, h⟩ := obind h
    refine g_endi (va_runV (As := [.ref (ad (12 + 1 + j3)), .int v4]) (rest := []) ⟨hx, hb, hml, hown, hts⟩ (k_X1_read l D cy ad P Dr tI hX (b := Dr) hDr q1.2 L (y1 := (12 + 1 + j3)) (n1 := 60) (cShelf_10.2.2.2 j3 hj3) v4 q5 eq5) (cwV 2 hts gX4_fault_X1_read rfl rfl rfl cd_X1_read ⟨Nat.le_of_ble_eq_true rfl, Nat.le_of_ble_eq_true rfl⟩) ⟨g_blind cZm, g_recv hK hG (k := Dr) hDr.1.1 (cE_1 hDr.1 _ _) vwCl_1, g_pre cZm hK hG hZ hS⟩ rfl rfl hl.1 rfl (lv_room (Nat.le_of_ble_eq_true rfl)) dX4_fault_40 ⟨Nat.le_refl _, Nat.le_refl _⟩) hS (fun H locs hG hS => ?_)
    have h := Option.some.inj h
    subst h
    subst hQ
    exact g_iret hx hb hr hlocks cZm hK hZ hG hS rfl dX4_fault_43
  · have h := ite_f h c2
    refine lv_iload_n hx hb dX4_fault_14 rfl (lv_at hl 0 rfl) ?_
    refine lv_goto (tgt := 43) hx hb dX4_fault_15 (by decide) ?_
    have h := Option.some.inj h
    subst h
    subst hQ
    exact g_iret hx hb hr hlocks cZm hK hZ hG hS rfl dX4_fault_43
def X4_tower_L1 (K8 : xMem → Option (Int32 × xMem × Nat × Nat)) : Nat → Int32 → xMem → Option (Int32 × xMem × Nat × Nat)
  | 0, _, _ => none
  | n9 + 1, x4_9, I10 => if (3 : Int32) ≤ x4_9 then (K8 I10) else ((wrI I10 38 3 x4_9 (nz (0 : Int32))).bind fun I13 => X4_tower_L1 K8 n9 (x4_9 + (1 : Int32)) I13)
def X4_tower (P : Nat) (Dr : Nat) (I : xMem) (x1 : Int32) : Option (Int32 × xMem × Nat × Nat) := (X4_refusedRow I 10 x1).bind fun q1 => if q1.1 = (0 : Int32) then ((rdX 4 x1).bind fun j3 => (rdI q1.2 11 (cLen 11) x1).bind fun v4 => (X1_read Dr q1.2 (12 + 1 + j3) 60 v4).bind fun q5 => if q5.1 = (-9 : Int32) then ((some (wr q5.2 17 0 (0 : Int32))).bind fun I7 => X4_tower_L1 (fun (I11 : xMem) => some ((I11 Dr 2), I11, Dr, P)) bigF (0 : Int32) I7) else (some ((-4 : Int32), q5.2, P, Dr))) else (some (q1.1, q1.2, P, Dr))
abbrev rm_X4_tower : Room := { frames := 4, cells := 0, slots := 0, locals := 88 }
theorem cd_X4_tower : yX4_tower.cls = RX4 ∧ yX4_tower.cls ≠ "java/lang/invoke/MethodHandle" ∧ yX4_tower.cls ≠ "java/lang/invoke/VarHandle" ∧ (parseMethodDescriptor yX4_tower.desc).map (fun d => d.parameters.length) = some 1 := by decide +kernel
set_option maxHeartbeats 4000000 in
set_option maxRecDepth 100000 in
theorem k_X4_tower (l : Launch) (D : va_G) (cy : Nat → ClassId) (ad : Nat → Nat) (P Dr : Nat) (tI : xTab) (hX : cOk ad P Dr) (I : xMem) (L : xLon) (x1 : Int32) (r : Int32 × xMem × Nat × Nat) (h : X4_tower P Dr I x1 = some r) : Met l yX4_tower wsX4_tower rm_X4_tower (va_Pc [.ref (ad 0), .int x1] (cW D cy ad P Dr tI I L)) (cPi D cy ad r.2.2.1 r.2.2.2 tI r.2.1 L r.1) 0 0 (gA 64 ad) := by
  refine g_met (own := RX4) (cc := cX4_tower) (maxL := 5) (ret := (some .int)) (by decide) rfl (Nat.le_of_ble_eq_true rfl) rfl ?_
  intro p e s m args below meth c ls hx hb hml hr hlocks hown hts hG hK hZ hl
  generalize hQ : MQ below _ args s 0 0 _ = Q
  have hl : lv_has ls 5 [(0, .ref (ad 0)), (1, .int x1)] := hl
  have hS : va_S (gA 64 ad) s.heap s.heap [] := va_S.rf
  obtain ⟨hi, hP, hDr⟩ := id hX
  have l0 : ∀ w ∈ wsX00, w.before args s = true := fun w h => hts w (List.mem_cons_of_mem _ (List.mem_append_left _ (List.mem_append_right _ h)))
  have l1 : ∀ w ∈ wsX10, w.before args s = true := fun w h => hts w (List.mem_cons_of_mem _ (List.mem_append_right _ h))
  have l2 : ∀ w ∈ wsX20, w.before args s = true := fun w h => hts w (List.mem_cons_of_mem _ (List.mem_append_left _ (List.mem_append_left _ (List.mem_append_right _ h))))
  have l4 : ∀ w ∈ wsX40, w.before args s = true := fun w h => hts w (List.mem_cons_of_mem _ (List.mem_append_left _ (List.mem_append_left _ (List.mem_append_left _ (List.mem_append_right _ h)))))
  have k1 := hts (.fieldLink RX4 18 "PairStairs" "texts" "LPairStairs$Shelf;") (by decide +kernel)
  have k2 := hts (.fieldLink RX4 54 "PairStairs" "draft" "LPairStairs$Plan;") (by decide +kernel)
  have k3 := hts (.fieldLink RX4 68 "PairStairs$Shelf" "places" "[[I") (by decide +kernel)
  have k4 := hts (.fieldLink RX4 80 "PairStairs$Shelf" "sizes" "[I") (by decide +kernel)
  have k5 := hts (.fieldLink RX4 50 "PairStairs" "plan" "LPairStairs$Plan;") (by decide +kernel)
  have k6 := hts (.fieldLink RX4 24 "PairStairs" "deeds" "LPairStairs$Deeds;") (by decide +kernel)
  have k7 := hts (.fieldLink RX4 112 "PairStairs$Deeds" "done" "I") (by decide +kernel)
  have k8 := hts (.fieldLink RX4 32 "PairStairs" "isKept" "[Z") (by decide +kernel)
  have k9 := hts (.fieldLink RX4 115 "PairStairs$Plan" "people" "I") (by decide +kernel)
  unfold X4_tower at h
  refine lv_aload_n hx hb dX4_tower_0 rfl (lv_at hl 0 rfl) ?_
  refine lv_aload_n hx hb dX4_tower_1 rfl (lv_at hl 0 rfl) ?_
  refine g_get hx hb l4 hown hK hG (k := 0) (by decide) (cE_4 _ _) vwCl_4 1 (by decide) k1 (fun _ h9 => h9) rfl dX4_tower_2 ?_
  refine lv_iload_n hx hb dX4_tower_5 rfl (lv_at hl 1 rfl) ?_
  obtain ⟨q1, eq1, h⟩ := obind h
  refine g_endi (va_runV (As := [.ref (ad 10), .int x1]) (rest := []) ⟨hx, hb, hml, hown, hts⟩ (k_X4_refusedRow l D cy ad P Dr tI hX I L (y1 := 10) cShelf_10 x1 q1 eq1) (cwV 2 hts gX4_tower_X4_refusedRow rfl rfl rfl cd_X4_refusedRow ⟨Nat.le_of_ble_eq_true rfl, Nat.le_of_ble_eq_true rfl⟩) ⟨g_blind cZm, g_recv hK hG (k := 0) (by decide) (cE_4 _ _) vwCl_4, g_pre cZm hK hG hZ hS⟩ rfl rfl hl.1 rfl (lv_room (Nat.le_of_ble_eq_true rfl)) dX4_tower_6 ⟨Nat.le_refl _, Nat.le_refl _⟩) hS (fun H locs hG hS => ?_)
  refine lv_istore_n (lv' := [(2, .int q1.1), (0, .ref (ad 0)), (1, .int x1)]) hx hb dX4_tower_9 rfl hl (by decide) rfl (fun ls hl => ?_)
  refine lv_iload_n hx hb dX4_tower_10 rfl (lv_at hl 0 rfl) ?_
  refine lv_if_eq (tgt := 16) hx hb dX4_tower_11 (by decide) (fun c2 => ?_) (fun c2 => ?_)
  · have h := ite_t h c2
    refine lv_aload_n hx hb dX4_tower_16 rfl (lv_at hl 1 rfl) ?_
    refine g_get hx hb l4 hown hK hG (k := 0) (by decide) (cE_4 _ _) vwCl_4 8 (by decide) k2 (fun _ h9 => h9) rfl dX4_tower_17 ?_
    refine lv_aload_n hx hb dX4_tower_20 rfl (lv_at hl 1 rfl) ?_
    refine g_get hx hb l4 hown hK hG (k := 0) (by decide) (cE_4 _ _) vwCl_4 1 (by decide) k1 (fun _ h9 => h9) rfl dX4_tower_21 ?_
    refine g_get hx hb l2 hown hK hG (k := 10) cShelf_10.1.1 (cE_2 cShelf_10.1 _ _) vwCl_2 2 (by decide) k3 (fun _ h9 => h9) rfl dX4_tower_24 ?_
    refine lv_iload_n hx hb dX4_tower_27 rfl (lv_at hl 2 rfl) ?_
    refine g_aldq hx hb hK hG (k := 12) (n := 4) (g := fun j => 12 + 1 + j) cShelf_10.2.2.1.1 (cE_9 cShelf_10.2.2.1 _ _) 3 rfl rfl h dX4_tower_28 (fun j3 hj3 h => ?_)
    refine lv_aload_n hx hb dX4_tower_29 rfl (lv_at hl 1 rfl) ?_
    refine g_get hx hb l4 hown hK hG (k := 0) (by decide) (cE_4 _ _) vwCl_4 1 (by decide) k1 (fun _ h9 => h9) rfl dX4_tower_30 ?_
    refine g_get hx hb l2 hown hK hG (k := 10) cShelf_10.1.1 (cE_2 cShelf_10.1 _ _) vwCl_2 3 (by decide) k4 (fun _ h9 => h9) rfl dX4_tower_33 ?_
    refine lv_iload_n hx hb dX4_tower_36 rfl (lv_at hl 2 rfl) ?_
    refine g_ald hx hb hK hG (k := 11) (n := (cLen 11)) cShelf_10.2.1.1.1 (cIA_e cShelf_10.2.1 _ _) 0 rfl h dX4_tower_37 (fun v4 h => ?_)
    obtain ⟨q5, eq5, h⟩ := obind h
    refine g_endi (va_runV (As := [.ref (ad (12 + 1 + j3)), .int v4]) (rest := []) ⟨hx, hb, hml, hown, hts⟩ (k_X1_read l D cy ad P Dr tI hX (b := Dr) hDr q1.2 L (y1 := (12 + 1 + j3)) (n1 := 60) (cShelf_10.2.2.2 j3 hj3) v4 q5 eq5) (cwV 2 hts gX4_tower_X1_read rfl rfl rfl cd_X1_read ⟨Nat.le_of_ble_eq_true rfl, Nat.le_of_ble_eq_true rfl⟩) ⟨g_blind cZm, g_recv hK hG (k := Dr) hDr.1.1 (cE_1 hDr.1 _ _) vwCl_1, g_pre cZm hK hG hZ hS⟩ rfl rfl hl.1 rfl (lv_room (Nat.le_of_ble_eq_true rfl)) dX4_tower_38 ⟨Nat.le_refl _, Nat.le_refl _⟩) hS (fun H locs hG hS => ?_)
    refine lv_bipush (v := (-9 : Int32)) hx hb dX4_tower_41 (by decide) ?_
    refine lv_icmp_eq (tgt := 49) hx hb dX4_tower_43 (by decide) (fun c6 => ?_) (fun c6 => ?_)
    · have h := ite_t h c6
      refine lv_aload_n hx hb dX4_tower_49 rfl (lv_at hl 1 rfl) ?_
      refine g_get hx hb l4 hown hK hG (k := 0) (by decide) (cE_4 _ _) vwCl_4 7 (by decide) k5 (fun _ h9 => h9) rfl dX4_tower_50 ?_
      refine lv_astore_n (lv' := [(3, .ref (ad P)), (2, .int q1.1), (0, .ref (ad 0)), (1, .int x1)]) hx hb dX4_tower_53 rfl hl (by decide) rfl (fun ls hl => ?_)
      refine lv_aload_n hx hb dX4_tower_54 rfl (lv_at hl 2 rfl) ?_
      refine lv_aload_n hx hb dX4_tower_55 rfl (lv_at hl 2 rfl) ?_
      refine g_get hx hb l4 hown hK hG (k := 0) (by decide) (cE_4 _ _) vwCl_4 8 (by decide) k2 (fun _ h9 => h9) rfl dX4_tower_56 ?_
      refine c_putplan hx hb l4 hown hK hG hi hS k5 dX4_tower_59 (fun H locs hG hS => ?_)
      refine lv_aload_n hx hb dX4_tower_62 rfl (lv_at hl 2 rfl) ?_
      refine lv_aload_n hx hb dX4_tower_63 rfl (lv_at hl 0 rfl) ?_
      refine c_putdraft hx hb l4 hown hK hG hi hS k2 dX4_tower_64 (fun H locs hG hS => ?_)
      refine lv_aload_n hx hb dX4_tower_67 rfl (lv_at hl 2 rfl) ?_
      refine g_get hx hb l4 hown hK hG (k := 0) (by decide) (cE_4 _ _) vwCl_4 2 (by decide) k6 (fun _ h9 => h9) rfl dX4_tower_68 ?_
      refine lv_iconst (v := (0 : Int32)) hx hb dX4_tower_71 (by decide) ?_
      obtain ⟨I7, eI7, h⟩ := obind h
      refine g_put hx hb l0 tyX0_ok nmX0 hown hK hG hi hS (k := 17) cDeeds_17.1.1 (cE_0 cDeeds_17.1 _ _) vwCl_0 0 (by decide) k7 (fun _ h9 => h9) rfl rfl (Nat.le_of_ble_eq_true rfl) (by rw [cE_0 cDeeds_17.1 _ _]; rfl) dX4_tower_72 (fun H locs hG hS => ?_)
      rw [Option.some.inj eI7] at hG
      refine lv_iconst (v := (0 : Int32)) hx hb dX4_tower_75 (by decide) ?_
      refine lv_istore (lv' := [(4, .int (0 : Int32)), (3, .ref (ad P)), (2, .int q1.1), (0, .ref (ad 0)), (1, .int x1)]) hx hb dX4_tower_76 hl (by decide) rfl (fun ls hl => ?_)
      have keyK8 : ∀ (K8 : xMem → Option (Int32 × xMem × Nat × Nat)), (∀ (I11 : xMem) (H : Heap) (locs : List Loc) (ls : Array Slot), K8 I11 = some r → cG D cy ad Dr P I11 L H → va_S (gA 64 ad) s.heap H locs → lv_has ls 5 [(0, .ref (ad 0))] → W p l e rm_X4_tower s m args below meth c H locs 0 0 Q (F0 m 98 ls [])) → ∀ (n9 : Nat) (x4_9 : Int32) (I10 : xMem) (H : Heap) (locs : List Loc) (ls : Array Slot), X4_tower_L1 K8 n9 x4_9 I10 = some r → cG D cy ad Dr P I10 L H → va_S (gA 64 ad) s.heap H locs → lv_has ls 5 [(0, .ref (ad 0)), (4, .int x4_9)] → W p l e rm_X4_tower s m args below meth c H locs 0 0 Q (F0 m 78 ls []) := by
        intro K8 hkK8 n9
        induction n9 with
        | zero =>
          intro x4_9 I10 H locs ls h
          exact ono h
        | succ n9 ihn9 =>
          intro x4_9 I10 H locs ls h hG hS hl
          rw [X4_tower_L1] at h
          refine lv_iload hx hb dX4_tower_78 (lv_at hl 1 rfl) ?_
          refine lv_iconst (v := (3 : Int32)) hx hb dX4_tower_80 (by decide) ?_
          refine lv_icmp_ge (tgt := 98) hx hb dX4_tower_81 (by decide) (fun c12 => ?_) (fun c12 => ?_)
          · have h := ite_t h c12
            exact hkK8 I10 _ _ _ h hG hS (lv_sub hl [0] rfl)
          · have h := ite_f h c12
            refine lv_aload_n hx hb dX4_tower_84 rfl (lv_at hl 0 rfl) ?_
            refine g_get hx hb l4 hown hK hG (k := 0) (by decide) (cE_4 _ _) vwCl_4 4 (by decide) k8 (fun _ h9 => h9) rfl dX4_tower_85 ?_
            refine lv_iload hx hb dX4_tower_88 (lv_at hl 1 rfl) ?_
            refine lv_iconst (v := (0 : Int32)) hx hb dX4_tower_90 (by decide) ?_
            refine g_zast hx hb hK hG hi hS (k := 38) (n := 3) (by decide) (fun f => cE_7 f _) 1 rfl h dX4_tower_91 (fun I13 H locs h hG hS => ?_)
            refine lv_iinc (v := (x4_9 + (1 : Int32))) (lv' := [(4, .int (x4_9 + (1 : Int32))), (0, .ref (ad 0))]) hx hb dX4_tower_92 hl (k := 1) rfl rfl (by decide) rfl (fun ls hl => ?_)
            refine lv_goto (tgt := 78) hx hb dX4_tower_95 (by decide) ?_
            exact ihn9 (x4_9 + (1 : Int32)) I13 _ _ _ h hG hS (lv_sub hl [1, 0] rfl)
      refine keyK8 _ (fun I11 H locs ls h hG hS hl => ?_) bigF (0 : Int32) I7 _ _ _ h hG hS (lv_sub hl [3, 0] rfl)
      clear keyK8
      refine lv_aload_n hx hb dX4_tower_98 rfl (lv_at hl 0 rfl) ?_
      refine g_get hx hb l4 hown hK hG (k := 0) (by decide) (cE_4 _ _) vwCl_4 7 (by decide) k5 (fun _ h9 => h9) rfl dX4_tower_99 ?_
      refine g_get hx hb l1 hown hK hG (k := Dr) hDr.1.1 (cE_1 hDr.1 _ _) vwCl_1 2 (by decide) k9 (fun _ h9 => h9) rfl dX4_tower_102 ?_
      have h := Option.some.inj h
      subst h
      subst hQ
      exact g_iret hx hb hr hlocks cZm hK hZ hG hS rfl dX4_tower_105
    · have h := ite_f h c6
      refine lv_bipush (v := (-4 : Int32)) hx hb dX4_tower_46 (by decide) ?_
      have h := Option.some.inj h
      subst h
      subst hQ
      exact g_iret hx hb hr hlocks cZm hK hZ hG hS rfl dX4_tower_48
  · have h := ite_f h c2
    refine lv_iload_n hx hb dX4_tower_14 rfl (lv_at hl 0 rfl) ?_
    have h := Option.some.inj h
    subst h
    subst hQ
    exact g_iret hx hb hr hlocks cZm hK hZ hG hS rfl dX4_tower_15
def X4_areApart (I : xMem) (x1 : Int32) (x2 : Int32) : Option (Int32) := (X0_top 17 I).bind fun v1 => (X0_top 17 I).bind fun v2 => if ((v1 >>> (x1 &&& 31)) &&& (1 : Int32)) = ((v2 >>> (x2 &&& 31)) &&& (1 : Int32)) then (some (nz (0 : Int32))) else (some (nz (1 : Int32)))
abbrev rm_X4_areApart : Room := { frames := 1, cells := 0, slots := 0, locals := 20 }
theorem cd_X4_areApart : yX4_areApart.cls = RX4 ∧ yX4_areApart.cls ≠ "java/lang/invoke/MethodHandle" ∧ yX4_areApart.cls ≠ "java/lang/invoke/VarHandle" ∧ (parseMethodDescriptor yX4_areApart.desc).map (fun d => d.parameters.length) = some 2 := by decide +kernel
set_option maxHeartbeats 4000000 in
set_option maxRecDepth 100000 in
theorem k_X4_areApart (l : Launch) (D : va_G) (cy : Nat → ClassId) (ad : Nat → Nat) (P Dr : Nat) (tI : xTab) (hX : cOk ad P Dr) (I : xMem) (L : xLon) (x1 : Int32) (x2 : Int32) (r : Int32) (h : X4_areApart I x1 x2 = some r) : Met l yX4_areApart wsX4_areApart rm_X4_areApart (va_Pc [.ref (ad 0), .int x1, .int x2] (cW D cy ad P Dr tI I L)) (cPi D cy ad P Dr tI I L r) 0 0 (gA 64 ad) := by
  refine g_met (own := RX4) (cc := cX4_areApart) (maxL := 3) (ret := (some .boolean)) (by decide) rfl (Nat.le_of_ble_eq_true rfl) rfl ?_
  intro p e s m args below meth c ls hx hb hml hr hlocks hown hts hG hK hZ hl
  generalize hQ : MQ below _ args s 0 0 _ = Q
  have hl : lv_has ls 3 [(0, .ref (ad 0)), (1, .int x1), (2, .int x2)] := hl
  have hS : va_S (gA 64 ad) s.heap s.heap [] := va_S.rf
  obtain ⟨hi, hP, hDr⟩ := id hX
  have l4 : ∀ w ∈ wsX40, w.before args s = true := fun w h => hts w (List.mem_cons_of_mem _ (List.mem_append_left _ (List.mem_append_right _ h)))
  have k1 := hts (.fieldLink RX4 24 "PairStairs" "deeds" "LPairStairs$Deeds;") (by decide +kernel)
  unfold X4_areApart at h
  refine lv_aload_n hx hb dX4_areApart_0 rfl (lv_at hl 0 rfl) ?_
  refine g_get hx hb l4 hown hK hG (k := 0) (by decide) (cE_4 _ _) vwCl_4 2 (by decide) k1 (fun _ h9 => h9) rfl dX4_areApart_1 ?_
  obtain ⟨v1, ev1, h⟩ := obind h
  refine g_endi (va_runV (As := []) (rest := []) ⟨hx, hb, hml, hown, hts⟩ (k_X0_top l D cy ad P Dr tI hX (b := 17) cDeeds_17 I L v1 ev1) (cwV 0 hts gX4_areApart_X0_top rfl rfl rfl cd_X0_top ⟨Nat.le_of_ble_eq_true rfl, Nat.le_of_ble_eq_true rfl⟩) ⟨g_blind cZm, g_recv hK hG (k := 17) cDeeds_17.1.1 (cE_0 cDeeds_17.1 _ _) vwCl_0, g_pre cZm hK hG hZ hS⟩ rfl rfl hl.1 rfl (lv_room (Nat.le_of_ble_eq_true rfl)) dX4_areApart_4 ⟨Nat.le_refl _, Nat.le_refl _⟩) hS (fun H locs hG hS => ?_)
  refine lv_iload_n hx hb dX4_areApart_7 rfl (lv_at hl 1 rfl) ?_
  refine lv_ishr hx hb dX4_areApart_8 ?_
  refine lv_iconst (v := (1 : Int32)) hx hb dX4_areApart_9 (by decide) ?_
  refine lv_iand hx hb dX4_areApart_10 ?_
  refine lv_aload_n hx hb dX4_areApart_11 rfl (lv_at hl 0 rfl) ?_
  refine g_get hx hb l4 hown hK hG (k := 0) (by decide) (cE_4 _ _) vwCl_4 2 (by decide) k1 (fun _ h9 => h9) rfl dX4_areApart_12 ?_
  obtain ⟨v2, ev2, h⟩ := obind h
  refine g_endi (va_runV (As := []) (rest := [.int ((v1 >>> (x1 &&& 31)) &&& (1 : Int32))]) ⟨hx, hb, hml, hown, hts⟩ (k_X0_top l D cy ad P Dr tI hX (b := 17) cDeeds_17 I L v2 ev2) (cwV 0 hts gX4_areApart_X0_top rfl rfl rfl cd_X0_top ⟨Nat.le_of_ble_eq_true rfl, Nat.le_of_ble_eq_true rfl⟩) ⟨g_blind cZm, g_recv hK hG (k := 17) cDeeds_17.1.1 (cE_0 cDeeds_17.1 _ _) vwCl_0, g_pre cZm hK hG hZ hS⟩ rfl rfl hl.1 rfl (lv_room (Nat.le_of_ble_eq_true rfl)) dX4_areApart_15 ⟨Nat.le_refl _, Nat.le_refl _⟩) hS (fun H locs hG hS => ?_)
  refine lv_iload_n hx hb dX4_areApart_18 rfl (lv_at hl 2 rfl) ?_
  refine lv_ishr hx hb dX4_areApart_19 ?_
  refine lv_iconst (v := (1 : Int32)) hx hb dX4_areApart_20 (by decide) ?_
  refine lv_iand hx hb dX4_areApart_21 ?_
  refine lv_icmp_eq (tgt := 29) hx hb dX4_areApart_22 (by decide) (fun c3 => ?_) (fun c3 => ?_)
  · have h := ite_t h c3
    refine lv_iconst (v := (0 : Int32)) hx hb dX4_areApart_29 (by decide) ?_
    have h := Option.some.inj h
    subst h
    subst hQ
    exact g_zret hx hb hr hlocks cZm hK hZ hG hS rfl dX4_areApart_30
  · have h := ite_f h c3
    refine lv_iconst (v := (1 : Int32)) hx hb dX4_areApart_25 (by decide) ?_
    refine lv_goto (tgt := 30) hx hb dX4_areApart_26 (by decide) ?_
    have h := Option.some.inj h
    subst h
    subst hQ
    exact g_zret hx hb hr hlocks cZm hK hZ hG hS rfl dX4_areApart_30
def X4_counts (P : Nat) (I : xMem) (x1 : Int32) : Option (Int32) := (rdI I (P + 3) 6 x1).bind fun v1 => (rdI I (P + 4) 6 x1).bind fun v2 => (X0_eaten 17 I).bind fun v3 => some (X4_counted v1 v2 v3)
abbrev rm_X4_counts : Room := { frames := 1, cells := 0, slots := 0, locals := 22 }
theorem cd_X4_counts : yX4_counts.cls = RX4 ∧ yX4_counts.cls ≠ "java/lang/invoke/MethodHandle" ∧ yX4_counts.cls ≠ "java/lang/invoke/VarHandle" ∧ (parseMethodDescriptor yX4_counts.desc).map (fun d => d.parameters.length) = some 1 := by decide +kernel
set_option maxHeartbeats 4000000 in
set_option maxRecDepth 100000 in
theorem k_X4_counts (l : Launch) (D : va_G) (cy : Nat → ClassId) (ad : Nat → Nat) (P Dr : Nat) (tI : xTab) (hX : cOk ad P Dr) (I : xMem) (L : xLon) (x1 : Int32) (r : Int32) (h : X4_counts P I x1 = some r) : Met l yX4_counts wsX4_counts rm_X4_counts (va_Pc [.ref (ad 0), .int x1] (cW D cy ad P Dr tI I L)) (cPi D cy ad P Dr tI I L r) 0 0 (gA 64 ad) := by
  refine g_met (own := RX4) (cc := cX4_counts) (maxL := 2) (ret := (some .int)) (by decide) rfl (Nat.le_of_ble_eq_true rfl) rfl ?_
  intro p e s m args below meth c ls hx hb hml hr hlocks hown hts hG hK hZ hl
  generalize hQ : MQ below _ args s 0 0 _ = Q
  have hl : lv_has ls 2 [(0, .ref (ad 0)), (1, .int x1)] := hl
  have hS : va_S (gA 64 ad) s.heap s.heap [] := va_S.rf
  obtain ⟨hi, hP, hDr⟩ := id hX
  have l1 : ∀ w ∈ wsX10, w.before args s = true := fun w h => hts w (List.mem_cons_of_mem _ (List.mem_append_left _ (List.mem_append_right _ h)))
  have l4 : ∀ w ∈ wsX40, w.before args s = true := fun w h => hts w (List.mem_cons_of_mem _ (List.mem_append_left _ (List.mem_append_left _ (List.mem_append_right _ h))))
  have k1 := hts (.fieldLink RX4 50 "PairStairs" "plan" "LPairStairs$Plan;") (by decide +kernel)
  have k2 := hts (.fieldLink RX4 128 "PairStairs$Plan" "kind" "[I") (by decide +kernel)
  have k3 := hts (.fieldLink RX4 134 "PairStairs$Plan" "weight" "[I") (by decide +kernel)
  have k4 := hts (.fieldLink RX4 24 "PairStairs" "deeds" "LPairStairs$Deeds;") (by decide +kernel)
  unfold X4_counts at h
  refine lv_aload_n hx hb dX4_counts_0 rfl (lv_at hl 0 rfl) ?_
  refine g_get hx hb l4 hown hK hG (k := 0) (by decide) (cE_4 _ _) vwCl_4 7 (by decide) k1 (fun _ h9 => h9) rfl dX4_counts_1 ?_
  refine g_get hx hb l1 hown hK hG (k := P) hP.1.1 (cE_1 hP.1 _ _) vwCl_1 5 (by decide) k2 (fun _ h9 => h9) rfl dX4_counts_4 ?_
  refine lv_iload_n hx hb dX4_counts_7 rfl (lv_at hl 1 rfl) ?_
  refine g_ald hx hb hK hG (k := (P + 3)) (n := 6) hP.2.2.2.1.1.1 (cIA_e hP.2.2.2.1 _ _) 0 rfl h dX4_counts_8 (fun v1 h => ?_)
  refine lv_aload_n hx hb dX4_counts_9 rfl (lv_at hl 0 rfl) ?_
  refine g_get hx hb l4 hown hK hG (k := 0) (by decide) (cE_4 _ _) vwCl_4 7 (by decide) k1 (fun _ h9 => h9) rfl dX4_counts_10 ?_
  refine g_get hx hb l1 hown hK hG (k := P) hP.1.1 (cE_1 hP.1 _ _) vwCl_1 6 (by decide) k3 (fun _ h9 => h9) rfl dX4_counts_13 ?_
  refine lv_iload_n hx hb dX4_counts_16 rfl (lv_at hl 1 rfl) ?_
  refine g_ald hx hb hK hG (k := (P + 4)) (n := 6) hP.2.2.2.2.1.1 (cIA_e hP.2.2.2.2 _ _) 0 rfl h dX4_counts_17 (fun v2 h => ?_)
  refine lv_aload_n hx hb dX4_counts_18 rfl (lv_at hl 0 rfl) ?_
  refine g_get hx hb l4 hown hK hG (k := 0) (by decide) (cE_4 _ _) vwCl_4 2 (by decide) k4 (fun _ h9 => h9) rfl dX4_counts_19 ?_
  obtain ⟨v3, ev3, h⟩ := obind h
  refine g_endi (va_runV (As := []) (rest := [.int v2, .int v1]) ⟨hx, hb, hml, hown, hts⟩ (k_X0_eaten l D cy ad P Dr tI hX (b := 17) cDeeds_17 I L v3 ev3) (cwV 0 hts gX4_counts_X0_eaten rfl rfl rfl cd_X0_eaten ⟨Nat.le_of_ble_eq_true rfl, Nat.le_of_ble_eq_true rfl⟩) ⟨g_blind cZm, g_recv hK hG (k := 17) cDeeds_17.1.1 (cE_0 cDeeds_17.1 _ _) vwCl_0, g_pre cZm hK hG hZ hS⟩ rfl rfl hl.1 rfl (lv_room (Nat.le_of_ble_eq_true rfl)) dX4_counts_22 ⟨Nat.le_refl _, Nat.le_refl _⟩) hS (fun H locs hG hS => ?_)
  refine g_endi (va_runS (As := [.int v1, .int v2, .int v3]) (rest := []) ⟨hx, hb, hml, hown, hts⟩ (k_X4_counted l D cy ad P Dr tI hX I L v1 v2 v3 _ rfl) (va_cwS 3 hts gX4_counts_X4_counted rfl rfl rfl cd_X4_counted.2 ⟨Nat.le_of_ble_eq_true rfl, Nat.le_of_ble_eq_true rfl⟩) ⟨g_blind cZm, g_pre cZm hK hG hZ hS⟩ rfl rfl hl.1 rfl (lv_room (Nat.le_of_ble_eq_true rfl)) dX4_counts_25 ⟨Nat.le_refl _, Nat.le_refl _⟩) hS (fun H locs hG hS => ?_)
  have h := Option.some.inj h
  subst h
  subst hQ
  exact g_iret hx hb hr hlocks cZm hK hZ hG hS rfl dX4_counts_28
def X4_least (P : Nat) (I : xMem) (x1 : Int32) (x2 : Int32) (x3 : Int32) : Option (Int32) := (X4_counts P I x1).bind fun v1 => (X4_counts P I x2).bind fun v2 => (X1_areTwins P I x1 x2).bind fun v3 => (X1_least P I (v1 - v2) v3 x3).bind fun v4 => some v4
abbrev rm_X4_least : Room := { frames := 3, cells := 0, slots := 0, locals := 70 }
theorem cd_X4_least : yX4_least.cls = RX4 ∧ yX4_least.cls ≠ "java/lang/invoke/MethodHandle" ∧ yX4_least.cls ≠ "java/lang/invoke/VarHandle" ∧ (parseMethodDescriptor yX4_least.desc).map (fun d => d.parameters.length) = some 3 := by decide +kernel
set_option maxHeartbeats 4000000 in
set_option maxRecDepth 100000 in
theorem k_X4_least (l : Launch) (D : va_G) (cy : Nat → ClassId) (ad : Nat → Nat) (P Dr : Nat) (tI : xTab) (hX : cOk ad P Dr) (I : xMem) (L : xLon) (x1 : Int32) (x2 : Int32) (x3 : Int32) (r : Int32) (h : X4_least P I x1 x2 x3 = some r) : Met l yX4_least wsX4_least rm_X4_least (va_Pc [.ref (ad 0), .int x1, .int x2, .int x3] (cW D cy ad P Dr tI I L)) (cPi D cy ad P Dr tI I L r) 0 0 (gA 64 ad) := by
  refine g_met (own := RX4) (cc := cX4_least) (maxL := 4) (ret := (some .int)) (by decide) rfl (Nat.le_of_ble_eq_true rfl) rfl ?_
  intro p e s m args below meth c ls hx hb hml hr hlocks hown hts hG hK hZ hl
  generalize hQ : MQ below _ args s 0 0 _ = Q
  have hl : lv_has ls 4 [(0, .ref (ad 0)), (1, .int x1), (2, .int x2), (3, .int x3)] := hl
  have hS : va_S (gA 64 ad) s.heap s.heap [] := va_S.rf
  obtain ⟨hi, hP, hDr⟩ := id hX
  have l4 : ∀ w ∈ wsX40, w.before args s = true := fun w h => hts w (List.mem_cons_of_mem _ (List.mem_append_left _ (List.mem_append_left _ (List.mem_append_right _ h))))
  have k1 := hts (.fieldLink RX4 50 "PairStairs" "plan" "LPairStairs$Plan;") (by decide +kernel)
  unfold X4_least at h
  refine lv_aload_n hx hb dX4_least_0 rfl (lv_at hl 0 rfl) ?_
  refine g_get hx hb l4 hown hK hG (k := 0) (by decide) (cE_4 _ _) vwCl_4 7 (by decide) k1 (fun _ h9 => h9) rfl dX4_least_1 ?_
  refine lv_aload_n hx hb dX4_least_4 rfl (lv_at hl 0 rfl) ?_
  refine lv_iload_n hx hb dX4_least_5 rfl (lv_at hl 1 rfl) ?_
  obtain ⟨v1, ev1, h⟩ := obind h
  refine g_endi (va_runV (As := [.int x1]) (rest := [.ref (ad P)]) ⟨hx, hb, hml, hown, hts⟩ (k_X4_counts l D cy ad P Dr tI hX I L x1 v1 ev1) (cwV 1 hts gX4_least_X4_counts rfl rfl rfl cd_X4_counts ⟨Nat.le_of_ble_eq_true rfl, Nat.le_of_ble_eq_true rfl⟩) ⟨g_blind cZm, g_recv hK hG (k := 0) (by decide) (cE_4 _ _) vwCl_4, g_pre cZm hK hG hZ hS⟩ rfl rfl hl.1 rfl (lv_room (Nat.le_of_ble_eq_true rfl)) dX4_least_6 ⟨Nat.le_refl _, Nat.le_refl _⟩) hS (fun H locs hG hS => ?_)
  refine lv_aload_n hx hb dX4_least_9 rfl (lv_at hl 0 rfl) ?_
  refine lv_iload_n hx hb dX4_least_10 rfl (lv_at hl 2 rfl) ?_
  obtain ⟨v2, ev2, h⟩ := obind h
  refine g_endi (va_runV (As := [.int x2]) (rest := [.int v1, .ref (ad P)]) ⟨hx, hb, hml, hown, hts⟩ (k_X4_counts l D cy ad P Dr tI hX I L x2 v2 ev2) (cwV 1 hts gX4_least_X4_counts rfl rfl rfl cd_X4_counts ⟨Nat.le_of_ble_eq_true rfl, Nat.le_of_ble_eq_true rfl⟩) ⟨g_blind cZm, g_recv hK hG (k := 0) (by decide) (cE_4 _ _) vwCl_4, g_pre cZm hK hG hZ hS⟩ rfl rfl hl.1 rfl (lv_room (Nat.le_of_ble_eq_true rfl)) dX4_least_11 ⟨Nat.le_refl _, Nat.le_refl _⟩) hS (fun H locs hG hS => ?_)
  refine lv_isub hx hb dX4_least_14 ?_
  refine lv_aload_n hx hb dX4_least_15 rfl (lv_at hl 0 rfl) ?_
  refine g_get hx hb l4 hown hK hG (k := 0) (by decide) (cE_4 _ _) vwCl_4 7 (by decide) k1 (fun _ h9 => h9) rfl dX4_least_16 ?_
  refine lv_iload_n hx hb dX4_least_19 rfl (lv_at hl 1 rfl) ?_
  refine lv_iload_n hx hb dX4_least_20 rfl (lv_at hl 2 rfl) ?_
  obtain ⟨v3, ev3, h⟩ := obind h
  refine g_endi (va_runV (As := [.int x1, .int x2]) (rest := [.int (v1 - v2), .ref (ad P)]) ⟨hx, hb, hml, hown, hts⟩ (k_X1_areTwins l D cy ad P Dr tI hX (b := P) hP I L x1 x2 v3 ev3) (cwV 2 hts gX4_least_X1_areTwins rfl rfl rfl cd_X1_areTwins ⟨Nat.le_of_ble_eq_true rfl, Nat.le_of_ble_eq_true rfl⟩) ⟨g_blind cZm, g_recv hK hG (k := P) hP.1.1 (cE_1 hP.1 _ _) vwCl_1, g_pre cZm hK hG hZ hS⟩ rfl rfl hl.1 rfl (lv_room (Nat.le_of_ble_eq_true rfl)) dX4_least_21 ⟨Nat.le_refl _, Nat.le_refl _⟩) hS (fun H locs hG hS => ?_)
  refine lv_iload_n hx hb dX4_least_24 rfl (lv_at hl 3 rfl) ?_
  obtain ⟨v4, ev4, h⟩ := obind h
  refine g_endi (va_runV (As := [.int (v1 - v2), .int v3, .int x3]) (rest := []) ⟨hx, hb, hml, hown, hts⟩ (k_X1_least l D cy ad P Dr tI hX (b := P) hP I L (v1 - v2) v3 x3 v4 ev4) (cwV 3 hts gX4_least_X1_least rfl rfl rfl cd_X1_least ⟨Nat.le_of_ble_eq_true rfl, Nat.le_of_ble_eq_true rfl⟩) ⟨g_blind cZm, g_recv hK hG (k := P) hP.1.1 (cE_1 hP.1 _ _) vwCl_1, g_pre cZm hK hG hZ hS⟩ rfl rfl hl.1 rfl (lv_room (Nat.le_of_ble_eq_true rfl)) dX4_least_25 ⟨Nat.le_refl _, Nat.le_refl _⟩) hS (fun H locs hG hS => ?_)
  have h := Option.some.inj h
  subst h
  subst hQ
  exact g_iret hx hb hr hlocks cZm hK hZ hG hS rfl dX4_least_28
def X4_stonesWith (P : Nat) (I : xMem) (x1 : Int32) : Option (Int32) := (X0_stonesUp 17 I).bind fun v1 => (X0_top 17 I).bind fun v2 => if ((v2 >>> (x1 &&& 31)) &&& (1 : Int32)) = (1 : Int32) then (some v1) else (some ((X1_allStones P I) &&& (v1 ^^^ (-1 : Int32))))
abbrev rm_X4_stonesWith : Room := { frames := 1, cells := 0, slots := 0, locals := 20 }
theorem cd_X4_stonesWith : yX4_stonesWith.cls = RX4 ∧ yX4_stonesWith.cls ≠ "java/lang/invoke/MethodHandle" ∧ yX4_stonesWith.cls ≠ "java/lang/invoke/VarHandle" ∧ (parseMethodDescriptor yX4_stonesWith.desc).map (fun d => d.parameters.length) = some 1 := by decide +kernel
set_option maxHeartbeats 4000000 in
set_option maxRecDepth 100000 in
theorem k_X4_stonesWith (l : Launch) (D : va_G) (cy : Nat → ClassId) (ad : Nat → Nat) (P Dr : Nat) (tI : xTab) (hX : cOk ad P Dr) (I : xMem) (L : xLon) (x1 : Int32) (r : Int32) (h : X4_stonesWith P I x1 = some r) : Met l yX4_stonesWith wsX4_stonesWith rm_X4_stonesWith (va_Pc [.ref (ad 0), .int x1] (cW D cy ad P Dr tI I L)) (cPi D cy ad P Dr tI I L r) 0 0 (gA 64 ad) := by
  refine g_met (own := RX4) (cc := cX4_stonesWith) (maxL := 3) (ret := (some .int)) (by decide) rfl (Nat.le_of_ble_eq_true rfl) rfl ?_
  intro p e s m args below meth c ls hx hb hml hr hlocks hown hts hG hK hZ hl
  generalize hQ : MQ below _ args s 0 0 _ = Q
  have hl : lv_has ls 3 [(0, .ref (ad 0)), (1, .int x1)] := hl
  have hS : va_S (gA 64 ad) s.heap s.heap [] := va_S.rf
  obtain ⟨hi, hP, hDr⟩ := id hX
  have l4 : ∀ w ∈ wsX40, w.before args s = true := fun w h => hts w (List.mem_cons_of_mem _ (List.mem_append_left _ (List.mem_append_left _ (List.mem_append_right _ h))))
  have k1 := hts (.fieldLink RX4 24 "PairStairs" "deeds" "LPairStairs$Deeds;") (by decide +kernel)
  have k2 := hts (.fieldLink RX4 50 "PairStairs" "plan" "LPairStairs$Plan;") (by decide +kernel)
  unfold X4_stonesWith at h
  refine lv_aload_n hx hb dX4_stonesWith_0 rfl (lv_at hl 0 rfl) ?_
  refine g_get hx hb l4 hown hK hG (k := 0) (by decide) (cE_4 _ _) vwCl_4 2 (by decide) k1 (fun _ h9 => h9) rfl dX4_stonesWith_1 ?_
  obtain ⟨v1, ev1, h⟩ := obind h
  refine g_endi (va_runV (As := []) (rest := []) ⟨hx, hb, hml, hown, hts⟩ (k_X0_stonesUp l D cy ad P Dr tI hX (b := 17) cDeeds_17 I L v1 ev1) (cwV 0 hts gX4_stonesWith_X0_stonesUp rfl rfl rfl cd_X0_stonesUp ⟨Nat.le_of_ble_eq_true rfl, Nat.le_of_ble_eq_true rfl⟩) ⟨g_blind cZm, g_recv hK hG (k := 17) cDeeds_17.1.1 (cE_0 cDeeds_17.1 _ _) vwCl_0, g_pre cZm hK hG hZ hS⟩ rfl rfl hl.1 rfl (lv_room (Nat.le_of_ble_eq_true rfl)) dX4_stonesWith_4 ⟨Nat.le_refl _, Nat.le_refl _⟩) hS (fun H locs hG hS => ?_)
  refine lv_istore_n (lv' := [(2, .int v1), (0, .ref (ad 0)), (1, .int x1)]) hx hb dX4_stonesWith_7 rfl hl (by decide) rfl (fun ls hl => ?_)
  refine lv_aload_n hx hb dX4_stonesWith_8 rfl (lv_at hl 1 rfl) ?_
  refine g_get hx hb l4 hown hK hG (k := 0) (by decide) (cE_4 _ _) vwCl_4 2 (by decide) k1 (fun _ h9 => h9) rfl dX4_stonesWith_9 ?_
  obtain ⟨v2, ev2, h⟩ := obind h
  refine g_endi (va_runV (As := []) (rest := []) ⟨hx, hb, hml, hown, hts⟩ (k_X0_top l D cy ad P Dr tI hX (b := 17) cDeeds_17 I L v2 ev2) (cwV 0 hts gX4_stonesWith_X0_top rfl rfl rfl cd_X0_top ⟨Nat.le_of_ble_eq_true rfl, Nat.le_of_ble_eq_true rfl⟩) ⟨g_blind cZm, g_recv hK hG (k := 17) cDeeds_17.1.1 (cE_0 cDeeds_17.1 _ _) vwCl_0, g_pre cZm hK hG hZ hS⟩ rfl rfl hl.1 rfl (lv_room (Nat.le_of_ble_eq_true rfl)) dX4_stonesWith_12 ⟨Nat.le_refl _, Nat.le_refl _⟩) hS (fun H locs hG hS => ?_)
  refine lv_iload_n hx hb dX4_stonesWith_15 rfl (lv_at hl 2 rfl) ?_
  refine lv_ishr hx hb dX4_stonesWith_16 ?_
  refine lv_iconst (v := (1 : Int32)) hx hb dX4_stonesWith_17 (by decide) ?_
  refine lv_iand hx hb dX4_stonesWith_18 ?_
  refine lv_iconst (v := (1 : Int32)) hx hb dX4_stonesWith_19 (by decide) ?_
  refine lv_icmp_ne (tgt := 27) hx hb dX4_stonesWith_20 (by decide) (fun c3 => ?_) (fun c3 => ?_)
  · have h := ite_f h c3
    refine lv_aload_n hx hb dX4_stonesWith_27 rfl (lv_at hl 1 rfl) ?_
    refine g_get hx hb l4 hown hK hG (k := 0) (by decide) (cE_4 _ _) vwCl_4 7 (by decide) k2 (fun _ h9 => h9) rfl dX4_stonesWith_28 ?_
    refine g_endi (va_runV (As := []) (rest := []) ⟨hx, hb, hml, hown, hts⟩ (k_X1_allStones l D cy ad P Dr tI hX (b := P) hP I L _ rfl) (cwV 0 hts gX4_stonesWith_X1_allStones rfl rfl rfl cd_X1_allStones ⟨Nat.le_of_ble_eq_true rfl, Nat.le_of_ble_eq_true rfl⟩) ⟨g_blind cZm, g_recv hK hG (k := P) hP.1.1 (cE_1 hP.1 _ _) vwCl_1, g_pre cZm hK hG hZ hS⟩ rfl rfl hl.1 rfl (lv_room (Nat.le_of_ble_eq_true rfl)) dX4_stonesWith_31 ⟨Nat.le_refl _, Nat.le_refl _⟩) hS (fun H locs hG hS => ?_)
    refine lv_iload_n hx hb dX4_stonesWith_34 rfl (lv_at hl 0 rfl) ?_
    refine lv_iconst (v := (-1 : Int32)) hx hb dX4_stonesWith_35 (by decide) ?_
    refine lv_ixor hx hb dX4_stonesWith_36 ?_
    refine lv_iand hx hb dX4_stonesWith_37 ?_
    have h := Option.some.inj h
    subst h
    subst hQ
    exact g_iret hx hb hr hlocks cZm hK hZ hG hS rfl dX4_stonesWith_38
  · have h := ite_t h c3
    refine lv_iload_n hx hb dX4_stonesWith_23 rfl (lv_at hl 0 rfl) ?_
    refine lv_goto (tgt := 38) hx hb dX4_stonesWith_24 (by decide) ?_
    have h := Option.some.inj h
    subst h
    subst hQ
    exact g_iret hx hb hr hlocks cZm hK hZ hG hS rfl dX4_stonesWith_38
def X4_canGo (P : Nat) (I : xMem) (x1 : Int32) (x2 : Int32) (x3 : Int32) : Option (Int32) := (X4_areApart I x1 x2).bind fun v1 => if v1 = (0 : Int32) then ((X4_stonesWith P I x1).bind fun v3 => (X4_least P I x1 x2 (v3 &&& (x3 ^^^ (-1 : Int32)))).bind fun v4 => if (I P 0) < (v4 / (256 : Int32)) then (some (nz (0 : Int32))) else (some (nz (1 : Int32)))) else (some (nz (0 : Int32)))
abbrev rm_X4_canGo : Room := { frames := 4, cells := 0, slots := 0, locals := 93 }
theorem cd_X4_canGo : yX4_canGo.cls = RX4 ∧ yX4_canGo.cls ≠ "java/lang/invoke/MethodHandle" ∧ yX4_canGo.cls ≠ "java/lang/invoke/VarHandle" ∧ (parseMethodDescriptor yX4_canGo.desc).map (fun d => d.parameters.length) = some 3 := by decide +kernel
set_option maxHeartbeats 4000000 in
set_option maxRecDepth 100000 in
theorem k_X4_canGo (l : Launch) (D : va_G) (cy : Nat → ClassId) (ad : Nat → Nat) (P Dr : Nat) (tI : xTab) (hX : cOk ad P Dr) (I : xMem) (L : xLon) (x1 : Int32) (x2 : Int32) (x3 : Int32) (r : Int32) (h : X4_canGo P I x1 x2 x3 = some r) : Met l yX4_canGo wsX4_canGo rm_X4_canGo (va_Pc [.ref (ad 0), .int x1, .int x2, .int x3] (cW D cy ad P Dr tI I L)) (cPi D cy ad P Dr tI I L r) 0 0 (gA 64 ad) := by
  refine g_met (own := RX4) (cc := cX4_canGo) (maxL := 4) (ret := (some .boolean)) (by decide) rfl (Nat.le_of_ble_eq_true rfl) rfl ?_
  intro p e s m args below meth c ls hx hb hml hr hlocks hown hts hG hK hZ hl
  generalize hQ : MQ below _ args s 0 0 _ = Q
  have hl : lv_has ls 4 [(0, .ref (ad 0)), (1, .int x1), (2, .int x2), (3, .int x3)] := hl
  have hS : va_S (gA 64 ad) s.heap s.heap [] := va_S.rf
  obtain ⟨hi, hP, hDr⟩ := id hX
  have l1 : ∀ w ∈ wsX10, w.before args s = true := fun w h => hts w (List.mem_cons_of_mem _ (List.mem_append_left _ (List.mem_append_right _ h)))
  have l4 : ∀ w ∈ wsX40, w.before args s = true := fun w h => hts w (List.mem_cons_of_mem _ (List.mem_append_left _ (List.mem_append_left _ (List.mem_append_right _ h))))
  have k1 := hts (.fieldLink RX4 50 "PairStairs" "plan" "LPairStairs$Plan;") (by decide +kernel)
  have k2 := hts (.fieldLink RX4 168 "PairStairs$Plan" "limit" "I") (by decide +kernel)
  unfold X4_canGo at h
  refine lv_aload_n hx hb dX4_canGo_0 rfl (lv_at hl 0 rfl) ?_
  refine lv_iload_n hx hb dX4_canGo_1 rfl (lv_at hl 1 rfl) ?_
  refine lv_iload_n hx hb dX4_canGo_2 rfl (lv_at hl 2 rfl) ?_
  obtain ⟨v1, ev1, h⟩ := obind h
  refine g_endi (va_runV (As := [.int x1, .int x2]) (rest := []) ⟨hx, hb, hml, hown, hts⟩ (k_X4_areApart l D cy ad P Dr tI hX I L x1 x2 v1 ev1) (cwV 2 hts gX4_canGo_X4_areApart rfl rfl rfl cd_X4_areApart ⟨Nat.le_of_ble_eq_true rfl, Nat.le_of_ble_eq_true rfl⟩) ⟨g_blind cZm, g_recv hK hG (k := 0) (by decide) (cE_4 _ _) vwCl_4, g_pre cZm hK hG hZ hS⟩ rfl rfl hl.1 rfl (lv_room (Nat.le_of_ble_eq_true rfl)) dX4_canGo_3 ⟨Nat.le_refl _, Nat.le_refl _⟩) hS (fun H locs hG hS => ?_)
  refine lv_if_ne (tgt := 42) hx hb dX4_canGo_6 (by decide) (fun c2 => ?_) (fun c2 => ?_)
  · have h := ite_f h c2
    refine lv_iconst (v := (0 : Int32)) hx hb dX4_canGo_42 (by decide) ?_
    have h := Option.some.inj h
    subst h
    subst hQ
    exact g_zret hx hb hr hlocks cZm hK hZ hG hS rfl dX4_canGo_43
  · have h := ite_t h c2
    refine lv_aload_n hx hb dX4_canGo_9 rfl (lv_at hl 0 rfl) ?_
    refine lv_iload_n hx hb dX4_canGo_10 rfl (lv_at hl 1 rfl) ?_
    refine lv_iload_n hx hb dX4_canGo_11 rfl (lv_at hl 2 rfl) ?_
    refine lv_aload_n hx hb dX4_canGo_12 rfl (lv_at hl 0 rfl) ?_
    refine lv_iload_n hx hb dX4_canGo_13 rfl (lv_at hl 1 rfl) ?_
    obtain ⟨v3, ev3, h⟩ := obind h
    refine g_endi (va_runV (As := [.int x1]) (rest := [.int x2, .int x1, .ref (ad 0)]) ⟨hx, hb, hml, hown, hts⟩ (k_X4_stonesWith l D cy ad P Dr tI hX I L x1 v3 ev3) (cwV 1 hts gX4_canGo_X4_stonesWith rfl rfl rfl cd_X4_stonesWith ⟨Nat.le_of_ble_eq_true rfl, Nat.le_of_ble_eq_true rfl⟩) ⟨g_blind cZm, g_recv hK hG (k := 0) (by decide) (cE_4 _ _) vwCl_4, g_pre cZm hK hG hZ hS⟩ rfl rfl hl.1 rfl (lv_room (Nat.le_of_ble_eq_true rfl)) dX4_canGo_14 ⟨Nat.le_refl _, Nat.le_refl _⟩) hS (fun H locs hG hS => ?_)
    refine lv_iload_n hx hb dX4_canGo_17 rfl (lv_at hl 3 rfl) ?_
    refine lv_iconst (v := (-1 : Int32)) hx hb dX4_canGo_18 (by decide) ?_
    refine lv_ixor hx hb dX4_canGo_19 ?_
    refine lv_iand hx hb dX4_canGo_20 ?_
    obtain ⟨v4, ev4, h⟩ := obind h
    refine g_endi (va_runV (As := [.int x1, .int x2, .int (v3 &&& (x3 ^^^ (-1 : Int32)))]) (rest := []) ⟨hx, hb, hml, hown, hts⟩ (k_X4_least l D cy ad P Dr tI hX I L x1 x2 (v3 &&& (x3 ^^^ (-1 : Int32))) v4 ev4) (cwV 3 hts gX4_canGo_X4_least rfl rfl rfl cd_X4_least ⟨Nat.le_of_ble_eq_true rfl, Nat.le_of_ble_eq_true rfl⟩) ⟨g_blind cZm, g_recv hK hG (k := 0) (by decide) (cE_4 _ _) vwCl_4, g_pre cZm hK hG hZ hS⟩ rfl rfl hl.1 rfl (lv_room (Nat.le_of_ble_eq_true rfl)) dX4_canGo_21 ⟨Nat.le_refl _, Nat.le_refl _⟩) hS (fun H locs hG hS => ?_)
    refine lv_sipush (v := (256 : Int32)) hx hb dX4_canGo_24 (by decide) ?_
    refine lv_idiv hx hb dX4_canGo_27 (by decide) ?_
    refine lv_aload_n hx hb dX4_canGo_28 rfl (lv_at hl 0 rfl) ?_
    refine g_get hx hb l4 hown hK hG (k := 0) (by decide) (cE_4 _ _) vwCl_4 7 (by decide) k1 (fun _ h9 => h9) rfl dX4_canGo_29 ?_
    refine g_get hx hb l1 hown hK hG (k := P) hP.1.1 (cE_1 hP.1 _ _) vwCl_1 0 (by decide) k2 (fun _ h9 => h9) rfl dX4_canGo_32 ?_
    refine lv_icmp_gt (tgt := 42) hx hb dX4_canGo_35 (by decide) (fun c5 => ?_) (fun c5 => ?_)
    · have h := ite_t h c5
      refine lv_iconst (v := (0 : Int32)) hx hb dX4_canGo_42 (by decide) ?_
      have h := Option.some.inj h
      subst h
      subst hQ
      exact g_zret hx hb hr hlocks cZm hK hZ hG hS rfl dX4_canGo_43
    · have h := ite_f h c5
      refine lv_iconst (v := (1 : Int32)) hx hb dX4_canGo_38 (by decide) ?_
      refine lv_goto (tgt := 43) hx hb dX4_canGo_39 (by decide) ?_
      have h := Option.some.inj h
      subst h
      subst hQ
      exact g_zret hx hb hr hlocks cZm hK hZ hG hS rfl dX4_canGo_43
def X4_companions_L1 (P : Nat) (I : xMem) (x1 : Int32) (K1 : Int32 → Option (Int32)) : Nat → Int32 → Int32 → Option (Int32)
  | 0, _, _ => none
  | n2 + 1, x2_2, x3_2 => if (I P 2) ≤ x3_2 then (K1 x2_2) else (if x3_2 = x1 then (X4_companions_L1 P I x1 K1 n2 x2_2 (x3_2 + (1 : Int32))) else ((X4_canGo P I x1 x3_2 (0 : Int32)).bind fun v5 => if v5 = (0 : Int32) then (X4_companions_L1 P I x1 K1 n2 x2_2 (x3_2 + (1 : Int32))) else (X4_companions_L1 P I x1 K1 n2 (x2_2 ||| ((1 : Int32) <<< (x3_2 &&& 31))) (x3_2 + (1 : Int32)))))
def X4_companions (P : Nat) (I : xMem) (x1 : Int32) : Option (Int32) := X4_companions_L1 P I x1 (fun (z2_2 : Int32) => some z2_2) bigF (0 : Int32) (0 : Int32)
abbrev rm_X4_companions : Room := { frames := 5, cells := 0, slots := 0, locals := 116 }
theorem cd_X4_companions : yX4_companions.cls = RX4 ∧ yX4_companions.cls ≠ "java/lang/invoke/MethodHandle" ∧ yX4_companions.cls ≠ "java/lang/invoke/VarHandle" ∧ (parseMethodDescriptor yX4_companions.desc).map (fun d => d.parameters.length) = some 1 := by decide +kernel
set_option maxHeartbeats 4000000 in
set_option maxRecDepth 100000 in
theorem k_X4_companions (l : Launch) (D : va_G) (cy : Nat → ClassId) (ad : Nat → Nat) (P Dr : Nat) (tI : xTab) (hX : cOk ad P Dr) (I : xMem) (L : xLon) (x1 : Int32) (r : Int32) (h : X4_companions P I x1 = some r) : Met l yX4_companions wsX4_companions rm_X4_companions (va_Pc [.ref (ad 0), .int x1] (cW D cy ad P Dr tI I L)) (cPi D cy ad P Dr tI I L r) 0 0 (gA 64 ad) := by
  refine g_met (own := RX4) (cc := cX4_companions) (maxL := 4) (ret := (some .int)) (by decide) rfl (Nat.le_of_ble_eq_true rfl) rfl ?_
  intro p e s m args below meth c ls hx hb hml hr hlocks hown hts hG hK hZ hl
  generalize hQ : MQ below _ args s 0 0 _ = Q
  have hl : lv_has ls 4 [(0, .ref (ad 0)), (1, .int x1)] := hl
  have hS : va_S (gA 64 ad) s.heap s.heap [] := va_S.rf
  obtain ⟨hi, hP, hDr⟩ := id hX
  have l1 : ∀ w ∈ wsX10, w.before args s = true := fun w h => hts w (List.mem_cons_of_mem _ (List.mem_append_left _ (List.mem_append_right _ h)))
  have l4 : ∀ w ∈ wsX40, w.before args s = true := fun w h => hts w (List.mem_cons_of_mem _ (List.mem_append_left _ (List.mem_append_left _ (List.mem_append_right _ h))))
  have k1 := hts (.fieldLink RX4 50 "PairStairs" "plan" "LPairStairs$Plan;") (by decide +kernel)
  have k2 := hts (.fieldLink RX4 115 "PairStairs$Plan" "people" "I") (by decide +kernel)
  unfold X4_companions at h
  refine lv_iconst (v := (0 : Int32)) hx hb dX4_companions_0 (by decide) ?_
  refine lv_istore_n (lv' := [(2, .int (0 : Int32)), (0, .ref (ad 0)), (1, .int x1)]) hx hb dX4_companions_1 rfl hl (by decide) rfl (fun ls hl => ?_)
  refine lv_iconst (v := (0 : Int32)) hx hb dX4_companions_2 (by decide) ?_
  refine lv_istore_n (lv' := [(3, .int (0 : Int32)), (2, .int (0 : Int32)), (0, .ref (ad 0)), (1, .int x1)]) hx hb dX4_companions_3 rfl hl (by decide) rfl (fun ls hl => ?_)
  have keyK1 : ∀ (K1 : Int32 → Option (Int32)), (∀ (z2_2 : Int32) (H : Heap) (locs : List Loc) (ls : Array Slot), K1 z2_2 = some r → cG D cy ad P Dr I L H → va_S (gA 64 ad) s.heap H locs → lv_has ls 4 [(2, .int z2_2)] → W p l e rm_X4_companions s m args below meth c H locs 0 0 Q (F0 m 42 ls [])) → ∀ (n2 : Nat) (x2_2 : Int32) (x3_2 : Int32) (H : Heap) (locs : List Loc) (ls : Array Slot), X4_companions_L1 P I x1 K1 n2 x2_2 x3_2 = some r → cG D cy ad P Dr I L H → va_S (gA 64 ad) s.heap H locs → lv_has ls 4 [(0, .ref (ad 0)), (1, .int x1), (2, .int x2_2), (3, .int x3_2)] → W p l e rm_X4_companions s m args below meth c H locs 0 0 Q (F0 m 4 ls []) := by
    intro K1 hkK1 n2
    induction n2 with
    | zero =>
      intro x2_2 x3_2 H locs ls h
      exact ono h
    | succ n2 ihn2 =>
      intro x2_2 x3_2 H locs ls h hG hS hl
      rw [X4_companions_L1] at h
      refine lv_iload_n hx hb dX4_companions_4 rfl (lv_at hl 3 rfl) ?_
      refine lv_aload_n hx hb dX4_companions_5 rfl (lv_at hl 0 rfl) ?_
      refine g_get hx hb l4 hown hK hG (k := 0) (by decide) (cE_4 _ _) vwCl_4 7 (by decide) k1 (fun _ h9 => h9) rfl dX4_companions_6 ?_
      refine g_get hx hb l1 hown hK hG (k := P) hP.1.1 (cE_1 hP.1 _ _) vwCl_1 2 (by decide) k2 (fun _ h9 => h9) rfl dX4_companions_9 ?_
      refine lv_icmp_ge (tgt := 42) hx hb dX4_companions_12 (by decide) (fun c3 => ?_) (fun c3 => ?_)
      · have h := ite_t h c3
        exact hkK1 x2_2 _ _ _ h hG hS (lv_sub hl [2] rfl)
      · have h := ite_f h c3
        refine lv_iload_n hx hb dX4_companions_15 rfl (lv_at hl 3 rfl) ?_
        refine lv_iload_n hx hb dX4_companions_16 rfl (lv_at hl 1 rfl) ?_
        refine lv_icmp_eq (tgt := 36) hx hb dX4_companions_17 (by decide) (fun c4 => ?_) (fun c4 => ?_)
        · have h := ite_t h c4
          refine lv_iinc (v := (x3_2 + (1 : Int32))) (lv' := [(3, .int (x3_2 + (1 : Int32))), (0, .ref (ad 0)), (1, .int x1), (2, .int x2_2)]) hx hb dX4_companions_36 hl (k := 3) rfl rfl (by decide) rfl (fun ls hl => ?_)
          refine lv_goto (tgt := 4) hx hb dX4_companions_39 (by decide) ?_
          exact ihn2 x2_2 (x3_2 + (1 : Int32)) _ _ _ h hG hS (lv_sub hl [1, 2, 3, 0] rfl)
        · have h := ite_f h c4
          refine lv_aload_n hx hb dX4_companions_20 rfl (lv_at hl 0 rfl) ?_
          refine lv_iload_n hx hb dX4_companions_21 rfl (lv_at hl 1 rfl) ?_
          refine lv_iload_n hx hb dX4_companions_22 rfl (lv_at hl 3 rfl) ?_
          refine lv_iconst (v := (0 : Int32)) hx hb dX4_companions_23 (by decide) ?_
          obtain ⟨v5, ev5, h⟩ := obind h
          refine g_endi (va_runV (As := [.int x1, .int x3_2, .int (0 : Int32)]) (rest := []) ⟨hx, hb, hml, hown, hts⟩ (k_X4_canGo l D cy ad P Dr tI hX I L x1 x3_2 (0 : Int32) v5 ev5) (cwV 3 hts gX4_companions_X4_canGo rfl rfl rfl cd_X4_canGo ⟨Nat.le_of_ble_eq_true rfl, Nat.le_of_ble_eq_true rfl⟩) ⟨g_blind cZm, g_recv hK hG (k := 0) (by decide) (cE_4 _ _) vwCl_4, g_pre cZm hK hG hZ hS⟩ rfl rfl hl.1 rfl (lv_room (Nat.le_of_ble_eq_true rfl)) dX4_companions_24 ⟨Nat.le_refl _, Nat.le_refl _⟩) hS (fun H locs hG hS => ?_)
          refine lv_if_eq (tgt := 36) hx hb dX4_companions_27 (by decide) (fun c6 => ?_) (fun c6 => ?_)
          · have h := ite_t h c6
            refine lv_iinc (v := (x3_2 + (1 : Int32))) (lv' := [(3, .int (x3_2 + (1 : Int32))), (0, .ref (ad 0)), (1, .int x1), (2, .int x2_2)]) hx hb dX4_companions_36 hl (k := 3) rfl rfl (by decide) rfl (fun ls hl => ?_)
            refine lv_goto (tgt := 4) hx hb dX4_companions_39 (by decide) ?_
            exact ihn2 x2_2 (x3_2 + (1 : Int32)) _ _ _ h hG hS (lv_sub hl [1, 2, 3, 0] rfl)
          · have h := ite_f h c6
            refine lv_iload_n hx hb dX4_companions_30 rfl (lv_at hl 2 rfl) ?_
            refine lv_iconst (v := (1 : Int32)) hx hb dX4_companions_31 (by decide) ?_
            refine lv_iload_n hx hb dX4_companions_32 rfl (lv_at hl 3 rfl) ?_
            refine lv_ishl hx hb dX4_companions_33 ?_
            refine lv_ior hx hb dX4_companions_34 ?_
            refine lv_istore_n (lv' := [(2, .int (x2_2 ||| ((1 : Int32) <<< (x3_2 &&& 31)))), (0, .ref (ad 0)), (1, .int x1), (3, .int x3_2)]) hx hb dX4_companions_35 rfl hl (by decide) rfl (fun ls hl => ?_)
            refine lv_iinc (v := (x3_2 + (1 : Int32))) (lv' := [(3, .int (x3_2 + (1 : Int32))), (2, .int (x2_2 ||| ((1 : Int32) <<< (x3_2 &&& 31)))), (0, .ref (ad 0)), (1, .int x1)]) hx hb dX4_companions_36 hl (k := 3) rfl rfl (by decide) rfl (fun ls hl => ?_)
            refine lv_goto (tgt := 4) hx hb dX4_companions_39 (by decide) ?_
            exact ihn2 (x2_2 ||| ((1 : Int32) <<< (x3_2 &&& 31))) (x3_2 + (1 : Int32)) _ _ _ h hG hS (lv_sub hl [2, 3, 1, 0] rfl)
  refine keyK1 _ (fun z2_2 H locs ls h hG hS hl => ?_) bigF (0 : Int32) (0 : Int32) _ _ _ h hG hS (lv_sub hl [2, 3, 1, 0] rfl)
  clear keyK1
  refine lv_iload_n hx hb dX4_companions_42 rfl (lv_at hl 0 rfl) ?_
  have h := Option.some.inj h
  subst h
  subst hQ
  exact g_iret hx hb hr hlocks cZm hK hZ hG hS rfl dX4_companions_43
def X4_about (P : Nat) (I : xMem) (x1 : Int32) (x2 : Int32) : Option (Int32) := if x2 = (0 : Int32) then ((rdI I (P + 3) 6 x1).bind fun v2 => some v2) else (if x2 = (1 : Int32) then ((rdI I (P + 4) 6 x1).bind fun v4 => some v4) else (if x2 = (2 : Int32) then ((X4_counts P I x1).bind fun v6 => some v6) else (if x2 = (3 : Int32) then ((X0_top 17 I).bind fun v8 => some ((v8 >>> (x1 &&& 31)) &&& (1 : Int32))) else ((X4_companions P I x1).bind fun v9 => some v9))))
abbrev rm_X4_about : Room := { frames := 6, cells := 0, slots := 0, locals := 139 }
theorem cd_X4_about : yX4_about.cls = RX4 ∧ yX4_about.cls ≠ "java/lang/invoke/MethodHandle" ∧ yX4_about.cls ≠ "java/lang/invoke/VarHandle" ∧ (parseMethodDescriptor yX4_about.desc).map (fun d => d.parameters.length) = some 2 := by decide +kernel
set_option maxHeartbeats 4000000 in
set_option maxRecDepth 100000 in
theorem k_X4_about (l : Launch) (D : va_G) (cy : Nat → ClassId) (ad : Nat → Nat) (P Dr : Nat) (tI : xTab) (hX : cOk ad P Dr) (I : xMem) (L : xLon) (x1 : Int32) (x2 : Int32) (r : Int32) (h : X4_about P I x1 x2 = some r) : Met l yX4_about wsX4_about rm_X4_about (va_Pc [.ref (ad 0), .int x1, .int x2] (cW D cy ad P Dr tI I L)) (cPi D cy ad P Dr tI I L r) 0 0 (gA 64 ad) := by
  refine g_met (own := RX4) (cc := cX4_about) (maxL := 3) (ret := (some .int)) (by decide) rfl (Nat.le_of_ble_eq_true rfl) rfl ?_
  intro p e s m args below meth c ls hx hb hml hr hlocks hown hts hG hK hZ hl
  generalize hQ : MQ below _ args s 0 0 _ = Q
  have hl : lv_has ls 3 [(0, .ref (ad 0)), (1, .int x1), (2, .int x2)] := hl
  have hS : va_S (gA 64 ad) s.heap s.heap [] := va_S.rf
  obtain ⟨hi, hP, hDr⟩ := id hX
  have l1 : ∀ w ∈ wsX10, w.before args s = true := fun w h => hts w (List.mem_cons_of_mem _ (List.mem_append_left _ (List.mem_append_right _ h)))
  have l4 : ∀ w ∈ wsX40, w.before args s = true := fun w h => hts w (List.mem_cons_of_mem _ (List.mem_append_left _ (List.mem_append_left _ (List.mem_append_right _ h))))
  have k1 := hts (.fieldLink RX4 50 "PairStairs" "plan" "LPairStairs$Plan;") (by decide +kernel)
  have k2 := hts (.fieldLink RX4 128 "PairStairs$Plan" "kind" "[I") (by decide +kernel)
  have k3 := hts (.fieldLink RX4 134 "PairStairs$Plan" "weight" "[I") (by decide +kernel)
  have k4 := hts (.fieldLink RX4 24 "PairStairs" "deeds" "LPairStairs$Deeds;") (by decide +kernel)
  unfold X4_about at h
  refine lv_iload_n hx hb dX4_about_0 rfl (lv_at hl 2 rfl) ?_
  by_cases c1 : x2 = (0 : Int32)
  · have h := ite_t h c1
    refine lv_tableIn (tgt := 32) hx hb dX4_about_1 (by rw [c1]; decide) (by rw [c1]; decide) (by rw [c1]; rfl) (by decide) ?_
    refine lv_aload_n hx hb dX4_about_32 rfl (lv_at hl 0 rfl) ?_
    refine g_get hx hb l4 hown hK hG (k := 0) (by decide) (cE_4 _ _) vwCl_4 7 (by decide) k1 (fun _ h9 => h9) rfl dX4_about_33 ?_
    refine g_get hx hb l1 hown hK hG (k := P) hP.1.1 (cE_1 hP.1 _ _) vwCl_1 5 (by decide) k2 (fun _ h9 => h9) rfl dX4_about_36 ?_
    refine lv_iload_n hx hb dX4_about_39 rfl (lv_at hl 1 rfl) ?_
    refine g_ald hx hb hK hG (k := (P + 3)) (n := 6) hP.2.2.2.1.1.1 (cIA_e hP.2.2.2.1 _ _) 0 rfl h dX4_about_40 (fun v2 h => ?_)
    have h := Option.some.inj h
    subst h
    subst hQ
    exact g_iret hx hb hr hlocks cZm hK hZ hG hS rfl dX4_about_41
  · have h := ite_f h c1
    by_cases c3 : x2 = (1 : Int32)
    · have h := ite_t h c3
      refine lv_tableIn (tgt := 42) hx hb dX4_about_1 (by rw [c3]; decide) (by rw [c3]; decide) (by rw [c3]; rfl) (by decide) ?_
      refine lv_aload_n hx hb dX4_about_42 rfl (lv_at hl 0 rfl) ?_
      refine g_get hx hb l4 hown hK hG (k := 0) (by decide) (cE_4 _ _) vwCl_4 7 (by decide) k1 (fun _ h9 => h9) rfl dX4_about_43 ?_
      refine g_get hx hb l1 hown hK hG (k := P) hP.1.1 (cE_1 hP.1 _ _) vwCl_1 6 (by decide) k3 (fun _ h9 => h9) rfl dX4_about_46 ?_
      refine lv_iload_n hx hb dX4_about_49 rfl (lv_at hl 1 rfl) ?_
      refine g_ald hx hb hK hG (k := (P + 4)) (n := 6) hP.2.2.2.2.1.1 (cIA_e hP.2.2.2.2 _ _) 0 rfl h dX4_about_50 (fun v4 h => ?_)
      have h := Option.some.inj h
      subst h
      subst hQ
      exact g_iret hx hb hr hlocks cZm hK hZ hG hS rfl dX4_about_51
    · have h := ite_f h c3
      by_cases c5 : x2 = (2 : Int32)
      · have h := ite_t h c5
        refine lv_tableIn (tgt := 52) hx hb dX4_about_1 (by rw [c5]; decide) (by rw [c5]; decide) (by rw [c5]; rfl) (by decide) ?_
        refine lv_aload_n hx hb dX4_about_52 rfl (lv_at hl 0 rfl) ?_
        refine lv_iload_n hx hb dX4_about_53 rfl (lv_at hl 1 rfl) ?_
        obtain ⟨v6, ev6, h⟩ := obind h
        refine g_endi (va_runV (As := [.int x1]) (rest := []) ⟨hx, hb, hml, hown, hts⟩ (k_X4_counts l D cy ad P Dr tI hX I L x1 v6 ev6) (cwV 1 hts gX4_about_X4_counts rfl rfl rfl cd_X4_counts ⟨Nat.le_of_ble_eq_true rfl, Nat.le_of_ble_eq_true rfl⟩) ⟨g_blind cZm, g_recv hK hG (k := 0) (by decide) (cE_4 _ _) vwCl_4, g_pre cZm hK hG hZ hS⟩ rfl rfl hl.1 rfl (lv_room (Nat.le_of_ble_eq_true rfl)) dX4_about_54 ⟨Nat.le_refl _, Nat.le_refl _⟩) hS (fun H locs hG hS => ?_)
        have h := Option.some.inj h
        subst h
        subst hQ
        exact g_iret hx hb hr hlocks cZm hK hZ hG hS rfl dX4_about_57
      · have h := ite_f h c5
        by_cases c7 : x2 = (3 : Int32)
        · have h := ite_t h c7
          refine lv_tableIn (tgt := 58) hx hb dX4_about_1 (by rw [c7]; decide) (by rw [c7]; decide) (by rw [c7]; rfl) (by decide) ?_
          refine lv_aload_n hx hb dX4_about_58 rfl (lv_at hl 0 rfl) ?_
          refine g_get hx hb l4 hown hK hG (k := 0) (by decide) (cE_4 _ _) vwCl_4 2 (by decide) k4 (fun _ h9 => h9) rfl dX4_about_59 ?_
          obtain ⟨v8, ev8, h⟩ := obind h
          refine g_endi (va_runV (As := []) (rest := []) ⟨hx, hb, hml, hown, hts⟩ (k_X0_top l D cy ad P Dr tI hX (b := 17) cDeeds_17 I L v8 ev8) (cwV 0 hts gX4_about_X0_top rfl rfl rfl cd_X0_top ⟨Nat.le_of_ble_eq_true rfl, Nat.le_of_ble_eq_true rfl⟩) ⟨g_blind cZm, g_recv hK hG (k := 17) cDeeds_17.1.1 (cE_0 cDeeds_17.1 _ _) vwCl_0, g_pre cZm hK hG hZ hS⟩ rfl rfl hl.1 rfl (lv_room (Nat.le_of_ble_eq_true rfl)) dX4_about_62 ⟨Nat.le_refl _, Nat.le_refl _⟩) hS (fun H locs hG hS => ?_)
          refine lv_iload_n hx hb dX4_about_65 rfl (lv_at hl 1 rfl) ?_
          refine lv_ishr hx hb dX4_about_66 ?_
          refine lv_iconst (v := (1 : Int32)) hx hb dX4_about_67 (by decide) ?_
          refine lv_iand hx hb dX4_about_68 ?_
          have h := Option.some.inj h
          subst h
          subst hQ
          exact g_iret hx hb hr hlocks cZm hK hZ hG hS rfl dX4_about_69
        · have h := ite_f h c7
          refine lv_tableOut (tgt := 70) hx hb dX4_about_1 (tsw_out 0 3 (fun k h1 h2 => ?_)) (by decide) ?_
          · rcases (show k = 0 ∨ k = 1 ∨ k = 2 ∨ k = 3 by omega) with rfl | rfl | rfl | rfl
            · exact c1
            · exact c3
            · exact c5
            · exact c7
          · refine lv_aload_n hx hb dX4_about_70 rfl (lv_at hl 0 rfl) ?_
            refine lv_iload_n hx hb dX4_about_71 rfl (lv_at hl 1 rfl) ?_
            obtain ⟨v9, ev9, h⟩ := obind h
            refine g_endi (va_runV (As := [.int x1]) (rest := []) ⟨hx, hb, hml, hown, hts⟩ (k_X4_companions l D cy ad P Dr tI hX I L x1 v9 ev9) (cwV 1 hts gX4_about_X4_companions rfl rfl rfl cd_X4_companions ⟨Nat.le_of_ble_eq_true rfl, Nat.le_of_ble_eq_true rfl⟩) ⟨g_blind cZm, g_recv hK hG (k := 0) (by decide) (cE_4 _ _) vwCl_4, g_pre cZm hK hG hZ hS⟩ rfl rfl hl.1 rfl (lv_room (Nat.le_of_ble_eq_true rfl)) dX4_about_72 ⟨Nat.le_refl _, Nat.le_refl _⟩) hS (fun H locs hG hS => ?_)
            have h := Option.some.inj h
            subst h
            subst hQ
            exact g_iret hx hb hr hlocks cZm hK hZ hG hS rfl dX4_about_75
def X4_isNobody (P : Nat) (I : xMem) (x1 : Int32) : Int32 := if x1 < (0 : Int32) then ((nz (1 : Int32))) else (if x1 < (I P 2) then ((nz (0 : Int32))) else ((nz (1 : Int32))))
abbrev rm_X4_isNobody : Room := { frames := 0, cells := 0, slots := 0, locals := 0 }
theorem cd_X4_isNobody : yX4_isNobody.cls = RX4 ∧ yX4_isNobody.cls ≠ "java/lang/invoke/MethodHandle" ∧ yX4_isNobody.cls ≠ "java/lang/invoke/VarHandle" ∧ (parseMethodDescriptor yX4_isNobody.desc).map (fun d => d.parameters.length) = some 1 := by decide +kernel
set_option maxHeartbeats 4000000 in
set_option maxRecDepth 100000 in
theorem k_X4_isNobody (l : Launch) (D : va_G) (cy : Nat → ClassId) (ad : Nat → Nat) (P Dr : Nat) (tI : xTab) (hX : cOk ad P Dr) (I : xMem) (L : xLon) (x1 : Int32) (r : Int32) (h : X4_isNobody P I x1 = r) : Met l yX4_isNobody wsX4_isNobody rm_X4_isNobody (va_Pc [.ref (ad 0), .int x1] (cW D cy ad P Dr tI I L)) (cPi D cy ad P Dr tI I L r) 0 0 (gA 64 ad) := by
  refine g_met (own := RX4) (cc := cX4_isNobody) (maxL := 2) (ret := (some .boolean)) (by decide) rfl (Nat.le_of_ble_eq_true rfl) rfl ?_
  intro p e s m args below meth c ls hx hb hml hr hlocks hown hts hG hK hZ hl
  generalize hQ : MQ below _ args s 0 0 _ = Q
  have hl : lv_has ls 2 [(0, .ref (ad 0)), (1, .int x1)] := hl
  have hS : va_S (gA 64 ad) s.heap s.heap [] := va_S.rf
  obtain ⟨hi, hP, hDr⟩ := id hX
  have l1 : ∀ w ∈ wsX10, w.before args s = true := fun w h => hts w (List.mem_cons_of_mem _ (List.mem_append_right _ h))
  have l4 : ∀ w ∈ wsX40, w.before args s = true := fun w h => hts w (List.mem_cons_of_mem _ (List.mem_append_left _ (List.mem_append_right _ h)))
  have k1 := hts (.fieldLink RX4 50 "PairStairs" "plan" "LPairStairs$Plan;") (by decide +kernel)
  have k2 := hts (.fieldLink RX4 115 "PairStairs$Plan" "people" "I") (by decide +kernel)
  unfold X4_isNobody at h
  refine lv_iload_n hx hb dX4_isNobody_0 rfl (lv_at hl 1 rfl) ?_
  refine lv_if_lt (tgt := 15) hx hb dX4_isNobody_1 (by decide) (fun c1 => ?_) (fun c1 => ?_)
  · have h := ite_t h c1
    refine lv_iconst (v := (1 : Int32)) hx hb dX4_isNobody_15 (by decide) ?_
    refine lv_goto (tgt := 20) hx hb dX4_isNobody_16 (by decide) ?_
    subst h
    subst hQ
    exact g_zret hx hb hr hlocks cZm hK hZ hG hS rfl dX4_isNobody_20
  · have h := ite_f h c1
    refine lv_iload_n hx hb dX4_isNobody_4 rfl (lv_at hl 1 rfl) ?_
    refine lv_aload_n hx hb dX4_isNobody_5 rfl (lv_at hl 0 rfl) ?_
    refine g_get hx hb l4 hown hK hG (k := 0) (by decide) (cE_4 _ _) vwCl_4 7 (by decide) k1 (fun _ h9 => h9) rfl dX4_isNobody_6 ?_
    refine g_get hx hb l1 hown hK hG (k := P) hP.1.1 (cE_1 hP.1 _ _) vwCl_1 2 (by decide) k2 (fun _ h9 => h9) rfl dX4_isNobody_9 ?_
    refine lv_icmp_lt (tgt := 19) hx hb dX4_isNobody_12 (by decide) (fun c2 => ?_) (fun c2 => ?_)
    · have h := ite_t h c2
      refine lv_iconst (v := (0 : Int32)) hx hb dX4_isNobody_19 (by decide) ?_
      subst h
      subst hQ
      exact g_zret hx hb hr hlocks cZm hK hZ hG hS rfl dX4_isNobody_20
    · have h := ite_f h c2
      refine lv_iconst (v := (1 : Int32)) hx hb dX4_isNobody_15 (by decide) ?_
      refine lv_goto (tgt := 20) hx hb dX4_isNobody_16 (by decide) ?_
      subst h
      subst hQ
      exact g_zret hx hb hr hlocks cZm hK hZ hG hS rfl dX4_isNobody_20
def X4_one (P : Nat) (I : xMem) (x1 : Int32) (x2 : Int32) : Option (Int32 × xMem) := if (X4_isNobody P I x1) = (0 : Int32) then (if x2 < (0 : Int32) then (some ((-1 : Int32), I)) else (if x2 ≤ (4 : Int32) then ((X4_about P I x1 x2).bind fun v4 => (some (wr I 0 10 v4)).bind fun I5 => some ((1 : Int32), I5)) else (some ((-1 : Int32), I)))) else (some ((-1 : Int32), I))
abbrev rm_X4_one : Room := { frames := 7, cells := 0, slots := 0, locals := 161 }
theorem cd_X4_one : yX4_one.cls = RX4 ∧ yX4_one.cls ≠ "java/lang/invoke/MethodHandle" ∧ yX4_one.cls ≠ "java/lang/invoke/VarHandle" ∧ (parseMethodDescriptor yX4_one.desc).map (fun d => d.parameters.length) = some 2 := by decide +kernel
set_option maxHeartbeats 4000000 in
set_option maxRecDepth 100000 in
theorem k_X4_one (l : Launch) (D : va_G) (cy : Nat → ClassId) (ad : Nat → Nat) (P Dr : Nat) (tI : xTab) (hX : cOk ad P Dr) (I : xMem) (L : xLon) (x1 : Int32) (x2 : Int32) (r : Int32 × xMem) (h : X4_one P I x1 x2 = some r) : Met l yX4_one wsX4_one rm_X4_one (va_Pc [.ref (ad 0), .int x1, .int x2] (cW D cy ad P Dr tI I L)) (cPi D cy ad P Dr tI r.2 L r.1) 0 0 (gA 64 ad) := by
  refine g_met (own := RX4) (cc := cX4_one) (maxL := 3) (ret := (some .int)) (by decide) rfl (Nat.le_of_ble_eq_true rfl) rfl ?_
  intro p e s m args below meth c ls hx hb hml hr hlocks hown hts hG hK hZ hl
  generalize hQ : MQ below _ args s 0 0 _ = Q
  have hl : lv_has ls 3 [(0, .ref (ad 0)), (1, .int x1), (2, .int x2)] := hl
  have hS : va_S (gA 64 ad) s.heap s.heap [] := va_S.rf
  obtain ⟨hi, hP, hDr⟩ := id hX
  have l4 : ∀ w ∈ wsX40, w.before args s = true := fun w h => hts w (List.mem_cons_of_mem _ (List.mem_append_left _ (List.mem_append_left _ (List.mem_append_right _ h))))
  have k1 := hts (.fieldLink RX4 72 "PairStairs" "told" "I") (by decide +kernel)
  unfold X4_one at h
  refine lv_aload_n hx hb dX4_one_0 rfl (lv_at hl 0 rfl) ?_
  refine lv_iload_n hx hb dX4_one_1 rfl (lv_at hl 1 rfl) ?_
  refine g_endi (va_runV (As := [.int x1]) (rest := []) ⟨hx, hb, hml, hown, hts⟩ (k_X4_isNobody l D cy ad P Dr tI hX I L x1 _ rfl) (cwV 1 hts gX4_one_X4_isNobody rfl rfl rfl cd_X4_isNobody ⟨Nat.le_of_ble_eq_true rfl, Nat.le_of_ble_eq_true rfl⟩) ⟨g_blind cZm, g_recv hK hG (k := 0) (by decide) (cE_4 _ _) vwCl_4, g_pre cZm hK hG hZ hS⟩ rfl rfl hl.1 rfl (lv_room (Nat.le_of_ble_eq_true rfl)) dX4_one_2 ⟨Nat.le_refl _, Nat.le_refl _⟩) hS (fun H locs hG hS => ?_)
  refine lv_if_ne (tgt := 17) hx hb dX4_one_5 (by decide) (fun c1 => ?_) (fun c1 => ?_)
  · have h := ite_f h c1
    refine lv_iconst (v := (-1 : Int32)) hx hb dX4_one_17 (by decide) ?_
    have h := Option.some.inj h
    subst h
    subst hQ
    exact g_iret hx hb hr hlocks cZm hK hZ hG hS rfl dX4_one_18
  · have h := ite_t h c1
    refine lv_iload_n hx hb dX4_one_8 rfl (lv_at hl 2 rfl) ?_
    refine lv_if_lt (tgt := 17) hx hb dX4_one_9 (by decide) (fun c2 => ?_) (fun c2 => ?_)
    · have h := ite_t h c2
      refine lv_iconst (v := (-1 : Int32)) hx hb dX4_one_17 (by decide) ?_
      have h := Option.some.inj h
      subst h
      subst hQ
      exact g_iret hx hb hr hlocks cZm hK hZ hG hS rfl dX4_one_18
    · have h := ite_f h c2
      refine lv_iload_n hx hb dX4_one_12 rfl (lv_at hl 2 rfl) ?_
      refine lv_iconst (v := (4 : Int32)) hx hb dX4_one_13 (by decide) ?_
      refine lv_icmp_le (tgt := 19) hx hb dX4_one_14 (by decide) (fun c3 => ?_) (fun c3 => ?_)
      · have h := ite_t h c3
        refine lv_aload_n hx hb dX4_one_19 rfl (lv_at hl 0 rfl) ?_
        refine lv_aload_n hx hb dX4_one_20 rfl (lv_at hl 0 rfl) ?_
        refine lv_iload_n hx hb dX4_one_21 rfl (lv_at hl 1 rfl) ?_
        refine lv_iload_n hx hb dX4_one_22 rfl (lv_at hl 2 rfl) ?_
        obtain ⟨v4, ev4, h⟩ := obind h
        refine g_endi (va_runV (As := [.int x1, .int x2]) (rest := [.ref (ad 0)]) ⟨hx, hb, hml, hown, hts⟩ (k_X4_about l D cy ad P Dr tI hX I L x1 x2 v4 ev4) (cwV 2 hts gX4_one_X4_about rfl rfl rfl cd_X4_about ⟨Nat.le_of_ble_eq_true rfl, Nat.le_of_ble_eq_true rfl⟩) ⟨g_blind cZm, g_recv hK hG (k := 0) (by decide) (cE_4 _ _) vwCl_4, g_pre cZm hK hG hZ hS⟩ rfl rfl hl.1 rfl (lv_room (Nat.le_of_ble_eq_true rfl)) dX4_one_23 ⟨Nat.le_refl _, Nat.le_refl _⟩) hS (fun H locs hG hS => ?_)
        obtain ⟨I5, eI5, h⟩ := obind h
        refine g_put hx hb l4 tyX4_ok nmX4 hown hK hG hi hS (k := 0) (by decide) (cE_4 _ _) vwCl_4 10 (by decide) k1 (fun _ h9 => h9) rfl rfl (Nat.le_of_ble_eq_true rfl) (by rw [cE_4 _ _]; rfl) dX4_one_26 (fun H locs hG hS => ?_)
        rw [Option.some.inj eI5] at hG
        refine lv_iconst (v := (1 : Int32)) hx hb dX4_one_29 (by decide) ?_
        have h := Option.some.inj h
        subst h
        subst hQ
        exact g_iret hx hb hr hlocks cZm hK hZ hG hS rfl dX4_one_30
      · have h := ite_f h c3
        refine lv_iconst (v := (-1 : Int32)) hx hb dX4_one_17 (by decide) ?_
        have h := Option.some.inj h
        subst h
        subst hQ
        exact g_iret hx hb hr hlocks cZm hK hZ hG hS rfl dX4_one_18
def X4_areNoSets (P : Nat) (I : xMem) (x1 : Int32) (x2 : Int32) : Int32 := if x1 < (0 : Int32) then ((nz (1 : Int32))) else (if (X1_allStones P I) < x1 then ((nz (1 : Int32))) else (if x2 < (0 : Int32) then ((nz (1 : Int32))) else (if (X1_allStones P I) < x2 then ((nz (1 : Int32))) else (if (x1 &&& x2) = (0 : Int32) then ((nz (0 : Int32))) else ((nz (1 : Int32)))))))
abbrev rm_X4_areNoSets : Room := { frames := 1, cells := 0, slots := 0, locals := 20 }
theorem cd_X4_areNoSets : yX4_areNoSets.cls = RX4 ∧ yX4_areNoSets.cls ≠ "java/lang/invoke/MethodHandle" ∧ yX4_areNoSets.cls ≠ "java/lang/invoke/VarHandle" ∧ (parseMethodDescriptor yX4_areNoSets.desc).map (fun d => d.parameters.length) = some 2 := by decide +kernel
set_option maxHeartbeats 4000000 in
set_option maxRecDepth 100000 in
theorem k_X4_areNoSets (l : Launch) (D : va_G) (cy : Nat → ClassId) (ad : Nat → Nat) (P Dr : Nat) (tI : xTab) (hX : cOk ad P Dr) (I : xMem) (L : xLon) (x1 : Int32) (x2 : Int32) (r : Int32) (h : X4_areNoSets P I x1 x2 = r) : Met l yX4_areNoSets wsX4_areNoSets rm_X4_areNoSets (va_Pc [.ref (ad 0), .int x1, .int x2] (cW D cy ad P Dr tI I L)) (cPi D cy ad P Dr tI I L r) 0 0 (gA 64 ad) := by
  refine g_met (own := RX4) (cc := cX4_areNoSets) (maxL := 4) (ret := (some .boolean)) (by decide) rfl (Nat.le_of_ble_eq_true rfl) rfl ?_
  intro p e s m args below meth c ls hx hb hml hr hlocks hown hts hG hK hZ hl
  generalize hQ : MQ below _ args s 0 0 _ = Q
  have hl : lv_has ls 4 [(0, .ref (ad 0)), (1, .int x1), (2, .int x2)] := hl
  have hS : va_S (gA 64 ad) s.heap s.heap [] := va_S.rf
  obtain ⟨hi, hP, hDr⟩ := id hX
  have l4 : ∀ w ∈ wsX40, w.before args s = true := fun w h => hts w (List.mem_cons_of_mem _ (List.mem_append_left _ (List.mem_append_right _ h)))
  have k1 := hts (.fieldLink RX4 50 "PairStairs" "plan" "LPairStairs$Plan;") (by decide +kernel)
  unfold X4_areNoSets at h
  refine lv_aload_n hx hb dX4_areNoSets_0 rfl (lv_at hl 0 rfl) ?_
  refine g_get hx hb l4 hown hK hG (k := 0) (by decide) (cE_4 _ _) vwCl_4 7 (by decide) k1 (fun _ h9 => h9) rfl dX4_areNoSets_1 ?_
  refine g_endi (va_runV (As := []) (rest := []) ⟨hx, hb, hml, hown, hts⟩ (k_X1_allStones l D cy ad P Dr tI hX (b := P) hP I L _ rfl) (cwV 0 hts gX4_areNoSets_X1_allStones rfl rfl rfl cd_X1_allStones ⟨Nat.le_of_ble_eq_true rfl, Nat.le_of_ble_eq_true rfl⟩) ⟨g_blind cZm, g_recv hK hG (k := P) hP.1.1 (cE_1 hP.1 _ _) vwCl_1, g_pre cZm hK hG hZ hS⟩ rfl rfl hl.1 rfl (lv_room (Nat.le_of_ble_eq_true rfl)) dX4_areNoSets_4 ⟨Nat.le_refl _, Nat.le_refl _⟩) hS (fun H locs hG hS => ?_)
  refine lv_istore_n (lv' := [(3, .int (X1_allStones P I)), (0, .ref (ad 0)), (1, .int x1), (2, .int x2)]) hx hb dX4_areNoSets_7 rfl hl (by decide) rfl (fun ls hl => ?_)
  refine lv_iload_n hx hb dX4_areNoSets_8 rfl (lv_at hl 2 rfl) ?_
  refine lv_if_lt (tgt := 32) hx hb dX4_areNoSets_9 (by decide) (fun c1 => ?_) (fun c1 => ?_)
  · have h := ite_t h c1
    refine lv_iconst (v := (1 : Int32)) hx hb dX4_areNoSets_32 (by decide) ?_
    refine lv_goto (tgt := 37) hx hb dX4_areNoSets_33 (by decide) ?_
    subst h
    subst hQ
    exact g_zret hx hb hr hlocks cZm hK hZ hG hS rfl dX4_areNoSets_37
  · have h := ite_f h c1
    refine lv_iload_n hx hb dX4_areNoSets_12 rfl (lv_at hl 2 rfl) ?_
    refine lv_iload_n hx hb dX4_areNoSets_13 rfl (lv_at hl 0 rfl) ?_
    refine lv_icmp_gt (tgt := 32) hx hb dX4_areNoSets_14 (by decide) (fun c2 => ?_) (fun c2 => ?_)
    · have h := ite_t h c2
      refine lv_iconst (v := (1 : Int32)) hx hb dX4_areNoSets_32 (by decide) ?_
      refine lv_goto (tgt := 37) hx hb dX4_areNoSets_33 (by decide) ?_
      subst h
      subst hQ
      exact g_zret hx hb hr hlocks cZm hK hZ hG hS rfl dX4_areNoSets_37
    · have h := ite_f h c2
      refine lv_iload_n hx hb dX4_areNoSets_17 rfl (lv_at hl 3 rfl) ?_
      refine lv_if_lt (tgt := 32) hx hb dX4_areNoSets_18 (by decide) (fun c3 => ?_) (fun c3 => ?_)
      · have h := ite_t h c3
        refine lv_iconst (v := (1 : Int32)) hx hb dX4_areNoSets_32 (by decide) ?_
        refine lv_goto (tgt := 37) hx hb dX4_areNoSets_33 (by decide) ?_
        subst h
        subst hQ
        exact g_zret hx hb hr hlocks cZm hK hZ hG hS rfl dX4_areNoSets_37
      · have h := ite_f h c3
        refine lv_iload_n hx hb dX4_areNoSets_21 rfl (lv_at hl 3 rfl) ?_
        refine lv_iload_n hx hb dX4_areNoSets_22 rfl (lv_at hl 0 rfl) ?_
        refine lv_icmp_gt (tgt := 32) hx hb dX4_areNoSets_23 (by decide) (fun c4 => ?_) (fun c4 => ?_)
        · have h := ite_t h c4
          refine lv_iconst (v := (1 : Int32)) hx hb dX4_areNoSets_32 (by decide) ?_
          refine lv_goto (tgt := 37) hx hb dX4_areNoSets_33 (by decide) ?_
          subst h
          subst hQ
          exact g_zret hx hb hr hlocks cZm hK hZ hG hS rfl dX4_areNoSets_37
        · have h := ite_f h c4
          refine lv_iload_n hx hb dX4_areNoSets_26 rfl (lv_at hl 2 rfl) ?_
          refine lv_iload_n hx hb dX4_areNoSets_27 rfl (lv_at hl 3 rfl) ?_
          refine lv_iand hx hb dX4_areNoSets_28 ?_
          refine lv_if_eq (tgt := 36) hx hb dX4_areNoSets_29 (by decide) (fun c5 => ?_) (fun c5 => ?_)
          · have h := ite_t h c5
            refine lv_iconst (v := (0 : Int32)) hx hb dX4_areNoSets_36 (by decide) ?_
            subst h
            subst hQ
            exact g_zret hx hb hr hlocks cZm hK hZ hG hS rfl dX4_areNoSets_37
          · have h := ite_f h c5
            refine lv_iconst (v := (1 : Int32)) hx hb dX4_areNoSets_32 (by decide) ?_
            refine lv_goto (tgt := 37) hx hb dX4_areNoSets_33 (by decide) ?_
            subst h
            subst hQ
            exact g_zret hx hb hr hlocks cZm hK hZ hG hS rfl dX4_areNoSets_37
def X4_isNoPair (P : Nat) (I : xMem) (x1 : Int32) (x2 : Int32) : Int32 := if (X4_isNobody P I x1) = (0 : Int32) then (if (X4_isNobody P I x2) = (0 : Int32) then (if x1 = x2 then ((nz (1 : Int32))) else ((nz (0 : Int32)))) else ((nz (1 : Int32)))) else ((nz (1 : Int32)))
abbrev rm_X4_isNoPair : Room := { frames := 1, cells := 0, slots := 0, locals := 21 }
theorem cd_X4_isNoPair : yX4_isNoPair.cls = RX4 ∧ yX4_isNoPair.cls ≠ "java/lang/invoke/MethodHandle" ∧ yX4_isNoPair.cls ≠ "java/lang/invoke/VarHandle" ∧ (parseMethodDescriptor yX4_isNoPair.desc).map (fun d => d.parameters.length) = some 2 := by decide +kernel
set_option maxHeartbeats 4000000 in
set_option maxRecDepth 100000 in
theorem k_X4_isNoPair (l : Launch) (D : va_G) (cy : Nat → ClassId) (ad : Nat → Nat) (P Dr : Nat) (tI : xTab) (hX : cOk ad P Dr) (I : xMem) (L : xLon) (x1 : Int32) (x2 : Int32) (r : Int32) (h : X4_isNoPair P I x1 x2 = r) : Met l yX4_isNoPair wsX4_isNoPair rm_X4_isNoPair (va_Pc [.ref (ad 0), .int x1, .int x2] (cW D cy ad P Dr tI I L)) (cPi D cy ad P Dr tI I L r) 0 0 (gA 64 ad) := by
  refine g_met (own := RX4) (cc := cX4_isNoPair) (maxL := 3) (ret := (some .boolean)) (by decide) rfl (Nat.le_of_ble_eq_true rfl) rfl ?_
  intro p e s m args below meth c ls hx hb hml hr hlocks hown hts hG hK hZ hl
  generalize hQ : MQ below _ args s 0 0 _ = Q
  have hl : lv_has ls 3 [(0, .ref (ad 0)), (1, .int x1), (2, .int x2)] := hl
  have hS : va_S (gA 64 ad) s.heap s.heap [] := va_S.rf
  obtain ⟨hi, hP, hDr⟩ := id hX
  unfold X4_isNoPair at h
  refine lv_aload_n hx hb dX4_isNoPair_0 rfl (lv_at hl 0 rfl) ?_
  refine lv_iload_n hx hb dX4_isNoPair_1 rfl (lv_at hl 1 rfl) ?_
  refine g_endi (va_runV (As := [.int x1]) (rest := []) ⟨hx, hb, hml, hown, hts⟩ (k_X4_isNobody l D cy ad P Dr tI hX I L x1 _ rfl) (cwV 1 hts gX4_isNoPair_X4_isNobody rfl rfl rfl cd_X4_isNobody ⟨Nat.le_of_ble_eq_true rfl, Nat.le_of_ble_eq_true rfl⟩) ⟨g_blind cZm, g_recv hK hG (k := 0) (by decide) (cE_4 _ _) vwCl_4, g_pre cZm hK hG hZ hS⟩ rfl rfl hl.1 rfl (lv_room (Nat.le_of_ble_eq_true rfl)) dX4_isNoPair_2 ⟨Nat.le_refl _, Nat.le_refl _⟩) hS (fun H locs hG hS => ?_)
  refine lv_if_ne (tgt := 21) hx hb dX4_isNoPair_5 (by decide) (fun c1 => ?_) (fun c1 => ?_)
  · have h := ite_f h c1
    refine lv_iconst (v := (1 : Int32)) hx hb dX4_isNoPair_21 (by decide) ?_
    refine lv_goto (tgt := 26) hx hb dX4_isNoPair_22 (by decide) ?_
    subst h
    subst hQ
    exact g_zret hx hb hr hlocks cZm hK hZ hG hS rfl dX4_isNoPair_26
  · have h := ite_t h c1
    refine lv_aload_n hx hb dX4_isNoPair_8 rfl (lv_at hl 0 rfl) ?_
    refine lv_iload_n hx hb dX4_isNoPair_9 rfl (lv_at hl 2 rfl) ?_
    refine g_endi (va_runV (As := [.int x2]) (rest := []) ⟨hx, hb, hml, hown, hts⟩ (k_X4_isNobody l D cy ad P Dr tI hX I L x2 _ rfl) (cwV 1 hts gX4_isNoPair_X4_isNobody rfl rfl rfl cd_X4_isNobody ⟨Nat.le_of_ble_eq_true rfl, Nat.le_of_ble_eq_true rfl⟩) ⟨g_blind cZm, g_recv hK hG (k := 0) (by decide) (cE_4 _ _) vwCl_4, g_pre cZm hK hG hZ hS⟩ rfl rfl hl.1 rfl (lv_room (Nat.le_of_ble_eq_true rfl)) dX4_isNoPair_10 ⟨Nat.le_refl _, Nat.le_refl _⟩) hS (fun H locs hG hS => ?_)
    refine lv_if_ne (tgt := 21) hx hb dX4_isNoPair_13 (by decide) (fun c2 => ?_) (fun c2 => ?_)
    · have h := ite_f h c2
      refine lv_iconst (v := (1 : Int32)) hx hb dX4_isNoPair_21 (by decide) ?_
      refine lv_goto (tgt := 26) hx hb dX4_isNoPair_22 (by decide) ?_
      subst h
      subst hQ
      exact g_zret hx hb hr hlocks cZm hK hZ hG hS rfl dX4_isNoPair_26
    · have h := ite_t h c2
      refine lv_iload_n hx hb dX4_isNoPair_16 rfl (lv_at hl 1 rfl) ?_
      refine lv_iload_n hx hb dX4_isNoPair_17 rfl (lv_at hl 2 rfl) ?_
      refine lv_icmp_ne (tgt := 25) hx hb dX4_isNoPair_18 (by decide) (fun c3 => ?_) (fun c3 => ?_)
      · have h := ite_f h c3
        refine lv_iconst (v := (0 : Int32)) hx hb dX4_isNoPair_25 (by decide) ?_
        subst h
        subst hQ
        exact g_zret hx hb hr hlocks cZm hK hZ hG hS rfl dX4_isNoPair_26
      · have h := ite_t h c3
        refine lv_iconst (v := (1 : Int32)) hx hb dX4_isNoPair_21 (by decide) ?_
        refine lv_goto (tgt := 26) hx hb dX4_isNoPair_22 (by decide) ?_
        subst h
        subst hQ
        exact g_zret hx hb hr hlocks cZm hK hZ hG hS rfl dX4_isNoPair_26
