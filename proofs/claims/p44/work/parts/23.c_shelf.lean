def X2_hasNo (b : Nat) (I : xMem) (x1 : Int32) : Int32 := if x1 < (0 : Int32) then ((nz (1 : Int32))) else (if x1 < (I b 0) then ((nz (0 : Int32))) else ((nz (1 : Int32))))
abbrev rm_X2_hasNo : Room := { frames := 0, cells := 0, slots := 0, locals := 0 }
theorem cd_X2_hasNo : yX2_hasNo.cls = RX2 ∧ yX2_hasNo.cls ≠ "java/lang/invoke/MethodHandle" ∧ yX2_hasNo.cls ≠ "java/lang/invoke/VarHandle" ∧ (parseMethodDescriptor yX2_hasNo.desc).map (fun d => d.parameters.length) = some 1 := by decide +kernel
set_option maxHeartbeats 4000000 in
set_option maxRecDepth 100000 in
theorem k_X2_hasNo (l : Launch) (D : va_G) (cy : Nat → ClassId) (ad : Nat → Nat) (P Dr : Nat) (tI : xTab) (hX : cOk ad P Dr) {b : Nat} (hB : cShelf b) (I : xMem) (L : xLon) (x1 : Int32) (r : Int32) (h : X2_hasNo b I x1 = r) : Met l yX2_hasNo wsX2_hasNo rm_X2_hasNo (va_Pc [.ref (ad b), .int x1] (cW D cy ad P Dr tI I L)) (cPi D cy ad P Dr tI I L r) 0 0 (gA 64 ad) := by
  refine g_met (own := RX2) (cc := cX2_hasNo) (maxL := 2) (ret := (some .boolean)) (by decide) rfl (Nat.le_of_ble_eq_true rfl) rfl ?_
  intro p e s m args below meth c ls hx hb hml hr hlocks hown hts hG hK hZ hl
  generalize hQ : MQ below _ args s 0 0 _ = Q
  have hl : lv_has ls 2 [(0, .ref (ad b)), (1, .int x1)] := hl
  have hS : va_S (gA 64 ad) s.heap s.heap [] := va_S.rf
  obtain ⟨hi, hP, hDr⟩ := id hX
  have l2 : ∀ w ∈ wsX20, w.before args s = true := fun w h => hts w (List.mem_cons_of_mem _ (List.mem_append_right _ h))
  have k1 := hts (.fieldLink RX2 7 "PairStairs$Shelf" "many" "I") (by decide +kernel)
  unfold X2_hasNo at h
  refine lv_iload_n hx hb dX2_hasNo_0 rfl (lv_at hl 1 rfl) ?_
  refine lv_if_lt (tgt := 12) hx hb dX2_hasNo_1 (by decide) (fun c1 => ?_) (fun c1 => ?_)
  · have h := ite_t h c1
    refine lv_iconst (v := (1 : Int32)) hx hb dX2_hasNo_12 (by decide) ?_
    refine lv_goto (tgt := 17) hx hb dX2_hasNo_13 (by decide) ?_
    subst h
    subst hQ
    exact g_zret hx hb hr hlocks cZm hK hZ hG hS rfl dX2_hasNo_17
  · have h := ite_f h c1
    refine lv_iload_n hx hb dX2_hasNo_4 rfl (lv_at hl 1 rfl) ?_
    refine lv_aload_n hx hb dX2_hasNo_5 rfl (lv_at hl 0 rfl) ?_
    refine g_get hx hb l2 hown hK hG (k := b) hB.1.1 (cE_2 hB.1 _ _) vwCl_2 0 (by decide) k1 (fun _ h9 => h9) rfl dX2_hasNo_6 ?_
    refine lv_icmp_lt (tgt := 16) hx hb dX2_hasNo_9 (by decide) (fun c2 => ?_) (fun c2 => ?_)
    · have h := ite_t h c2
      refine lv_iconst (v := (0 : Int32)) hx hb dX2_hasNo_16 (by decide) ?_
      subst h
      subst hQ
      exact g_zret hx hb hr hlocks cZm hK hZ hG hS rfl dX2_hasNo_17
    · have h := ite_f h c2
      refine lv_iconst (v := (1 : Int32)) hx hb dX2_hasNo_12 (by decide) ?_
      refine lv_goto (tgt := 17) hx hb dX2_hasNo_13 (by decide) ?_
      subst h
      subst hQ
      exact g_zret hx hb hr hlocks cZm hK hZ hG hS rfl dX2_hasNo_17
def X2_renew (b : Nat) (I : xMem) (x1 : Int32) (x2 : Int32) : Option (xMem) := (wrI I (b + 1) (cLen (b + 1)) x1 x2).bind fun I1 => (rdX (cLen (b + 2)) x1).bind fun j2 => (J7_fill_53178 I1 ((b + 2) + 1 + j2) (cLen (b + 3)) (I1 b 4)).bind fun q3 => some q3
abbrev rm_X2_renew : Room := { frames := 1, cells := 0, slots := 0, locals := 23 }
theorem cd_X2_renew : yX2_renew.cls = RX2 ∧ yX2_renew.cls ≠ "java/lang/invoke/MethodHandle" ∧ yX2_renew.cls ≠ "java/lang/invoke/VarHandle" ∧ (parseMethodDescriptor yX2_renew.desc).map (fun d => d.parameters.length) = some 2 := by decide +kernel
set_option maxHeartbeats 4000000 in
set_option maxRecDepth 100000 in
theorem k_X2_renew (l : Launch) (D : va_G) (cy : Nat → ClassId) (ad : Nat → Nat) (P Dr : Nat) (tI : xTab) (hX : cOk ad P Dr) {b : Nat} (hB : cShelf b) (I : xMem) (L : xLon) (x1 : Int32) (x2 : Int32) (r : xMem) (h : X2_renew b I x1 x2 = some r) : Met l yX2_renew wsX2_renew rm_X2_renew (va_Pc [.ref (ad b), .int x1, .int x2] (cW D cy ad P Dr tI I L)) (cPv D cy ad P Dr tI r L) 0 0 (gA 64 ad) := by
  refine g_met (own := RX2) (cc := cX2_renew) (maxL := 3) (ret := none) (by decide) rfl (Nat.le_of_ble_eq_true rfl) rfl ?_
  intro p e s m args below meth c ls hx hb hml hr hlocks hown hts hG hK hZ hl
  generalize hQ : MQ below _ args s 0 0 _ = Q
  have hl : lv_has ls 3 [(0, .ref (ad b)), (1, .int x1), (2, .int x2)] := hl
  have hS : va_S (gA 64 ad) s.heap s.heap [] := va_S.rf
  obtain ⟨hi, hP, hDr⟩ := id hX
  have l2 : ∀ w ∈ wsX20, w.before args s = true := fun w h => hts w (List.mem_cons_of_mem _ (List.mem_append_right _ h))
  have k1 := hts (.fieldLink RX2 24 "PairStairs$Shelf" "sizes" "[I") (by decide +kernel)
  have k2 := hts (.fieldLink RX2 21 "PairStairs$Shelf" "places" "[[I") (by decide +kernel)
  have k3 := hts (.fieldLink RX2 16 "PairStairs$Shelf" "filling" "I") (by decide +kernel)
  unfold X2_renew at h
  refine lv_aload_n hx hb dX2_renew_0 rfl (lv_at hl 0 rfl) ?_
  refine g_get hx hb l2 hown hK hG (k := b) hB.1.1 (cE_2 hB.1 _ _) vwCl_2 3 (by decide) k1 (fun _ h9 => h9) rfl dX2_renew_1 ?_
  refine lv_iload_n hx hb dX2_renew_4 rfl (lv_at hl 1 rfl) ?_
  refine lv_iload_n hx hb dX2_renew_5 rfl (lv_at hl 2 rfl) ?_
  refine g_ast hx hb hK hG hi hS (k := (b + 1)) (n := (cLen (b + 1))) hB.2.1.1.1 (fun f => cIA_e hB.2.1 f _) 0 rfl h dX2_renew_6 (fun I1 H locs h hG hS => ?_)
  refine lv_aload_n hx hb dX2_renew_7 rfl (lv_at hl 0 rfl) ?_
  refine g_get hx hb l2 hown hK hG (k := b) hB.1.1 (cE_2 hB.1 _ _) vwCl_2 2 (by decide) k2 (fun _ h9 => h9) rfl dX2_renew_8 ?_
  refine lv_iload_n hx hb dX2_renew_11 rfl (lv_at hl 1 rfl) ?_
  refine g_aldq hx hb hK hG (k := (b + 2)) (n := (cLen (b + 2))) (g := fun j => (b + 2) + 1 + j) hB.2.2.1.1 (cE_9 hB.2.2.1 _ _) 3 rfl rfl h dX2_renew_12 (fun j2 hj2 h => ?_)
  refine lv_aload_n hx hb dX2_renew_13 rfl (lv_at hl 0 rfl) ?_
  refine g_get hx hb l2 hown hK hG (k := b) hB.1.1 (cE_2 hB.1 _ _) vwCl_2 4 (by decide) k3 (fun _ h9 => h9) rfl dX2_renew_14 ?_
  obtain ⟨q3, eq3, h⟩ := obind h
  refine g_endv (va_runS (As := [.ref (ad ((b + 2) + 1 + j2)), .int (I1 b 4)]) (rest := []) ⟨hx, hb, hml, hown, hts⟩ (k_J7_fill_53178 l D cy ad P Dr tI hX I1 L (y1 := ((b + 2) + 1 + j2)) (n1 := (cLen (b + 3))) (hB.2.2.2 j2 hj2) (I1 b 4) q3 eq3) (va_cwS 2 hts gX2_renew_J7_fill_53178 rfl rfl rfl cd_J7_fill_53178.2 ⟨Nat.le_of_ble_eq_true rfl, Nat.le_of_ble_eq_true rfl⟩) ⟨g_blind cZm, g_pre cZm hK hG hZ hS⟩ rfl rfl hl.1 rfl (lv_room (Nat.le_of_ble_eq_true rfl)) dX2_renew_17 ⟨Nat.le_refl _, Nat.le_refl _⟩) hS (fun H locs hG hS => ?_)
  have h := Option.some.inj h
  subst h
  subst hQ
  exact g_vret hx hb hr hlocks cZm hK hZ hG hS dX2_renew_20
def X2_lacks (b : Nat) (I : xMem) (x1 : Int32) (x2 : Int32) (x3 : Int32) : Option (Int32) := if x2 < (0 : Int32) then (some (nz (1 : Int32))) else ((rdI I (b + 1) (cLen (b + 1)) x1).bind fun v2 => if v2 < x2 then (some (nz (1 : Int32))) else ((rdI I (b + 1) (cLen (b + 1)) x1).bind fun v4 => if x3 ≤ (v4 - x2) then (some (nz (0 : Int32))) else (some (nz (1 : Int32)))))
abbrev rm_X2_lacks : Room := { frames := 0, cells := 0, slots := 0, locals := 0 }
theorem cd_X2_lacks : yX2_lacks.cls = RX2 ∧ yX2_lacks.cls ≠ "java/lang/invoke/MethodHandle" ∧ yX2_lacks.cls ≠ "java/lang/invoke/VarHandle" ∧ (parseMethodDescriptor yX2_lacks.desc).map (fun d => d.parameters.length) = some 3 := by decide +kernel
set_option maxHeartbeats 4000000 in
set_option maxRecDepth 100000 in
theorem k_X2_lacks (l : Launch) (D : va_G) (cy : Nat → ClassId) (ad : Nat → Nat) (P Dr : Nat) (tI : xTab) (hX : cOk ad P Dr) {b : Nat} (hB : cShelf b) (I : xMem) (L : xLon) (x1 : Int32) (x2 : Int32) (x3 : Int32) (r : Int32) (h : X2_lacks b I x1 x2 x3 = some r) : Met l yX2_lacks wsX2_lacks rm_X2_lacks (va_Pc [.ref (ad b), .int x1, .int x2, .int x3] (cW D cy ad P Dr tI I L)) (cPi D cy ad P Dr tI I L r) 0 0 (gA 64 ad) := by
  refine g_met (own := RX2) (cc := cX2_lacks) (maxL := 4) (ret := (some .boolean)) (by decide) rfl (Nat.le_of_ble_eq_true rfl) rfl ?_
  intro p e s m args below meth c ls hx hb hml hr hlocks hown hts hG hK hZ hl
  generalize hQ : MQ below _ args s 0 0 _ = Q
  have hl : lv_has ls 4 [(0, .ref (ad b)), (1, .int x1), (2, .int x2), (3, .int x3)] := hl
  have hS : va_S (gA 64 ad) s.heap s.heap [] := va_S.rf
  obtain ⟨hi, hP, hDr⟩ := id hX
  have l2 : ∀ w ∈ wsX20, w.before args s = true := fun w h => hts w (List.mem_cons_of_mem _ (List.mem_append_right _ h))
  have k1 := hts (.fieldLink RX2 24 "PairStairs$Shelf" "sizes" "[I") (by decide +kernel)
  unfold X2_lacks at h
  refine lv_iload_n hx hb dX2_lacks_0 rfl (lv_at hl 2 rfl) ?_
  refine lv_if_lt (tgt := 26) hx hb dX2_lacks_1 (by decide) (fun c1 => ?_) (fun c1 => ?_)
  · have h := ite_t h c1
    refine lv_iconst (v := (1 : Int32)) hx hb dX2_lacks_26 (by decide) ?_
    refine lv_goto (tgt := 31) hx hb dX2_lacks_27 (by decide) ?_
    have h := Option.some.inj h
    subst h
    subst hQ
    exact g_zret hx hb hr hlocks cZm hK hZ hG hS rfl dX2_lacks_31
  · have h := ite_f h c1
    refine lv_iload_n hx hb dX2_lacks_4 rfl (lv_at hl 2 rfl) ?_
    refine lv_aload_n hx hb dX2_lacks_5 rfl (lv_at hl 0 rfl) ?_
    refine g_get hx hb l2 hown hK hG (k := b) hB.1.1 (cE_2 hB.1 _ _) vwCl_2 3 (by decide) k1 (fun _ h9 => h9) rfl dX2_lacks_6 ?_
    refine lv_iload_n hx hb dX2_lacks_9 rfl (lv_at hl 1 rfl) ?_
    refine g_ald hx hb hK hG (k := (b + 1)) (n := (cLen (b + 1))) hB.2.1.1.1 (cIA_e hB.2.1 _ _) 0 rfl h dX2_lacks_10 (fun v2 h => ?_)
    refine lv_icmp_gt (tgt := 26) hx hb dX2_lacks_11 (by decide) (fun c3 => ?_) (fun c3 => ?_)
    · have h := ite_t h c3
      refine lv_iconst (v := (1 : Int32)) hx hb dX2_lacks_26 (by decide) ?_
      refine lv_goto (tgt := 31) hx hb dX2_lacks_27 (by decide) ?_
      have h := Option.some.inj h
      subst h
      subst hQ
      exact g_zret hx hb hr hlocks cZm hK hZ hG hS rfl dX2_lacks_31
    · have h := ite_f h c3
      refine lv_iload_n hx hb dX2_lacks_14 rfl (lv_at hl 3 rfl) ?_
      refine lv_aload_n hx hb dX2_lacks_15 rfl (lv_at hl 0 rfl) ?_
      refine g_get hx hb l2 hown hK hG (k := b) hB.1.1 (cE_2 hB.1 _ _) vwCl_2 3 (by decide) k1 (fun _ h9 => h9) rfl dX2_lacks_16 ?_
      refine lv_iload_n hx hb dX2_lacks_19 rfl (lv_at hl 1 rfl) ?_
      refine g_ald hx hb hK hG (k := (b + 1)) (n := (cLen (b + 1))) hB.2.1.1.1 (cIA_e hB.2.1 _ _) 0 rfl h dX2_lacks_20 (fun v4 h => ?_)
      refine lv_iload_n hx hb dX2_lacks_21 rfl (lv_at hl 2 rfl) ?_
      refine lv_isub hx hb dX2_lacks_22 ?_
      refine lv_icmp_le (tgt := 30) hx hb dX2_lacks_23 (by decide) (fun c5 => ?_) (fun c5 => ?_)
      · have h := ite_t h c5
        refine lv_iconst (v := (0 : Int32)) hx hb dX2_lacks_30 (by decide) ?_
        have h := Option.some.inj h
        subst h
        subst hQ
        exact g_zret hx hb hr hlocks cZm hK hZ hG hS rfl dX2_lacks_31
      · have h := ite_f h c5
        refine lv_iconst (v := (1 : Int32)) hx hb dX2_lacks_26 (by decide) ?_
        refine lv_goto (tgt := 31) hx hb dX2_lacks_27 (by decide) ?_
        have h := Option.some.inj h
        subst h
        subst hQ
        exact g_zret hx hb hr hlocks cZm hK hZ hG hS rfl dX2_lacks_31
def X2_isMissing (b : Nat) (I : xMem) (x1 : Int32) : Option (Int32) := (rdI I (b + 1) (cLen (b + 1)) x1).bind fun v1 => if v1 = (-1 : Int32) then (some (nz (1 : Int32))) else (some (nz (0 : Int32)))
abbrev rm_X2_isMissing : Room := { frames := 0, cells := 0, slots := 0, locals := 0 }
theorem cd_X2_isMissing : yX2_isMissing.cls = RX2 ∧ yX2_isMissing.cls ≠ "java/lang/invoke/MethodHandle" ∧ yX2_isMissing.cls ≠ "java/lang/invoke/VarHandle" ∧ (parseMethodDescriptor yX2_isMissing.desc).map (fun d => d.parameters.length) = some 1 := by decide +kernel
set_option maxHeartbeats 4000000 in
set_option maxRecDepth 100000 in
theorem k_X2_isMissing (l : Launch) (D : va_G) (cy : Nat → ClassId) (ad : Nat → Nat) (P Dr : Nat) (tI : xTab) (hX : cOk ad P Dr) {b : Nat} (hB : cShelf b) (I : xMem) (L : xLon) (x1 : Int32) (r : Int32) (h : X2_isMissing b I x1 = some r) : Met l yX2_isMissing wsX2_isMissing rm_X2_isMissing (va_Pc [.ref (ad b), .int x1] (cW D cy ad P Dr tI I L)) (cPi D cy ad P Dr tI I L r) 0 0 (gA 64 ad) := by
  refine g_met (own := RX2) (cc := cX2_isMissing) (maxL := 2) (ret := (some .boolean)) (by decide) rfl (Nat.le_of_ble_eq_true rfl) rfl ?_
  intro p e s m args below meth c ls hx hb hml hr hlocks hown hts hG hK hZ hl
  generalize hQ : MQ below _ args s 0 0 _ = Q
  have hl : lv_has ls 2 [(0, .ref (ad b)), (1, .int x1)] := hl
  have hS : va_S (gA 64 ad) s.heap s.heap [] := va_S.rf
  obtain ⟨hi, hP, hDr⟩ := id hX
  have l2 : ∀ w ∈ wsX20, w.before args s = true := fun w h => hts w (List.mem_cons_of_mem _ (List.mem_append_right _ h))
  have k1 := hts (.fieldLink RX2 24 "PairStairs$Shelf" "sizes" "[I") (by decide +kernel)
  unfold X2_isMissing at h
  refine lv_aload_n hx hb dX2_isMissing_0 rfl (lv_at hl 0 rfl) ?_
  refine g_get hx hb l2 hown hK hG (k := b) hB.1.1 (cE_2 hB.1 _ _) vwCl_2 3 (by decide) k1 (fun _ h9 => h9) rfl dX2_isMissing_1 ?_
  refine lv_iload_n hx hb dX2_isMissing_4 rfl (lv_at hl 1 rfl) ?_
  refine g_ald hx hb hK hG (k := (b + 1)) (n := (cLen (b + 1))) hB.2.1.1.1 (cIA_e hB.2.1 _ _) 0 rfl h dX2_isMissing_5 (fun v1 h => ?_)
  refine lv_iconst (v := (-1 : Int32)) hx hb dX2_isMissing_6 (by decide) ?_
  refine lv_icmp_ne (tgt := 14) hx hb dX2_isMissing_7 (by decide) (fun c2 => ?_) (fun c2 => ?_)
  · have h := ite_f h c2
    refine lv_iconst (v := (0 : Int32)) hx hb dX2_isMissing_14 (by decide) ?_
    have h := Option.some.inj h
    subst h
    subst hQ
    exact g_zret hx hb hr hlocks cZm hK hZ hG hS rfl dX2_isMissing_15
  · have h := ite_t h c2
    refine lv_iconst (v := (1 : Int32)) hx hb dX2_isMissing_10 (by decide) ?_
    refine lv_goto (tgt := 15) hx hb dX2_isMissing_11 (by decide) ?_
    have h := Option.some.inj h
    subst h
    subst hQ
    exact g_zret hx hb hr hlocks cZm hK hZ hG hS rfl dX2_isMissing_15
def X2_howMany_L1 (b : Nat) (I : xMem) (K1 : Int32 → Option (Int32)) : Nat → Int32 → Int32 → Option (Int32)
  | 0, _, _ => none
  | n2 + 1, x1_2, x2_2 => if (I b 0) ≤ x2_2 then (K1 x1_2) else ((X2_isMissing b I x2_2).bind fun v4 => (if v4 = (0 : Int32) then (some (1 : Int32)) else (some (0 : Int32))).bind fun q5 => X2_howMany_L1 b I K1 n2 (x1_2 + q5) (x2_2 + (1 : Int32)))
def X2_howMany (b : Nat) (I : xMem) : Option (Int32) := X2_howMany_L1 b I (fun (z1_2 : Int32) => some z1_2) bigF (0 : Int32) (0 : Int32)
abbrev rm_X2_howMany : Room := { frames := 1, cells := 0, slots := 0, locals := 21 }
theorem cd_X2_howMany : yX2_howMany.cls = RX2 ∧ yX2_howMany.cls ≠ "java/lang/invoke/MethodHandle" ∧ yX2_howMany.cls ≠ "java/lang/invoke/VarHandle" ∧ (parseMethodDescriptor yX2_howMany.desc).map (fun d => d.parameters.length) = some 0 := by decide +kernel
set_option maxHeartbeats 4000000 in
set_option maxRecDepth 100000 in
theorem k_X2_howMany (l : Launch) (D : va_G) (cy : Nat → ClassId) (ad : Nat → Nat) (P Dr : Nat) (tI : xTab) (hX : cOk ad P Dr) {b : Nat} (hB : cShelf b) (I : xMem) (L : xLon)  (r : Int32) (h : X2_howMany b I = some r) : Met l yX2_howMany wsX2_howMany rm_X2_howMany (va_Pc [.ref (ad b)] (cW D cy ad P Dr tI I L)) (cPi D cy ad P Dr tI I L r) 0 0 (gA 64 ad) := by
  refine g_met (own := RX2) (cc := cX2_howMany) (maxL := 3) (ret := (some .int)) (by decide) rfl (Nat.le_of_ble_eq_true rfl) rfl ?_
  intro p e s m args below meth c ls hx hb hml hr hlocks hown hts hG hK hZ hl
  generalize hQ : MQ below _ args s 0 0 _ = Q
  have hl : lv_has ls 3 [(0, .ref (ad b))] := hl
  have hS : va_S (gA 64 ad) s.heap s.heap [] := va_S.rf
  obtain ⟨hi, hP, hDr⟩ := id hX
  have l2 : ∀ w ∈ wsX20, w.before args s = true := fun w h => hts w (List.mem_cons_of_mem _ (List.mem_append_right _ h))
  have k1 := hts (.fieldLink RX2 7 "PairStairs$Shelf" "many" "I") (by decide +kernel)
  unfold X2_howMany at h
  refine lv_iconst (v := (0 : Int32)) hx hb dX2_howMany_0 (by decide) ?_
  refine lv_istore_n (lv' := [(1, .int (0 : Int32)), (0, .ref (ad b))]) hx hb dX2_howMany_1 rfl hl (by decide) rfl (fun ls hl => ?_)
  refine lv_iconst (v := (0 : Int32)) hx hb dX2_howMany_2 (by decide) ?_
  refine lv_istore_n (lv' := [(2, .int (0 : Int32)), (1, .int (0 : Int32)), (0, .ref (ad b))]) hx hb dX2_howMany_3 rfl hl (by decide) rfl (fun ls hl => ?_)
  have keyK1 : ∀ (K1 : Int32 → Option (Int32)), (∀ (z1_2 : Int32) (H : Heap) (locs : List Loc) (ls : Array Slot), K1 z1_2 = some r → cG D cy ad P Dr I L H → va_S (gA 64 ad) s.heap H locs → lv_has ls 3 [(1, .int z1_2)] → W p l e rm_X2_howMany s m args below meth c H locs 0 0 Q (F0 m 34 ls [])) → ∀ (n2 : Nat) (x1_2 : Int32) (x2_2 : Int32) (H : Heap) (locs : List Loc) (ls : Array Slot), X2_howMany_L1 b I K1 n2 x1_2 x2_2 = some r → cG D cy ad P Dr I L H → va_S (gA 64 ad) s.heap H locs → lv_has ls 3 [(0, .ref (ad b)), (1, .int x1_2), (2, .int x2_2)] → W p l e rm_X2_howMany s m args below meth c H locs 0 0 Q (F0 m 4 ls []) := by
    intro K1 hkK1 n2
    induction n2 with
    | zero =>
      intro x1_2 x2_2 H locs ls h
      exact ono h
    | succ n2 ihn2 =>
      intro x1_2 x2_2 H locs ls h hG hS hl
      rw [X2_howMany_L1] at h
      refine lv_iload_n hx hb dX2_howMany_4 rfl (lv_at hl 2 rfl) ?_
      refine lv_aload_n hx hb dX2_howMany_5 rfl (lv_at hl 0 rfl) ?_
      refine g_get hx hb l2 hown hK hG (k := b) hB.1.1 (cE_2 hB.1 _ _) vwCl_2 0 (by decide) k1 (fun _ h9 => h9) rfl dX2_howMany_6 ?_
      refine lv_icmp_ge (tgt := 34) hx hb dX2_howMany_9 (by decide) (fun c3 => ?_) (fun c3 => ?_)
      · have h := ite_t h c3
        exact hkK1 x1_2 _ _ _ h hG hS (lv_sub hl [1] rfl)
      · have h := ite_f h c3
        refine lv_iload_n hx hb dX2_howMany_12 rfl (lv_at hl 1 rfl) ?_
        refine lv_aload_n hx hb dX2_howMany_13 rfl (lv_at hl 0 rfl) ?_
        refine lv_iload_n hx hb dX2_howMany_14 rfl (lv_at hl 2 rfl) ?_
        obtain ⟨v4, ev4, h⟩ := obind h
        refine g_endi (va_runV (As := [.int x2_2]) (rest := [.int x1_2]) ⟨hx, hb, hml, hown, hts⟩ (k_X2_isMissing l D cy ad P Dr tI hX (b := b) hB I L x2_2 v4 ev4) (cwV 1 hts gX2_howMany_X2_isMissing rfl rfl rfl cd_X2_isMissing ⟨Nat.le_of_ble_eq_true rfl, Nat.le_of_ble_eq_true rfl⟩) ⟨g_blind cZm, g_recv hK hG (k := b) hB.1.1 (cE_2 hB.1 _ _) vwCl_2, g_pre cZm hK hG hZ hS⟩ rfl rfl hl.1 rfl (lv_room (Nat.le_of_ble_eq_true rfl)) dX2_howMany_15 ⟨Nat.le_refl _, Nat.le_refl _⟩) hS (fun H locs hG hS => ?_)
        obtain ⟨q5, h9, h⟩ := obind h
        have hk_q5 : ∀ (H : Heap) (locs : List Loc) (ls : Array Slot), cG D cy ad P Dr I L H → va_S (gA 64 ad) s.heap H locs → lv_has ls 3 [(0, .ref (ad b)), (2, .int x2_2)] → W p l e rm_X2_howMany s m args below meth c H locs 0 0 Q (F0 m 26 ls [.int q5, .int x1_2]) := by
          intro H locs ls hG hS hl
          refine lv_iadd hx hb dX2_howMany_26 ?_
          refine lv_istore_n (lv' := [(1, .int (x1_2 + q5)), (0, .ref (ad b)), (2, .int x2_2)]) hx hb dX2_howMany_27 rfl hl (by decide) rfl (fun ls hl => ?_)
          refine lv_iinc (v := (x2_2 + (1 : Int32))) (lv' := [(2, .int (x2_2 + (1 : Int32))), (1, .int (x1_2 + q5)), (0, .ref (ad b))]) hx hb dX2_howMany_28 hl (k := 2) rfl rfl (by decide) rfl (fun ls hl => ?_)
          refine lv_goto (tgt := 4) hx hb dX2_howMany_31 (by decide) ?_
          exact ihn2 (x1_2 + q5) (x2_2 + (1 : Int32)) _ _ _ h hG hS (lv_sub hl [2, 1, 0] rfl)
        clear h
        have h := h9
        clear h9
        refine lv_if_eq (tgt := 25) hx hb dX2_howMany_18 (by decide) (fun c6 => ?_) (fun c6 => ?_)
        · have h := ite_t h c6
          refine lv_iconst (v := (1 : Int32)) hx hb dX2_howMany_25 (by decide) ?_
          have h := Option.some.inj h
          subst h
          exact hk_q5 _ _ _ hG hS (lv_sub hl [0, 2] rfl)
        · have h := ite_f h c6
          refine lv_iconst (v := (0 : Int32)) hx hb dX2_howMany_21 (by decide) ?_
          refine lv_goto (tgt := 26) hx hb dX2_howMany_22 (by decide) ?_
          have h := Option.some.inj h
          subst h
          exact hk_q5 _ _ _ hG hS (lv_sub hl [0, 2] rfl)
  refine keyK1 _ (fun z1_2 H locs ls h hG hS hl => ?_) bigF (0 : Int32) (0 : Int32) _ _ _ h hG hS (lv_sub hl [2, 1, 0] rfl)
  clear keyK1
  refine lv_iload_n hx hb dX2_howMany_34 rfl (lv_at hl 0 rfl) ?_
  have h := Option.some.inj h
  subst h
  subst hQ
  exact g_iret hx hb hr hlocks cZm hK hZ hG hS rfl dX2_howMany_35
def X2_digested_L2 (b : Nat) (I : xMem) (x5_2 : Int32) (K5 : Int64 → Option (Int64)) : Nat → Int64 → Int32 → Option (Int64)
  | 0, _, _ => none
  | n6 + 1, x3_6, x6_6 => (rdI I (b + 1) (cLen (b + 1)) x5_2).bind fun v7 => if v7 ≤ x6_6 then (K5 x3_6) else ((rdX (cLen (b + 2)) x5_2).bind fun j9 => (rdI I ((b + 2) + 1 + j9) (cLen (b + 3)) x6_6).bind fun v10 => X2_digested_L2 b I x5_2 K5 n6 (((31 : Int64) * x3_6) + v10.toInt64) (x6_6 + (1 : Int32)))
def X2_digested_L1 (b : Nat) (I : xMem) (K1 : Int64 → Option (Int64)) : Nat → Int64 → Int32 → Option (Int64)
  | 0, _, _ => none
  | n2 + 1, x3_2, x5_2 => if (I b 0) ≤ x5_2 then (K1 x3_2) else ((rdI I (b + 1) (cLen (b + 1)) x5_2).bind fun v4 => X2_digested_L2 b I x5_2 (fun (z3_6 : Int64) => X2_digested_L1 b I K1 n2 z3_6 (x5_2 + (1 : Int32))) bigF (((31 : Int64) * x3_2) + v4.toInt64) (0 : Int32))
def X2_digested (b : Nat) (I : xMem) (x1 : Int64) : Option (Int64) := X2_digested_L1 b I (fun (z3_2 : Int64) => some z3_2) bigF x1 (0 : Int32)
abbrev rm_X2_digested : Room := { frames := 0, cells := 0, slots := 0, locals := 0 }
theorem cd_X2_digested : yX2_digested.cls = RX2 ∧ yX2_digested.cls ≠ "java/lang/invoke/MethodHandle" ∧ yX2_digested.cls ≠ "java/lang/invoke/VarHandle" ∧ (parseMethodDescriptor yX2_digested.desc).map (fun d => d.parameters.length) = some 1 := by decide +kernel
set_option maxHeartbeats 4000000 in
set_option maxRecDepth 100000 in
theorem k_X2_digested (l : Launch) (D : va_G) (cy : Nat → ClassId) (ad : Nat → Nat) (P Dr : Nat) (tI : xTab) (hX : cOk ad P Dr) {b : Nat} (hB : cShelf b) (I : xMem) (L : xLon) (x1 : Int64) (r : Int64) (h : X2_digested b I x1 = some r) : Met l yX2_digested wsX2_digested rm_X2_digested (va_Pc [.ref (ad b), .long x1] (cW D cy ad P Dr tI I L)) (cPl D cy ad P Dr tI I L r) 0 0 (gA 64 ad) := by
  refine g_met (own := RX2) (cc := cX2_digested) (maxL := 7) (ret := (some .long)) (by decide) rfl (Nat.le_of_ble_eq_true rfl) rfl ?_
  intro p e s m args below meth c ls hx hb hml hr hlocks hown hts hG hK hZ hl
  generalize hQ : MQ below _ args s 0 0 _ = Q
  have hl : lv_has ls 7 [(0, .ref (ad b)), (1, .long x1)] := hl
  have hS : va_S (gA 64 ad) s.heap s.heap [] := va_S.rf
  obtain ⟨hi, hP, hDr⟩ := id hX
  have l2 : ∀ w ∈ wsX20, w.before args s = true := fun w h => hts w (List.mem_cons_of_mem _ (List.mem_append_right _ h))
  have k1 := hts (.fieldLink RX2 7 "PairStairs$Shelf" "many" "I") (by decide +kernel)
  have k2 := hts (.constantLong RX2 38 (31)) (by decide +kernel)
  have k3 := hts (.fieldLink RX2 24 "PairStairs$Shelf" "sizes" "[I") (by decide +kernel)
  have k4 := hts (.fieldLink RX2 21 "PairStairs$Shelf" "places" "[[I") (by decide +kernel)
  unfold X2_digested at h
  refine lv_lload_n hx hb dX2_digested_0 rfl (lv_at hl 1 rfl) ?_
  refine lv_lstore_n (lv' := [(3, .long x1), (0, .ref (ad b)), (1, .long x1)]) hx hb dX2_digested_1 rfl hl (by decide) rfl (fun ls hl => ?_)
  refine lv_iconst (v := (0 : Int32)) hx hb dX2_digested_2 (by decide) ?_
  refine lv_istore (lv' := [(5, .int (0 : Int32)), (3, .long x1), (0, .ref (ad b)), (1, .long x1)]) hx hb dX2_digested_3 hl (by decide) rfl (fun ls hl => ?_)
  have keyK1 : ∀ (K1 : Int64 → Option (Int64)), (∀ (z3_2 : Int64) (H : Heap) (locs : List Loc) (ls : Array Slot), K1 z3_2 = some r → cG D cy ad P Dr I L H → va_S (gA 64 ad) s.heap H locs → lv_has ls 7 [(3, .long z3_2)] → W p l e rm_X2_digested s m args below meth c H locs 0 0 Q (F0 m 74 ls [])) → ∀ (n2 : Nat) (x3_2 : Int64) (x5_2 : Int32) (H : Heap) (locs : List Loc) (ls : Array Slot), X2_digested_L1 b I K1 n2 x3_2 x5_2 = some r → cG D cy ad P Dr I L H → va_S (gA 64 ad) s.heap H locs → lv_has ls 7 [(0, .ref (ad b)), (3, .long x3_2), (5, .int x5_2)] → W p l e rm_X2_digested s m args below meth c H locs 0 0 Q (F0 m 5 ls []) := by
    intro K1 hkK1 n2
    induction n2 with
    | zero =>
      intro x3_2 x5_2 H locs ls h
      exact ono h
    | succ n2 ihn2 =>
      intro x3_2 x5_2 H locs ls h hG hS hl
      rw [X2_digested_L1] at h
      refine lv_iload hx hb dX2_digested_5 (lv_at hl 2 rfl) ?_
      refine lv_aload_n hx hb dX2_digested_7 rfl (lv_at hl 0 rfl) ?_
      refine g_get hx hb l2 hown hK hG (k := b) hB.1.1 (cE_2 hB.1 _ _) vwCl_2 0 (by decide) k1 (fun _ h9 => h9) rfl dX2_digested_8 ?_
      refine lv_icmp_ge (tgt := 74) hx hb dX2_digested_11 (by decide) (fun c3 => ?_) (fun c3 => ?_)
      · have h := ite_t h c3
        exact hkK1 x3_2 _ _ _ h hG hS (lv_sub hl [1] rfl)
      · have h := ite_f h c3
        refine lv_ldc2 (v := (31 : Int64)) hx hb hown k2 dX2_digested_14 ?_
        refine lv_lload_n hx hb dX2_digested_17 rfl (lv_at hl 1 rfl) ?_
        refine lv_lmul hx hb dX2_digested_18 ?_
        refine lv_aload_n hx hb dX2_digested_19 rfl (lv_at hl 0 rfl) ?_
        refine g_get hx hb l2 hown hK hG (k := b) hB.1.1 (cE_2 hB.1 _ _) vwCl_2 3 (by decide) k3 (fun _ h9 => h9) rfl dX2_digested_20 ?_
        refine lv_iload hx hb dX2_digested_23 (lv_at hl 2 rfl) ?_
        refine g_ald hx hb hK hG (k := (b + 1)) (n := (cLen (b + 1))) hB.2.1.1.1 (cIA_e hB.2.1 _ _) 0 rfl h dX2_digested_25 (fun v4 h => ?_)
        refine lv_i2l hx hb dX2_digested_26 rfl ?_
        refine lv_ladd hx hb dX2_digested_27 ?_
        refine lv_lstore_n (lv' := [(3, .long (((31 : Int64) * x3_2) + v4.toInt64)), (0, .ref (ad b)), (5, .int x5_2)]) hx hb dX2_digested_28 rfl hl (by decide) rfl (fun ls hl => ?_)
        refine lv_iconst (v := (0 : Int32)) hx hb dX2_digested_29 (by decide) ?_
        refine lv_istore (lv' := [(6, .int (0 : Int32)), (3, .long (((31 : Int64) * x3_2) + v4.toInt64)), (0, .ref (ad b)), (5, .int x5_2)]) hx hb dX2_digested_30 hl (by decide) rfl (fun ls hl => ?_)
        have keyK5 : ∀ (K5 : Int64 → Option (Int64)), (∀ (z3_6 : Int64) (H : Heap) (locs : List Loc) (ls : Array Slot), K5 z3_6 = some r → cG D cy ad P Dr I L H → va_S (gA 64 ad) s.heap H locs → lv_has ls 7 [(0, .ref (ad b)), (3, .long z3_6), (5, .int x5_2)] → W p l e rm_X2_digested s m args below meth c H locs 0 0 Q (F0 m 68 ls [])) → ∀ (n6 : Nat) (x3_6 : Int64) (x6_6 : Int32) (H : Heap) (locs : List Loc) (ls : Array Slot), X2_digested_L2 b I x5_2 K5 n6 x3_6 x6_6 = some r → cG D cy ad P Dr I L H → va_S (gA 64 ad) s.heap H locs → lv_has ls 7 [(0, .ref (ad b)), (3, .long x3_6), (5, .int x5_2), (6, .int x6_6)] → W p l e rm_X2_digested s m args below meth c H locs 0 0 Q (F0 m 32 ls []) := by
          intro K5 hkK5 n6
          induction n6 with
          | zero =>
            intro x3_6 x6_6 H locs ls h
            exact ono h
          | succ n6 ihn6 =>
            intro x3_6 x6_6 H locs ls h hG hS hl
            rw [X2_digested_L2] at h
            refine lv_iload hx hb dX2_digested_32 (lv_at hl 3 rfl) ?_
            refine lv_aload_n hx hb dX2_digested_34 rfl (lv_at hl 0 rfl) ?_
            refine g_get hx hb l2 hown hK hG (k := b) hB.1.1 (cE_2 hB.1 _ _) vwCl_2 3 (by decide) k3 (fun _ h9 => h9) rfl dX2_digested_35 ?_
            refine lv_iload hx hb dX2_digested_38 (lv_at hl 2 rfl) ?_
            refine g_ald hx hb hK hG (k := (b + 1)) (n := (cLen (b + 1))) hB.2.1.1.1 (cIA_e hB.2.1 _ _) 0 rfl h dX2_digested_40 (fun v7 h => ?_)
            refine lv_icmp_ge (tgt := 68) hx hb dX2_digested_41 (by decide) (fun c8 => ?_) (fun c8 => ?_)
            · have h := ite_t h c8
              exact hkK5 x3_6 _ _ _ h hG hS (lv_sub hl [0, 1, 2] rfl)
            · have h := ite_f h c8
              refine lv_ldc2 (v := (31 : Int64)) hx hb hown k2 dX2_digested_44 ?_
              refine lv_lload_n hx hb dX2_digested_47 rfl (lv_at hl 1 rfl) ?_
              refine lv_lmul hx hb dX2_digested_48 ?_
              refine lv_aload_n hx hb dX2_digested_49 rfl (lv_at hl 0 rfl) ?_
              refine g_get hx hb l2 hown hK hG (k := b) hB.1.1 (cE_2 hB.1 _ _) vwCl_2 2 (by decide) k4 (fun _ h9 => h9) rfl dX2_digested_50 ?_
              refine lv_iload hx hb dX2_digested_53 (lv_at hl 2 rfl) ?_
              refine g_aldq hx hb hK hG (k := (b + 2)) (n := (cLen (b + 2))) (g := fun j => (b + 2) + 1 + j) hB.2.2.1.1 (cE_9 hB.2.2.1 _ _) 3 rfl rfl h dX2_digested_55 (fun j9 hj9 h => ?_)
              refine lv_iload hx hb dX2_digested_56 (lv_at hl 3 rfl) ?_
              refine g_ald hx hb hK hG (k := ((b + 2) + 1 + j9)) (n := (cLen (b + 3))) (hB.2.2.2 j9 hj9).1.1 (cIA_e (hB.2.2.2 j9 hj9) _ _) 0 rfl h dX2_digested_58 (fun v10 h => ?_)
              refine lv_i2l hx hb dX2_digested_59 rfl ?_
              refine lv_ladd hx hb dX2_digested_60 ?_
              refine lv_lstore_n (lv' := [(3, .long (((31 : Int64) * x3_6) + v10.toInt64)), (0, .ref (ad b)), (5, .int x5_2), (6, .int x6_6)]) hx hb dX2_digested_61 rfl hl (by decide) rfl (fun ls hl => ?_)
              refine lv_iinc (v := (x6_6 + (1 : Int32))) (lv' := [(6, .int (x6_6 + (1 : Int32))), (3, .long (((31 : Int64) * x3_6) + v10.toInt64)), (0, .ref (ad b)), (5, .int x5_2)]) hx hb dX2_digested_62 hl (k := 3) rfl rfl (by decide) rfl (fun ls hl => ?_)
              refine lv_goto (tgt := 32) hx hb dX2_digested_65 (by decide) ?_
              exact ihn6 (((31 : Int64) * x3_6) + v10.toInt64) (x6_6 + (1 : Int32)) _ _ _ h hG hS (lv_sub hl [2, 1, 3, 0] rfl)
        refine keyK5 _ (fun z3_6 H locs ls h hG hS hl => ?_) bigF (((31 : Int64) * x3_2) + v4.toInt64) (0 : Int32) _ _ _ h hG hS (lv_sub hl [2, 1, 3, 0] rfl)
        clear keyK5
        refine lv_iinc (v := (x5_2 + (1 : Int32))) (lv' := [(5, .int (x5_2 + (1 : Int32))), (0, .ref (ad b)), (3, .long z3_6)]) hx hb dX2_digested_68 hl (k := 2) rfl rfl (by decide) rfl (fun ls hl => ?_)
        refine lv_goto (tgt := 5) hx hb dX2_digested_71 (by decide) ?_
        exact ihn2 z3_6 (x5_2 + (1 : Int32)) _ _ _ h hG hS (lv_sub hl [1, 2, 0] rfl)
  refine keyK1 _ (fun z3_2 H locs ls h hG hS hl => ?_) bigF x1 (0 : Int32) _ _ _ h hG hS (lv_sub hl [2, 1, 0] rfl)
  clear keyK1
  refine lv_lload_n hx hb dX2_digested_74 rfl (lv_at hl 0 rfl) ?_
  have h := Option.some.inj h
  subst h
  subst hQ
  exact g_lret hx hb hr hlocks cZm hK hZ hG hS rfl dX2_digested_75
