def X4_stepsAs (P : Nat) (I : xMem) (x1 : Int32) (x2 : Int32) (x3 : Int32) : Option (Int32) := (X0_eaten 17 I).bind fun v1 => (X4_counts P I x3).bind fun v2 => (if x1 = (1 : Int32) then ((rdI I (P + 3) 6 x3).bind fun v5 => if v5 = (1 : Int32) then (some (1 : Int32)) else (some (0 : Int32))) else (some (0 : Int32))).bind fun q3 => some (X4_sunk ((X4_counted x1 x2 v1) - v2) q3)
abbrev rm_X4_stepsAs : Room := { frames := 2, cells := 0, slots := 0, locals := 43 }
theorem cd_X4_stepsAs : yX4_stepsAs.cls = RX4 ∧ yX4_stepsAs.cls ≠ "java/lang/invoke/MethodHandle" ∧ yX4_stepsAs.cls ≠ "java/lang/invoke/VarHandle" ∧ (parseMethodDescriptor yX4_stepsAs.desc).map (fun d => d.parameters.length) = some 3 := by decide +kernel
set_option maxHeartbeats 4000000 in
set_option maxRecDepth 100000 in
theorem k_X4_stepsAs (l : Launch) (D : va_G) (cy : Nat → ClassId) (ad : Nat → Nat) (P Dr : Nat) (tI : xTab) (hX : cOk ad P Dr) (I : xMem) (L : xLon) (x1 : Int32) (x2 : Int32) (x3 : Int32) (r : Int32) (h : X4_stepsAs P I x1 x2 x3 = some r) : Met l yX4_stepsAs wsX4_stepsAs rm_X4_stepsAs (va_Pc [.ref (ad 0), .int x1, .int x2, .int x3] (cW D cy ad P Dr tI I L)) (cPi D cy ad P Dr tI I L r) 0 0 (gA 64 ad) := by
  refine g_met (own := RX4) (cc := cX4_stepsAs) (maxL := 5) (ret := (some .int)) (by decide) rfl (Nat.le_of_ble_eq_true rfl) rfl ?_
  intro p e s m args below meth c ls hx hb hml hr hlocks hown hts hG hK hZ hl
  generalize hQ : MQ below _ args s 0 0 _ = Q
  have hl : lv_has ls 5 [(0, .ref (ad 0)), (1, .int x1), (2, .int x2), (3, .int x3)] := hl
  have hS : va_S (gA 64 ad) s.heap s.heap [] := va_S.rf
  obtain ⟨hi, hP, hDr⟩ := id hX
  have l1 : ∀ w ∈ wsX10, w.before args s = true := fun w h => hts w (List.mem_cons_of_mem _ (List.mem_append_left _ (List.mem_append_right _ h)))
  have l4 : ∀ w ∈ wsX40, w.before args s = true := fun w h => hts w (List.mem_cons_of_mem _ (List.mem_append_left _ (List.mem_append_left _ (List.mem_append_right _ h))))
  have k1 := hts (.fieldLink RX4 24 "PairStairs" "deeds" "LPairStairs$Deeds;") (by decide +kernel)
  have k2 := hts (.fieldLink RX4 50 "PairStairs" "plan" "LPairStairs$Plan;") (by decide +kernel)
  have k3 := hts (.fieldLink RX4 128 "PairStairs$Plan" "kind" "[I") (by decide +kernel)
  unfold X4_stepsAs at h
  refine lv_iload_n hx hb dX4_stepsAs_0 rfl (lv_at hl 1 rfl) ?_
  refine lv_iload_n hx hb dX4_stepsAs_1 rfl (lv_at hl 2 rfl) ?_
  refine lv_aload_n hx hb dX4_stepsAs_2 rfl (lv_at hl 0 rfl) ?_
  refine g_get hx hb l4 hown hK hG (k := 0) (by decide) (cE_4 _ _) vwCl_4 2 (by decide) k1 (fun _ h9 => h9) rfl dX4_stepsAs_3 ?_
  obtain ⟨v1, ev1, h⟩ := obind h
  refine g_endi (va_runV (As := []) (rest := [.int x2, .int x1]) ⟨hx, hb, hml, hown, hts⟩ (k_X0_eaten l D cy ad P Dr tI hX (b := 17) cDeeds_17 I L v1 ev1) (cwV 0 hts gX4_stepsAs_X0_eaten rfl rfl rfl cd_X0_eaten ⟨Nat.le_of_ble_eq_true rfl, Nat.le_of_ble_eq_true rfl⟩) ⟨g_blind cZm, g_recv hK hG (k := 17) cDeeds_17.1.1 (cE_0 cDeeds_17.1 _ _) vwCl_0, g_pre cZm hK hG hZ hS⟩ rfl rfl hl.1 rfl (lv_room (Nat.le_of_ble_eq_true rfl)) dX4_stepsAs_6 ⟨Nat.le_refl _, Nat.le_refl _⟩) hS (fun H locs hG hS => ?_)
  refine g_endi (va_runS (As := [.int x1, .int x2, .int v1]) (rest := []) ⟨hx, hb, hml, hown, hts⟩ (k_X4_counted l D cy ad P Dr tI hX I L x1 x2 v1 _ rfl) (va_cwS 3 hts gX4_stepsAs_X4_counted rfl rfl rfl cd_X4_counted.2 ⟨Nat.le_of_ble_eq_true rfl, Nat.le_of_ble_eq_true rfl⟩) ⟨g_blind cZm, g_pre cZm hK hG hZ hS⟩ rfl rfl hl.1 rfl (lv_room (Nat.le_of_ble_eq_true rfl)) dX4_stepsAs_9 ⟨Nat.le_refl _, Nat.le_refl _⟩) hS (fun H locs hG hS => ?_)
  refine lv_aload_n hx hb dX4_stepsAs_12 rfl (lv_at hl 0 rfl) ?_
  refine lv_iload_n hx hb dX4_stepsAs_13 rfl (lv_at hl 3 rfl) ?_
  obtain ⟨v2, ev2, h⟩ := obind h
  refine g_endi (va_runV (As := [.int x3]) (rest := [.int (X4_counted x1 x2 v1)]) ⟨hx, hb, hml, hown, hts⟩ (k_X4_counts l D cy ad P Dr tI hX I L x3 v2 ev2) (cwV 1 hts gX4_stepsAs_X4_counts rfl rfl rfl cd_X4_counts ⟨Nat.le_of_ble_eq_true rfl, Nat.le_of_ble_eq_true rfl⟩) ⟨g_blind cZm, g_recv hK hG (k := 0) (by decide) (cE_4 _ _) vwCl_4, g_pre cZm hK hG hZ hS⟩ rfl rfl hl.1 rfl (lv_room (Nat.le_of_ble_eq_true rfl)) dX4_stepsAs_14 ⟨Nat.le_refl _, Nat.le_refl _⟩) hS (fun H locs hG hS => ?_)
  refine lv_isub hx hb dX4_stepsAs_17 ?_
  refine lv_istore (lv' := [(4, .int ((X4_counted x1 x2 v1) - v2)), (0, .ref (ad 0)), (1, .int x1), (2, .int x2), (3, .int x3)]) hx hb dX4_stepsAs_18 hl (by decide) rfl (fun ls hl => ?_)
  refine lv_iload hx hb dX4_stepsAs_20 (lv_at hl 0 rfl) ?_
  refine lv_iload_n hx hb dX4_stepsAs_22 rfl (lv_at hl 2 rfl) ?_
  refine lv_iconst (v := (1 : Int32)) hx hb dX4_stepsAs_23 (by decide) ?_
  obtain ⟨q3, h9, h⟩ := obind h
  have hk_q3 : ∀ (H : Heap) (locs : List Loc) (ls : Array Slot), cG D cy ad P Dr I L H → va_S (gA 64 ad) s.heap H locs → lv_has ls 5 [] → W p l e rm_X4_stepsAs s m args below meth c H locs 0 0 Q (F0 m 45 ls [.int q3, .int ((X4_counted x1 x2 v1) - v2)]) := by
    intro H locs ls hG hS hl
    refine g_endi (va_runS (As := [.int ((X4_counted x1 x2 v1) - v2), .int q3]) (rest := []) ⟨hx, hb, hml, hown, hts⟩ (k_X4_sunk l D cy ad P Dr tI hX I L ((X4_counted x1 x2 v1) - v2) q3 _ rfl) (va_cwS 2 hts gX4_stepsAs_X4_sunk rfl rfl rfl cd_X4_sunk.2 ⟨Nat.le_of_ble_eq_true rfl, Nat.le_of_ble_eq_true rfl⟩) ⟨g_blind cZm, g_pre cZm hK hG hZ hS⟩ rfl rfl hl.1 rfl (lv_room (Nat.le_of_ble_eq_true rfl)) dX4_stepsAs_45 ⟨Nat.le_refl _, Nat.le_refl _⟩) hS (fun H locs hG hS => ?_)
    have h := Option.some.inj h
    subst h
    subst hQ
    exact g_iret hx hb hr hlocks cZm hK hZ hG hS rfl dX4_stepsAs_48
  clear h
  have h := h9
  clear h9
  refine lv_icmp_ne (tgt := 44) hx hb dX4_stepsAs_24 (by decide) (fun c4 => ?_) (fun c4 => ?_)
  · have h := ite_f h c4
    refine lv_iconst (v := (0 : Int32)) hx hb dX4_stepsAs_44 (by decide) ?_
    have h := Option.some.inj h
    subst h
    exact hk_q3 _ _ _ hG hS (lv_sub hl [] rfl)
  · have h := ite_t h c4
    refine lv_aload_n hx hb dX4_stepsAs_27 rfl (lv_at hl 1 rfl) ?_
    refine g_get hx hb l4 hown hK hG (k := 0) (by decide) (cE_4 _ _) vwCl_4 7 (by decide) k2 (fun _ h9 => h9) rfl dX4_stepsAs_28 ?_
    refine g_get hx hb l1 hown hK hG (k := P) hP.1.1 (cE_1 hP.1 _ _) vwCl_1 5 (by decide) k3 (fun _ h9 => h9) rfl dX4_stepsAs_31 ?_
    refine lv_iload_n hx hb dX4_stepsAs_34 rfl (lv_at hl 4 rfl) ?_
    refine g_ald hx hb hK hG (k := (P + 3)) (n := 6) hP.2.2.2.1.1.1 (cIA_e hP.2.2.2.1 _ _) 0 rfl h dX4_stepsAs_35 (fun v5 h => ?_)
    refine lv_iconst (v := (1 : Int32)) hx hb dX4_stepsAs_36 (by decide) ?_
    refine lv_icmp_ne (tgt := 44) hx hb dX4_stepsAs_37 (by decide) (fun c6 => ?_) (fun c6 => ?_)
    · have h := ite_f h c6
      refine lv_iconst (v := (0 : Int32)) hx hb dX4_stepsAs_44 (by decide) ?_
      have h := Option.some.inj h
      subst h
      exact hk_q3 _ _ _ hG hS (lv_sub hl [] rfl)
    · have h := ite_t h c6
      refine lv_iconst (v := (1 : Int32)) hx hb dX4_stepsAs_40 (by decide) ?_
      refine lv_goto (tgt := 45) hx hb dX4_stepsAs_41 (by decide) ?_
      have h := Option.some.inj h
      subst h
      exact hk_q3 _ _ _ hG hS (lv_sub hl [] rfl)
def X4_fits_L1 (P : Nat) (I : xMem) (x1 : Int32) (x2 : Int32) (x3 : Int32) (K1 : Option (Int32)) : Nat → Int32 → Option (Int32)
  | 0, _ => none
  | n2 + 1, x4_2 => (rdI I 2 (cLen 2) x3).bind fun v3 => if v3 ≤ (x4_2 + (1 : Int32)) then (K1) else ((rdX 6 x3).bind fun j5 => (rdI I (3 + 1 + j5) 40 x4_2).bind fun v6 => (X4_stepsAs P I x1 x2 v6).bind fun v7 => (rdX 6 x3).bind fun j8 => (rdI I (3 + 1 + j8) 40 (x4_2 + (1 : Int32))).bind fun v9 => if v7 = v9 then (X4_fits_L1 P I x1 x2 x3 K1 n2 (x4_2 + (2 : Int32))) else (some (nz (0 : Int32))))
def X4_fits (P : Nat) (I : xMem) (x1 : Int32) (x2 : Int32) (x3 : Int32) : Option (Int32) := X4_fits_L1 P I x1 x2 x3 (some (nz (1 : Int32))) bigF (0 : Int32)
abbrev rm_X4_fits : Room := { frames := 3, cells := 0, slots := 0, locals := 67 }
theorem cd_X4_fits : yX4_fits.cls = RX4 ∧ yX4_fits.cls ≠ "java/lang/invoke/MethodHandle" ∧ yX4_fits.cls ≠ "java/lang/invoke/VarHandle" ∧ (parseMethodDescriptor yX4_fits.desc).map (fun d => d.parameters.length) = some 3 := by decide +kernel
set_option maxHeartbeats 4000000 in
set_option maxRecDepth 100000 in
theorem k_X4_fits (l : Launch) (D : va_G) (cy : Nat → ClassId) (ad : Nat → Nat) (P Dr : Nat) (tI : xTab) (hX : cOk ad P Dr) (I : xMem) (L : xLon) (x1 : Int32) (x2 : Int32) (x3 : Int32) (r : Int32) (h : X4_fits P I x1 x2 x3 = some r) : Met l yX4_fits wsX4_fits rm_X4_fits (va_Pc [.ref (ad 0), .int x1, .int x2, .int x3] (cW D cy ad P Dr tI I L)) (cPi D cy ad P Dr tI I L r) 0 0 (gA 64 ad) := by
  refine g_met (own := RX4) (cc := cX4_fits) (maxL := 5) (ret := (some .boolean)) (by decide) rfl (Nat.le_of_ble_eq_true rfl) rfl ?_
  intro p e s m args below meth c ls hx hb hml hr hlocks hown hts hG hK hZ hl
  generalize hQ : MQ below _ args s 0 0 _ = Q
  have hl : lv_has ls 5 [(0, .ref (ad 0)), (1, .int x1), (2, .int x2), (3, .int x3)] := hl
  have hS : va_S (gA 64 ad) s.heap s.heap [] := va_S.rf
  obtain ⟨hi, hP, hDr⟩ := id hX
  have l2 : ∀ w ∈ wsX20, w.before args s = true := fun w h => hts w (List.mem_cons_of_mem _ (List.mem_append_left _ (List.mem_append_left _ (List.mem_append_right _ h))))
  have l4 : ∀ w ∈ wsX40, w.before args s = true := fun w h => hts w (List.mem_cons_of_mem _ (List.mem_append_left _ (List.mem_append_left _ (List.mem_append_left _ (List.mem_append_right _ h)))))
  have k1 := hts (.fieldLink RX4 12 "PairStairs" "rows" "LPairStairs$Shelf;") (by decide +kernel)
  have k2 := hts (.fieldLink RX4 80 "PairStairs$Shelf" "sizes" "[I") (by decide +kernel)
  have k3 := hts (.fieldLink RX4 68 "PairStairs$Shelf" "places" "[[I") (by decide +kernel)
  unfold X4_fits at h
  refine lv_iconst (v := (0 : Int32)) hx hb dX4_fits_0 (by decide) ?_
  refine lv_istore (lv' := [(4, .int (0 : Int32)), (0, .ref (ad 0)), (1, .int x1), (2, .int x2), (3, .int x3)]) hx hb dX4_fits_1 hl (by decide) rfl (fun ls hl => ?_)
  have keyK1 : ∀ (K1 : Option (Int32)), (∀ (H : Heap) (locs : List Loc) (ls : Array Slot), K1 = some r → cG D cy ad P Dr I L H → va_S (gA 64 ad) s.heap H locs → lv_has ls 5 [] → W p l e rm_X4_fits s m args below meth c H locs 0 0 Q (F0 m 62 ls [])) → ∀ (n2 : Nat) (x4_2 : Int32) (H : Heap) (locs : List Loc) (ls : Array Slot), X4_fits_L1 P I x1 x2 x3 K1 n2 x4_2 = some r → cG D cy ad P Dr I L H → va_S (gA 64 ad) s.heap H locs → lv_has ls 5 [(0, .ref (ad 0)), (1, .int x1), (2, .int x2), (3, .int x3), (4, .int x4_2)] → W p l e rm_X4_fits s m args below meth c H locs 0 0 Q (F0 m 3 ls []) := by
    intro K1 hkK1 n2
    induction n2 with
    | zero =>
      intro x4_2 H locs ls h
      exact ono h
    | succ n2 ihn2 =>
      intro x4_2 H locs ls h hG hS hl
      rw [X4_fits_L1] at h
      refine lv_iload hx hb dX4_fits_3 (lv_at hl 4 rfl) ?_
      refine lv_iconst (v := (1 : Int32)) hx hb dX4_fits_5 (by decide) ?_
      refine lv_iadd hx hb dX4_fits_6 ?_
      refine lv_aload_n hx hb dX4_fits_7 rfl (lv_at hl 0 rfl) ?_
      refine g_get hx hb l4 hown hK hG (k := 0) (by decide) (cE_4 _ _) vwCl_4 0 (by decide) k1 (fun _ h9 => h9) rfl dX4_fits_8 ?_
      refine g_get hx hb l2 hown hK hG (k := 1) cShelf_1.1.1 (cE_2 cShelf_1.1 _ _) vwCl_2 3 (by decide) k2 (fun _ h9 => h9) rfl dX4_fits_11 ?_
      refine lv_iload_n hx hb dX4_fits_14 rfl (lv_at hl 3 rfl) ?_
      refine g_ald hx hb hK hG (k := 2) (n := (cLen 2)) cShelf_1.2.1.1.1 (cIA_e cShelf_1.2.1 _ _) 0 rfl h dX4_fits_15 (fun v3 h => ?_)
      refine lv_icmp_ge (tgt := 62) hx hb dX4_fits_16 (by decide) (fun c4 => ?_) (fun c4 => ?_)
      · have h := ite_t h c4
        exact hkK1 _ _ _ h hG hS (lv_sub hl [] rfl)
      · have h := ite_f h c4
        refine lv_aload_n hx hb dX4_fits_19 rfl (lv_at hl 0 rfl) ?_
        refine lv_iload_n hx hb dX4_fits_20 rfl (lv_at hl 1 rfl) ?_
        refine lv_iload_n hx hb dX4_fits_21 rfl (lv_at hl 2 rfl) ?_
        refine lv_aload_n hx hb dX4_fits_22 rfl (lv_at hl 0 rfl) ?_
        refine g_get hx hb l4 hown hK hG (k := 0) (by decide) (cE_4 _ _) vwCl_4 0 (by decide) k1 (fun _ h9 => h9) rfl dX4_fits_23 ?_
        refine g_get hx hb l2 hown hK hG (k := 1) cShelf_1.1.1 (cE_2 cShelf_1.1 _ _) vwCl_2 2 (by decide) k3 (fun _ h9 => h9) rfl dX4_fits_26 ?_
        refine lv_iload_n hx hb dX4_fits_29 rfl (lv_at hl 3 rfl) ?_
        refine g_aldq hx hb hK hG (k := 3) (n := 6) (g := fun j => 3 + 1 + j) cShelf_1.2.2.1.1 (cE_9 cShelf_1.2.2.1 _ _) 3 rfl rfl h dX4_fits_30 (fun j5 hj5 h => ?_)
        refine lv_iload hx hb dX4_fits_31 (lv_at hl 4 rfl) ?_
        refine g_ald hx hb hK hG (k := (3 + 1 + j5)) (n := 40) (cShelf_1.2.2.2 j5 hj5).1.1 (cIA_e (cShelf_1.2.2.2 j5 hj5) _ _) 0 rfl h dX4_fits_33 (fun v6 h => ?_)
        obtain ⟨v7, ev7, h⟩ := obind h
        refine g_endi (va_runV (As := [.int x1, .int x2, .int v6]) (rest := []) ⟨hx, hb, hml, hown, hts⟩ (k_X4_stepsAs l D cy ad P Dr tI hX I L x1 x2 v6 v7 ev7) (cwV 3 hts gX4_fits_X4_stepsAs rfl rfl rfl cd_X4_stepsAs ⟨Nat.le_of_ble_eq_true rfl, Nat.le_of_ble_eq_true rfl⟩) ⟨g_blind cZm, g_recv hK hG (k := 0) (by decide) (cE_4 _ _) vwCl_4, g_pre cZm hK hG hZ hS⟩ rfl rfl hl.1 rfl (lv_room (Nat.le_of_ble_eq_true rfl)) dX4_fits_34 ⟨Nat.le_refl _, Nat.le_refl _⟩) hS (fun H locs hG hS => ?_)
        refine lv_aload_n hx hb dX4_fits_37 rfl (lv_at hl 0 rfl) ?_
        refine g_get hx hb l4 hown hK hG (k := 0) (by decide) (cE_4 _ _) vwCl_4 0 (by decide) k1 (fun _ h9 => h9) rfl dX4_fits_38 ?_
        refine g_get hx hb l2 hown hK hG (k := 1) cShelf_1.1.1 (cE_2 cShelf_1.1 _ _) vwCl_2 2 (by decide) k3 (fun _ h9 => h9) rfl dX4_fits_41 ?_
        refine lv_iload_n hx hb dX4_fits_44 rfl (lv_at hl 3 rfl) ?_
        refine g_aldq hx hb hK hG (k := 3) (n := 6) (g := fun j => 3 + 1 + j) cShelf_1.2.2.1.1 (cE_9 cShelf_1.2.2.1 _ _) 3 rfl rfl h dX4_fits_45 (fun j8 hj8 h => ?_)
        refine lv_iload hx hb dX4_fits_46 (lv_at hl 4 rfl) ?_
        refine lv_iconst (v := (1 : Int32)) hx hb dX4_fits_48 (by decide) ?_
        refine lv_iadd hx hb dX4_fits_49 ?_
        refine g_ald hx hb hK hG (k := (3 + 1 + j8)) (n := 40) (cShelf_1.2.2.2 j8 hj8).1.1 (cIA_e (cShelf_1.2.2.2 j8 hj8) _ _) 0 rfl h dX4_fits_50 (fun v9 h => ?_)
        refine lv_icmp_eq (tgt := 56) hx hb dX4_fits_51 (by decide) (fun c10 => ?_) (fun c10 => ?_)
        · have h := ite_t h c10
          refine lv_iinc (v := (x4_2 + (2 : Int32))) (lv' := [(4, .int (x4_2 + (2 : Int32))), (0, .ref (ad 0)), (1, .int x1), (2, .int x2), (3, .int x3)]) hx hb dX4_fits_56 hl (k := 4) rfl rfl (by decide) rfl (fun ls hl => ?_)
          refine lv_goto (tgt := 3) hx hb dX4_fits_59 (by decide) ?_
          exact ihn2 (x4_2 + (2 : Int32)) _ _ _ h hG hS (lv_sub hl [1, 2, 3, 4, 0] rfl)
        · have h := ite_f h c10
          refine lv_iconst (v := (0 : Int32)) hx hb dX4_fits_54 (by decide) ?_
          have h := Option.some.inj h
          subst h
          subst hQ
          exact g_zret hx hb hr hlocks cZm hK hZ hG hS rfl dX4_fits_55
  refine keyK1 _ (fun H locs ls h hG hS hl => ?_) bigF (0 : Int32) _ _ _ h hG hS (lv_sub hl [1, 2, 3, 4, 0] rfl)
  clear keyK1
  refine lv_iconst (v := (1 : Int32)) hx hb dX4_fits_62 (by decide) ?_
  have h := Option.some.inj h
  subst h
  subst hQ
  exact g_zret hx hb hr hlocks cZm hK hZ hG hS rfl dX4_fits_63
def X4_refusedWeighing_L1 (P : Nat) (x1 : Int32) (x2 : Int32) (q2 : Int32 × xMem) (v4 : Int32) (K8 : Option (Int32 × xMem)) : Nat → Int32 → Option (Int32 × xMem)
  | 0, _ => none
  | n9 + 1, x5_9 => if v4 ≤ (x5_9 + (1 : Int32)) then (K8) else ((rdX 6 x2).bind fun j11 => (rdI q2.2 (3 + 1 + j11) 40 x5_9).bind fun v12 => (rdX 6 x2).bind fun j13 => (rdI q2.2 (3 + 1 + j13) 40 (x5_9 + (1 : Int32))).bind fun v14 => if (X4_isNobody P q2.2 v12) = (0 : Int32) then (if v12 = x1 then ((X4_found q2.2 (3 : Int32)).bind fun q18 => some (q18.1, q18.2)) else (if v14 < (0 : Int32) then ((X4_found q2.2 (3 : Int32)).bind fun q20 => some (q20.1, q20.2)) else (if v14 ≤ (200 : Int32) then (X4_refusedWeighing_L1 P x1 x2 q2 v4 K8 n9 (x5_9 + (2 : Int32))) else ((X4_found q2.2 (3 : Int32)).bind fun q22 => some (q22.1, q22.2))))) else ((X4_found q2.2 (3 : Int32)).bind fun q16 => some (q16.1, q16.2)))
def X4_refusedWeighing (P : Nat) (I : xMem) (x1 : Int32) (x2 : Int32) : Option (Int32 × xMem) := if (X4_isNobody P I x1) = (0 : Int32) then ((X4_refusedRow I 1 x2).bind fun q2 => if q2.1 = (0 : Int32) then ((rdI q2.2 2 (cLen 2) x2).bind fun v4 => if (v4 - v4 / (2 : Int32) * (2 : Int32)) = (0 : Int32) then (if v4 ≤ (16 : Int32) then (X4_refusedWeighing_L1 P x1 x2 q2 v4 (some ((0 : Int32), q2.2)) bigF (0 : Int32)) else ((X4_found q2.2 (5 : Int32)).bind fun q23 => some (q23.1, q23.2))) else ((X4_found q2.2 (5 : Int32)).bind fun q6 => some (q6.1, q6.2))) else (some (q2.1, q2.2))) else (some ((-1 : Int32), I))
abbrev rm_X4_refusedWeighing : Room := { frames := 2, cells := 0, slots := 0, locals := 43 }
theorem cd_X4_refusedWeighing : yX4_refusedWeighing.cls = RX4 ∧ yX4_refusedWeighing.cls ≠ "java/lang/invoke/MethodHandle" ∧ yX4_refusedWeighing.cls ≠ "java/lang/invoke/VarHandle" ∧ (parseMethodDescriptor yX4_refusedWeighing.desc).map (fun d => d.parameters.length) = some 2 := by decide +kernel
set_option maxHeartbeats 4000000 in
set_option maxRecDepth 100000 in
theorem k_X4_refusedWeighing (l : Launch) (D : va_G) (cy : Nat → ClassId) (ad : Nat → Nat) (P Dr : Nat) (tI : xTab) (hX : cOk ad P Dr) (I : xMem) (L : xLon) (x1 : Int32) (x2 : Int32) (r : Int32 × xMem) (h : X4_refusedWeighing P I x1 x2 = some r) : Met l yX4_refusedWeighing wsX4_refusedWeighing rm_X4_refusedWeighing (va_Pc [.ref (ad 0), .int x1, .int x2] (cW D cy ad P Dr tI I L)) (cPi D cy ad P Dr tI r.2 L r.1) 0 0 (gA 64 ad) := by
  refine g_met (own := RX4) (cc := cX4_refusedWeighing) (maxL := 8) (ret := (some .int)) (by decide) rfl (Nat.le_of_ble_eq_true rfl) rfl ?_
  intro p e s m args below meth c ls hx hb hml hr hlocks hown hts hG hK hZ hl
  generalize hQ : MQ below _ args s 0 0 _ = Q
  have hl : lv_has ls 8 [(0, .ref (ad 0)), (1, .int x1), (2, .int x2)] := hl
  have hS : va_S (gA 64 ad) s.heap s.heap [] := va_S.rf
  obtain ⟨hi, hP, hDr⟩ := id hX
  have l2 : ∀ w ∈ wsX20, w.before args s = true := fun w h => hts w (List.mem_cons_of_mem _ (List.mem_append_left _ (List.mem_append_right _ h)))
  have l4 : ∀ w ∈ wsX40, w.before args s = true := fun w h => hts w (List.mem_cons_of_mem _ (List.mem_append_left _ (List.mem_append_left _ (List.mem_append_right _ h))))
  have k1 := hts (.fieldLink RX4 12 "PairStairs" "rows" "LPairStairs$Shelf;") (by decide +kernel)
  have k2 := hts (.fieldLink RX4 80 "PairStairs$Shelf" "sizes" "[I") (by decide +kernel)
  have k3 := hts (.fieldLink RX4 68 "PairStairs$Shelf" "places" "[[I") (by decide +kernel)
  unfold X4_refusedWeighing at h
  refine lv_aload_n hx hb dX4_refusedWeighing_0 rfl (lv_at hl 0 rfl) ?_
  refine lv_iload_n hx hb dX4_refusedWeighing_1 rfl (lv_at hl 1 rfl) ?_
  refine g_endi (va_runV (As := [.int x1]) (rest := []) ⟨hx, hb, hml, hown, hts⟩ (k_X4_isNobody l D cy ad P Dr tI hX I L x1 _ rfl) (cwV 1 hts gX4_refusedWeighing_X4_isNobody rfl rfl rfl cd_X4_isNobody ⟨Nat.le_of_ble_eq_true rfl, Nat.le_of_ble_eq_true rfl⟩) ⟨g_blind cZm, g_recv hK hG (k := 0) (by decide) (cE_4 _ _) vwCl_4, g_pre cZm hK hG hZ hS⟩ rfl rfl hl.1 rfl (lv_room (Nat.le_of_ble_eq_true rfl)) dX4_refusedWeighing_2 ⟨Nat.le_refl _, Nat.le_refl _⟩) hS (fun H locs hG hS => ?_)
  refine lv_if_eq (tgt := 10) hx hb dX4_refusedWeighing_5 (by decide) (fun c1 => ?_) (fun c1 => ?_)
  · have h := ite_t h c1
    refine lv_aload_n hx hb dX4_refusedWeighing_10 rfl (lv_at hl 0 rfl) ?_
    refine lv_aload_n hx hb dX4_refusedWeighing_11 rfl (lv_at hl 0 rfl) ?_
    refine g_get hx hb l4 hown hK hG (k := 0) (by decide) (cE_4 _ _) vwCl_4 0 (by decide) k1 (fun _ h9 => h9) rfl dX4_refusedWeighing_12 ?_
    refine lv_iload_n hx hb dX4_refusedWeighing_15 rfl (lv_at hl 2 rfl) ?_
    obtain ⟨q2, eq2, h⟩ := obind h
    refine g_endi (va_runV (As := [.ref (ad 1), .int x2]) (rest := []) ⟨hx, hb, hml, hown, hts⟩ (k_X4_refusedRow l D cy ad P Dr tI hX I L (y1 := 1) cShelf_1 x2 q2 eq2) (cwV 2 hts gX4_refusedWeighing_X4_refusedRow rfl rfl rfl cd_X4_refusedRow ⟨Nat.le_of_ble_eq_true rfl, Nat.le_of_ble_eq_true rfl⟩) ⟨g_blind cZm, g_recv hK hG (k := 0) (by decide) (cE_4 _ _) vwCl_4, g_pre cZm hK hG hZ hS⟩ rfl rfl hl.1 rfl (lv_room (Nat.le_of_ble_eq_true rfl)) dX4_refusedWeighing_16 ⟨Nat.le_refl _, Nat.le_refl _⟩) hS (fun H locs hG hS => ?_)
    refine lv_istore_n (lv' := [(3, .int q2.1), (0, .ref (ad 0)), (1, .int x1), (2, .int x2)]) hx hb dX4_refusedWeighing_19 rfl hl (by decide) rfl (fun ls hl => ?_)
    refine lv_iload_n hx hb dX4_refusedWeighing_20 rfl (lv_at hl 0 rfl) ?_
    refine lv_if_eq (tgt := 26) hx hb dX4_refusedWeighing_21 (by decide) (fun c3 => ?_) (fun c3 => ?_)
    · have h := ite_t h c3
      refine lv_aload_n hx hb dX4_refusedWeighing_26 rfl (lv_at hl 1 rfl) ?_
      refine g_get hx hb l4 hown hK hG (k := 0) (by decide) (cE_4 _ _) vwCl_4 0 (by decide) k1 (fun _ h9 => h9) rfl dX4_refusedWeighing_27 ?_
      refine g_get hx hb l2 hown hK hG (k := 1) cShelf_1.1.1 (cE_2 cShelf_1.1 _ _) vwCl_2 3 (by decide) k2 (fun _ h9 => h9) rfl dX4_refusedWeighing_30 ?_
      refine lv_iload_n hx hb dX4_refusedWeighing_33 rfl (lv_at hl 3 rfl) ?_
      refine g_ald hx hb hK hG (k := 2) (n := (cLen 2)) cShelf_1.2.1.1.1 (cIA_e cShelf_1.2.1 _ _) 0 rfl h dX4_refusedWeighing_34 (fun v4 h => ?_)
      refine lv_istore (lv' := [(4, .int v4), (3, .int q2.1), (0, .ref (ad 0)), (1, .int x1), (2, .int x2)]) hx hb dX4_refusedWeighing_35 hl (by decide) rfl (fun ls hl => ?_)
      refine lv_iload hx hb dX4_refusedWeighing_37 (lv_at hl 0 rfl) ?_
      refine lv_iconst (v := (2 : Int32)) hx hb dX4_refusedWeighing_39 (by decide) ?_
      refine lv_irem hx hb dX4_refusedWeighing_40 (by decide) ?_
      refine lv_if_ne (tgt := 51) hx hb dX4_refusedWeighing_41 (by decide) (fun c5 => ?_) (fun c5 => ?_)
      · have h := ite_f h c5
        refine lv_aload_n hx hb dX4_refusedWeighing_51 rfl (lv_at hl 2 rfl) ?_
        refine lv_iconst (v := (5 : Int32)) hx hb dX4_refusedWeighing_52 (by decide) ?_
        obtain ⟨q6, eq6, h⟩ := obind h
        refine g_endi (va_runV (As := [.int (5 : Int32)]) (rest := []) ⟨hx, hb, hml, hown, hts⟩ (k_X4_found l D cy ad P Dr tI hX q2.2 L (5 : Int32) q6 eq6) (cwV 1 hts gX4_refusedWeighing_X4_found rfl rfl rfl cd_X4_found ⟨Nat.le_of_ble_eq_true rfl, Nat.le_of_ble_eq_true rfl⟩) ⟨g_blind cZm, g_recv hK hG (k := 0) (by decide) (cE_4 _ _) vwCl_4, g_pre cZm hK hG hZ hS⟩ rfl rfl hl.1 rfl (lv_room (Nat.le_of_ble_eq_true rfl)) dX4_refusedWeighing_53 ⟨Nat.le_refl _, Nat.le_refl _⟩) hS (fun H locs hG hS => ?_)
        have h := Option.some.inj h
        subst h
        subst hQ
        exact g_iret hx hb hr hlocks cZm hK hZ hG hS rfl dX4_refusedWeighing_56
      · have h := ite_t h c5
        refine lv_iload hx hb dX4_refusedWeighing_44 (lv_at hl 0 rfl) ?_
        refine lv_bipush (v := (16 : Int32)) hx hb dX4_refusedWeighing_46 (by decide) ?_
        refine lv_icmp_le (tgt := 57) hx hb dX4_refusedWeighing_48 (by decide) (fun c7 => ?_) (fun c7 => ?_)
        · have h := ite_t h c7
          refine lv_iconst (v := (0 : Int32)) hx hb dX4_refusedWeighing_57 (by decide) ?_
          refine lv_istore (lv' := [(5, .int (0 : Int32)), (4, .int v4), (3, .int q2.1), (0, .ref (ad 0)), (1, .int x1), (2, .int x2)]) hx hb dX4_refusedWeighing_58 hl (by decide) rfl (fun ls hl => ?_)
          have keyK8 : ∀ (K8 : Option (Int32 × xMem)), (∀ (H : Heap) (locs : List Loc) (ls : Array Slot), K8 = some r → cG D cy ad P Dr q2.2 L H → va_S (gA 64 ad) s.heap H locs → lv_has ls 8 [] → W p l e rm_X4_refusedWeighing s m args below meth c H locs 0 0 Q (F0 m 139 ls [])) → ∀ (n9 : Nat) (x5_9 : Int32) (H : Heap) (locs : List Loc) (ls : Array Slot), X4_refusedWeighing_L1 P x1 x2 q2 v4 K8 n9 x5_9 = some r → cG D cy ad P Dr q2.2 L H → va_S (gA 64 ad) s.heap H locs → lv_has ls 8 [(0, .ref (ad 0)), (1, .int x1), (2, .int x2), (4, .int v4), (5, .int x5_9)] → W p l e rm_X4_refusedWeighing s m args below meth c H locs 0 0 Q (F0 m 60 ls []) := by
            intro K8 hkK8 n9
            induction n9 with
            | zero =>
              intro x5_9 H locs ls h
              exact ono h
            | succ n9 ihn9 =>
              intro x5_9 H locs ls h hG hS hl
              rw [X4_refusedWeighing_L1] at h
              refine lv_iload hx hb dX4_refusedWeighing_60 (lv_at hl 4 rfl) ?_
              refine lv_iconst (v := (1 : Int32)) hx hb dX4_refusedWeighing_62 (by decide) ?_
              refine lv_iadd hx hb dX4_refusedWeighing_63 ?_
              refine lv_iload hx hb dX4_refusedWeighing_64 (lv_at hl 3 rfl) ?_
              refine lv_icmp_ge (tgt := 139) hx hb dX4_refusedWeighing_66 (by decide) (fun c10 => ?_) (fun c10 => ?_)
              · have h := ite_t h c10
                exact hkK8 _ _ _ h hG hS (lv_sub hl [] rfl)
              · have h := ite_f h c10
                refine lv_aload_n hx hb dX4_refusedWeighing_69 rfl (lv_at hl 0 rfl) ?_
                refine g_get hx hb l4 hown hK hG (k := 0) (by decide) (cE_4 _ _) vwCl_4 0 (by decide) k1 (fun _ h9 => h9) rfl dX4_refusedWeighing_70 ?_
                refine g_get hx hb l2 hown hK hG (k := 1) cShelf_1.1.1 (cE_2 cShelf_1.1 _ _) vwCl_2 2 (by decide) k3 (fun _ h9 => h9) rfl dX4_refusedWeighing_73 ?_
                refine lv_iload_n hx hb dX4_refusedWeighing_76 rfl (lv_at hl 2 rfl) ?_
                refine g_aldq hx hb hK hG (k := 3) (n := 6) (g := fun j => 3 + 1 + j) cShelf_1.2.2.1.1 (cE_9 cShelf_1.2.2.1 _ _) 3 rfl rfl h dX4_refusedWeighing_77 (fun j11 hj11 h => ?_)
                refine lv_iload hx hb dX4_refusedWeighing_78 (lv_at hl 4 rfl) ?_
                refine g_ald hx hb hK hG (k := (3 + 1 + j11)) (n := 40) (cShelf_1.2.2.2 j11 hj11).1.1 (cIA_e (cShelf_1.2.2.2 j11 hj11) _ _) 0 rfl h dX4_refusedWeighing_80 (fun v12 h => ?_)
                refine lv_istore (lv' := [(6, .int v12), (0, .ref (ad 0)), (1, .int x1), (2, .int x2), (4, .int v4), (5, .int x5_9)]) hx hb dX4_refusedWeighing_81 hl (by decide) rfl (fun ls hl => ?_)
                refine lv_aload_n hx hb dX4_refusedWeighing_83 rfl (lv_at hl 1 rfl) ?_
                refine g_get hx hb l4 hown hK hG (k := 0) (by decide) (cE_4 _ _) vwCl_4 0 (by decide) k1 (fun _ h9 => h9) rfl dX4_refusedWeighing_84 ?_
                refine g_get hx hb l2 hown hK hG (k := 1) cShelf_1.1.1 (cE_2 cShelf_1.1 _ _) vwCl_2 2 (by decide) k3 (fun _ h9 => h9) rfl dX4_refusedWeighing_87 ?_
                refine lv_iload_n hx hb dX4_refusedWeighing_90 rfl (lv_at hl 3 rfl) ?_
                refine g_aldq hx hb hK hG (k := 3) (n := 6) (g := fun j => 3 + 1 + j) cShelf_1.2.2.1.1 (cE_9 cShelf_1.2.2.1 _ _) 3 rfl rfl h dX4_refusedWeighing_91 (fun j13 hj13 h => ?_)
                refine lv_iload hx hb dX4_refusedWeighing_92 (lv_at hl 5 rfl) ?_
                refine lv_iconst (v := (1 : Int32)) hx hb dX4_refusedWeighing_94 (by decide) ?_
                refine lv_iadd hx hb dX4_refusedWeighing_95 ?_
                refine g_ald hx hb hK hG (k := (3 + 1 + j13)) (n := 40) (cShelf_1.2.2.2 j13 hj13).1.1 (cIA_e (cShelf_1.2.2.2 j13 hj13) _ _) 0 rfl h dX4_refusedWeighing_96 (fun v14 h => ?_)
                refine lv_istore (lv' := [(7, .int v14), (6, .int v12), (0, .ref (ad 0)), (1, .int x1), (2, .int x2), (4, .int v4), (5, .int x5_9)]) hx hb dX4_refusedWeighing_97 hl (by decide) rfl (fun ls hl => ?_)
                refine lv_aload_n hx hb dX4_refusedWeighing_99 rfl (lv_at hl 2 rfl) ?_
                refine lv_iload hx hb dX4_refusedWeighing_100 (lv_at hl 1 rfl) ?_
                refine g_endi (va_runV (As := [.int v12]) (rest := []) ⟨hx, hb, hml, hown, hts⟩ (k_X4_isNobody l D cy ad P Dr tI hX q2.2 L v12 _ rfl) (cwV 1 hts gX4_refusedWeighing_X4_isNobody rfl rfl rfl cd_X4_isNobody ⟨Nat.le_of_ble_eq_true rfl, Nat.le_of_ble_eq_true rfl⟩) ⟨g_blind cZm, g_recv hK hG (k := 0) (by decide) (cE_4 _ _) vwCl_4, g_pre cZm hK hG hZ hS⟩ rfl rfl hl.1 rfl (lv_room (Nat.le_of_ble_eq_true rfl)) dX4_refusedWeighing_102 ⟨Nat.le_refl _, Nat.le_refl _⟩) hS (fun H locs hG hS => ?_)
                refine lv_if_ne (tgt := 127) hx hb dX4_refusedWeighing_105 (by decide) (fun c15 => ?_) (fun c15 => ?_)
                · have h := ite_f h c15
                  refine lv_aload_n hx hb dX4_refusedWeighing_127 rfl (lv_at hl 2 rfl) ?_
                  refine lv_iconst (v := (3 : Int32)) hx hb dX4_refusedWeighing_128 (by decide) ?_
                  obtain ⟨q16, eq16, h⟩ := obind h
                  refine g_endi (va_runV (As := [.int (3 : Int32)]) (rest := []) ⟨hx, hb, hml, hown, hts⟩ (k_X4_found l D cy ad P Dr tI hX q2.2 L (3 : Int32) q16 eq16) (cwV 1 hts gX4_refusedWeighing_X4_found rfl rfl rfl cd_X4_found ⟨Nat.le_of_ble_eq_true rfl, Nat.le_of_ble_eq_true rfl⟩) ⟨g_blind cZm, g_recv hK hG (k := 0) (by decide) (cE_4 _ _) vwCl_4, g_pre cZm hK hG hZ hS⟩ rfl rfl hl.1 rfl (lv_room (Nat.le_of_ble_eq_true rfl)) dX4_refusedWeighing_129 ⟨Nat.le_refl _, Nat.le_refl _⟩) hS (fun H locs hG hS => ?_)
                  have h := Option.some.inj h
                  subst h
                  subst hQ
                  exact g_iret hx hb hr hlocks cZm hK hZ hG hS rfl dX4_refusedWeighing_132
                · have h := ite_t h c15
                  refine lv_iload hx hb dX4_refusedWeighing_108 (lv_at hl 1 rfl) ?_
                  refine lv_iload_n hx hb dX4_refusedWeighing_110 rfl (lv_at hl 3 rfl) ?_
                  refine lv_icmp_eq (tgt := 127) hx hb dX4_refusedWeighing_111 (by decide) (fun c17 => ?_) (fun c17 => ?_)
                  · have h := ite_t h c17
                    refine lv_aload_n hx hb dX4_refusedWeighing_127 rfl (lv_at hl 2 rfl) ?_
                    refine lv_iconst (v := (3 : Int32)) hx hb dX4_refusedWeighing_128 (by decide) ?_
                    obtain ⟨q18, eq18, h⟩ := obind h
                    refine g_endi (va_runV (As := [.int (3 : Int32)]) (rest := []) ⟨hx, hb, hml, hown, hts⟩ (k_X4_found l D cy ad P Dr tI hX q2.2 L (3 : Int32) q18 eq18) (cwV 1 hts gX4_refusedWeighing_X4_found rfl rfl rfl cd_X4_found ⟨Nat.le_of_ble_eq_true rfl, Nat.le_of_ble_eq_true rfl⟩) ⟨g_blind cZm, g_recv hK hG (k := 0) (by decide) (cE_4 _ _) vwCl_4, g_pre cZm hK hG hZ hS⟩ rfl rfl hl.1 rfl (lv_room (Nat.le_of_ble_eq_true rfl)) dX4_refusedWeighing_129 ⟨Nat.le_refl _, Nat.le_refl _⟩) hS (fun H locs hG hS => ?_)
                    have h := Option.some.inj h
                    subst h
                    subst hQ
                    exact g_iret hx hb hr hlocks cZm hK hZ hG hS rfl dX4_refusedWeighing_132
                  · have h := ite_f h c17
                    refine lv_iload hx hb dX4_refusedWeighing_114 (lv_at hl 0 rfl) ?_
                    refine lv_if_lt (tgt := 127) hx hb dX4_refusedWeighing_116 (by decide) (fun c19 => ?_) (fun c19 => ?_)
                    · have h := ite_t h c19
                      refine lv_aload_n hx hb dX4_refusedWeighing_127 rfl (lv_at hl 2 rfl) ?_
                      refine lv_iconst (v := (3 : Int32)) hx hb dX4_refusedWeighing_128 (by decide) ?_
                      obtain ⟨q20, eq20, h⟩ := obind h
                      refine g_endi (va_runV (As := [.int (3 : Int32)]) (rest := []) ⟨hx, hb, hml, hown, hts⟩ (k_X4_found l D cy ad P Dr tI hX q2.2 L (3 : Int32) q20 eq20) (cwV 1 hts gX4_refusedWeighing_X4_found rfl rfl rfl cd_X4_found ⟨Nat.le_of_ble_eq_true rfl, Nat.le_of_ble_eq_true rfl⟩) ⟨g_blind cZm, g_recv hK hG (k := 0) (by decide) (cE_4 _ _) vwCl_4, g_pre cZm hK hG hZ hS⟩ rfl rfl hl.1 rfl (lv_room (Nat.le_of_ble_eq_true rfl)) dX4_refusedWeighing_129 ⟨Nat.le_refl _, Nat.le_refl _⟩) hS (fun H locs hG hS => ?_)
                      have h := Option.some.inj h
                      subst h
                      subst hQ
                      exact g_iret hx hb hr hlocks cZm hK hZ hG hS rfl dX4_refusedWeighing_132
                    · have h := ite_f h c19
                      refine lv_iload hx hb dX4_refusedWeighing_119 (lv_at hl 0 rfl) ?_
                      refine lv_sipush (v := (200 : Int32)) hx hb dX4_refusedWeighing_121 (by decide) ?_
                      refine lv_icmp_le (tgt := 133) hx hb dX4_refusedWeighing_124 (by decide) (fun c21 => ?_) (fun c21 => ?_)
                      · have h := ite_t h c21
                        refine lv_iinc (v := (x5_9 + (2 : Int32))) (lv' := [(5, .int (x5_9 + (2 : Int32))), (7, .int v14), (6, .int v12), (0, .ref (ad 0)), (1, .int x1), (2, .int x2), (4, .int v4)]) hx hb dX4_refusedWeighing_133 hl (k := 6) rfl rfl (by decide) rfl (fun ls hl => ?_)
                        refine lv_goto (tgt := 60) hx hb dX4_refusedWeighing_136 (by decide) ?_
                        exact ihn9 (x5_9 + (2 : Int32)) _ _ _ h hG hS (lv_sub hl [3, 4, 5, 6, 0] rfl)
                      · have h := ite_f h c21
                        refine lv_aload_n hx hb dX4_refusedWeighing_127 rfl (lv_at hl 2 rfl) ?_
                        refine lv_iconst (v := (3 : Int32)) hx hb dX4_refusedWeighing_128 (by decide) ?_
                        obtain ⟨q22, eq22, h⟩ := obind h
                        refine g_endi (va_runV (As := [.int (3 : Int32)]) (rest := []) ⟨hx, hb, hml, hown, hts⟩ (k_X4_found l D cy ad P Dr tI hX q2.2 L (3 : Int32) q22 eq22) (cwV 1 hts gX4_refusedWeighing_X4_found rfl rfl rfl cd_X4_found ⟨Nat.le_of_ble_eq_true rfl, Nat.le_of_ble_eq_true rfl⟩) ⟨g_blind cZm, g_recv hK hG (k := 0) (by decide) (cE_4 _ _) vwCl_4, g_pre cZm hK hG hZ hS⟩ rfl rfl hl.1 rfl (lv_room (Nat.le_of_ble_eq_true rfl)) dX4_refusedWeighing_129 ⟨Nat.le_refl _, Nat.le_refl _⟩) hS (fun H locs hG hS => ?_)
                        have h := Option.some.inj h
                        subst h
                        subst hQ
                        exact g_iret hx hb hr hlocks cZm hK hZ hG hS rfl dX4_refusedWeighing_132
          refine keyK8 _ (fun H locs ls h hG hS hl => ?_) bigF (0 : Int32) _ _ _ h hG hS (lv_sub hl [3, 4, 5, 1, 0] rfl)
          clear keyK8
          refine lv_iconst (v := (0 : Int32)) hx hb dX4_refusedWeighing_139 (by decide) ?_
          have h := Option.some.inj h
          subst h
          subst hQ
          exact g_iret hx hb hr hlocks cZm hK hZ hG hS rfl dX4_refusedWeighing_140
        · have h := ite_f h c7
          refine lv_aload_n hx hb dX4_refusedWeighing_51 rfl (lv_at hl 2 rfl) ?_
          refine lv_iconst (v := (5 : Int32)) hx hb dX4_refusedWeighing_52 (by decide) ?_
          obtain ⟨q23, eq23, h⟩ := obind h
          refine g_endi (va_runV (As := [.int (5 : Int32)]) (rest := []) ⟨hx, hb, hml, hown, hts⟩ (k_X4_found l D cy ad P Dr tI hX q2.2 L (5 : Int32) q23 eq23) (cwV 1 hts gX4_refusedWeighing_X4_found rfl rfl rfl cd_X4_found ⟨Nat.le_of_ble_eq_true rfl, Nat.le_of_ble_eq_true rfl⟩) ⟨g_blind cZm, g_recv hK hG (k := 0) (by decide) (cE_4 _ _) vwCl_4, g_pre cZm hK hG hZ hS⟩ rfl rfl hl.1 rfl (lv_room (Nat.le_of_ble_eq_true rfl)) dX4_refusedWeighing_53 ⟨Nat.le_refl _, Nat.le_refl _⟩) hS (fun H locs hG hS => ?_)
          have h := Option.some.inj h
          subst h
          subst hQ
          exact g_iret hx hb hr hlocks cZm hK hZ hG hS rfl dX4_refusedWeighing_56
    · have h := ite_f h c3
      refine lv_iload_n hx hb dX4_refusedWeighing_24 rfl (lv_at hl 0 rfl) ?_
      have h := Option.some.inj h
      subst h
      subst hQ
      exact g_iret hx hb hr hlocks cZm hK hZ hG hS rfl dX4_refusedWeighing_25
  · have h := ite_f h c1
    refine lv_iconst (v := (-1 : Int32)) hx hb dX4_refusedWeighing_8 (by decide) ?_
    have h := Option.some.inj h
    subst h
    subst hQ
    exact g_iret hx hb hr hlocks cZm hK hZ hG hS rfl dX4_refusedWeighing_9
def X4_pounds_L1 (P : Nat) (x1 : Int32) (x2 : Int32) (K4 : Int32 → xMem → Option (Int32 × xMem)) : Nat → Int32 → Int32 → xMem → Option (Int32 × xMem)
  | 0, _, _, _ => none
  | n5 + 1, x4_5, x5_5, I6 => if x5_5 < (1 : Int32) then (K4 x4_5 I6) else ((rdI I6 (P + 3) 6 x1).bind fun v9 => (X4_fits P I6 v9 x5_5 x2).bind fun v10 => if v10 = (0 : Int32) then (X4_pounds_L1 P x1 x2 K4 n5 x4_5 (x5_5 + (-1 : Int32)) I6) else ((some (wr I6 0 10 x5_5)).bind fun I12 => X4_pounds_L1 P x1 x2 K4 n5 (x4_5 + (1 : Int32)) (x5_5 + (-1 : Int32)) I12))
def X4_pounds (P : Nat) (I : xMem) (x1 : Int32) (x2 : Int32) : Option (Int32 × xMem) := (X4_refusedWeighing P I x1 x2).bind fun q1 => if q1.1 = (0 : Int32) then ((some (wr q1.2 0 10 (-9 : Int32))).bind fun I3 => X4_pounds_L1 P x1 x2 (fun (z4_6 : Int32) (I7 : xMem) => some (z4_6, I7)) bigF (0 : Int32) (99 : Int32) I3) else (some (q1.1, q1.2))
abbrev rm_X4_pounds : Room := { frames := 4, cells := 0, slots := 0, locals := 91 }
theorem cd_X4_pounds : yX4_pounds.cls = RX4 ∧ yX4_pounds.cls ≠ "java/lang/invoke/MethodHandle" ∧ yX4_pounds.cls ≠ "java/lang/invoke/VarHandle" ∧ (parseMethodDescriptor yX4_pounds.desc).map (fun d => d.parameters.length) = some 2 := by decide +kernel
set_option maxHeartbeats 4000000 in
set_option maxRecDepth 100000 in
theorem k_X4_pounds (l : Launch) (D : va_G) (cy : Nat → ClassId) (ad : Nat → Nat) (P Dr : Nat) (tI : xTab) (hX : cOk ad P Dr) (I : xMem) (L : xLon) (x1 : Int32) (x2 : Int32) (r : Int32 × xMem) (h : X4_pounds P I x1 x2 = some r) : Met l yX4_pounds wsX4_pounds rm_X4_pounds (va_Pc [.ref (ad 0), .int x1, .int x2] (cW D cy ad P Dr tI I L)) (cPi D cy ad P Dr tI r.2 L r.1) 0 0 (gA 64 ad) := by
  refine g_met (own := RX4) (cc := cX4_pounds) (maxL := 6) (ret := (some .int)) (by decide) rfl (Nat.le_of_ble_eq_true rfl) rfl ?_
  intro p e s m args below meth c ls hx hb hml hr hlocks hown hts hG hK hZ hl
  generalize hQ : MQ below _ args s 0 0 _ = Q
  have hl : lv_has ls 6 [(0, .ref (ad 0)), (1, .int x1), (2, .int x2)] := hl
  have hS : va_S (gA 64 ad) s.heap s.heap [] := va_S.rf
  obtain ⟨hi, hP, hDr⟩ := id hX
  have l1 : ∀ w ∈ wsX10, w.before args s = true := fun w h => hts w (List.mem_cons_of_mem _ (List.mem_append_left _ (List.mem_append_left _ (List.mem_append_right _ h))))
  have l4 : ∀ w ∈ wsX40, w.before args s = true := fun w h => hts w (List.mem_cons_of_mem _ (List.mem_append_left _ (List.mem_append_left _ (List.mem_append_left _ (List.mem_append_right _ h)))))
  have k1 := hts (.fieldLink RX4 72 "PairStairs" "told" "I") (by decide +kernel)
  have k2 := hts (.fieldLink RX4 50 "PairStairs" "plan" "LPairStairs$Plan;") (by decide +kernel)
  have k3 := hts (.fieldLink RX4 128 "PairStairs$Plan" "kind" "[I") (by decide +kernel)
  unfold X4_pounds at h
  refine lv_aload_n hx hb dX4_pounds_0 rfl (lv_at hl 0 rfl) ?_
  refine lv_iload_n hx hb dX4_pounds_1 rfl (lv_at hl 1 rfl) ?_
  refine lv_iload_n hx hb dX4_pounds_2 rfl (lv_at hl 2 rfl) ?_
  obtain ⟨q1, eq1, h⟩ := obind h
  refine g_endi (va_runV (As := [.int x1, .int x2]) (rest := []) ⟨hx, hb, hml, hown, hts⟩ (k_X4_refusedWeighing l D cy ad P Dr tI hX I L x1 x2 q1 eq1) (cwV 2 hts gX4_pounds_X4_refusedWeighing rfl rfl rfl cd_X4_refusedWeighing ⟨Nat.le_of_ble_eq_true rfl, Nat.le_of_ble_eq_true rfl⟩) ⟨g_blind cZm, g_recv hK hG (k := 0) (by decide) (cE_4 _ _) vwCl_4, g_pre cZm hK hG hZ hS⟩ rfl rfl hl.1 rfl (lv_room (Nat.le_of_ble_eq_true rfl)) dX4_pounds_3 ⟨Nat.le_refl _, Nat.le_refl _⟩) hS (fun H locs hG hS => ?_)
  refine lv_istore_n (lv' := [(3, .int q1.1), (0, .ref (ad 0)), (1, .int x1), (2, .int x2)]) hx hb dX4_pounds_6 rfl hl (by decide) rfl (fun ls hl => ?_)
  refine lv_iload_n hx hb dX4_pounds_7 rfl (lv_at hl 0 rfl) ?_
  refine lv_if_eq (tgt := 13) hx hb dX4_pounds_8 (by decide) (fun c2 => ?_) (fun c2 => ?_)
  · have h := ite_t h c2
    refine lv_iconst (v := (0 : Int32)) hx hb dX4_pounds_13 (by decide) ?_
    refine lv_istore (lv' := [(4, .int (0 : Int32)), (3, .int q1.1), (0, .ref (ad 0)), (1, .int x1), (2, .int x2)]) hx hb dX4_pounds_14 hl (by decide) rfl (fun ls hl => ?_)
    refine lv_aload_n hx hb dX4_pounds_16 rfl (lv_at hl 2 rfl) ?_
    refine lv_bipush (v := (-9 : Int32)) hx hb dX4_pounds_17 (by decide) ?_
    obtain ⟨I3, eI3, h⟩ := obind h
    refine g_put hx hb l4 tyX4_ok nmX4 hown hK hG hi hS (k := 0) (by decide) (cE_4 _ _) vwCl_4 10 (by decide) k1 (fun _ h9 => h9) rfl rfl (Nat.le_of_ble_eq_true rfl) (by rw [cE_4 _ _]; rfl) dX4_pounds_19 (fun H locs hG hS => ?_)
    rw [Option.some.inj eI3] at hG
    refine lv_bipush (v := (99 : Int32)) hx hb dX4_pounds_22 (by decide) ?_
    refine lv_istore (lv' := [(5, .int (99 : Int32)), (4, .int (0 : Int32)), (3, .int q1.1), (0, .ref (ad 0)), (1, .int x1), (2, .int x2)]) hx hb dX4_pounds_24 hl (by decide) rfl (fun ls hl => ?_)
    have keyK4 : ∀ (K4 : Int32 → xMem → Option (Int32 × xMem)), (∀ (z4_6 : Int32) (I7 : xMem) (H : Heap) (locs : List Loc) (ls : Array Slot), K4 z4_6 I7 = some r → cG D cy ad P Dr I7 L H → va_S (gA 64 ad) s.heap H locs → lv_has ls 6 [(4, .int z4_6)] → W p l e rm_X4_pounds s m args below meth c H locs 0 0 Q (F0 m 66 ls [])) → ∀ (n5 : Nat) (x4_5 : Int32) (x5_5 : Int32) (I6 : xMem) (H : Heap) (locs : List Loc) (ls : Array Slot), X4_pounds_L1 P x1 x2 K4 n5 x4_5 x5_5 I6 = some r → cG D cy ad P Dr I6 L H → va_S (gA 64 ad) s.heap H locs → lv_has ls 6 [(0, .ref (ad 0)), (1, .int x1), (2, .int x2), (4, .int x4_5), (5, .int x5_5)] → W p l e rm_X4_pounds s m args below meth c H locs 0 0 Q (F0 m 26 ls []) := by
      intro K4 hkK4 n5
      induction n5 with
      | zero =>
        intro x4_5 x5_5 I6 H locs ls h
        exact ono h
      | succ n5 ihn5 =>
        intro x4_5 x5_5 I6 H locs ls h hG hS hl
        rw [X4_pounds_L1] at h
        refine lv_iload hx hb dX4_pounds_26 (lv_at hl 4 rfl) ?_
        refine lv_iconst (v := (1 : Int32)) hx hb dX4_pounds_28 (by decide) ?_
        refine lv_icmp_lt (tgt := 66) hx hb dX4_pounds_29 (by decide) (fun c8 => ?_) (fun c8 => ?_)
        · have h := ite_t h c8
          exact hkK4 x4_5 I6 _ _ _ h hG hS (lv_sub hl [3] rfl)
        · have h := ite_f h c8
          refine lv_aload_n hx hb dX4_pounds_32 rfl (lv_at hl 0 rfl) ?_
          refine lv_aload_n hx hb dX4_pounds_33 rfl (lv_at hl 0 rfl) ?_
          refine g_get hx hb l4 hown hK hG (k := 0) (by decide) (cE_4 _ _) vwCl_4 7 (by decide) k2 (fun _ h9 => h9) rfl dX4_pounds_34 ?_
          refine g_get hx hb l1 hown hK hG (k := P) hP.1.1 (cE_1 hP.1 _ _) vwCl_1 5 (by decide) k3 (fun _ h9 => h9) rfl dX4_pounds_37 ?_
          refine lv_iload_n hx hb dX4_pounds_40 rfl (lv_at hl 1 rfl) ?_
          refine g_ald hx hb hK hG (k := (P + 3)) (n := 6) hP.2.2.2.1.1.1 (cIA_e hP.2.2.2.1 _ _) 0 rfl h dX4_pounds_41 (fun v9 h => ?_)
          refine lv_iload hx hb dX4_pounds_42 (lv_at hl 4 rfl) ?_
          refine lv_iload_n hx hb dX4_pounds_44 rfl (lv_at hl 2 rfl) ?_
          obtain ⟨v10, ev10, h⟩ := obind h
          refine g_endi (va_runV (As := [.int v9, .int x5_5, .int x2]) (rest := []) ⟨hx, hb, hml, hown, hts⟩ (k_X4_fits l D cy ad P Dr tI hX I6 L v9 x5_5 x2 v10 ev10) (cwV 3 hts gX4_pounds_X4_fits rfl rfl rfl cd_X4_fits ⟨Nat.le_of_ble_eq_true rfl, Nat.le_of_ble_eq_true rfl⟩) ⟨g_blind cZm, g_recv hK hG (k := 0) (by decide) (cE_4 _ _) vwCl_4, g_pre cZm hK hG hZ hS⟩ rfl rfl hl.1 rfl (lv_room (Nat.le_of_ble_eq_true rfl)) dX4_pounds_45 ⟨Nat.le_refl _, Nat.le_refl _⟩) hS (fun H locs hG hS => ?_)
          refine lv_if_eq (tgt := 60) hx hb dX4_pounds_48 (by decide) (fun c11 => ?_) (fun c11 => ?_)
          · have h := ite_t h c11
            refine lv_iinc (v := (x5_5 + (-1 : Int32))) (lv' := [(5, .int (x5_5 + (-1 : Int32))), (0, .ref (ad 0)), (1, .int x1), (2, .int x2), (4, .int x4_5)]) hx hb dX4_pounds_60 hl (k := 4) rfl rfl (by decide) rfl (fun ls hl => ?_)
            refine lv_goto (tgt := 26) hx hb dX4_pounds_63 (by decide) ?_
            exact ihn5 x4_5 (x5_5 + (-1 : Int32)) I6 _ _ _ h hG hS (lv_sub hl [1, 2, 3, 4, 0] rfl)
          · have h := ite_f h c11
            refine lv_iinc (v := (x4_5 + (1 : Int32))) (lv' := [(4, .int (x4_5 + (1 : Int32))), (0, .ref (ad 0)), (1, .int x1), (2, .int x2), (5, .int x5_5)]) hx hb dX4_pounds_51 hl (k := 3) rfl rfl (by decide) rfl (fun ls hl => ?_)
            refine lv_aload_n hx hb dX4_pounds_54 rfl (lv_at hl 1 rfl) ?_
            refine lv_iload hx hb dX4_pounds_55 (lv_at hl 4 rfl) ?_
            obtain ⟨I12, eI12, h⟩ := obind h
            refine g_put hx hb l4 tyX4_ok nmX4 hown hK hG hi hS (k := 0) (by decide) (cE_4 _ _) vwCl_4 10 (by decide) k1 (fun _ h9 => h9) rfl rfl (Nat.le_of_ble_eq_true rfl) (by rw [cE_4 _ _]; rfl) dX4_pounds_57 (fun H locs hG hS => ?_)
            rw [Option.some.inj eI12] at hG
            refine lv_iinc (v := (x5_5 + (-1 : Int32))) (lv' := [(5, .int (x5_5 + (-1 : Int32))), (4, .int (x4_5 + (1 : Int32))), (0, .ref (ad 0)), (1, .int x1), (2, .int x2)]) hx hb dX4_pounds_60 hl (k := 4) rfl rfl (by decide) rfl (fun ls hl => ?_)
            refine lv_goto (tgt := 26) hx hb dX4_pounds_63 (by decide) ?_
            exact ihn5 (x4_5 + (1 : Int32)) (x5_5 + (-1 : Int32)) I12 _ _ _ h hG hS (lv_sub hl [2, 3, 4, 1, 0] rfl)
    refine keyK4 _ (fun z4_6 I7 H locs ls h hG hS hl => ?_) bigF (0 : Int32) (99 : Int32) I3 _ _ _ h hG hS (lv_sub hl [3, 4, 5, 1, 0] rfl)
    clear keyK4
    refine lv_iload hx hb dX4_pounds_66 (lv_at hl 0 rfl) ?_
    have h := Option.some.inj h
    subst h
    subst hQ
    exact g_iret hx hb hr hlocks cZm hK hZ hG hS rfl dX4_pounds_68
  · have h := ite_f h c2
    refine lv_iload_n hx hb dX4_pounds_11 rfl (lv_at hl 0 rfl) ?_
    have h := Option.some.inj h
    subst h
    subst hQ
    exact g_iret hx hb hr hlocks cZm hK hZ hG hS rfl dX4_pounds_12
def X4_fittingKinds_L1 (P : Nat) (I : xMem) (x1 : Int32) (x2 : Int32) (K1 : Int32 → Option (Int32)) : Nat → Int32 → Int32 → Option (Int32)
  | 0, _, _ => none
  | n2 + 1, x3_2, x4_2 => if (6 : Int32) ≤ x4_2 then (K1 x3_2) else ((rdI I (P + 4) 6 x1).bind fun v4 => (X4_fits P I x4_2 v4 x2).bind fun v5 => if v5 = (0 : Int32) then (X4_fittingKinds_L1 P I x1 x2 K1 n2 x3_2 (x4_2 + (1 : Int32))) else (X4_fittingKinds_L1 P I x1 x2 K1 n2 (x3_2 ||| ((1 : Int32) <<< (x4_2 &&& 31))) (x4_2 + (1 : Int32))))
def X4_fittingKinds (P : Nat) (I : xMem) (x1 : Int32) (x2 : Int32) : Option (Int32) := X4_fittingKinds_L1 P I x1 x2 (fun (z3_2 : Int32) => some z3_2) bigF (0 : Int32) (0 : Int32)
abbrev rm_X4_fittingKinds : Room := { frames := 4, cells := 0, slots := 0, locals := 91 }
theorem cd_X4_fittingKinds : yX4_fittingKinds.cls = RX4 ∧ yX4_fittingKinds.cls ≠ "java/lang/invoke/MethodHandle" ∧ yX4_fittingKinds.cls ≠ "java/lang/invoke/VarHandle" ∧ (parseMethodDescriptor yX4_fittingKinds.desc).map (fun d => d.parameters.length) = some 2 := by decide +kernel
set_option maxHeartbeats 4000000 in
set_option maxRecDepth 100000 in
theorem k_X4_fittingKinds (l : Launch) (D : va_G) (cy : Nat → ClassId) (ad : Nat → Nat) (P Dr : Nat) (tI : xTab) (hX : cOk ad P Dr) (I : xMem) (L : xLon) (x1 : Int32) (x2 : Int32) (r : Int32) (h : X4_fittingKinds P I x1 x2 = some r) : Met l yX4_fittingKinds wsX4_fittingKinds rm_X4_fittingKinds (va_Pc [.ref (ad 0), .int x1, .int x2] (cW D cy ad P Dr tI I L)) (cPi D cy ad P Dr tI I L r) 0 0 (gA 64 ad) := by
  refine g_met (own := RX4) (cc := cX4_fittingKinds) (maxL := 5) (ret := (some .int)) (by decide) rfl (Nat.le_of_ble_eq_true rfl) rfl ?_
  intro p e s m args below meth c ls hx hb hml hr hlocks hown hts hG hK hZ hl
  generalize hQ : MQ below _ args s 0 0 _ = Q
  have hl : lv_has ls 5 [(0, .ref (ad 0)), (1, .int x1), (2, .int x2)] := hl
  have hS : va_S (gA 64 ad) s.heap s.heap [] := va_S.rf
  obtain ⟨hi, hP, hDr⟩ := id hX
  have l1 : ∀ w ∈ wsX10, w.before args s = true := fun w h => hts w (List.mem_cons_of_mem _ (List.mem_append_left _ (List.mem_append_left _ (List.mem_append_right _ h))))
  have l4 : ∀ w ∈ wsX40, w.before args s = true := fun w h => hts w (List.mem_cons_of_mem _ (List.mem_append_left _ (List.mem_append_left _ (List.mem_append_left _ (List.mem_append_right _ h)))))
  have k1 := hts (.fieldLink RX4 50 "PairStairs" "plan" "LPairStairs$Plan;") (by decide +kernel)
  have k2 := hts (.fieldLink RX4 134 "PairStairs$Plan" "weight" "[I") (by decide +kernel)
  unfold X4_fittingKinds at h
  refine lv_iconst (v := (0 : Int32)) hx hb dX4_fittingKinds_0 (by decide) ?_
  refine lv_istore_n (lv' := [(3, .int (0 : Int32)), (0, .ref (ad 0)), (1, .int x1), (2, .int x2)]) hx hb dX4_fittingKinds_1 rfl hl (by decide) rfl (fun ls hl => ?_)
  refine lv_iconst (v := (0 : Int32)) hx hb dX4_fittingKinds_2 (by decide) ?_
  refine lv_istore (lv' := [(4, .int (0 : Int32)), (3, .int (0 : Int32)), (0, .ref (ad 0)), (1, .int x1), (2, .int x2)]) hx hb dX4_fittingKinds_3 hl (by decide) rfl (fun ls hl => ?_)
  have keyK1 : ∀ (K1 : Int32 → Option (Int32)), (∀ (z3_2 : Int32) (H : Heap) (locs : List Loc) (ls : Array Slot), K1 z3_2 = some r → cG D cy ad P Dr I L H → va_S (gA 64 ad) s.heap H locs → lv_has ls 5 [(3, .int z3_2)] → W p l e rm_X4_fittingKinds s m args below meth c H locs 0 0 Q (F0 m 44 ls [])) → ∀ (n2 : Nat) (x3_2 : Int32) (x4_2 : Int32) (H : Heap) (locs : List Loc) (ls : Array Slot), X4_fittingKinds_L1 P I x1 x2 K1 n2 x3_2 x4_2 = some r → cG D cy ad P Dr I L H → va_S (gA 64 ad) s.heap H locs → lv_has ls 5 [(0, .ref (ad 0)), (1, .int x1), (2, .int x2), (3, .int x3_2), (4, .int x4_2)] → W p l e rm_X4_fittingKinds s m args below meth c H locs 0 0 Q (F0 m 5 ls []) := by
    intro K1 hkK1 n2
    induction n2 with
    | zero =>
      intro x3_2 x4_2 H locs ls h
      exact ono h
    | succ n2 ihn2 =>
      intro x3_2 x4_2 H locs ls h hG hS hl
      rw [X4_fittingKinds_L1] at h
      refine lv_iload hx hb dX4_fittingKinds_5 (lv_at hl 4 rfl) ?_
      refine lv_bipush (v := (6 : Int32)) hx hb dX4_fittingKinds_7 (by decide) ?_
      refine lv_icmp_ge (tgt := 44) hx hb dX4_fittingKinds_9 (by decide) (fun c3 => ?_) (fun c3 => ?_)
      · have h := ite_t h c3
        exact hkK1 x3_2 _ _ _ h hG hS (lv_sub hl [3] rfl)
      · have h := ite_f h c3
        refine lv_aload_n hx hb dX4_fittingKinds_12 rfl (lv_at hl 0 rfl) ?_
        refine lv_iload hx hb dX4_fittingKinds_13 (lv_at hl 4 rfl) ?_
        refine lv_aload_n hx hb dX4_fittingKinds_15 rfl (lv_at hl 0 rfl) ?_
        refine g_get hx hb l4 hown hK hG (k := 0) (by decide) (cE_4 _ _) vwCl_4 7 (by decide) k1 (fun _ h9 => h9) rfl dX4_fittingKinds_16 ?_
        refine g_get hx hb l1 hown hK hG (k := P) hP.1.1 (cE_1 hP.1 _ _) vwCl_1 6 (by decide) k2 (fun _ h9 => h9) rfl dX4_fittingKinds_19 ?_
        refine lv_iload_n hx hb dX4_fittingKinds_22 rfl (lv_at hl 1 rfl) ?_
        refine g_ald hx hb hK hG (k := (P + 4)) (n := 6) hP.2.2.2.2.1.1 (cIA_e hP.2.2.2.2 _ _) 0 rfl h dX4_fittingKinds_23 (fun v4 h => ?_)
        refine lv_iload_n hx hb dX4_fittingKinds_24 rfl (lv_at hl 2 rfl) ?_
        obtain ⟨v5, ev5, h⟩ := obind h
        refine g_endi (va_runV (As := [.int x4_2, .int v4, .int x2]) (rest := []) ⟨hx, hb, hml, hown, hts⟩ (k_X4_fits l D cy ad P Dr tI hX I L x4_2 v4 x2 v5 ev5) (cwV 3 hts gX4_fittingKinds_X4_fits rfl rfl rfl cd_X4_fits ⟨Nat.le_of_ble_eq_true rfl, Nat.le_of_ble_eq_true rfl⟩) ⟨g_blind cZm, g_recv hK hG (k := 0) (by decide) (cE_4 _ _) vwCl_4, g_pre cZm hK hG hZ hS⟩ rfl rfl hl.1 rfl (lv_room (Nat.le_of_ble_eq_true rfl)) dX4_fittingKinds_25 ⟨Nat.le_refl _, Nat.le_refl _⟩) hS (fun H locs hG hS => ?_)
        refine lv_if_eq (tgt := 38) hx hb dX4_fittingKinds_28 (by decide) (fun c6 => ?_) (fun c6 => ?_)
        · have h := ite_t h c6
          refine lv_iinc (v := (x4_2 + (1 : Int32))) (lv' := [(4, .int (x4_2 + (1 : Int32))), (0, .ref (ad 0)), (1, .int x1), (2, .int x2), (3, .int x3_2)]) hx hb dX4_fittingKinds_38 hl (k := 4) rfl rfl (by decide) rfl (fun ls hl => ?_)
          refine lv_goto (tgt := 5) hx hb dX4_fittingKinds_41 (by decide) ?_
          exact ihn2 x3_2 (x4_2 + (1 : Int32)) _ _ _ h hG hS (lv_sub hl [1, 2, 3, 4, 0] rfl)
        · have h := ite_f h c6
          refine lv_iload_n hx hb dX4_fittingKinds_31 rfl (lv_at hl 3 rfl) ?_
          refine lv_iconst (v := (1 : Int32)) hx hb dX4_fittingKinds_32 (by decide) ?_
          refine lv_iload hx hb dX4_fittingKinds_33 (lv_at hl 4 rfl) ?_
          refine lv_ishl hx hb dX4_fittingKinds_35 ?_
          refine lv_ior hx hb dX4_fittingKinds_36 ?_
          refine lv_istore_n (lv' := [(3, .int (x3_2 ||| ((1 : Int32) <<< (x4_2 &&& 31)))), (0, .ref (ad 0)), (1, .int x1), (2, .int x2), (4, .int x4_2)]) hx hb dX4_fittingKinds_37 rfl hl (by decide) rfl (fun ls hl => ?_)
          refine lv_iinc (v := (x4_2 + (1 : Int32))) (lv' := [(4, .int (x4_2 + (1 : Int32))), (3, .int (x3_2 ||| ((1 : Int32) <<< (x4_2 &&& 31)))), (0, .ref (ad 0)), (1, .int x1), (2, .int x2)]) hx hb dX4_fittingKinds_38 hl (k := 4) rfl rfl (by decide) rfl (fun ls hl => ?_)
          refine lv_goto (tgt := 5) hx hb dX4_fittingKinds_41 (by decide) ?_
          exact ihn2 (x3_2 ||| ((1 : Int32) <<< (x4_2 &&& 31))) (x4_2 + (1 : Int32)) _ _ _ h hG hS (lv_sub hl [2, 3, 4, 1, 0] rfl)
  refine keyK1 _ (fun z3_2 H locs ls h hG hS hl => ?_) bigF (0 : Int32) (0 : Int32) _ _ _ h hG hS (lv_sub hl [2, 3, 4, 1, 0] rfl)
  clear keyK1
  refine lv_iload_n hx hb dX4_fittingKinds_44 rfl (lv_at hl 0 rfl) ?_
  have h := Option.some.inj h
  subst h
  subst hQ
  exact g_iret hx hb hr hlocks cZm hK hZ hG hS rfl dX4_fittingKinds_45
def X4_kinds (P : Nat) (I : xMem) (x1 : Int32) (x2 : Int32) : Option (Int32 × xMem) := (X4_refusedWeighing P I x1 x2).bind fun q1 => if q1.1 = (0 : Int32) then ((X4_fittingKinds P q1.2 x1 x2).bind fun v3 => some (v3, q1.2)) else (some (q1.1, q1.2))
abbrev rm_X4_kinds : Room := { frames := 5, cells := 0, slots := 0, locals := 115 }
theorem cd_X4_kinds : yX4_kinds.cls = RX4 ∧ yX4_kinds.cls ≠ "java/lang/invoke/MethodHandle" ∧ yX4_kinds.cls ≠ "java/lang/invoke/VarHandle" ∧ (parseMethodDescriptor yX4_kinds.desc).map (fun d => d.parameters.length) = some 2 := by decide +kernel
set_option maxHeartbeats 4000000 in
set_option maxRecDepth 100000 in
theorem k_X4_kinds (l : Launch) (D : va_G) (cy : Nat → ClassId) (ad : Nat → Nat) (P Dr : Nat) (tI : xTab) (hX : cOk ad P Dr) (I : xMem) (L : xLon) (x1 : Int32) (x2 : Int32) (r : Int32 × xMem) (h : X4_kinds P I x1 x2 = some r) : Met l yX4_kinds wsX4_kinds rm_X4_kinds (va_Pc [.ref (ad 0), .int x1, .int x2] (cW D cy ad P Dr tI I L)) (cPi D cy ad P Dr tI r.2 L r.1) 0 0 (gA 64 ad) := by
  refine g_met (own := RX4) (cc := cX4_kinds) (maxL := 4) (ret := (some .int)) (by decide) rfl (Nat.le_of_ble_eq_true rfl) rfl ?_
  intro p e s m args below meth c ls hx hb hml hr hlocks hown hts hG hK hZ hl
  generalize hQ : MQ below _ args s 0 0 _ = Q
  have hl : lv_has ls 4 [(0, .ref (ad 0)), (1, .int x1), (2, .int x2)] := hl
  have hS : va_S (gA 64 ad) s.heap s.heap [] := va_S.rf
  obtain ⟨hi, hP, hDr⟩ := id hX
  unfold X4_kinds at h
  refine lv_aload_n hx hb dX4_kinds_0 rfl (lv_at hl 0 rfl) ?_
  refine lv_iload_n hx hb dX4_kinds_1 rfl (lv_at hl 1 rfl) ?_
  refine lv_iload_n hx hb dX4_kinds_2 rfl (lv_at hl 2 rfl) ?_
  obtain ⟨q1, eq1, h⟩ := obind h
  refine g_endi (va_runV (As := [.int x1, .int x2]) (rest := []) ⟨hx, hb, hml, hown, hts⟩ (k_X4_refusedWeighing l D cy ad P Dr tI hX I L x1 x2 q1 eq1) (cwV 2 hts gX4_kinds_X4_refusedWeighing rfl rfl rfl cd_X4_refusedWeighing ⟨Nat.le_of_ble_eq_true rfl, Nat.le_of_ble_eq_true rfl⟩) ⟨g_blind cZm, g_recv hK hG (k := 0) (by decide) (cE_4 _ _) vwCl_4, g_pre cZm hK hG hZ hS⟩ rfl rfl hl.1 rfl (lv_room (Nat.le_of_ble_eq_true rfl)) dX4_kinds_3 ⟨Nat.le_refl _, Nat.le_refl _⟩) hS (fun H locs hG hS => ?_)
  refine lv_istore_n (lv' := [(3, .int q1.1), (0, .ref (ad 0)), (1, .int x1), (2, .int x2)]) hx hb dX4_kinds_6 rfl hl (by decide) rfl (fun ls hl => ?_)
  refine lv_iload_n hx hb dX4_kinds_7 rfl (lv_at hl 0 rfl) ?_
  refine lv_if_eq (tgt := 15) hx hb dX4_kinds_8 (by decide) (fun c2 => ?_) (fun c2 => ?_)
  · have h := ite_t h c2
    refine lv_aload_n hx hb dX4_kinds_15 rfl (lv_at hl 1 rfl) ?_
    refine lv_iload_n hx hb dX4_kinds_16 rfl (lv_at hl 2 rfl) ?_
    refine lv_iload_n hx hb dX4_kinds_17 rfl (lv_at hl 3 rfl) ?_
    obtain ⟨v3, ev3, h⟩ := obind h
    refine g_endi (va_runV (As := [.int x1, .int x2]) (rest := []) ⟨hx, hb, hml, hown, hts⟩ (k_X4_fittingKinds l D cy ad P Dr tI hX q1.2 L x1 x2 v3 ev3) (cwV 2 hts gX4_kinds_X4_fittingKinds rfl rfl rfl cd_X4_fittingKinds ⟨Nat.le_of_ble_eq_true rfl, Nat.le_of_ble_eq_true rfl⟩) ⟨g_blind cZm, g_recv hK hG (k := 0) (by decide) (cE_4 _ _) vwCl_4, g_pre cZm hK hG hZ hS⟩ rfl rfl hl.1 rfl (lv_room (Nat.le_of_ble_eq_true rfl)) dX4_kinds_18 ⟨Nat.le_refl _, Nat.le_refl _⟩) hS (fun H locs hG hS => ?_)
    have h := Option.some.inj h
    subst h
    subst hQ
    exact g_iret hx hb hr hlocks cZm hK hZ hG hS rfl dX4_kinds_21
  · have h := ite_f h c2
    refine lv_iload_n hx hb dX4_kinds_11 rfl (lv_at hl 0 rfl) ?_
    refine lv_goto (tgt := 21) hx hb dX4_kinds_12 (by decide) ?_
    have h := Option.some.inj h
    subst h
    subst hQ
    exact g_iret hx hb hr hlocks cZm hK hZ hG hS rfl dX4_kinds_21
def X4_greatestPart_L2 (P : Nat) (I : xMem) (x1 : Int32) (x2 : Int32) (x3 : Int32) (x5_2 : Int32) (K4 : Int32 → Option (Int32)) : Nat → Int32 → Int32 → Option (Int32)
  | 0, _, _ => none
  | n5 + 1, x6_5, x7_5 => if (6 : Int32) ≤ x7_5 then (K4 x6_5) else ((if ((x2 >>> (x5_2 &&& 31)) &&& (1 : Int32)) = (1 : Int32) then (if ((x2 >>> (x7_5 &&& 31)) &&& (1 : Int32)) = (1 : Int32) then (some (1 : Int32)) else (some (0 : Int32))) else (some (0 : Int32))).bind fun q7 => if q7 = (0 : Int32) then (X4_greatestPart_L2 P I x1 x2 x3 x5_2 K4 n5 x6_5 (x7_5 + (1 : Int32))) else ((X4_stepsAs P I x5_2 x1 x3).bind fun v11 => (X4_stepsAs P I x7_5 x1 x3).bind fun v12 => if v11 = v12 then (X4_greatestPart_L2 P I x1 x2 x3 x5_2 K4 n5 (x6_5 + (1 : Int32)) (x7_5 + (1 : Int32))) else (X4_greatestPart_L2 P I x1 x2 x3 x5_2 K4 n5 x6_5 (x7_5 + (1 : Int32)))))
def X4_greatestPart_L1 (P : Nat) (I : xMem) (x1 : Int32) (x2 : Int32) (x3 : Int32) (K1 : Int32 → Option (Int32)) : Nat → Int32 → Int32 → Option (Int32)
  | 0, _, _ => none
  | n2 + 1, x4_2, x5_2 => if (6 : Int32) ≤ x5_2 then (K1 x4_2) else (X4_greatestPart_L2 P I x1 x2 x3 x5_2 (fun (z6_5 : Int32) => X4_greatestPart_L1 P I x1 x2 x3 K1 n2 (if x4_2 < z6_5 then z6_5 else x4_2) (x5_2 + (1 : Int32))) bigF (0 : Int32) (0 : Int32))
def X4_greatestPart (P : Nat) (I : xMem) (x1 : Int32) (x2 : Int32) (x3 : Int32) : Option (Int32) := X4_greatestPart_L1 P I x1 x2 x3 (fun (z4_2 : Int32) => some z4_2) bigF (0 : Int32) (0 : Int32)
abbrev rm_X4_greatestPart : Room := { frames := 3, cells := 0, slots := 0, locals := 67 }
theorem cd_X4_greatestPart : yX4_greatestPart.cls = RX4 ∧ yX4_greatestPart.cls ≠ "java/lang/invoke/MethodHandle" ∧ yX4_greatestPart.cls ≠ "java/lang/invoke/VarHandle" ∧ (parseMethodDescriptor yX4_greatestPart.desc).map (fun d => d.parameters.length) = some 3 := by decide +kernel
set_option maxHeartbeats 4000000 in
set_option maxRecDepth 100000 in
theorem k_X4_greatestPart (l : Launch) (D : va_G) (cy : Nat → ClassId) (ad : Nat → Nat) (P Dr : Nat) (tI : xTab) (hX : cOk ad P Dr) (I : xMem) (L : xLon) (x1 : Int32) (x2 : Int32) (x3 : Int32) (r : Int32) (h : X4_greatestPart P I x1 x2 x3 = some r) : Met l yX4_greatestPart wsX4_greatestPart rm_X4_greatestPart (va_Pc [.ref (ad 0), .int x1, .int x2, .int x3] (cW D cy ad P Dr tI I L)) (cPi D cy ad P Dr tI I L r) 0 0 (gA 64 ad) := by
  refine g_met (own := RX4) (cc := cX4_greatestPart) (maxL := 9) (ret := (some .int)) (by decide) rfl (Nat.le_of_ble_eq_true rfl) rfl ?_
  intro p e s m args below meth c ls hx hb hml hr hlocks hown hts hG hK hZ hl
  generalize hQ : MQ below _ args s 0 0 _ = Q
  have hl : lv_has ls 9 [(0, .ref (ad 0)), (1, .int x1), (2, .int x2), (3, .int x3)] := hl
  have hS : va_S (gA 64 ad) s.heap s.heap [] := va_S.rf
  obtain ⟨hi, hP, hDr⟩ := id hX
  have k1 := hts (.methodLink RX4 333 Lib.Math.max.name) (by decide +kernel)
  have k2 := hts (.static Lib.Math.max.name) (by decide +kernel)
  have k3 := hts (.initialized "java/lang/Math") (by decide +kernel)
  have k4 := hts (.code Lib.Math.max.name Lib.Math.max.code 2 (some .int)) (by decide +kernel)
  unfold X4_greatestPart at h
  refine lv_iconst (v := (0 : Int32)) hx hb dX4_greatestPart_0 (by decide) ?_
  refine lv_istore (lv' := [(4, .int (0 : Int32)), (0, .ref (ad 0)), (1, .int x1), (2, .int x2), (3, .int x3)]) hx hb dX4_greatestPart_1 hl (by decide) rfl (fun ls hl => ?_)
  refine lv_iconst (v := (0 : Int32)) hx hb dX4_greatestPart_3 (by decide) ?_
  refine lv_istore (lv' := [(5, .int (0 : Int32)), (4, .int (0 : Int32)), (0, .ref (ad 0)), (1, .int x1), (2, .int x2), (3, .int x3)]) hx hb dX4_greatestPart_4 hl (by decide) rfl (fun ls hl => ?_)
  have keyK1 : ∀ (K1 : Int32 → Option (Int32)), (∀ (z4_2 : Int32) (H : Heap) (locs : List Loc) (ls : Array Slot), K1 z4_2 = some r → cG D cy ad P Dr I L H → va_S (gA 64 ad) s.heap H locs → lv_has ls 9 [(4, .int z4_2)] → W p l e rm_X4_greatestPart s m args below meth c H locs 0 0 Q (F0 m 101 ls [])) → ∀ (n2 : Nat) (x4_2 : Int32) (x5_2 : Int32) (H : Heap) (locs : List Loc) (ls : Array Slot), X4_greatestPart_L1 P I x1 x2 x3 K1 n2 x4_2 x5_2 = some r → cG D cy ad P Dr I L H → va_S (gA 64 ad) s.heap H locs → lv_has ls 9 [(0, .ref (ad 0)), (1, .int x1), (2, .int x2), (3, .int x3), (4, .int x4_2), (5, .int x5_2)] → W p l e rm_X4_greatestPart s m args below meth c H locs 0 0 Q (F0 m 6 ls []) := by
    intro K1 hkK1 n2
    induction n2 with
    | zero =>
      intro x4_2 x5_2 H locs ls h
      exact ono h
    | succ n2 ihn2 =>
      intro x4_2 x5_2 H locs ls h hG hS hl
      rw [X4_greatestPart_L1] at h
      refine lv_iload hx hb dX4_greatestPart_6 (lv_at hl 5 rfl) ?_
      refine lv_bipush (v := (6 : Int32)) hx hb dX4_greatestPart_8 (by decide) ?_
      refine lv_icmp_ge (tgt := 101) hx hb dX4_greatestPart_10 (by decide) (fun c3 => ?_) (fun c3 => ?_)
      · have h := ite_t h c3
        exact hkK1 x4_2 _ _ _ h hG hS (lv_sub hl [4] rfl)
      · have h := ite_f h c3
        refine lv_iconst (v := (0 : Int32)) hx hb dX4_greatestPart_13 (by decide) ?_
        refine lv_istore (lv' := [(6, .int (0 : Int32)), (0, .ref (ad 0)), (1, .int x1), (2, .int x2), (3, .int x3), (4, .int x4_2), (5, .int x5_2)]) hx hb dX4_greatestPart_14 hl (by decide) rfl (fun ls hl => ?_)
        refine lv_iconst (v := (0 : Int32)) hx hb dX4_greatestPart_16 (by decide) ?_
        refine lv_istore (lv' := [(7, .int (0 : Int32)), (6, .int (0 : Int32)), (0, .ref (ad 0)), (1, .int x1), (2, .int x2), (3, .int x3), (4, .int x4_2), (5, .int x5_2)]) hx hb dX4_greatestPart_17 hl (by decide) rfl (fun ls hl => ?_)
        have keyK4 : ∀ (K4 : Int32 → Option (Int32)), (∀ (z6_5 : Int32) (H : Heap) (locs : List Loc) (ls : Array Slot), K4 z6_5 = some r → cG D cy ad P Dr I L H → va_S (gA 64 ad) s.heap H locs → lv_has ls 9 [(0, .ref (ad 0)), (1, .int x1), (2, .int x2), (3, .int x3), (4, .int x4_2), (5, .int x5_2), (6, .int z6_5)] → W p l e rm_X4_greatestPart s m args below meth c H locs 0 0 Q (F0 m 86 ls [])) → ∀ (n5 : Nat) (x6_5 : Int32) (x7_5 : Int32) (H : Heap) (locs : List Loc) (ls : Array Slot), X4_greatestPart_L2 P I x1 x2 x3 x5_2 K4 n5 x6_5 x7_5 = some r → cG D cy ad P Dr I L H → va_S (gA 64 ad) s.heap H locs → lv_has ls 9 [(0, .ref (ad 0)), (1, .int x1), (2, .int x2), (3, .int x3), (4, .int x4_2), (5, .int x5_2), (6, .int x6_5), (7, .int x7_5)] → W p l e rm_X4_greatestPart s m args below meth c H locs 0 0 Q (F0 m 19 ls []) := by
          intro K4 hkK4 n5
          induction n5 with
          | zero =>
            intro x6_5 x7_5 H locs ls h
            exact ono h
          | succ n5 ihn5 =>
            intro x6_5 x7_5 H locs ls h hG hS hl
            rw [X4_greatestPart_L2] at h
            refine lv_iload hx hb dX4_greatestPart_19 (lv_at hl 7 rfl) ?_
            refine lv_bipush (v := (6 : Int32)) hx hb dX4_greatestPart_21 (by decide) ?_
            refine lv_icmp_ge (tgt := 86) hx hb dX4_greatestPart_23 (by decide) (fun c6 => ?_) (fun c6 => ?_)
            · have h := ite_t h c6
              exact hkK4 x6_5 _ _ _ h hG hS (lv_sub hl [0, 1, 2, 3, 4, 5, 6] rfl)
            · have h := ite_f h c6
              refine lv_iload_n hx hb dX4_greatestPart_26 rfl (lv_at hl 2 rfl) ?_
              refine lv_iload hx hb dX4_greatestPart_27 (lv_at hl 5 rfl) ?_
              refine lv_ishr hx hb dX4_greatestPart_29 ?_
              refine lv_iconst (v := (1 : Int32)) hx hb dX4_greatestPart_30 (by decide) ?_
              refine lv_iand hx hb dX4_greatestPart_31 ?_
              refine lv_iconst (v := (1 : Int32)) hx hb dX4_greatestPart_32 (by decide) ?_
              obtain ⟨q7, h9, h⟩ := obind h
              have hk_q7 : ∀ (H : Heap) (locs : List Loc) (ls : Array Slot), cG D cy ad P Dr I L H → va_S (gA 64 ad) s.heap H locs → lv_has ls 9 [(0, .ref (ad 0)), (1, .int x1), (2, .int x2), (3, .int x3), (4, .int x4_2), (5, .int x5_2), (6, .int x6_5), (7, .int x7_5)] → W p l e rm_X4_greatestPart s m args below meth c H locs 0 0 Q (F0 m 51 ls [.int q7]) := by
                intro H locs ls hG hS hl
                refine lv_istore (lv' := [(8, .int q7), (0, .ref (ad 0)), (1, .int x1), (2, .int x2), (3, .int x3), (4, .int x4_2), (5, .int x5_2), (6, .int x6_5), (7, .int x7_5)]) hx hb dX4_greatestPart_51 hl (by decide) rfl (fun ls hl => ?_)
                refine lv_iload hx hb dX4_greatestPart_53 (lv_at hl 0 rfl) ?_
                refine lv_if_eq (tgt := 80) hx hb dX4_greatestPart_55 (by decide) (fun c10 => ?_) (fun c10 => ?_)
                · have h := ite_t h c10
                  refine lv_iinc (v := (x7_5 + (1 : Int32))) (lv' := [(7, .int (x7_5 + (1 : Int32))), (8, .int q7), (0, .ref (ad 0)), (1, .int x1), (2, .int x2), (3, .int x3), (4, .int x4_2), (5, .int x5_2), (6, .int x6_5)]) hx hb dX4_greatestPart_80 hl (k := 8) rfl rfl (by decide) rfl (fun ls hl => ?_)
                  refine lv_goto (tgt := 19) hx hb dX4_greatestPart_83 (by decide) ?_
                  exact ihn5 x6_5 (x7_5 + (1 : Int32)) _ _ _ h hG hS (lv_sub hl [2, 3, 4, 5, 6, 7, 8, 0] rfl)
                · have h := ite_f h c10
                  refine lv_aload_n hx hb dX4_greatestPart_58 rfl (lv_at hl 1 rfl) ?_
                  refine lv_iload hx hb dX4_greatestPart_59 (lv_at hl 6 rfl) ?_
                  refine lv_iload_n hx hb dX4_greatestPart_61 rfl (lv_at hl 2 rfl) ?_
                  refine lv_iload_n hx hb dX4_greatestPart_62 rfl (lv_at hl 4 rfl) ?_
                  obtain ⟨v11, ev11, h⟩ := obind h
                  refine g_endi (va_runV (As := [.int x5_2, .int x1, .int x3]) (rest := []) ⟨hx, hb, hml, hown, hts⟩ (k_X4_stepsAs l D cy ad P Dr tI hX I L x5_2 x1 x3 v11 ev11) (cwV 3 hts gX4_greatestPart_X4_stepsAs rfl rfl rfl cd_X4_stepsAs ⟨Nat.le_of_ble_eq_true rfl, Nat.le_of_ble_eq_true rfl⟩) ⟨g_blind cZm, g_recv hK hG (k := 0) (by decide) (cE_4 _ _) vwCl_4, g_pre cZm hK hG hZ hS⟩ rfl rfl hl.1 rfl (lv_room (Nat.le_of_ble_eq_true rfl)) dX4_greatestPart_63 ⟨Nat.le_refl _, Nat.le_refl _⟩) hS (fun H locs hG hS => ?_)
                  refine lv_aload_n hx hb dX4_greatestPart_66 rfl (lv_at hl 1 rfl) ?_
                  refine lv_iload hx hb dX4_greatestPart_67 (lv_at hl 8 rfl) ?_
                  refine lv_iload_n hx hb dX4_greatestPart_69 rfl (lv_at hl 2 rfl) ?_
                  refine lv_iload_n hx hb dX4_greatestPart_70 rfl (lv_at hl 4 rfl) ?_
                  obtain ⟨v12, ev12, h⟩ := obind h
                  refine g_endi (va_runV (As := [.int x7_5, .int x1, .int x3]) (rest := [.int v11]) ⟨hx, hb, hml, hown, hts⟩ (k_X4_stepsAs l D cy ad P Dr tI hX I L x7_5 x1 x3 v12 ev12) (cwV 3 hts gX4_greatestPart_X4_stepsAs rfl rfl rfl cd_X4_stepsAs ⟨Nat.le_of_ble_eq_true rfl, Nat.le_of_ble_eq_true rfl⟩) ⟨g_blind cZm, g_recv hK hG (k := 0) (by decide) (cE_4 _ _) vwCl_4, g_pre cZm hK hG hZ hS⟩ rfl rfl hl.1 rfl (lv_room (Nat.le_of_ble_eq_true rfl)) dX4_greatestPart_71 ⟨Nat.le_refl _, Nat.le_refl _⟩) hS (fun H locs hG hS => ?_)
                  refine lv_icmp_ne (tgt := 80) hx hb dX4_greatestPart_74 (by decide) (fun c13 => ?_) (fun c13 => ?_)
                  · have h := ite_f h c13
                    refine lv_iinc (v := (x7_5 + (1 : Int32))) (lv' := [(7, .int (x7_5 + (1 : Int32))), (8, .int q7), (0, .ref (ad 0)), (1, .int x1), (2, .int x2), (3, .int x3), (4, .int x4_2), (5, .int x5_2), (6, .int x6_5)]) hx hb dX4_greatestPart_80 hl (k := 8) rfl rfl (by decide) rfl (fun ls hl => ?_)
                    refine lv_goto (tgt := 19) hx hb dX4_greatestPart_83 (by decide) ?_
                    exact ihn5 x6_5 (x7_5 + (1 : Int32)) _ _ _ h hG hS (lv_sub hl [2, 3, 4, 5, 6, 7, 8, 0] rfl)
                  · have h := ite_t h c13
                    refine lv_iinc (v := (x6_5 + (1 : Int32))) (lv' := [(6, .int (x6_5 + (1 : Int32))), (8, .int q7), (0, .ref (ad 0)), (1, .int x1), (2, .int x2), (3, .int x3), (4, .int x4_2), (5, .int x5_2), (7, .int x7_5)]) hx hb dX4_greatestPart_77 hl (k := 7) rfl rfl (by decide) rfl (fun ls hl => ?_)
                    refine lv_iinc (v := (x7_5 + (1 : Int32))) (lv' := [(7, .int (x7_5 + (1 : Int32))), (6, .int (x6_5 + (1 : Int32))), (8, .int q7), (0, .ref (ad 0)), (1, .int x1), (2, .int x2), (3, .int x3), (4, .int x4_2), (5, .int x5_2)]) hx hb dX4_greatestPart_80 hl (k := 8) rfl rfl (by decide) rfl (fun ls hl => ?_)
                    refine lv_goto (tgt := 19) hx hb dX4_greatestPart_83 (by decide) ?_
                    exact ihn5 (x6_5 + (1 : Int32)) (x7_5 + (1 : Int32)) _ _ _ h hG hS (lv_sub hl [3, 4, 5, 6, 7, 8, 1, 0] rfl)
              clear h
              have h := h9
              clear h9
              refine lv_icmp_ne (tgt := 50) hx hb dX4_greatestPart_33 (by decide) (fun c8 => ?_) (fun c8 => ?_)
              · have h := ite_f h c8
                refine lv_iconst (v := (0 : Int32)) hx hb dX4_greatestPart_50 (by decide) ?_
                have h := Option.some.inj h
                subst h
                exact hk_q7 _ _ _ hG hS (lv_sub hl [0, 1, 2, 3, 4, 5, 6, 7] rfl)
              · have h := ite_t h c8
                refine lv_iload_n hx hb dX4_greatestPart_36 rfl (lv_at hl 2 rfl) ?_
                refine lv_iload hx hb dX4_greatestPart_37 (lv_at hl 7 rfl) ?_
                refine lv_ishr hx hb dX4_greatestPart_39 ?_
                refine lv_iconst (v := (1 : Int32)) hx hb dX4_greatestPart_40 (by decide) ?_
                refine lv_iand hx hb dX4_greatestPart_41 ?_
                refine lv_iconst (v := (1 : Int32)) hx hb dX4_greatestPart_42 (by decide) ?_
                refine lv_icmp_ne (tgt := 50) hx hb dX4_greatestPart_43 (by decide) (fun c9 => ?_) (fun c9 => ?_)
                · have h := ite_f h c9
                  refine lv_iconst (v := (0 : Int32)) hx hb dX4_greatestPart_50 (by decide) ?_
                  have h := Option.some.inj h
                  subst h
                  exact hk_q7 _ _ _ hG hS (lv_sub hl [0, 1, 2, 3, 4, 5, 6, 7] rfl)
                · have h := ite_t h c9
                  refine lv_iconst (v := (1 : Int32)) hx hb dX4_greatestPart_46 (by decide) ?_
                  refine lv_goto (tgt := 51) hx hb dX4_greatestPart_47 (by decide) ?_
                  have h := Option.some.inj h
                  subst h
                  exact hk_q7 _ _ _ hG hS (lv_sub hl [0, 1, 2, 3, 4, 5, 6, 7] rfl)
        refine keyK4 _ (fun z6_5 H locs ls h hG hS hl => ?_) bigF (0 : Int32) (0 : Int32) _ _ _ h hG hS (lv_sub hl [2, 3, 4, 5, 6, 7, 1, 0] rfl)
        clear keyK4
        refine lv_iload hx hb dX4_greatestPart_86 (lv_at hl 4 rfl) ?_
        refine lv_iload hx hb dX4_greatestPart_88 (lv_at hl 6 rfl) ?_
        refine va_mmax hx hb (hml.trans hl.1.symm) hown k1 k2 k3 k4 (Nat.le_of_ble_eq_true rfl) (Nat.le_of_ble_eq_true rfl) (Nat.le_refl _) (Nat.le_refl _) dX4_greatestPart_90 ?_
        refine lv_istore (lv' := [(4, .int (if x4_2 < z6_5 then z6_5 else x4_2)), (0, .ref (ad 0)), (1, .int x1), (2, .int x2), (3, .int x3), (5, .int x5_2), (6, .int z6_5)]) hx hb dX4_greatestPart_93 hl (by decide) rfl (fun ls hl => ?_)
        refine lv_iinc (v := (x5_2 + (1 : Int32))) (lv' := [(5, .int (x5_2 + (1 : Int32))), (4, .int (if x4_2 < z6_5 then z6_5 else x4_2)), (0, .ref (ad 0)), (1, .int x1), (2, .int x2), (3, .int x3), (6, .int z6_5)]) hx hb dX4_greatestPart_95 hl (k := 5) rfl rfl (by decide) rfl (fun ls hl => ?_)
        refine lv_goto (tgt := 6) hx hb dX4_greatestPart_98 (by decide) ?_
        exact ihn2 (if x4_2 < z6_5 then z6_5 else x4_2) (x5_2 + (1 : Int32)) _ _ _ h hG hS (lv_sub hl [2, 3, 4, 5, 1, 0] rfl)
  refine keyK1 _ (fun z4_2 H locs ls h hG hS hl => ?_) bigF (0 : Int32) (0 : Int32) _ _ _ h hG hS (lv_sub hl [2, 3, 4, 5, 1, 0] rfl)
  clear keyK1
  refine lv_iload hx hb dX4_greatestPart_101 (lv_at hl 0 rfl) ?_
  have h := Option.some.inj h
  subst h
  subst hQ
  exact g_iret hx hb hr hlocks cZm hK hZ hG hS rfl dX4_greatestPart_103
def X4_next_L1 (P : Nat) (x1 : Int32) (q1 : Int32 × xMem) (v3 : Int32) (K5 : Int32 → Int32 → Option (Int32 × xMem)) : Nat → Int32 → Int32 → Int32 → Option (Int32 × xMem)
  | 0, _, _, _ => none
  | n6 + 1, x5_6, x6_6, x7_6 => if (q1.2 P 2) ≤ x7_6 then (K5 x5_6 x6_6) else ((if x7_6 = x1 then (some (7 : Int32)) else ((rdI q1.2 (P + 4) 6 x1).bind fun v10 => (X4_greatestPart P q1.2 v10 v3 x7_6).bind fun v11 => some v11)).bind fun q8 => if x6_6 ≤ q8 then (X4_next_L1 P x1 q1 v3 K5 n6 x5_6 x6_6 (x7_6 + (1 : Int32))) else (X4_next_L1 P x1 q1 v3 K5 n6 x7_6 q8 (x7_6 + (1 : Int32))))
def X4_next (P : Nat) (I : xMem) (x1 : Int32) (x2 : Int32) : Option (Int32 × xMem) := (X4_refusedWeighing P I x1 x2).bind fun q1 => if q1.1 = (0 : Int32) then ((X4_fittingKinds P q1.2 x1 x2).bind fun v3 => if v3 = (0 : Int32) then (some ((-9 : Int32), q1.2)) else (X4_next_L1 P x1 q1 v3 (fun (z5_6 : Int32) (z6_6 : Int32) => (some (wr q1.2 0 10 z6_6)).bind fun I13 => some (z5_6, I13)) bigF (-9 : Int32) (7 : Int32) (0 : Int32))) else (some (q1.1, q1.2))
abbrev rm_X4_next : Room := { frames := 5, cells := 0, slots := 0, locals := 115 }
theorem cd_X4_next : yX4_next.cls = RX4 ∧ yX4_next.cls ≠ "java/lang/invoke/MethodHandle" ∧ yX4_next.cls ≠ "java/lang/invoke/VarHandle" ∧ (parseMethodDescriptor yX4_next.desc).map (fun d => d.parameters.length) = some 2 := by decide +kernel
set_option maxHeartbeats 4000000 in
set_option maxRecDepth 100000 in
theorem k_X4_next (l : Launch) (D : va_G) (cy : Nat → ClassId) (ad : Nat → Nat) (P Dr : Nat) (tI : xTab) (hX : cOk ad P Dr) (I : xMem) (L : xLon) (x1 : Int32) (x2 : Int32) (r : Int32 × xMem) (h : X4_next P I x1 x2 = some r) : Met l yX4_next wsX4_next rm_X4_next (va_Pc [.ref (ad 0), .int x1, .int x2] (cW D cy ad P Dr tI I L)) (cPi D cy ad P Dr tI r.2 L r.1) 0 0 (gA 64 ad) := by
  refine g_met (own := RX4) (cc := cX4_next) (maxL := 9) (ret := (some .int)) (by decide) rfl (Nat.le_of_ble_eq_true rfl) rfl ?_
  intro p e s m args below meth c ls hx hb hml hr hlocks hown hts hG hK hZ hl
  generalize hQ : MQ below _ args s 0 0 _ = Q
  have hl : lv_has ls 9 [(0, .ref (ad 0)), (1, .int x1), (2, .int x2)] := hl
  have hS : va_S (gA 64 ad) s.heap s.heap [] := va_S.rf
  obtain ⟨hi, hP, hDr⟩ := id hX
  have l1 : ∀ w ∈ wsX10, w.before args s = true := fun w h => hts w (List.mem_cons_of_mem _ (List.mem_append_left _ (List.mem_append_left _ (List.mem_append_right _ h))))
  have l4 : ∀ w ∈ wsX40, w.before args s = true := fun w h => hts w (List.mem_cons_of_mem _ (List.mem_append_left _ (List.mem_append_left _ (List.mem_append_left _ (List.mem_append_right _ h)))))
  have k1 := hts (.fieldLink RX4 50 "PairStairs" "plan" "LPairStairs$Plan;") (by decide +kernel)
  have k2 := hts (.fieldLink RX4 115 "PairStairs$Plan" "people" "I") (by decide +kernel)
  have k3 := hts (.fieldLink RX4 134 "PairStairs$Plan" "weight" "[I") (by decide +kernel)
  have k4 := hts (.fieldLink RX4 72 "PairStairs" "told" "I") (by decide +kernel)
  unfold X4_next at h
  refine lv_aload_n hx hb dX4_next_0 rfl (lv_at hl 0 rfl) ?_
  refine lv_iload_n hx hb dX4_next_1 rfl (lv_at hl 1 rfl) ?_
  refine lv_iload_n hx hb dX4_next_2 rfl (lv_at hl 2 rfl) ?_
  obtain ⟨q1, eq1, h⟩ := obind h
  refine g_endi (va_runV (As := [.int x1, .int x2]) (rest := []) ⟨hx, hb, hml, hown, hts⟩ (k_X4_refusedWeighing l D cy ad P Dr tI hX I L x1 x2 q1 eq1) (cwV 2 hts gX4_next_X4_refusedWeighing rfl rfl rfl cd_X4_refusedWeighing ⟨Nat.le_of_ble_eq_true rfl, Nat.le_of_ble_eq_true rfl⟩) ⟨g_blind cZm, g_recv hK hG (k := 0) (by decide) (cE_4 _ _) vwCl_4, g_pre cZm hK hG hZ hS⟩ rfl rfl hl.1 rfl (lv_room (Nat.le_of_ble_eq_true rfl)) dX4_next_3 ⟨Nat.le_refl _, Nat.le_refl _⟩) hS (fun H locs hG hS => ?_)
  refine lv_istore_n (lv' := [(3, .int q1.1), (0, .ref (ad 0)), (1, .int x1), (2, .int x2)]) hx hb dX4_next_6 rfl hl (by decide) rfl (fun ls hl => ?_)
  refine lv_iload_n hx hb dX4_next_7 rfl (lv_at hl 0 rfl) ?_
  refine lv_if_eq (tgt := 13) hx hb dX4_next_8 (by decide) (fun c2 => ?_) (fun c2 => ?_)
  · have h := ite_t h c2
    refine lv_aload_n hx hb dX4_next_13 rfl (lv_at hl 1 rfl) ?_
    refine lv_iload_n hx hb dX4_next_14 rfl (lv_at hl 2 rfl) ?_
    refine lv_iload_n hx hb dX4_next_15 rfl (lv_at hl 3 rfl) ?_
    obtain ⟨v3, ev3, h⟩ := obind h
    refine g_endi (va_runV (As := [.int x1, .int x2]) (rest := []) ⟨hx, hb, hml, hown, hts⟩ (k_X4_fittingKinds l D cy ad P Dr tI hX q1.2 L x1 x2 v3 ev3) (cwV 2 hts gX4_next_X4_fittingKinds rfl rfl rfl cd_X4_fittingKinds ⟨Nat.le_of_ble_eq_true rfl, Nat.le_of_ble_eq_true rfl⟩) ⟨g_blind cZm, g_recv hK hG (k := 0) (by decide) (cE_4 _ _) vwCl_4, g_pre cZm hK hG hZ hS⟩ rfl rfl hl.1 rfl (lv_room (Nat.le_of_ble_eq_true rfl)) dX4_next_16 ⟨Nat.le_refl _, Nat.le_refl _⟩) hS (fun H locs hG hS => ?_)
    refine lv_istore (lv' := [(4, .int v3), (3, .int q1.1), (0, .ref (ad 0)), (1, .int x1), (2, .int x2)]) hx hb dX4_next_19 hl (by decide) rfl (fun ls hl => ?_)
    refine lv_iload hx hb dX4_next_21 (lv_at hl 0 rfl) ?_
    refine lv_if_ne (tgt := 29) hx hb dX4_next_23 (by decide) (fun c4 => ?_) (fun c4 => ?_)
    · have h := ite_f h c4
      refine lv_bipush (v := (-9 : Int32)) hx hb dX4_next_29 (by decide) ?_
      refine lv_istore (lv' := [(5, .int (-9 : Int32)), (4, .int v3), (3, .int q1.1), (0, .ref (ad 0)), (1, .int x1), (2, .int x2)]) hx hb dX4_next_31 hl (by decide) rfl (fun ls hl => ?_)
      refine lv_bipush (v := (7 : Int32)) hx hb dX4_next_33 (by decide) ?_
      refine lv_istore (lv' := [(6, .int (7 : Int32)), (5, .int (-9 : Int32)), (4, .int v3), (3, .int q1.1), (0, .ref (ad 0)), (1, .int x1), (2, .int x2)]) hx hb dX4_next_35 hl (by decide) rfl (fun ls hl => ?_)
      refine lv_iconst (v := (0 : Int32)) hx hb dX4_next_37 (by decide) ?_
      refine lv_istore (lv' := [(7, .int (0 : Int32)), (6, .int (7 : Int32)), (5, .int (-9 : Int32)), (4, .int v3), (3, .int q1.1), (0, .ref (ad 0)), (1, .int x1), (2, .int x2)]) hx hb dX4_next_38 hl (by decide) rfl (fun ls hl => ?_)
      have keyK5 : ∀ (K5 : Int32 → Int32 → Option (Int32 × xMem)), (∀ (z5_6 : Int32) (z6_6 : Int32) (H : Heap) (locs : List Loc) (ls : Array Slot), K5 z5_6 z6_6 = some r → cG D cy ad P Dr q1.2 L H → va_S (gA 64 ad) s.heap H locs → lv_has ls 9 [(0, .ref (ad 0)), (5, .int z5_6), (6, .int z6_6)] → W p l e rm_X4_next s m args below meth c H locs 0 0 Q (F0 m 103 ls [])) → ∀ (n6 : Nat) (x5_6 : Int32) (x6_6 : Int32) (x7_6 : Int32) (H : Heap) (locs : List Loc) (ls : Array Slot), X4_next_L1 P x1 q1 v3 K5 n6 x5_6 x6_6 x7_6 = some r → cG D cy ad P Dr q1.2 L H → va_S (gA 64 ad) s.heap H locs → lv_has ls 9 [(0, .ref (ad 0)), (1, .int x1), (4, .int v3), (5, .int x5_6), (6, .int x6_6), (7, .int x7_6)] → W p l e rm_X4_next s m args below meth c H locs 0 0 Q (F0 m 40 ls []) := by
        intro K5 hkK5 n6
        induction n6 with
        | zero =>
          intro x5_6 x6_6 x7_6 H locs ls h
          exact ono h
        | succ n6 ihn6 =>
          intro x5_6 x6_6 x7_6 H locs ls h hG hS hl
          rw [X4_next_L1] at h
          refine lv_iload hx hb dX4_next_40 (lv_at hl 5 rfl) ?_
          refine lv_aload_n hx hb dX4_next_42 rfl (lv_at hl 0 rfl) ?_
          refine g_get hx hb l4 hown hK hG (k := 0) (by decide) (cE_4 _ _) vwCl_4 7 (by decide) k1 (fun _ h9 => h9) rfl dX4_next_43 ?_
          refine g_get hx hb l1 hown hK hG (k := P) hP.1.1 (cE_1 hP.1 _ _) vwCl_1 2 (by decide) k2 (fun _ h9 => h9) rfl dX4_next_46 ?_
          refine lv_icmp_ge (tgt := 103) hx hb dX4_next_49 (by decide) (fun c7 => ?_) (fun c7 => ?_)
          · have h := ite_t h c7
            exact hkK5 x5_6 x6_6 _ _ _ h hG hS (lv_sub hl [0, 3, 4] rfl)
          · have h := ite_f h c7
            refine lv_iload hx hb dX4_next_52 (lv_at hl 5 rfl) ?_
            refine lv_iload_n hx hb dX4_next_54 rfl (lv_at hl 1 rfl) ?_
            obtain ⟨q8, h9, h⟩ := obind h
            have hk_q8 : ∀ (H : Heap) (locs : List Loc) (ls : Array Slot), cG D cy ad P Dr q1.2 L H → va_S (gA 64 ad) s.heap H locs → lv_has ls 9 [(0, .ref (ad 0)), (1, .int x1), (4, .int v3), (5, .int x5_6), (6, .int x6_6), (7, .int x7_6)] → W p l e rm_X4_next s m args below meth c H locs 0 0 Q (F0 m 80 ls [.int q8]) := by
              intro H locs ls hG hS hl
              refine lv_istore (lv' := [(8, .int q8), (0, .ref (ad 0)), (1, .int x1), (4, .int v3), (5, .int x5_6), (6, .int x6_6), (7, .int x7_6)]) hx hb dX4_next_80 hl (by decide) rfl (fun ls hl => ?_)
              refine lv_iload hx hb dX4_next_82 (lv_at hl 0 rfl) ?_
              refine lv_iload hx hb dX4_next_84 (lv_at hl 5 rfl) ?_
              refine lv_icmp_ge (tgt := 97) hx hb dX4_next_86 (by decide) (fun c12 => ?_) (fun c12 => ?_)
              · have h := ite_t h c12
                refine lv_iinc (v := (x7_6 + (1 : Int32))) (lv' := [(7, .int (x7_6 + (1 : Int32))), (8, .int q8), (0, .ref (ad 0)), (1, .int x1), (4, .int v3), (5, .int x5_6), (6, .int x6_6)]) hx hb dX4_next_97 hl (k := 6) rfl rfl (by decide) rfl (fun ls hl => ?_)
                refine lv_goto (tgt := 40) hx hb dX4_next_100 (by decide) ?_
                exact ihn6 x5_6 x6_6 (x7_6 + (1 : Int32)) _ _ _ h hG hS (lv_sub hl [2, 3, 4, 5, 6, 0] rfl)
              · have h := ite_f h c12
                refine lv_iload hx hb dX4_next_89 (lv_at hl 6 rfl) ?_
                refine lv_istore (lv' := [(5, .int x7_6), (8, .int q8), (0, .ref (ad 0)), (1, .int x1), (4, .int v3), (6, .int x6_6), (7, .int x7_6)]) hx hb dX4_next_91 hl (by decide) rfl (fun ls hl => ?_)
                refine lv_iload hx hb dX4_next_93 (lv_at hl 1 rfl) ?_
                refine lv_istore (lv' := [(6, .int q8), (5, .int x7_6), (8, .int q8), (0, .ref (ad 0)), (1, .int x1), (4, .int v3), (7, .int x7_6)]) hx hb dX4_next_95 hl (by decide) rfl (fun ls hl => ?_)
                refine lv_iinc (v := (x7_6 + (1 : Int32))) (lv' := [(7, .int (x7_6 + (1 : Int32))), (6, .int q8), (5, .int x7_6), (8, .int q8), (0, .ref (ad 0)), (1, .int x1), (4, .int v3)]) hx hb dX4_next_97 hl (k := 6) rfl rfl (by decide) rfl (fun ls hl => ?_)
                refine lv_goto (tgt := 40) hx hb dX4_next_100 (by decide) ?_
                exact ihn6 x7_6 q8 (x7_6 + (1 : Int32)) _ _ _ h hG hS (lv_sub hl [4, 5, 6, 2, 1, 0] rfl)
            clear h
            have h := h9
            clear h9
            refine lv_icmp_ne (tgt := 63) hx hb dX4_next_55 (by decide) (fun c9 => ?_) (fun c9 => ?_)
            · have h := ite_f h c9
              refine lv_aload_n hx hb dX4_next_63 rfl (lv_at hl 0 rfl) ?_
              refine lv_aload_n hx hb dX4_next_64 rfl (lv_at hl 0 rfl) ?_
              refine g_get hx hb l4 hown hK hG (k := 0) (by decide) (cE_4 _ _) vwCl_4 7 (by decide) k1 (fun _ h9 => h9) rfl dX4_next_65 ?_
              refine g_get hx hb l1 hown hK hG (k := P) hP.1.1 (cE_1 hP.1 _ _) vwCl_1 6 (by decide) k3 (fun _ h9 => h9) rfl dX4_next_68 ?_
              refine lv_iload_n hx hb dX4_next_71 rfl (lv_at hl 1 rfl) ?_
              refine g_ald hx hb hK hG (k := (P + 4)) (n := 6) hP.2.2.2.2.1.1 (cIA_e hP.2.2.2.2 _ _) 0 rfl h dX4_next_72 (fun v10 h => ?_)
              refine lv_iload hx hb dX4_next_73 (lv_at hl 2 rfl) ?_
              refine lv_iload hx hb dX4_next_75 (lv_at hl 5 rfl) ?_
              obtain ⟨v11, ev11, h⟩ := obind h
              refine g_endi (va_runV (As := [.int v10, .int v3, .int x7_6]) (rest := []) ⟨hx, hb, hml, hown, hts⟩ (k_X4_greatestPart l D cy ad P Dr tI hX q1.2 L v10 v3 x7_6 v11 ev11) (cwV 3 hts gX4_next_X4_greatestPart rfl rfl rfl cd_X4_greatestPart ⟨Nat.le_of_ble_eq_true rfl, Nat.le_of_ble_eq_true rfl⟩) ⟨g_blind cZm, g_recv hK hG (k := 0) (by decide) (cE_4 _ _) vwCl_4, g_pre cZm hK hG hZ hS⟩ rfl rfl hl.1 rfl (lv_room (Nat.le_of_ble_eq_true rfl)) dX4_next_77 ⟨Nat.le_refl _, Nat.le_refl _⟩) hS (fun H locs hG hS => ?_)
              have h := Option.some.inj h
              subst h
              exact hk_q8 _ _ _ hG hS (lv_sub hl [0, 1, 2, 3, 4, 5] rfl)
            · have h := ite_t h c9
              refine lv_bipush (v := (7 : Int32)) hx hb dX4_next_58 (by decide) ?_
              refine lv_goto (tgt := 80) hx hb dX4_next_60 (by decide) ?_
              have h := Option.some.inj h
              subst h
              exact hk_q8 _ _ _ hG hS (lv_sub hl [0, 1, 2, 3, 4, 5] rfl)
      refine keyK5 _ (fun z5_6 z6_6 H locs ls h hG hS hl => ?_) bigF (-9 : Int32) (7 : Int32) (0 : Int32) _ _ _ h hG hS (lv_sub hl [5, 6, 3, 2, 1, 0] rfl)
      clear keyK5
      refine lv_aload_n hx hb dX4_next_103 rfl (lv_at hl 0 rfl) ?_
      refine lv_iload hx hb dX4_next_104 (lv_at hl 2 rfl) ?_
      obtain ⟨I13, eI13, h⟩ := obind h
      refine g_put hx hb l4 tyX4_ok nmX4 hown hK hG hi hS (k := 0) (by decide) (cE_4 _ _) vwCl_4 10 (by decide) k4 (fun _ h9 => h9) rfl rfl (Nat.le_of_ble_eq_true rfl) (by rw [cE_4 _ _]; rfl) dX4_next_106 (fun H locs hG hS => ?_)
      rw [Option.some.inj eI13] at hG
      refine lv_iload hx hb dX4_next_109 (lv_at hl 1 rfl) ?_
      have h := Option.some.inj h
      subst h
      subst hQ
      exact g_iret hx hb hr hlocks cZm hK hZ hG hS rfl dX4_next_111
    · have h := ite_t h c4
      refine lv_bipush (v := (-9 : Int32)) hx hb dX4_next_26 (by decide) ?_
      have h := Option.some.inj h
      subst h
      subst hQ
      exact g_iret hx hb hr hlocks cZm hK hZ hG hS rfl dX4_next_28
  · have h := ite_f h c2
    refine lv_iload_n hx hb dX4_next_11 rfl (lv_at hl 0 rfl) ?_
    have h := Option.some.inj h
    subst h
    subst hQ
    exact g_iret hx hb hr hlocks cZm hK hZ hG hS rfl dX4_next_12
def X4_send (P : Nat) (I : xMem) (x1 : Int32) : Option (Int32 × xMem) := if x1 < (0 : Int32) then (some ((-1 : Int32), I)) else (if x1 ≤ (2 : Int32) then (if (I P 2) = (0 : Int32) then (some ((-4 : Int32), I)) else ((X4_findWays P I).bind fun q4 => (X0_top 17 q4).bind fun v5 => (X3_byTurns q4 ((2 : Int32) * x1) v5).bind fun q6 => some (q6.1, q6.2))) else (some ((-1 : Int32), I)))
abbrev rm_X4_send : Room := { frames := 4, cells := 0, slots := 0, locals := 91 }
theorem cd_X4_send : yX4_send.cls = RX4 ∧ yX4_send.cls ≠ "java/lang/invoke/MethodHandle" ∧ yX4_send.cls ≠ "java/lang/invoke/VarHandle" ∧ (parseMethodDescriptor yX4_send.desc).map (fun d => d.parameters.length) = some 1 := by decide +kernel
set_option maxHeartbeats 4000000 in
set_option maxRecDepth 100000 in
theorem k_X4_send (l : Launch) (D : va_G) (cy : Nat → ClassId) (ad : Nat → Nat) (P Dr : Nat) (tI : xTab) (hX : cOk ad P Dr) (I : xMem) (L : xLon) (x1 : Int32) (r : Int32 × xMem) (h : X4_send P I x1 = some r) : Met l yX4_send wsX4_send rm_X4_send (va_Pc [.ref (ad 0), .int x1] (cW D cy ad P Dr tI I L)) (cPi D cy ad P Dr tI r.2 L r.1) 0 0 (gA 64 ad) := by
  refine g_met (own := RX4) (cc := cX4_send) (maxL := 2) (ret := (some .int)) (by decide) rfl (Nat.le_of_ble_eq_true rfl) rfl ?_
  intro p e s m args below meth c ls hx hb hml hr hlocks hown hts hG hK hZ hl
  generalize hQ : MQ below _ args s 0 0 _ = Q
  have hl : lv_has ls 2 [(0, .ref (ad 0)), (1, .int x1)] := hl
  have hS : va_S (gA 64 ad) s.heap s.heap [] := va_S.rf
  obtain ⟨hi, hP, hDr⟩ := id hX
  have l1 : ∀ w ∈ wsX10, w.before args s = true := fun w h => hts w (List.mem_cons_of_mem _ (List.mem_append_left _ (List.mem_append_left _ (List.mem_append_right _ h))))
  have l4 : ∀ w ∈ wsX40, w.before args s = true := fun w h => hts w (List.mem_cons_of_mem _ (List.mem_append_left _ (List.mem_append_left _ (List.mem_append_left _ (List.mem_append_right _ h)))))
  have k1 := hts (.fieldLink RX4 50 "PairStairs" "plan" "LPairStairs$Plan;") (by decide +kernel)
  have k2 := hts (.fieldLink RX4 115 "PairStairs$Plan" "people" "I") (by decide +kernel)
  have k3 := hts (.fieldLink RX4 39 "PairStairs" "ways" "LPairStairs$Ways;") (by decide +kernel)
  have k4 := hts (.fieldLink RX4 24 "PairStairs" "deeds" "LPairStairs$Deeds;") (by decide +kernel)
  unfold X4_send at h
  refine lv_iload_n hx hb dX4_send_0 rfl (lv_at hl 1 rfl) ?_
  refine lv_if_lt (tgt := 9) hx hb dX4_send_1 (by decide) (fun c1 => ?_) (fun c1 => ?_)
  · have h := ite_t h c1
    refine lv_iconst (v := (-1 : Int32)) hx hb dX4_send_9 (by decide) ?_
    have h := Option.some.inj h
    subst h
    subst hQ
    exact g_iret hx hb hr hlocks cZm hK hZ hG hS rfl dX4_send_10
  · have h := ite_f h c1
    refine lv_iload_n hx hb dX4_send_4 rfl (lv_at hl 1 rfl) ?_
    refine lv_iconst (v := (2 : Int32)) hx hb dX4_send_5 (by decide) ?_
    refine lv_icmp_le (tgt := 11) hx hb dX4_send_6 (by decide) (fun c2 => ?_) (fun c2 => ?_)
    · have h := ite_t h c2
      refine lv_aload_n hx hb dX4_send_11 rfl (lv_at hl 0 rfl) ?_
      refine g_get hx hb l4 hown hK hG (k := 0) (by decide) (cE_4 _ _) vwCl_4 7 (by decide) k1 (fun _ h9 => h9) rfl dX4_send_12 ?_
      refine g_get hx hb l1 hown hK hG (k := P) hP.1.1 (cE_1 hP.1 _ _) vwCl_1 2 (by decide) k2 (fun _ h9 => h9) rfl dX4_send_15 ?_
      refine lv_if_ne (tgt := 24) hx hb dX4_send_18 (by decide) (fun c3 => ?_) (fun c3 => ?_)
      · have h := ite_f h c3
        refine lv_aload_n hx hb dX4_send_24 rfl (lv_at hl 0 rfl) ?_
        obtain ⟨q4, eq4, h⟩ := obind h
        refine g_endv (va_runV (As := []) (rest := []) ⟨hx, hb, hml, hown, hts⟩ (k_X4_findWays l D cy ad P Dr tI hX I L q4 eq4) (cwV 0 hts gX4_send_X4_findWays rfl rfl rfl cd_X4_findWays ⟨Nat.le_of_ble_eq_true rfl, Nat.le_of_ble_eq_true rfl⟩) ⟨g_blind cZm, g_recv hK hG (k := 0) (by decide) (cE_4 _ _) vwCl_4, g_pre cZm hK hG hZ hS⟩ rfl rfl hl.1 rfl (lv_room (Nat.le_of_ble_eq_true rfl)) dX4_send_25 ⟨Nat.le_refl _, Nat.le_refl _⟩) hS (fun H locs hG hS => ?_)
        refine lv_aload_n hx hb dX4_send_28 rfl (lv_at hl 0 rfl) ?_
        refine g_get hx hb l4 hown hK hG (k := 0) (by decide) (cE_4 _ _) vwCl_4 5 (by decide) k3 (fun _ h9 => h9) rfl dX4_send_29 ?_
        refine lv_iconst (v := (2 : Int32)) hx hb dX4_send_32 (by decide) ?_
        refine lv_iload_n hx hb dX4_send_33 rfl (lv_at hl 1 rfl) ?_
        refine lv_imul hx hb dX4_send_34 ?_
        refine lv_aload_n hx hb dX4_send_35 rfl (lv_at hl 0 rfl) ?_
        refine g_get hx hb l4 hown hK hG (k := 0) (by decide) (cE_4 _ _) vwCl_4 2 (by decide) k4 (fun _ h9 => h9) rfl dX4_send_36 ?_
        obtain ⟨v5, ev5, h⟩ := obind h
        refine g_endi (va_runV (As := []) (rest := [.int ((2 : Int32) * x1), .ref (ad 39)]) ⟨hx, hb, hml, hown, hts⟩ (k_X0_top l D cy ad P Dr tI hX (b := 17) cDeeds_17 q4 L v5 ev5) (cwV 0 hts gX4_send_X0_top rfl rfl rfl cd_X0_top ⟨Nat.le_of_ble_eq_true rfl, Nat.le_of_ble_eq_true rfl⟩) ⟨g_blind cZm, g_recv hK hG (k := 17) cDeeds_17.1.1 (cE_0 cDeeds_17.1 _ _) vwCl_0, g_pre cZm hK hG hZ hS⟩ rfl rfl hl.1 rfl (lv_room (Nat.le_of_ble_eq_true rfl)) dX4_send_39 ⟨Nat.le_refl _, Nat.le_refl _⟩) hS (fun H locs hG hS => ?_)
        obtain ⟨q6, eq6, h⟩ := obind h
        refine g_endi (va_runV (As := [.int ((2 : Int32) * x1), .int v5]) (rest := []) ⟨hx, hb, hml, hown, hts⟩ (k_X3_byTurns l D cy ad P Dr tI hX q4 L ((2 : Int32) * x1) v5 q6 eq6) (cwV 2 hts gX4_send_X3_byTurns rfl rfl rfl cd_X3_byTurns ⟨Nat.le_of_ble_eq_true rfl, Nat.le_of_ble_eq_true rfl⟩) ⟨g_blind cZm, g_recv hK hG (k := 39) (by decide) (cE_3 _ _) vwCl_3, g_pre cZm hK hG hZ hS⟩ rfl rfl hl.1 rfl (lv_room (Nat.le_of_ble_eq_true rfl)) dX4_send_42 ⟨Nat.le_refl _, Nat.le_refl _⟩) hS (fun H locs hG hS => ?_)
        have h := Option.some.inj h
        subst h
        subst hQ
        exact g_iret hx hb hr hlocks cZm hK hZ hG hS rfl dX4_send_45
      · have h := ite_t h c3
        refine lv_bipush (v := (-4 : Int32)) hx hb dX4_send_21 (by decide) ?_
        have h := Option.some.inj h
        subst h
        subst hQ
        exact g_iret hx hb hr hlocks cZm hK hZ hG hS rfl dX4_send_23
    · have h := ite_f h c2
      refine lv_iconst (v := (-1 : Int32)) hx hb dX4_send_9 (by decide) ?_
      have h := Option.some.inj h
      subst h
      subst hQ
      exact g_iret hx hb hr hlocks cZm hK hZ hG hS rfl dX4_send_10
def X4_power_L1 (x1 : Int32) (x2 : Int32) (K1 : Int64 → Option (Int64)) : Nat → Int64 → Int32 → Option (Int64)
  | 0, _, _ => none
  | n2 + 1, x2_2, x4_2 => if x2 ≤ x4_2 then (K1 x2_2) else (X4_power_L1 x1 x2 K1 n2 (x2_2 * x1.toInt64) (x4_2 + (1 : Int32)))
def X4_power (x1 : Int32) (x2 : Int32) : Option (Int64) := X4_power_L1 x1 x2 (fun (z2_2 : Int64) => some z2_2) bigF (1 : Int64) (0 : Int32)
abbrev rm_X4_power : Room := { frames := 0, cells := 0, slots := 0, locals := 0 }
theorem cd_X4_power : yX4_power.cls = RX4 ∧ yX4_power.cls ≠ "java/lang/invoke/MethodHandle" ∧ yX4_power.cls ≠ "java/lang/invoke/VarHandle" ∧ (parseMethodDescriptor yX4_power.desc).map (fun d => d.parameters.length) = some 2 := by decide +kernel
set_option maxHeartbeats 4000000 in
set_option maxRecDepth 100000 in
theorem k_X4_power (l : Launch) (D : va_G) (cy : Nat → ClassId) (ad : Nat → Nat) (P Dr : Nat) (tI : xTab) (hX : cOk ad P Dr) (I : xMem) (L : xLon) (x1 : Int32) (x2 : Int32) (r : Int64) (h : X4_power x1 x2 = some r) : Met l yX4_power wsX4_power rm_X4_power (va_Pc [.int x1, .int x2] (cW D cy ad P Dr tI I L)) (cPl D cy ad P Dr tI I L r) 0 0 (gA 64 ad) := by
  refine g_met (own := RX4) (cc := cX4_power) (maxL := 5) (ret := (some .long)) (by decide) rfl (Nat.le_of_ble_eq_true rfl) rfl ?_
  intro p e s m args below meth c ls hx hb hml hr hlocks hown hts hG hK hZ hl
  generalize hQ : MQ below _ args s 0 0 _ = Q
  have hl : lv_has ls 5 [(0, .int x1), (1, .int x2)] := hl
  have hS : va_S (gA 64 ad) s.heap s.heap [] := va_S.rf
  obtain ⟨hi, hP, hDr⟩ := id hX
  unfold X4_power at h
  refine lv_lconst (v := (1 : Int64)) hx hb dX4_power_0 (by decide) ?_
  refine lv_lstore_n (lv' := [(2, .long (1 : Int64)), (0, .int x1), (1, .int x2)]) hx hb dX4_power_1 rfl hl (by decide) rfl (fun ls hl => ?_)
  refine lv_iconst (v := (0 : Int32)) hx hb dX4_power_2 (by decide) ?_
  refine lv_istore (lv' := [(4, .int (0 : Int32)), (2, .long (1 : Int64)), (0, .int x1), (1, .int x2)]) hx hb dX4_power_3 hl (by decide) rfl (fun ls hl => ?_)
  have keyK1 : ∀ (K1 : Int64 → Option (Int64)), (∀ (z2_2 : Int64) (H : Heap) (locs : List Loc) (ls : Array Slot), K1 z2_2 = some r → cG D cy ad P Dr I L H → va_S (gA 64 ad) s.heap H locs → lv_has ls 5 [(2, .long z2_2)] → W p l e rm_X4_power s m args below meth c H locs 0 0 Q (F0 m 22 ls [])) → ∀ (n2 : Nat) (x2_2 : Int64) (x4_2 : Int32) (H : Heap) (locs : List Loc) (ls : Array Slot), X4_power_L1 x1 x2 K1 n2 x2_2 x4_2 = some r → cG D cy ad P Dr I L H → va_S (gA 64 ad) s.heap H locs → lv_has ls 5 [(0, .int x1), (1, .int x2), (2, .long x2_2), (4, .int x4_2)] → W p l e rm_X4_power s m args below meth c H locs 0 0 Q (F0 m 5 ls []) := by
    intro K1 hkK1 n2
    induction n2 with
    | zero =>
      intro x2_2 x4_2 H locs ls h
      exact ono h
    | succ n2 ihn2 =>
      intro x2_2 x4_2 H locs ls h hG hS hl
      rw [X4_power_L1] at h
      refine lv_iload hx hb dX4_power_5 (lv_at hl 3 rfl) ?_
      refine lv_iload_n hx hb dX4_power_7 rfl (lv_at hl 1 rfl) ?_
      refine lv_icmp_ge (tgt := 22) hx hb dX4_power_8 (by decide) (fun c3 => ?_) (fun c3 => ?_)
      · have h := ite_t h c3
        exact hkK1 x2_2 _ _ _ h hG hS (lv_sub hl [2] rfl)
      · have h := ite_f h c3
        refine lv_lload_n hx hb dX4_power_11 rfl (lv_at hl 2 rfl) ?_
        refine lv_iload_n hx hb dX4_power_12 rfl (lv_at hl 0 rfl) ?_
        refine lv_i2l hx hb dX4_power_13 rfl ?_
        refine lv_lmul hx hb dX4_power_14 ?_
        refine lv_lstore_n (lv' := [(2, .long (x2_2 * x1.toInt64)), (0, .int x1), (1, .int x2), (4, .int x4_2)]) hx hb dX4_power_15 rfl hl (by decide) rfl (fun ls hl => ?_)
        refine lv_iinc (v := (x4_2 + (1 : Int32))) (lv' := [(4, .int (x4_2 + (1 : Int32))), (2, .long (x2_2 * x1.toInt64)), (0, .int x1), (1, .int x2)]) hx hb dX4_power_16 hl (k := 3) rfl rfl (by decide) rfl (fun ls hl => ?_)
        refine lv_goto (tgt := 5) hx hb dX4_power_19 (by decide) ?_
        exact ihn2 (x2_2 * x1.toInt64) (x4_2 + (1 : Int32)) _ _ _ h hG hS (lv_sub hl [2, 3, 1, 0] rfl)
  refine keyK1 _ (fun z2_2 H locs ls h hG hS hl => ?_) bigF (1 : Int64) (0 : Int32) _ _ _ h hG hS (lv_sub hl [2, 3, 1, 0] rfl)
  clear keyK1
  refine lv_lload_n hx hb dX4_power_22 rfl (lv_at hl 0 rfl) ?_
  have h := Option.some.inj h
  subst h
  subst hQ
  exact g_lret hx hb hr hlocks cZm hK hZ hG hS rfl dX4_power_23
def X4_chance (x1 : Int32) (x2 : Int32) (x3 : Int32) : Option (Int64) := if (x2 &&& (x1 ^^^ (-1 : Int32))) = (0 : Int32) then ((X4_power ((12 : Int32) - x3) (J6_bitCount_0f7a4 x2)).bind fun v2 => (X4_power x3 (J6_bitCount_0f7a4 (x1 &&& (x2 ^^^ (-1 : Int32))))).bind fun v3 => some (v2 * v3)) else (some (0 : Int64))
abbrev rm_X4_chance : Room := { frames := 1, cells := 0, slots := 0, locals := 24 }
theorem cd_X4_chance : yX4_chance.cls = RX4 ∧ yX4_chance.cls ≠ "java/lang/invoke/MethodHandle" ∧ yX4_chance.cls ≠ "java/lang/invoke/VarHandle" ∧ (parseMethodDescriptor yX4_chance.desc).map (fun d => d.parameters.length) = some 3 := by decide +kernel
set_option maxHeartbeats 4000000 in
set_option maxRecDepth 100000 in
theorem k_X4_chance (l : Launch) (D : va_G) (cy : Nat → ClassId) (ad : Nat → Nat) (P Dr : Nat) (tI : xTab) (hX : cOk ad P Dr) (I : xMem) (L : xLon) (x1 : Int32) (x2 : Int32) (x3 : Int32) (r : Int64) (h : X4_chance x1 x2 x3 = some r) : Met l yX4_chance wsX4_chance rm_X4_chance (va_Pc [.int x1, .int x2, .int x3] (cW D cy ad P Dr tI I L)) (cPl D cy ad P Dr tI I L r) 0 0 (gA 64 ad) := by
  refine g_met (own := RX4) (cc := cX4_chance) (maxL := 3) (ret := (some .long)) (by decide) rfl (Nat.le_of_ble_eq_true rfl) rfl ?_
  intro p e s m args below meth c ls hx hb hml hr hlocks hown hts hG hK hZ hl
  generalize hQ : MQ below _ args s 0 0 _ = Q
  have hl : lv_has ls 3 [(0, .int x1), (1, .int x2), (2, .int x3)] := hl
  have hS : va_S (gA 64 ad) s.heap s.heap [] := va_S.rf
  obtain ⟨hi, hP, hDr⟩ := id hX
  unfold X4_chance at h
  refine lv_iload_n hx hb dX4_chance_0 rfl (lv_at hl 1 rfl) ?_
  refine lv_iload_n hx hb dX4_chance_1 rfl (lv_at hl 0 rfl) ?_
  refine lv_iconst (v := (-1 : Int32)) hx hb dX4_chance_2 (by decide) ?_
  refine lv_ixor hx hb dX4_chance_3 ?_
  refine lv_iand hx hb dX4_chance_4 ?_
  refine lv_if_eq (tgt := 10) hx hb dX4_chance_5 (by decide) (fun c1 => ?_) (fun c1 => ?_)
  · have h := ite_t h c1
    refine lv_bipush (v := (12 : Int32)) hx hb dX4_chance_10 (by decide) ?_
    refine lv_iload_n hx hb dX4_chance_12 rfl (lv_at hl 2 rfl) ?_
    refine lv_isub hx hb dX4_chance_13 ?_
    refine lv_iload_n hx hb dX4_chance_14 rfl (lv_at hl 1 rfl) ?_
    refine g_endi (va_runS (As := [.int x2]) (rest := [.int ((12 : Int32) - x3)]) ⟨hx, hb, hml, hown, hts⟩ (k_J6_bitCount_0f7a4 l D cy ad P Dr tI hX I L x2 _ rfl) (va_cwS 1 hts gX4_chance_J6_bitCount_0f7a4 rfl rfl rfl cd_J6_bitCount_0f7a4.2 ⟨Nat.le_of_ble_eq_true rfl, Nat.le_of_ble_eq_true rfl⟩) ⟨g_blind cZm, g_pre cZm hK hG hZ hS⟩ rfl rfl hl.1 rfl (lv_room (Nat.le_of_ble_eq_true rfl)) dX4_chance_15 ⟨Nat.le_refl _, Nat.le_refl _⟩) hS (fun H locs hG hS => ?_)
    obtain ⟨v2, ev2, h⟩ := obind h
    refine g_endl (va_runS (As := [.int ((12 : Int32) - x3), .int (J6_bitCount_0f7a4 x2)]) (rest := []) ⟨hx, hb, hml, hown, hts⟩ (k_X4_power l D cy ad P Dr tI hX I L ((12 : Int32) - x3) (J6_bitCount_0f7a4 x2) v2 ev2) (va_cwS 2 hts gX4_chance_X4_power rfl rfl rfl cd_X4_power.2 ⟨Nat.le_of_ble_eq_true rfl, Nat.le_of_ble_eq_true rfl⟩) ⟨g_blind cZm, g_pre cZm hK hG hZ hS⟩ rfl rfl hl.1 rfl (lv_room (Nat.le_of_ble_eq_true rfl)) dX4_chance_18 ⟨Nat.le_refl _, Nat.le_refl _⟩) hS (fun H locs hG hS => ?_)
    refine lv_iload_n hx hb dX4_chance_21 rfl (lv_at hl 2 rfl) ?_
    refine lv_iload_n hx hb dX4_chance_22 rfl (lv_at hl 0 rfl) ?_
    refine lv_iload_n hx hb dX4_chance_23 rfl (lv_at hl 1 rfl) ?_
    refine lv_iconst (v := (-1 : Int32)) hx hb dX4_chance_24 (by decide) ?_
    refine lv_ixor hx hb dX4_chance_25 ?_
    refine lv_iand hx hb dX4_chance_26 ?_
    refine g_endi (va_runS (As := [.int (x1 &&& (x2 ^^^ (-1 : Int32)))]) (rest := [.int x3, .long v2]) ⟨hx, hb, hml, hown, hts⟩ (k_J6_bitCount_0f7a4 l D cy ad P Dr tI hX I L (x1 &&& (x2 ^^^ (-1 : Int32))) _ rfl) (va_cwS 1 hts gX4_chance_J6_bitCount_0f7a4 rfl rfl rfl cd_J6_bitCount_0f7a4.2 ⟨Nat.le_of_ble_eq_true rfl, Nat.le_of_ble_eq_true rfl⟩) ⟨g_blind cZm, g_pre cZm hK hG hZ hS⟩ rfl rfl hl.1 rfl (lv_room (Nat.le_of_ble_eq_true rfl)) dX4_chance_27 ⟨Nat.le_refl _, Nat.le_refl _⟩) hS (fun H locs hG hS => ?_)
    obtain ⟨v3, ev3, h⟩ := obind h
    refine g_endl (va_runS (As := [.int x3, .int (J6_bitCount_0f7a4 (x1 &&& (x2 ^^^ (-1 : Int32))))]) (rest := [.long v2]) ⟨hx, hb, hml, hown, hts⟩ (k_X4_power l D cy ad P Dr tI hX I L x3 (J6_bitCount_0f7a4 (x1 &&& (x2 ^^^ (-1 : Int32)))) v3 ev3) (va_cwS 2 hts gX4_chance_X4_power rfl rfl rfl cd_X4_power.2 ⟨Nat.le_of_ble_eq_true rfl, Nat.le_of_ble_eq_true rfl⟩) ⟨g_blind cZm, g_pre cZm hK hG hZ hS⟩ rfl rfl hl.1 rfl (lv_room (Nat.le_of_ble_eq_true rfl)) dX4_chance_30 ⟨Nat.le_refl _, Nat.le_refl _⟩) hS (fun H locs hG hS => ?_)
    refine lv_lmul hx hb dX4_chance_33 ?_
    have h := Option.some.inj h
    subst h
    subst hQ
    exact g_lret hx hb hr hlocks cZm hK hZ hG hS rfl dX4_chance_34
  · have h := ite_f h c1
    refine lv_lconst (v := (0 : Int64)) hx hb dX4_chance_8 (by decide) ?_
    have h := Option.some.inj h
    subst h
    subst hQ
    exact g_lret hx hb hr hlocks cZm hK hZ hG hS rfl dX4_chance_9
def X4_tell_L1 (K1 : Int64 → Option (xLon)) : Nat → Int64 → Int64 → Int32 → Option (xLon)
  | 0, _, _, _ => none
  | n2 + 1, x5_2, x7_2, x9_2 => if (1000000 : Int32) ≤ x9_2 then (K1 x5_2) else (if (lg_cmp x7_2 (0 : Int64)) = (0 : Int32) then (K1 x5_2) else ((rmL x5_2 x7_2).bind fun v5 => X4_tell_L1 K1 n2 x7_2 v5 (x9_2 + (1 : Int32))))
def X4_tell (L : xLon) (x1 : Int64) (x2 : Int64) : Option (xLon) := X4_tell_L1 (fun (z5_2 : Int64) => if (lg_cmp z5_2 (0 : Int64)) = (0 : Int32) then (some L) else ((dvL x1 z5_2).bind fun v7 => (some (wrL L 11 v7)).bind fun L8 => (dvL x2 z5_2).bind fun v9 => (some (wrL L8 12 v9)).bind fun L10 => some L10)) bigF x1 x2 (0 : Int32)
abbrev rm_X4_tell : Room := { frames := 0, cells := 0, slots := 0, locals := 0 }
theorem cd_X4_tell : yX4_tell.cls = RX4 ∧ yX4_tell.cls ≠ "java/lang/invoke/MethodHandle" ∧ yX4_tell.cls ≠ "java/lang/invoke/VarHandle" ∧ (parseMethodDescriptor yX4_tell.desc).map (fun d => d.parameters.length) = some 2 := by decide +kernel
set_option maxHeartbeats 4000000 in
set_option maxRecDepth 100000 in
theorem k_X4_tell (l : Launch) (D : va_G) (cy : Nat → ClassId) (ad : Nat → Nat) (P Dr : Nat) (tI : xTab) (hX : cOk ad P Dr) (I : xMem) (L : xLon) (x1 : Int64) (x2 : Int64) (r : xLon) (h : X4_tell L x1 x2 = some r) : Met l yX4_tell wsX4_tell rm_X4_tell (va_Pc [.ref (ad 0), .long x1, .long x2] (cW D cy ad P Dr tI I L)) (cPv D cy ad P Dr tI I r) 0 0 (gA 64 ad) := by
  refine g_met (own := RX4) (cc := cX4_tell) (maxL := 12) (ret := none) (by decide) rfl (Nat.le_of_ble_eq_true rfl) rfl ?_
  intro p e s m args below meth c ls hx hb hml hr hlocks hown hts hG hK hZ hl
  generalize hQ : MQ below _ args s 0 0 _ = Q
  have hl : lv_has ls 12 [(0, .ref (ad 0)), (1, .long x1), (3, .long x2)] := hl
  have hS : va_S (gA 64 ad) s.heap s.heap [] := va_S.rf
  obtain ⟨hi, hP, hDr⟩ := id hX
  have l4 : ∀ w ∈ wsX40, w.before args s = true := fun w h => hts w (List.mem_cons_of_mem _ (List.mem_append_right _ h))
  have k1 := hts (.constant RX4 338 (1000000)) (by decide +kernel)
  have k2 := hts (.fieldLink RX4 264 "PairStairs" "above" "J") (by decide +kernel)
  have k3 := hts (.fieldLink RX4 57 "PairStairs" "below" "J") (by decide +kernel)
  unfold X4_tell at h
  refine lv_lload_n hx hb dX4_tell_0 rfl (lv_at hl 1 rfl) ?_
  refine lv_lstore (lv' := [(5, .long x1), (0, .ref (ad 0)), (1, .long x1), (3, .long x2)]) hx hb dX4_tell_1 hl (by decide) rfl (fun ls hl => ?_)
  refine lv_lload_n hx hb dX4_tell_3 rfl (lv_at hl 3 rfl) ?_
  refine lv_lstore (lv' := [(7, .long x2), (5, .long x1), (0, .ref (ad 0)), (1, .long x1), (3, .long x2)]) hx hb dX4_tell_4 hl (by decide) rfl (fun ls hl => ?_)
  refine lv_iconst (v := (0 : Int32)) hx hb dX4_tell_6 (by decide) ?_
  refine lv_istore (lv' := [(9, .int (0 : Int32)), (7, .long x2), (5, .long x1), (0, .ref (ad 0)), (1, .long x1), (3, .long x2)]) hx hb dX4_tell_7 hl (by decide) rfl (fun ls hl => ?_)
  have keyK1 : ∀ (K1 : Int64 → Option (xLon)), (∀ (z5_2 : Int64) (H : Heap) (locs : List Loc) (ls : Array Slot), K1 z5_2 = some r → cG D cy ad P Dr I L H → va_S (gA 64 ad) s.heap H locs → lv_has ls 12 [(0, .ref (ad 0)), (1, .long x1), (3, .long x2), (5, .long z5_2)] → W p l e rm_X4_tell s m args below meth c H locs 0 0 Q (F0 m 45 ls [])) → ∀ (n2 : Nat) (x5_2 : Int64) (x7_2 : Int64) (x9_2 : Int32) (H : Heap) (locs : List Loc) (ls : Array Slot), X4_tell_L1 K1 n2 x5_2 x7_2 x9_2 = some r → cG D cy ad P Dr I L H → va_S (gA 64 ad) s.heap H locs → lv_has ls 12 [(0, .ref (ad 0)), (1, .long x1), (3, .long x2), (5, .long x5_2), (7, .long x7_2), (9, .int x9_2)] → W p l e rm_X4_tell s m args below meth c H locs 0 0 Q (F0 m 9 ls []) := by
    intro K1 hkK1 n2
    induction n2 with
    | zero =>
      intro x5_2 x7_2 x9_2 H locs ls h
      exact ono h
    | succ n2 ihn2 =>
      intro x5_2 x7_2 x9_2 H locs ls h hG hS hl
      rw [X4_tell_L1] at h
      refine lv_iload hx hb dX4_tell_9 (lv_at hl 5 rfl) ?_
      refine lv_ldcw (v := (1000000 : Int32)) hx hb hown k1 dX4_tell_11 ?_
      refine lv_icmp_ge (tgt := 45) hx hb dX4_tell_14 (by decide) (fun c3 => ?_) (fun c3 => ?_)
      · have h := ite_t h c3
        exact hkK1 x5_2 _ _ _ h hG hS (lv_sub hl [0, 1, 2, 3] rfl)
      · have h := ite_f h c3
        refine lv_lload hx hb dX4_tell_17 (lv_at hl 4 rfl) ?_
        refine lv_lconst (v := (0 : Int64)) hx hb dX4_tell_19 (by decide) ?_
        refine W.lcmp hx hb dX4_tell_20 ?_
        refine lv_if_eq (tgt := 45) hx hb dX4_tell_21 (by decide) (fun c4 => ?_) (fun c4 => ?_)
        · have h := ite_t h c4
          exact hkK1 x5_2 _ _ _ h hG hS (lv_sub hl [0, 1, 2, 3] rfl)
        · have h := ite_f h c4
          refine lv_lload hx hb dX4_tell_24 (lv_at hl 3 rfl) ?_
          refine lv_lload hx hb dX4_tell_26 (lv_at hl 4 rfl) ?_
          refine g_lrem hx hb h dX4_tell_28 (fun v5 h => ?_)
          refine lv_lstore (lv' := [(10, .long v5), (0, .ref (ad 0)), (1, .long x1), (3, .long x2), (5, .long x5_2), (7, .long x7_2), (9, .int x9_2)]) hx hb dX4_tell_29 hl (by decide) rfl (fun ls hl => ?_)
          refine lv_lload hx hb dX4_tell_31 (lv_at hl 5 rfl) ?_
          refine lv_lstore (lv' := [(5, .long x7_2), (10, .long v5), (0, .ref (ad 0)), (1, .long x1), (3, .long x2), (7, .long x7_2), (9, .int x9_2)]) hx hb dX4_tell_33 hl (by decide) rfl (fun ls hl => ?_)
          refine lv_lload hx hb dX4_tell_35 (lv_at hl 1 rfl) ?_
          refine lv_lstore (lv' := [(7, .long v5), (5, .long x7_2), (10, .long v5), (0, .ref (ad 0)), (1, .long x1), (3, .long x2), (9, .int x9_2)]) hx hb dX4_tell_37 hl (by decide) rfl (fun ls hl => ?_)
          refine lv_iinc (v := (x9_2 + (1 : Int32))) (lv' := [(9, .int (x9_2 + (1 : Int32))), (7, .long v5), (5, .long x7_2), (10, .long v5), (0, .ref (ad 0)), (1, .long x1), (3, .long x2)]) hx hb dX4_tell_39 hl (k := 6) rfl rfl (by decide) rfl (fun ls hl => ?_)
          refine lv_goto (tgt := 9) hx hb dX4_tell_42 (by decide) ?_
          exact ihn2 x7_2 v5 (x9_2 + (1 : Int32)) _ _ _ h hG hS (lv_sub hl [4, 5, 6, 2, 1, 0] rfl)
  refine keyK1 _ (fun z5_2 H locs ls h hG hS hl => ?_) bigF x1 x2 (0 : Int32) _ _ _ h hG hS (lv_sub hl [3, 4, 5, 2, 1, 0] rfl)
  clear keyK1
  refine lv_lload hx hb dX4_tell_45 (lv_at hl 3 rfl) ?_
  refine lv_lconst (v := (0 : Int64)) hx hb dX4_tell_47 (by decide) ?_
  refine W.lcmp hx hb dX4_tell_48 ?_
  refine lv_if_ne (tgt := 53) hx hb dX4_tell_49 (by decide) (fun c6 => ?_) (fun c6 => ?_)
  · have h := ite_f h c6
    refine lv_aload_n hx hb dX4_tell_53 rfl (lv_at hl 0 rfl) ?_
    refine lv_lload_n hx hb dX4_tell_54 rfl (lv_at hl 1 rfl) ?_
    refine lv_lload hx hb dX4_tell_55 (lv_at hl 3 rfl) ?_
    refine g_ldiv hx hb h dX4_tell_57 (fun v7 h => ?_)
    obtain ⟨L8, eL8, h⟩ := obind h
    refine g_putL hx hb l4 tyX4_ok nmX4 hown hK hG hi hS (k := 0) (by decide) (cE_4 _ _) vwCl_4 11 (by decide) k2 (fun _ h9 => h9) rfl rfl (Nat.le_of_ble_eq_true rfl) rfl (fun a ha => cE_L _ _ a _ ha) dX4_tell_58 (fun H locs hG hS => ?_)
    rw [Option.some.inj eL8] at hG
    refine lv_aload_n hx hb dX4_tell_61 rfl (lv_at hl 0 rfl) ?_
    refine lv_lload_n hx hb dX4_tell_62 rfl (lv_at hl 2 rfl) ?_
    refine lv_lload hx hb dX4_tell_63 (lv_at hl 3 rfl) ?_
    refine g_ldiv hx hb h dX4_tell_65 (fun v9 h => ?_)
    obtain ⟨L10, eL10, h⟩ := obind h
    refine g_putL hx hb l4 tyX4_ok nmX4 hown hK hG hi hS (k := 0) (by decide) (cE_4 _ _) vwCl_4 12 (by decide) k3 (fun _ h9 => h9) rfl rfl (Nat.le_of_ble_eq_true rfl) rfl (fun a ha => cE_L _ _ a _ ha) dX4_tell_66 (fun H locs hG hS => ?_)
    rw [Option.some.inj eL10] at hG
    have h := Option.some.inj h
    subst h
    subst hQ
    exact g_vret hx hb hr hlocks cZm hK hZ hG hS dX4_tell_69
  · have h := ite_t h c6
    have h := Option.some.inj h
    subst h
    subst hQ
    exact g_vret hx hb hr hlocks cZm hK hZ hG hS dX4_tell_52
def X4_odds_L1 (P : Nat) (I : xMem) (x1 : Int32) (x2 : Int32) (x3 : Int32) (K6 : Int64 → Option (Int32 × xLon)) : Nat → Int64 → Int32 → Option (Int32 × xLon)
  | 0, _, _ => none
  | n7 + 1, x4_7, x6_7 => if (X1_allStones P I) < x6_7 then (K6 x4_7) else ((X4_least P I x1 x2 x6_7).bind fun v9 => if (I P 0) < (v9 / (256 : Int32)) then (X4_odds_L1 P I x1 x2 x3 K6 n7 x4_7 (x6_7 + (1 : Int32))) else ((X4_stonesWith P I x1).bind fun v11 => (X4_chance v11 x6_7 x3).bind fun v12 => X4_odds_L1 P I x1 x2 x3 K6 n7 (x4_7 + v12) (x6_7 + (1 : Int32))))
def X4_odds (P : Nat) (I : xMem) (L : xLon) (x1 : Int32) (x2 : Int32) (x3 : Int32) : Option (Int32 × xLon) := if (X4_isNoPair P I x1 x2) = (0 : Int32) then (if x3 < (0 : Int32) then (some ((-1 : Int32), L)) else (if x3 ≤ (12 : Int32) then ((X4_areApart I x1 x2).bind fun v4 => if v4 = (0 : Int32) then (X4_odds_L1 P I x1 x2 x3 (fun (z4_7 : Int64) => (X4_stonesWith P I x1).bind fun v13 => (X4_power (12 : Int32) (J6_bitCount_0f7a4 v13)).bind fun v14 => (X4_tell L z4_7 v14).bind fun q15 => some ((1 : Int32), q15)) bigF (0 : Int64) (0 : Int32)) else (some ((-4 : Int32), L))) else (some ((-1 : Int32), L)))) else (some ((-1 : Int32), L))
abbrev rm_X4_odds : Room := { frames := 4, cells := 0, slots := 0, locals := 93 }
theorem cd_X4_odds : yX4_odds.cls = RX4 ∧ yX4_odds.cls ≠ "java/lang/invoke/MethodHandle" ∧ yX4_odds.cls ≠ "java/lang/invoke/VarHandle" ∧ (parseMethodDescriptor yX4_odds.desc).map (fun d => d.parameters.length) = some 3 := by decide +kernel
set_option maxHeartbeats 4000000 in
set_option maxRecDepth 100000 in
theorem k_X4_odds (l : Launch) (D : va_G) (cy : Nat → ClassId) (ad : Nat → Nat) (P Dr : Nat) (tI : xTab) (hX : cOk ad P Dr) (I : xMem) (L : xLon) (x1 : Int32) (x2 : Int32) (x3 : Int32) (r : Int32 × xLon) (h : X4_odds P I L x1 x2 x3 = some r) : Met l yX4_odds wsX4_odds rm_X4_odds (va_Pc [.ref (ad 0), .int x1, .int x2, .int x3] (cW D cy ad P Dr tI I L)) (cPi D cy ad P Dr tI I r.2 r.1) 0 0 (gA 64 ad) := by
  refine g_met (own := RX4) (cc := cX4_odds) (maxL := 7) (ret := (some .int)) (by decide) rfl (Nat.le_of_ble_eq_true rfl) rfl ?_
  intro p e s m args below meth c ls hx hb hml hr hlocks hown hts hG hK hZ hl
  generalize hQ : MQ below _ args s 0 0 _ = Q
  have hl : lv_has ls 7 [(0, .ref (ad 0)), (1, .int x1), (2, .int x2), (3, .int x3)] := hl
  have hS : va_S (gA 64 ad) s.heap s.heap [] := va_S.rf
  obtain ⟨hi, hP, hDr⟩ := id hX
  have l1 : ∀ w ∈ wsX10, w.before args s = true := fun w h => hts w (List.mem_cons_of_mem _ (List.mem_append_left _ (List.mem_append_right _ h)))
  have l4 : ∀ w ∈ wsX40, w.before args s = true := fun w h => hts w (List.mem_cons_of_mem _ (List.mem_append_left _ (List.mem_append_left _ (List.mem_append_right _ h))))
  have k1 := hts (.fieldLink RX4 50 "PairStairs" "plan" "LPairStairs$Plan;") (by decide +kernel)
  have k2 := hts (.fieldLink RX4 168 "PairStairs$Plan" "limit" "I") (by decide +kernel)
  unfold X4_odds at h
  refine lv_aload_n hx hb dX4_odds_0 rfl (lv_at hl 0 rfl) ?_
  refine lv_iload_n hx hb dX4_odds_1 rfl (lv_at hl 1 rfl) ?_
  refine lv_iload_n hx hb dX4_odds_2 rfl (lv_at hl 2 rfl) ?_
  refine g_endi (va_runV (As := [.int x1, .int x2]) (rest := []) ⟨hx, hb, hml, hown, hts⟩ (k_X4_isNoPair l D cy ad P Dr tI hX I L x1 x2 _ rfl) (cwV 2 hts gX4_odds_X4_isNoPair rfl rfl rfl cd_X4_isNoPair ⟨Nat.le_of_ble_eq_true rfl, Nat.le_of_ble_eq_true rfl⟩) ⟨g_blind cZm, g_recv hK hG (k := 0) (by decide) (cE_4 _ _) vwCl_4, g_pre cZm hK hG hZ hS⟩ rfl rfl hl.1 rfl (lv_room (Nat.le_of_ble_eq_true rfl)) dX4_odds_3 ⟨Nat.le_refl _, Nat.le_refl _⟩) hS (fun H locs hG hS => ?_)
  refine lv_if_ne (tgt := 19) hx hb dX4_odds_6 (by decide) (fun c1 => ?_) (fun c1 => ?_)
  · have h := ite_f h c1
    refine lv_iconst (v := (-1 : Int32)) hx hb dX4_odds_19 (by decide) ?_
    have h := Option.some.inj h
    subst h
    subst hQ
    exact g_iret hx hb hr hlocks cZm hK hZ hG hS rfl dX4_odds_20
  · have h := ite_t h c1
    refine lv_iload_n hx hb dX4_odds_9 rfl (lv_at hl 3 rfl) ?_
    refine lv_if_lt (tgt := 19) hx hb dX4_odds_10 (by decide) (fun c2 => ?_) (fun c2 => ?_)
    · have h := ite_t h c2
      refine lv_iconst (v := (-1 : Int32)) hx hb dX4_odds_19 (by decide) ?_
      have h := Option.some.inj h
      subst h
      subst hQ
      exact g_iret hx hb hr hlocks cZm hK hZ hG hS rfl dX4_odds_20
    · have h := ite_f h c2
      refine lv_iload_n hx hb dX4_odds_13 rfl (lv_at hl 3 rfl) ?_
      refine lv_bipush (v := (12 : Int32)) hx hb dX4_odds_14 (by decide) ?_
      refine lv_icmp_le (tgt := 21) hx hb dX4_odds_16 (by decide) (fun c3 => ?_) (fun c3 => ?_)
      · have h := ite_t h c3
        refine lv_aload_n hx hb dX4_odds_21 rfl (lv_at hl 0 rfl) ?_
        refine lv_iload_n hx hb dX4_odds_22 rfl (lv_at hl 1 rfl) ?_
        refine lv_iload_n hx hb dX4_odds_23 rfl (lv_at hl 2 rfl) ?_
        obtain ⟨v4, ev4, h⟩ := obind h
        refine g_endi (va_runV (As := [.int x1, .int x2]) (rest := []) ⟨hx, hb, hml, hown, hts⟩ (k_X4_areApart l D cy ad P Dr tI hX I L x1 x2 v4 ev4) (cwV 2 hts gX4_odds_X4_areApart rfl rfl rfl cd_X4_areApart ⟨Nat.le_of_ble_eq_true rfl, Nat.le_of_ble_eq_true rfl⟩) ⟨g_blind cZm, g_recv hK hG (k := 0) (by decide) (cE_4 _ _) vwCl_4, g_pre cZm hK hG hZ hS⟩ rfl rfl hl.1 rfl (lv_room (Nat.le_of_ble_eq_true rfl)) dX4_odds_24 ⟨Nat.le_refl _, Nat.le_refl _⟩) hS (fun H locs hG hS => ?_)
        refine lv_if_eq (tgt := 33) hx hb dX4_odds_27 (by decide) (fun c5 => ?_) (fun c5 => ?_)
        · have h := ite_t h c5
          refine lv_lconst (v := (0 : Int64)) hx hb dX4_odds_33 (by decide) ?_
          refine lv_lstore (lv' := [(4, .long (0 : Int64)), (0, .ref (ad 0)), (1, .int x1), (2, .int x2), (3, .int x3)]) hx hb dX4_odds_34 hl (by decide) rfl (fun ls hl => ?_)
          refine lv_iconst (v := (0 : Int32)) hx hb dX4_odds_36 (by decide) ?_
          refine lv_istore (lv' := [(6, .int (0 : Int32)), (4, .long (0 : Int64)), (0, .ref (ad 0)), (1, .int x1), (2, .int x2), (3, .int x3)]) hx hb dX4_odds_37 hl (by decide) rfl (fun ls hl => ?_)
          have keyK6 : ∀ (K6 : Int64 → Option (Int32 × xLon)), (∀ (z4_7 : Int64) (H : Heap) (locs : List Loc) (ls : Array Slot), K6 z4_7 = some r → cG D cy ad P Dr I L H → va_S (gA 64 ad) s.heap H locs → lv_has ls 7 [(0, .ref (ad 0)), (1, .int x1), (4, .long z4_7)] → W p l e rm_X4_odds s m args below meth c H locs 0 0 Q (F0 m 95 ls [])) → ∀ (n7 : Nat) (x4_7 : Int64) (x6_7 : Int32) (H : Heap) (locs : List Loc) (ls : Array Slot), X4_odds_L1 P I x1 x2 x3 K6 n7 x4_7 x6_7 = some r → cG D cy ad P Dr I L H → va_S (gA 64 ad) s.heap H locs → lv_has ls 7 [(0, .ref (ad 0)), (1, .int x1), (2, .int x2), (3, .int x3), (4, .long x4_7), (6, .int x6_7)] → W p l e rm_X4_odds s m args below meth c H locs 0 0 Q (F0 m 39 ls []) := by
            intro K6 hkK6 n7
            induction n7 with
            | zero =>
              intro x4_7 x6_7 H locs ls h
              exact ono h
            | succ n7 ihn7 =>
              intro x4_7 x6_7 H locs ls h hG hS hl
              rw [X4_odds_L1] at h
              refine lv_iload hx hb dX4_odds_39 (lv_at hl 5 rfl) ?_
              refine lv_aload_n hx hb dX4_odds_41 rfl (lv_at hl 0 rfl) ?_
              refine g_get hx hb l4 hown hK hG (k := 0) (by decide) (cE_4 _ _) vwCl_4 7 (by decide) k1 (fun _ h9 => h9) rfl dX4_odds_42 ?_
              refine g_endi (va_runV (As := []) (rest := [.int x6_7]) ⟨hx, hb, hml, hown, hts⟩ (k_X1_allStones l D cy ad P Dr tI hX (b := P) hP I L _ rfl) (cwV 0 hts gX4_odds_X1_allStones rfl rfl rfl cd_X1_allStones ⟨Nat.le_of_ble_eq_true rfl, Nat.le_of_ble_eq_true rfl⟩) ⟨g_blind cZm, g_recv hK hG (k := P) hP.1.1 (cE_1 hP.1 _ _) vwCl_1, g_pre cZm hK hG hZ hS⟩ rfl rfl hl.1 rfl (lv_room (Nat.le_of_ble_eq_true rfl)) dX4_odds_45 ⟨Nat.le_refl _, Nat.le_refl _⟩) hS (fun H locs hG hS => ?_)
              refine lv_icmp_gt (tgt := 95) hx hb dX4_odds_48 (by decide) (fun c8 => ?_) (fun c8 => ?_)
              · have h := ite_t h c8
                exact hkK6 x4_7 _ _ _ h hG hS (lv_sub hl [0, 1, 4] rfl)
              · have h := ite_f h c8
                refine lv_aload_n hx hb dX4_odds_51 rfl (lv_at hl 0 rfl) ?_
                refine lv_iload_n hx hb dX4_odds_52 rfl (lv_at hl 1 rfl) ?_
                refine lv_iload_n hx hb dX4_odds_53 rfl (lv_at hl 2 rfl) ?_
                refine lv_iload hx hb dX4_odds_54 (lv_at hl 5 rfl) ?_
                obtain ⟨v9, ev9, h⟩ := obind h
                refine g_endi (va_runV (As := [.int x1, .int x2, .int x6_7]) (rest := []) ⟨hx, hb, hml, hown, hts⟩ (k_X4_least l D cy ad P Dr tI hX I L x1 x2 x6_7 v9 ev9) (cwV 3 hts gX4_odds_X4_least rfl rfl rfl cd_X4_least ⟨Nat.le_of_ble_eq_true rfl, Nat.le_of_ble_eq_true rfl⟩) ⟨g_blind cZm, g_recv hK hG (k := 0) (by decide) (cE_4 _ _) vwCl_4, g_pre cZm hK hG hZ hS⟩ rfl rfl hl.1 rfl (lv_room (Nat.le_of_ble_eq_true rfl)) dX4_odds_56 ⟨Nat.le_refl _, Nat.le_refl _⟩) hS (fun H locs hG hS => ?_)
                refine lv_sipush (v := (256 : Int32)) hx hb dX4_odds_59 (by decide) ?_
                refine lv_idiv hx hb dX4_odds_62 (by decide) ?_
                refine lv_aload_n hx hb dX4_odds_63 rfl (lv_at hl 0 rfl) ?_
                refine g_get hx hb l4 hown hK hG (k := 0) (by decide) (cE_4 _ _) vwCl_4 7 (by decide) k1 (fun _ h9 => h9) rfl dX4_odds_64 ?_
                refine g_get hx hb l1 hown hK hG (k := P) hP.1.1 (cE_1 hP.1 _ _) vwCl_1 0 (by decide) k2 (fun _ h9 => h9) rfl dX4_odds_67 ?_
                refine lv_icmp_gt (tgt := 89) hx hb dX4_odds_70 (by decide) (fun c10 => ?_) (fun c10 => ?_)
                · have h := ite_t h c10
                  refine lv_iinc (v := (x6_7 + (1 : Int32))) (lv' := [(6, .int (x6_7 + (1 : Int32))), (0, .ref (ad 0)), (1, .int x1), (2, .int x2), (3, .int x3), (4, .long x4_7)]) hx hb dX4_odds_89 hl (k := 5) rfl rfl (by decide) rfl (fun ls hl => ?_)
                  refine lv_goto (tgt := 39) hx hb dX4_odds_92 (by decide) ?_
                  exact ihn7 x4_7 (x6_7 + (1 : Int32)) _ _ _ h hG hS (lv_sub hl [1, 2, 3, 4, 5, 0] rfl)
                · have h := ite_f h c10
                  refine lv_lload hx hb dX4_odds_73 (lv_at hl 4 rfl) ?_
                  refine lv_aload_n hx hb dX4_odds_75 rfl (lv_at hl 0 rfl) ?_
                  refine lv_iload_n hx hb dX4_odds_76 rfl (lv_at hl 1 rfl) ?_
                  obtain ⟨v11, ev11, h⟩ := obind h
                  refine g_endi (va_runV (As := [.int x1]) (rest := [.long x4_7]) ⟨hx, hb, hml, hown, hts⟩ (k_X4_stonesWith l D cy ad P Dr tI hX I L x1 v11 ev11) (cwV 1 hts gX4_odds_X4_stonesWith rfl rfl rfl cd_X4_stonesWith ⟨Nat.le_of_ble_eq_true rfl, Nat.le_of_ble_eq_true rfl⟩) ⟨g_blind cZm, g_recv hK hG (k := 0) (by decide) (cE_4 _ _) vwCl_4, g_pre cZm hK hG hZ hS⟩ rfl rfl hl.1 rfl (lv_room (Nat.le_of_ble_eq_true rfl)) dX4_odds_77 ⟨Nat.le_refl _, Nat.le_refl _⟩) hS (fun H locs hG hS => ?_)
                  refine lv_iload hx hb dX4_odds_80 (lv_at hl 5 rfl) ?_
                  refine lv_iload_n hx hb dX4_odds_82 rfl (lv_at hl 3 rfl) ?_
                  obtain ⟨v12, ev12, h⟩ := obind h
                  refine g_endl (va_runS (As := [.int v11, .int x6_7, .int x3]) (rest := [.long x4_7]) ⟨hx, hb, hml, hown, hts⟩ (k_X4_chance l D cy ad P Dr tI hX I L v11 x6_7 x3 v12 ev12) (va_cwS 3 hts gX4_odds_X4_chance rfl rfl rfl cd_X4_chance.2 ⟨Nat.le_of_ble_eq_true rfl, Nat.le_of_ble_eq_true rfl⟩) ⟨g_blind cZm, g_pre cZm hK hG hZ hS⟩ rfl rfl hl.1 rfl (lv_room (Nat.le_of_ble_eq_true rfl)) dX4_odds_83 ⟨Nat.le_refl _, Nat.le_refl _⟩) hS (fun H locs hG hS => ?_)
                  refine lv_ladd hx hb dX4_odds_86 ?_
                  refine lv_lstore (lv' := [(4, .long (x4_7 + v12)), (0, .ref (ad 0)), (1, .int x1), (2, .int x2), (3, .int x3), (6, .int x6_7)]) hx hb dX4_odds_87 hl (by decide) rfl (fun ls hl => ?_)
                  refine lv_iinc (v := (x6_7 + (1 : Int32))) (lv' := [(6, .int (x6_7 + (1 : Int32))), (4, .long (x4_7 + v12)), (0, .ref (ad 0)), (1, .int x1), (2, .int x2), (3, .int x3)]) hx hb dX4_odds_89 hl (k := 5) rfl rfl (by decide) rfl (fun ls hl => ?_)
                  refine lv_goto (tgt := 39) hx hb dX4_odds_92 (by decide) ?_
                  exact ihn7 (x4_7 + v12) (x6_7 + (1 : Int32)) _ _ _ h hG hS (lv_sub hl [2, 3, 4, 5, 1, 0] rfl)
          refine keyK6 _ (fun z4_7 H locs ls h hG hS hl => ?_) bigF (0 : Int64) (0 : Int32) _ _ _ h hG hS (lv_sub hl [2, 3, 4, 5, 1, 0] rfl)
          clear keyK6
          refine lv_aload_n hx hb dX4_odds_95 rfl (lv_at hl 0 rfl) ?_
          refine lv_lload hx hb dX4_odds_96 (lv_at hl 2 rfl) ?_
          refine lv_bipush (v := (12 : Int32)) hx hb dX4_odds_98 (by decide) ?_
          refine lv_aload_n hx hb dX4_odds_100 rfl (lv_at hl 0 rfl) ?_
          refine lv_iload_n hx hb dX4_odds_101 rfl (lv_at hl 1 rfl) ?_
          obtain ⟨v13, ev13, h⟩ := obind h
          refine g_endi (va_runV (As := [.int x1]) (rest := [.int (12 : Int32), .long z4_7, .ref (ad 0)]) ⟨hx, hb, hml, hown, hts⟩ (k_X4_stonesWith l D cy ad P Dr tI hX I L x1 v13 ev13) (cwV 1 hts gX4_odds_X4_stonesWith rfl rfl rfl cd_X4_stonesWith ⟨Nat.le_of_ble_eq_true rfl, Nat.le_of_ble_eq_true rfl⟩) ⟨g_blind cZm, g_recv hK hG (k := 0) (by decide) (cE_4 _ _) vwCl_4, g_pre cZm hK hG hZ hS⟩ rfl rfl hl.1 rfl (lv_room (Nat.le_of_ble_eq_true rfl)) dX4_odds_102 ⟨Nat.le_refl _, Nat.le_refl _⟩) hS (fun H locs hG hS => ?_)
          refine g_endi (va_runS (As := [.int v13]) (rest := [.int (12 : Int32), .long z4_7, .ref (ad 0)]) ⟨hx, hb, hml, hown, hts⟩ (k_J6_bitCount_0f7a4 l D cy ad P Dr tI hX I L v13 _ rfl) (va_cwS 1 hts gX4_odds_J6_bitCount_0f7a4 rfl rfl rfl cd_J6_bitCount_0f7a4.2 ⟨Nat.le_of_ble_eq_true rfl, Nat.le_of_ble_eq_true rfl⟩) ⟨g_blind cZm, g_pre cZm hK hG hZ hS⟩ rfl rfl hl.1 rfl (lv_room (Nat.le_of_ble_eq_true rfl)) dX4_odds_105 ⟨Nat.le_refl _, Nat.le_refl _⟩) hS (fun H locs hG hS => ?_)
          obtain ⟨v14, ev14, h⟩ := obind h
          refine g_endl (va_runS (As := [.int (12 : Int32), .int (J6_bitCount_0f7a4 v13)]) (rest := [.long z4_7, .ref (ad 0)]) ⟨hx, hb, hml, hown, hts⟩ (k_X4_power l D cy ad P Dr tI hX I L (12 : Int32) (J6_bitCount_0f7a4 v13) v14 ev14) (va_cwS 2 hts gX4_odds_X4_power rfl rfl rfl cd_X4_power.2 ⟨Nat.le_of_ble_eq_true rfl, Nat.le_of_ble_eq_true rfl⟩) ⟨g_blind cZm, g_pre cZm hK hG hZ hS⟩ rfl rfl hl.1 rfl (lv_room (Nat.le_of_ble_eq_true rfl)) dX4_odds_108 ⟨Nat.le_refl _, Nat.le_refl _⟩) hS (fun H locs hG hS => ?_)
          obtain ⟨q15, eq15, h⟩ := obind h
          refine g_endv (va_runV (As := [.long z4_7, .long v14]) (rest := []) ⟨hx, hb, hml, hown, hts⟩ (k_X4_tell l D cy ad P Dr tI hX I L z4_7 v14 q15 eq15) (cwV 2 hts gX4_odds_X4_tell rfl rfl rfl cd_X4_tell ⟨Nat.le_of_ble_eq_true rfl, Nat.le_of_ble_eq_true rfl⟩) ⟨g_blind cZm, g_recv hK hG (k := 0) (by decide) (cE_4 _ _) vwCl_4, g_pre cZm hK hG hZ hS⟩ rfl rfl hl.1 rfl (lv_room (Nat.le_of_ble_eq_true rfl)) dX4_odds_111 ⟨Nat.le_refl _, Nat.le_refl _⟩) hS (fun H locs hG hS => ?_)
          refine lv_iconst (v := (1 : Int32)) hx hb dX4_odds_114 (by decide) ?_
          have h := Option.some.inj h
          subst h
          subst hQ
          exact g_iret hx hb hr hlocks cZm hK hZ hG hS rfl dX4_odds_115
        · have h := ite_f h c5
          refine lv_bipush (v := (-4 : Int32)) hx hb dX4_odds_30 (by decide) ?_
          have h := Option.some.inj h
          subst h
          subst hQ
          exact g_iret hx hb hr hlocks cZm hK hZ hG hS rfl dX4_odds_32
      · have h := ite_f h c3
        refine lv_iconst (v := (-1 : Int32)) hx hb dX4_odds_19 (by decide) ?_
        have h := Option.some.inj h
        subst h
        subst hQ
        exact g_iret hx hb hr hlocks cZm hK hZ hG hS rfl dX4_odds_20
def X4_mid_L1 (P : Nat) (I : xMem) (x1 : Int32) (x2 : Int32) (x3 : Int32) (K6 : Int64 → Option (Int32 × xLon)) : Nat → Int64 → Int32 → Option (Int32 × xLon)
  | 0, _, _ => none
  | n7 + 1, x4_7, x6_7 => if (X1_allStones P I) < x6_7 then (K6 x4_7) else ((X4_stonesWith P I x1).bind fun v9 => (X4_chance v9 x6_7 x3).bind fun v10 => (X4_least P I x1 x2 x6_7).bind fun v11 => X4_mid_L1 P I x1 x2 x3 K6 n7 (x4_7 + (v10 * (v11 / (256 : Int32)).toInt64)) (x6_7 + (1 : Int32)))
def X4_mid (P : Nat) (I : xMem) (L : xLon) (x1 : Int32) (x2 : Int32) (x3 : Int32) : Option (Int32 × xLon) := if (X4_isNoPair P I x1 x2) = (0 : Int32) then (if x3 < (0 : Int32) then (some ((-1 : Int32), L)) else (if x3 ≤ (12 : Int32) then ((X4_areApart I x1 x2).bind fun v4 => if v4 = (0 : Int32) then (X4_mid_L1 P I x1 x2 x3 (fun (z4_7 : Int64) => (X4_stonesWith P I x1).bind fun v12 => (X4_power (12 : Int32) (J6_bitCount_0f7a4 v12)).bind fun v13 => (X4_tell L z4_7 v13).bind fun q14 => some ((1 : Int32), q14)) bigF (0 : Int64) (0 : Int32)) else (some ((-4 : Int32), L))) else (some ((-1 : Int32), L)))) else (some ((-1 : Int32), L))
abbrev rm_X4_mid : Room := { frames := 4, cells := 0, slots := 0, locals := 93 }
theorem cd_X4_mid : yX4_mid.cls = RX4 ∧ yX4_mid.cls ≠ "java/lang/invoke/MethodHandle" ∧ yX4_mid.cls ≠ "java/lang/invoke/VarHandle" ∧ (parseMethodDescriptor yX4_mid.desc).map (fun d => d.parameters.length) = some 3 := by decide +kernel
set_option maxHeartbeats 4000000 in
set_option maxRecDepth 100000 in
theorem k_X4_mid (l : Launch) (D : va_G) (cy : Nat → ClassId) (ad : Nat → Nat) (P Dr : Nat) (tI : xTab) (hX : cOk ad P Dr) (I : xMem) (L : xLon) (x1 : Int32) (x2 : Int32) (x3 : Int32) (r : Int32 × xLon) (h : X4_mid P I L x1 x2 x3 = some r) : Met l yX4_mid wsX4_mid rm_X4_mid (va_Pc [.ref (ad 0), .int x1, .int x2, .int x3] (cW D cy ad P Dr tI I L)) (cPi D cy ad P Dr tI I r.2 r.1) 0 0 (gA 64 ad) := by
  refine g_met (own := RX4) (cc := cX4_mid) (maxL := 7) (ret := (some .int)) (by decide) rfl (Nat.le_of_ble_eq_true rfl) rfl ?_
  intro p e s m args below meth c ls hx hb hml hr hlocks hown hts hG hK hZ hl
  generalize hQ : MQ below _ args s 0 0 _ = Q
  have hl : lv_has ls 7 [(0, .ref (ad 0)), (1, .int x1), (2, .int x2), (3, .int x3)] := hl
  have hS : va_S (gA 64 ad) s.heap s.heap [] := va_S.rf
  obtain ⟨hi, hP, hDr⟩ := id hX
  have l4 : ∀ w ∈ wsX40, w.before args s = true := fun w h => hts w (List.mem_cons_of_mem _ (List.mem_append_left _ (List.mem_append_left _ (List.mem_append_right _ h))))
  have k1 := hts (.fieldLink RX4 50 "PairStairs" "plan" "LPairStairs$Plan;") (by decide +kernel)
  unfold X4_mid at h
  refine lv_aload_n hx hb dX4_mid_0 rfl (lv_at hl 0 rfl) ?_
  refine lv_iload_n hx hb dX4_mid_1 rfl (lv_at hl 1 rfl) ?_
  refine lv_iload_n hx hb dX4_mid_2 rfl (lv_at hl 2 rfl) ?_
  refine g_endi (va_runV (As := [.int x1, .int x2]) (rest := []) ⟨hx, hb, hml, hown, hts⟩ (k_X4_isNoPair l D cy ad P Dr tI hX I L x1 x2 _ rfl) (cwV 2 hts gX4_mid_X4_isNoPair rfl rfl rfl cd_X4_isNoPair ⟨Nat.le_of_ble_eq_true rfl, Nat.le_of_ble_eq_true rfl⟩) ⟨g_blind cZm, g_recv hK hG (k := 0) (by decide) (cE_4 _ _) vwCl_4, g_pre cZm hK hG hZ hS⟩ rfl rfl hl.1 rfl (lv_room (Nat.le_of_ble_eq_true rfl)) dX4_mid_3 ⟨Nat.le_refl _, Nat.le_refl _⟩) hS (fun H locs hG hS => ?_)
  refine lv_if_ne (tgt := 19) hx hb dX4_mid_6 (by decide) (fun c1 => ?_) (fun c1 => ?_)
  · have h := ite_f h c1
    refine lv_iconst (v := (-1 : Int32)) hx hb dX4_mid_19 (by decide) ?_
    have h := Option.some.inj h
    subst h
    subst hQ
    exact g_iret hx hb hr hlocks cZm hK hZ hG hS rfl dX4_mid_20
  · have h := ite_t h c1
    refine lv_iload_n hx hb dX4_mid_9 rfl (lv_at hl 3 rfl) ?_
    refine lv_if_lt (tgt := 19) hx hb dX4_mid_10 (by decide) (fun c2 => ?_) (fun c2 => ?_)
    · have h := ite_t h c2
      refine lv_iconst (v := (-1 : Int32)) hx hb dX4_mid_19 (by decide) ?_
      have h := Option.some.inj h
      subst h
      subst hQ
      exact g_iret hx hb hr hlocks cZm hK hZ hG hS rfl dX4_mid_20
    · have h := ite_f h c2
      refine lv_iload_n hx hb dX4_mid_13 rfl (lv_at hl 3 rfl) ?_
      refine lv_bipush (v := (12 : Int32)) hx hb dX4_mid_14 (by decide) ?_
      refine lv_icmp_le (tgt := 21) hx hb dX4_mid_16 (by decide) (fun c3 => ?_) (fun c3 => ?_)
      · have h := ite_t h c3
        refine lv_aload_n hx hb dX4_mid_21 rfl (lv_at hl 0 rfl) ?_
        refine lv_iload_n hx hb dX4_mid_22 rfl (lv_at hl 1 rfl) ?_
        refine lv_iload_n hx hb dX4_mid_23 rfl (lv_at hl 2 rfl) ?_
        obtain ⟨v4, ev4, h⟩ := obind h
        refine g_endi (va_runV (As := [.int x1, .int x2]) (rest := []) ⟨hx, hb, hml, hown, hts⟩ (k_X4_areApart l D cy ad P Dr tI hX I L x1 x2 v4 ev4) (cwV 2 hts gX4_mid_X4_areApart rfl rfl rfl cd_X4_areApart ⟨Nat.le_of_ble_eq_true rfl, Nat.le_of_ble_eq_true rfl⟩) ⟨g_blind cZm, g_recv hK hG (k := 0) (by decide) (cE_4 _ _) vwCl_4, g_pre cZm hK hG hZ hS⟩ rfl rfl hl.1 rfl (lv_room (Nat.le_of_ble_eq_true rfl)) dX4_mid_24 ⟨Nat.le_refl _, Nat.le_refl _⟩) hS (fun H locs hG hS => ?_)
        refine lv_if_eq (tgt := 33) hx hb dX4_mid_27 (by decide) (fun c5 => ?_) (fun c5 => ?_)
        · have h := ite_t h c5
          refine lv_lconst (v := (0 : Int64)) hx hb dX4_mid_33 (by decide) ?_
          refine lv_lstore (lv' := [(4, .long (0 : Int64)), (0, .ref (ad 0)), (1, .int x1), (2, .int x2), (3, .int x3)]) hx hb dX4_mid_34 hl (by decide) rfl (fun ls hl => ?_)
          refine lv_iconst (v := (0 : Int32)) hx hb dX4_mid_36 (by decide) ?_
          refine lv_istore (lv' := [(6, .int (0 : Int32)), (4, .long (0 : Int64)), (0, .ref (ad 0)), (1, .int x1), (2, .int x2), (3, .int x3)]) hx hb dX4_mid_37 hl (by decide) rfl (fun ls hl => ?_)
          have keyK6 : ∀ (K6 : Int64 → Option (Int32 × xLon)), (∀ (z4_7 : Int64) (H : Heap) (locs : List Loc) (ls : Array Slot), K6 z4_7 = some r → cG D cy ad P Dr I L H → va_S (gA 64 ad) s.heap H locs → lv_has ls 7 [(0, .ref (ad 0)), (1, .int x1), (4, .long z4_7)] → W p l e rm_X4_mid s m args below meth c H locs 0 0 Q (F0 m 87 ls [])) → ∀ (n7 : Nat) (x4_7 : Int64) (x6_7 : Int32) (H : Heap) (locs : List Loc) (ls : Array Slot), X4_mid_L1 P I x1 x2 x3 K6 n7 x4_7 x6_7 = some r → cG D cy ad P Dr I L H → va_S (gA 64 ad) s.heap H locs → lv_has ls 7 [(0, .ref (ad 0)), (1, .int x1), (2, .int x2), (3, .int x3), (4, .long x4_7), (6, .int x6_7)] → W p l e rm_X4_mid s m args below meth c H locs 0 0 Q (F0 m 39 ls []) := by
            intro K6 hkK6 n7
            induction n7 with
            | zero =>
              intro x4_7 x6_7 H locs ls h
              exact ono h
            | succ n7 ihn7 =>
              intro x4_7 x6_7 H locs ls h hG hS hl
              rw [X4_mid_L1] at h
              refine lv_iload hx hb dX4_mid_39 (lv_at hl 5 rfl) ?_
              refine lv_aload_n hx hb dX4_mid_41 rfl (lv_at hl 0 rfl) ?_
              refine g_get hx hb l4 hown hK hG (k := 0) (by decide) (cE_4 _ _) vwCl_4 7 (by decide) k1 (fun _ h9 => h9) rfl dX4_mid_42 ?_
              refine g_endi (va_runV (As := []) (rest := [.int x6_7]) ⟨hx, hb, hml, hown, hts⟩ (k_X1_allStones l D cy ad P Dr tI hX (b := P) hP I L _ rfl) (cwV 0 hts gX4_mid_X1_allStones rfl rfl rfl cd_X1_allStones ⟨Nat.le_of_ble_eq_true rfl, Nat.le_of_ble_eq_true rfl⟩) ⟨g_blind cZm, g_recv hK hG (k := P) hP.1.1 (cE_1 hP.1 _ _) vwCl_1, g_pre cZm hK hG hZ hS⟩ rfl rfl hl.1 rfl (lv_room (Nat.le_of_ble_eq_true rfl)) dX4_mid_45 ⟨Nat.le_refl _, Nat.le_refl _⟩) hS (fun H locs hG hS => ?_)
              refine lv_icmp_gt (tgt := 87) hx hb dX4_mid_48 (by decide) (fun c8 => ?_) (fun c8 => ?_)
              · have h := ite_t h c8
                exact hkK6 x4_7 _ _ _ h hG hS (lv_sub hl [0, 1, 4] rfl)
              · have h := ite_f h c8
                refine lv_lload hx hb dX4_mid_51 (lv_at hl 4 rfl) ?_
                refine lv_aload_n hx hb dX4_mid_53 rfl (lv_at hl 0 rfl) ?_
                refine lv_iload_n hx hb dX4_mid_54 rfl (lv_at hl 1 rfl) ?_
                obtain ⟨v9, ev9, h⟩ := obind h
                refine g_endi (va_runV (As := [.int x1]) (rest := [.long x4_7]) ⟨hx, hb, hml, hown, hts⟩ (k_X4_stonesWith l D cy ad P Dr tI hX I L x1 v9 ev9) (cwV 1 hts gX4_mid_X4_stonesWith rfl rfl rfl cd_X4_stonesWith ⟨Nat.le_of_ble_eq_true rfl, Nat.le_of_ble_eq_true rfl⟩) ⟨g_blind cZm, g_recv hK hG (k := 0) (by decide) (cE_4 _ _) vwCl_4, g_pre cZm hK hG hZ hS⟩ rfl rfl hl.1 rfl (lv_room (Nat.le_of_ble_eq_true rfl)) dX4_mid_55 ⟨Nat.le_refl _, Nat.le_refl _⟩) hS (fun H locs hG hS => ?_)
                refine lv_iload hx hb dX4_mid_58 (lv_at hl 5 rfl) ?_
                refine lv_iload_n hx hb dX4_mid_60 rfl (lv_at hl 3 rfl) ?_
                obtain ⟨v10, ev10, h⟩ := obind h
                refine g_endl (va_runS (As := [.int v9, .int x6_7, .int x3]) (rest := [.long x4_7]) ⟨hx, hb, hml, hown, hts⟩ (k_X4_chance l D cy ad P Dr tI hX I L v9 x6_7 x3 v10 ev10) (va_cwS 3 hts gX4_mid_X4_chance rfl rfl rfl cd_X4_chance.2 ⟨Nat.le_of_ble_eq_true rfl, Nat.le_of_ble_eq_true rfl⟩) ⟨g_blind cZm, g_pre cZm hK hG hZ hS⟩ rfl rfl hl.1 rfl (lv_room (Nat.le_of_ble_eq_true rfl)) dX4_mid_61 ⟨Nat.le_refl _, Nat.le_refl _⟩) hS (fun H locs hG hS => ?_)
                refine lv_aload_n hx hb dX4_mid_64 rfl (lv_at hl 0 rfl) ?_
                refine lv_iload_n hx hb dX4_mid_65 rfl (lv_at hl 1 rfl) ?_
                refine lv_iload_n hx hb dX4_mid_66 rfl (lv_at hl 2 rfl) ?_
                refine lv_iload hx hb dX4_mid_67 (lv_at hl 5 rfl) ?_
                obtain ⟨v11, ev11, h⟩ := obind h
                refine g_endi (va_runV (As := [.int x1, .int x2, .int x6_7]) (rest := [.long v10, .long x4_7]) ⟨hx, hb, hml, hown, hts⟩ (k_X4_least l D cy ad P Dr tI hX I L x1 x2 x6_7 v11 ev11) (cwV 3 hts gX4_mid_X4_least rfl rfl rfl cd_X4_least ⟨Nat.le_of_ble_eq_true rfl, Nat.le_of_ble_eq_true rfl⟩) ⟨g_blind cZm, g_recv hK hG (k := 0) (by decide) (cE_4 _ _) vwCl_4, g_pre cZm hK hG hZ hS⟩ rfl rfl hl.1 rfl (lv_room (Nat.le_of_ble_eq_true rfl)) dX4_mid_69 ⟨Nat.le_refl _, Nat.le_refl _⟩) hS (fun H locs hG hS => ?_)
                refine lv_sipush (v := (256 : Int32)) hx hb dX4_mid_72 (by decide) ?_
                refine lv_idiv hx hb dX4_mid_75 (by decide) ?_
                refine lv_i2l hx hb dX4_mid_76 rfl ?_
                refine lv_lmul hx hb dX4_mid_77 ?_
                refine lv_ladd hx hb dX4_mid_78 ?_
                refine lv_lstore (lv' := [(4, .long (x4_7 + (v10 * (v11 / (256 : Int32)).toInt64))), (0, .ref (ad 0)), (1, .int x1), (2, .int x2), (3, .int x3), (6, .int x6_7)]) hx hb dX4_mid_79 hl (by decide) rfl (fun ls hl => ?_)
                refine lv_iinc (v := (x6_7 + (1 : Int32))) (lv' := [(6, .int (x6_7 + (1 : Int32))), (4, .long (x4_7 + (v10 * (v11 / (256 : Int32)).toInt64))), (0, .ref (ad 0)), (1, .int x1), (2, .int x2), (3, .int x3)]) hx hb dX4_mid_81 hl (k := 5) rfl rfl (by decide) rfl (fun ls hl => ?_)
                refine lv_goto (tgt := 39) hx hb dX4_mid_84 (by decide) ?_
                exact ihn7 (x4_7 + (v10 * (v11 / (256 : Int32)).toInt64)) (x6_7 + (1 : Int32)) _ _ _ h hG hS (lv_sub hl [2, 3, 4, 5, 1, 0] rfl)
          refine keyK6 _ (fun z4_7 H locs ls h hG hS hl => ?_) bigF (0 : Int64) (0 : Int32) _ _ _ h hG hS (lv_sub hl [2, 3, 4, 5, 1, 0] rfl)
          clear keyK6
          refine lv_aload_n hx hb dX4_mid_87 rfl (lv_at hl 0 rfl) ?_
          refine lv_lload hx hb dX4_mid_88 (lv_at hl 2 rfl) ?_
          refine lv_bipush (v := (12 : Int32)) hx hb dX4_mid_90 (by decide) ?_
          refine lv_aload_n hx hb dX4_mid_92 rfl (lv_at hl 0 rfl) ?_
          refine lv_iload_n hx hb dX4_mid_93 rfl (lv_at hl 1 rfl) ?_
          obtain ⟨v12, ev12, h⟩ := obind h
          refine g_endi (va_runV (As := [.int x1]) (rest := [.int (12 : Int32), .long z4_7, .ref (ad 0)]) ⟨hx, hb, hml, hown, hts⟩ (k_X4_stonesWith l D cy ad P Dr tI hX I L x1 v12 ev12) (cwV 1 hts gX4_mid_X4_stonesWith rfl rfl rfl cd_X4_stonesWith ⟨Nat.le_of_ble_eq_true rfl, Nat.le_of_ble_eq_true rfl⟩) ⟨g_blind cZm, g_recv hK hG (k := 0) (by decide) (cE_4 _ _) vwCl_4, g_pre cZm hK hG hZ hS⟩ rfl rfl hl.1 rfl (lv_room (Nat.le_of_ble_eq_true rfl)) dX4_mid_94 ⟨Nat.le_refl _, Nat.le_refl _⟩) hS (fun H locs hG hS => ?_)
          refine g_endi (va_runS (As := [.int v12]) (rest := [.int (12 : Int32), .long z4_7, .ref (ad 0)]) ⟨hx, hb, hml, hown, hts⟩ (k_J6_bitCount_0f7a4 l D cy ad P Dr tI hX I L v12 _ rfl) (va_cwS 1 hts gX4_mid_J6_bitCount_0f7a4 rfl rfl rfl cd_J6_bitCount_0f7a4.2 ⟨Nat.le_of_ble_eq_true rfl, Nat.le_of_ble_eq_true rfl⟩) ⟨g_blind cZm, g_pre cZm hK hG hZ hS⟩ rfl rfl hl.1 rfl (lv_room (Nat.le_of_ble_eq_true rfl)) dX4_mid_97 ⟨Nat.le_refl _, Nat.le_refl _⟩) hS (fun H locs hG hS => ?_)
          obtain ⟨v13, ev13, h⟩ := obind h
          refine g_endl (va_runS (As := [.int (12 : Int32), .int (J6_bitCount_0f7a4 v12)]) (rest := [.long z4_7, .ref (ad 0)]) ⟨hx, hb, hml, hown, hts⟩ (k_X4_power l D cy ad P Dr tI hX I L (12 : Int32) (J6_bitCount_0f7a4 v12) v13 ev13) (va_cwS 2 hts gX4_mid_X4_power rfl rfl rfl cd_X4_power.2 ⟨Nat.le_of_ble_eq_true rfl, Nat.le_of_ble_eq_true rfl⟩) ⟨g_blind cZm, g_pre cZm hK hG hZ hS⟩ rfl rfl hl.1 rfl (lv_room (Nat.le_of_ble_eq_true rfl)) dX4_mid_100 ⟨Nat.le_refl _, Nat.le_refl _⟩) hS (fun H locs hG hS => ?_)
          obtain ⟨q14, eq14, h⟩ := obind h
          refine g_endv (va_runV (As := [.long z4_7, .long v13]) (rest := []) ⟨hx, hb, hml, hown, hts⟩ (k_X4_tell l D cy ad P Dr tI hX I L z4_7 v13 q14 eq14) (cwV 2 hts gX4_mid_X4_tell rfl rfl rfl cd_X4_tell ⟨Nat.le_of_ble_eq_true rfl, Nat.le_of_ble_eq_true rfl⟩) ⟨g_blind cZm, g_recv hK hG (k := 0) (by decide) (cE_4 _ _) vwCl_4, g_pre cZm hK hG hZ hS⟩ rfl rfl hl.1 rfl (lv_room (Nat.le_of_ble_eq_true rfl)) dX4_mid_103 ⟨Nat.le_refl _, Nat.le_refl _⟩) hS (fun H locs hG hS => ?_)
          refine lv_iconst (v := (1 : Int32)) hx hb dX4_mid_106 (by decide) ?_
          have h := Option.some.inj h
          subst h
          subst hQ
          exact g_iret hx hb hr hlocks cZm hK hZ hG hS rfl dX4_mid_107
        · have h := ite_f h c5
          refine lv_bipush (v := (-4 : Int32)) hx hb dX4_mid_30 (by decide) ?_
          have h := Option.some.inj h
          subst h
          subst hQ
          exact g_iret hx hb hr hlocks cZm hK hZ hG hS rfl dX4_mid_32
      · have h := ite_f h c3
        refine lv_iconst (v := (-1 : Int32)) hx hb dX4_mid_19 (by decide) ?_
        have h := Option.some.inj h
        subst h
        subst hQ
        exact g_iret hx hb hr hlocks cZm hK hZ hG hS rfl dX4_mid_20
def X4_doByLot (P : Nat) (I : xMem) (x1 : Int64) : Option (xMem) := if (lg_cmp ((x1 / (8 : Int64)) - (x1 / (8 : Int64)) / (4 : Int64) * (4 : Int64)) (0 : Int64)) = (0 : Int32) then ((X0_eaten 17 I).bind fun v13 => (if (9 : Int32) ≤ v13 then (some (0 : Int32)) else (some (1 : Int32))).bind fun q14 => (X0_add 17 I (0 : Int32) (0 : Int32) q14 (0 : Int32)).bind fun q16 => some q16) else ((rmL x1 ((I P 2).toInt64)).bind fun v2 => (rmL (x1 / (64 : Int64)) ((I P 2).toInt64)).bind fun v3 => (if v2.toInt32 = v3.toInt32 then (some (1073741824 : Int32)) else ((X4_areApart I v2.toInt32 v3.toInt32).bind fun v6 => if v6 = (0 : Int32) then ((X4_stonesWith P I v2.toInt32).bind fun v8 => (X4_least P I v2.toInt32 v3.toInt32 v8).bind fun v9 => some v9) else (some (1073741824 : Int32)))).bind fun q4 => if (q4 / (256 : Int32)) ≤ (I P 0) then ((X0_add 17 I (((1 : Int32) <<< (v2.toInt32 &&& 31)) ||| ((1 : Int32) <<< (v3.toInt32 &&& 31))) (((q4 - q4 / (256 : Int32) * (256 : Int32)) / (16 : Int32)) ||| (q4 - q4 / (16 : Int32) * (16 : Int32))) (0 : Int32) (q4 / (256 : Int32))).bind fun q11 => some q11) else ((X0_add 17 I (0 : Int32) (0 : Int32) (0 : Int32) (0 : Int32)).bind fun q12 => some q12))
abbrev rm_X4_doByLot : Room := { frames := 4, cells := 0, slots := 0, locals := 93 }
theorem cd_X4_doByLot : yX4_doByLot.cls = RX4 ∧ yX4_doByLot.cls ≠ "java/lang/invoke/MethodHandle" ∧ yX4_doByLot.cls ≠ "java/lang/invoke/VarHandle" ∧ (parseMethodDescriptor yX4_doByLot.desc).map (fun d => d.parameters.length) = some 1 := by decide +kernel
set_option maxHeartbeats 4000000 in
set_option maxRecDepth 100000 in
theorem k_X4_doByLot (l : Launch) (D : va_G) (cy : Nat → ClassId) (ad : Nat → Nat) (P Dr : Nat) (tI : xTab) (hX : cOk ad P Dr) (I : xMem) (L : xLon) (x1 : Int64) (r : xMem) (h : X4_doByLot P I x1 = some r) : Met l yX4_doByLot wsX4_doByLot rm_X4_doByLot (va_Pc [.ref (ad 0), .long x1] (cW D cy ad P Dr tI I L)) (cPv D cy ad P Dr tI r L) 0 0 (gA 64 ad) := by
  refine g_met (own := RX4) (cc := cX4_doByLot) (maxL := 7) (ret := none) (by decide) rfl (Nat.le_of_ble_eq_true rfl) rfl ?_
  intro p e s m args below meth c ls hx hb hml hr hlocks hown hts hG hK hZ hl
  generalize hQ : MQ below _ args s 0 0 _ = Q
  have hl : lv_has ls 7 [(0, .ref (ad 0)), (1, .long x1)] := hl
  have hS : va_S (gA 64 ad) s.heap s.heap [] := va_S.rf
  obtain ⟨hi, hP, hDr⟩ := id hX
  have l1 : ∀ w ∈ wsX10, w.before args s = true := fun w h => hts w (List.mem_cons_of_mem _ (List.mem_append_left _ (List.mem_append_right _ h)))
  have l4 : ∀ w ∈ wsX40, w.before args s = true := fun w h => hts w (List.mem_cons_of_mem _ (List.mem_append_left _ (List.mem_append_left _ (List.mem_append_right _ h))))
  have k1 := hts (.constantLong RX4 339 (8)) (by decide +kernel)
  have k2 := hts (.constantLong RX4 341 (4)) (by decide +kernel)
  have k3 := hts (.fieldLink RX4 50 "PairStairs" "plan" "LPairStairs$Plan;") (by decide +kernel)
  have k4 := hts (.fieldLink RX4 115 "PairStairs$Plan" "people" "I") (by decide +kernel)
  have k5 := hts (.constantLong RX4 343 (64)) (by decide +kernel)
  have k6 := hts (.constant RX4 345 (1073741824)) (by decide +kernel)
  have k7 := hts (.fieldLink RX4 168 "PairStairs$Plan" "limit" "I") (by decide +kernel)
  have k8 := hts (.fieldLink RX4 24 "PairStairs" "deeds" "LPairStairs$Deeds;") (by decide +kernel)
  unfold X4_doByLot at h
  refine lv_lload_n hx hb dX4_doByLot_0 rfl (lv_at hl 1 rfl) ?_
  refine lv_ldc2 (v := (8 : Int64)) hx hb hown k1 dX4_doByLot_1 ?_
  refine lv_ldiv hx hb dX4_doByLot_4 (by decide) ?_
  refine lv_ldc2 (v := (4 : Int64)) hx hb hown k2 dX4_doByLot_5 ?_
  refine lv_lrem hx hb dX4_doByLot_8 (by decide) ?_
  refine lv_lconst (v := (0 : Int64)) hx hb dX4_doByLot_9 (by decide) ?_
  refine W.lcmp hx hb dX4_doByLot_10 ?_
  refine lv_if_ne (tgt := 42) hx hb dX4_doByLot_11 (by decide) (fun c1 => ?_) (fun c1 => ?_)
  · have h := ite_f h c1
    refine lv_lload_n hx hb dX4_doByLot_42 rfl (lv_at hl 1 rfl) ?_
    refine lv_aload_n hx hb dX4_doByLot_43 rfl (lv_at hl 0 rfl) ?_
    refine g_get hx hb l4 hown hK hG (k := 0) (by decide) (cE_4 _ _) vwCl_4 7 (by decide) k3 (fun _ h9 => h9) rfl dX4_doByLot_44 ?_
    refine g_get hx hb l1 hown hK hG (k := P) hP.1.1 (cE_1 hP.1 _ _) vwCl_1 2 (by decide) k4 (fun _ h9 => h9) rfl dX4_doByLot_47 ?_
    refine lv_i2l hx hb dX4_doByLot_50 rfl ?_
    refine g_lrem hx hb h dX4_doByLot_51 (fun v2 h => ?_)
    refine lv_l2i hx hb dX4_doByLot_52 rfl ?_
    refine lv_istore_n (lv' := [(3, .int v2.toInt32), (0, .ref (ad 0)), (1, .long x1)]) hx hb dX4_doByLot_53 rfl hl (by decide) rfl (fun ls hl => ?_)
    refine lv_lload_n hx hb dX4_doByLot_54 rfl (lv_at hl 2 rfl) ?_
    refine lv_ldc2 (v := (64 : Int64)) hx hb hown k5 dX4_doByLot_55 ?_
    refine lv_ldiv hx hb dX4_doByLot_58 (by decide) ?_
    refine lv_aload_n hx hb dX4_doByLot_59 rfl (lv_at hl 1 rfl) ?_
    refine g_get hx hb l4 hown hK hG (k := 0) (by decide) (cE_4 _ _) vwCl_4 7 (by decide) k3 (fun _ h9 => h9) rfl dX4_doByLot_60 ?_
    refine g_get hx hb l1 hown hK hG (k := P) hP.1.1 (cE_1 hP.1 _ _) vwCl_1 2 (by decide) k4 (fun _ h9 => h9) rfl dX4_doByLot_63 ?_
    refine lv_i2l hx hb dX4_doByLot_66 rfl ?_
    refine g_lrem hx hb h dX4_doByLot_67 (fun v3 h => ?_)
    refine lv_l2i hx hb dX4_doByLot_68 rfl ?_
    refine lv_istore (lv' := [(4, .int v3.toInt32), (3, .int v2.toInt32), (0, .ref (ad 0)), (1, .long x1)]) hx hb dX4_doByLot_69 hl (by decide) rfl (fun ls hl => ?_)
    refine lv_iload_n hx hb dX4_doByLot_71 rfl (lv_at hl 1 rfl) ?_
    refine lv_iload hx hb dX4_doByLot_72 (lv_at hl 0 rfl) ?_
    obtain ⟨q4, h9, h⟩ := obind h
    have hk_q4 : ∀ (H : Heap) (locs : List Loc) (ls : Array Slot), cG D cy ad P Dr I L H → va_S (gA 64 ad) s.heap H locs → lv_has ls 7 [(0, .ref (ad 0)), (3, .int v2.toInt32), (4, .int v3.toInt32)] → W p l e rm_X4_doByLot s m args below meth c H locs 0 0 Q (F0 m 105 ls [.int q4]) := by
      intro H locs ls hG hS hl
      refine lv_istore (lv' := [(5, .int q4), (0, .ref (ad 0)), (3, .int v2.toInt32), (4, .int v3.toInt32)]) hx hb dX4_doByLot_105 hl (by decide) rfl (fun ls hl => ?_)
      refine lv_iload hx hb dX4_doByLot_107 (lv_at hl 0 rfl) ?_
      refine lv_sipush (v := (256 : Int32)) hx hb dX4_doByLot_109 (by decide) ?_
      refine lv_idiv hx hb dX4_doByLot_112 (by decide) ?_
      refine lv_aload_n hx hb dX4_doByLot_113 rfl (lv_at hl 1 rfl) ?_
      refine g_get hx hb l4 hown hK hG (k := 0) (by decide) (cE_4 _ _) vwCl_4 7 (by decide) k3 (fun _ h9 => h9) rfl dX4_doByLot_114 ?_
      refine g_get hx hb l1 hown hK hG (k := P) hP.1.1 (cE_1 hP.1 _ _) vwCl_1 0 (by decide) k7 (fun _ h9 => h9) rfl dX4_doByLot_117 ?_
      refine lv_icmp_le (tgt := 135) hx hb dX4_doByLot_120 (by decide) (fun c10 => ?_) (fun c10 => ?_)
      · have h := ite_t h c10
        refine lv_iload hx hb dX4_doByLot_135 (lv_at hl 0 rfl) ?_
        refine lv_sipush (v := (256 : Int32)) hx hb dX4_doByLot_137 (by decide) ?_
        refine lv_irem hx hb dX4_doByLot_140 (by decide) ?_
        refine lv_bipush (v := (16 : Int32)) hx hb dX4_doByLot_141 (by decide) ?_
        refine lv_idiv hx hb dX4_doByLot_143 (by decide) ?_
        refine lv_iload hx hb dX4_doByLot_144 (lv_at hl 0 rfl) ?_
        refine lv_bipush (v := (16 : Int32)) hx hb dX4_doByLot_146 (by decide) ?_
        refine lv_irem hx hb dX4_doByLot_148 (by decide) ?_
        refine lv_ior hx hb dX4_doByLot_149 ?_
        refine lv_istore (lv' := [(6, .int (((q4 - q4 / (256 : Int32) * (256 : Int32)) / (16 : Int32)) ||| (q4 - q4 / (16 : Int32) * (16 : Int32)))), (5, .int q4), (0, .ref (ad 0)), (3, .int v2.toInt32), (4, .int v3.toInt32)]) hx hb dX4_doByLot_150 hl (by decide) rfl (fun ls hl => ?_)
        refine lv_aload_n hx hb dX4_doByLot_152 rfl (lv_at hl 2 rfl) ?_
        refine g_get hx hb l4 hown hK hG (k := 0) (by decide) (cE_4 _ _) vwCl_4 2 (by decide) k8 (fun _ h9 => h9) rfl dX4_doByLot_153 ?_
        refine lv_iconst (v := (1 : Int32)) hx hb dX4_doByLot_156 (by decide) ?_
        refine lv_iload_n hx hb dX4_doByLot_157 rfl (lv_at hl 3 rfl) ?_
        refine lv_ishl hx hb dX4_doByLot_158 ?_
        refine lv_iconst (v := (1 : Int32)) hx hb dX4_doByLot_159 (by decide) ?_
        refine lv_iload hx hb dX4_doByLot_160 (lv_at hl 4 rfl) ?_
        refine lv_ishl hx hb dX4_doByLot_162 ?_
        refine lv_ior hx hb dX4_doByLot_163 ?_
        refine lv_iload hx hb dX4_doByLot_164 (lv_at hl 0 rfl) ?_
        refine lv_iconst (v := (0 : Int32)) hx hb dX4_doByLot_166 (by decide) ?_
        refine lv_iload hx hb dX4_doByLot_167 (lv_at hl 1 rfl) ?_
        refine lv_sipush (v := (256 : Int32)) hx hb dX4_doByLot_169 (by decide) ?_
        refine lv_idiv hx hb dX4_doByLot_172 (by decide) ?_
        obtain ⟨q11, eq11, h⟩ := obind h
        refine g_endv (va_runV (As := [.int (((1 : Int32) <<< (v2.toInt32 &&& 31)) ||| ((1 : Int32) <<< (v3.toInt32 &&& 31))), .int (((q4 - q4 / (256 : Int32) * (256 : Int32)) / (16 : Int32)) ||| (q4 - q4 / (16 : Int32) * (16 : Int32))), .int (0 : Int32), .int (q4 / (256 : Int32))]) (rest := []) ⟨hx, hb, hml, hown, hts⟩ (k_X0_add l D cy ad P Dr tI hX (b := 17) cDeeds_17 I L (((1 : Int32) <<< (v2.toInt32 &&& 31)) ||| ((1 : Int32) <<< (v3.toInt32 &&& 31))) (((q4 - q4 / (256 : Int32) * (256 : Int32)) / (16 : Int32)) ||| (q4 - q4 / (16 : Int32) * (16 : Int32))) (0 : Int32) (q4 / (256 : Int32)) q11 eq11) (cwV 4 hts gX4_doByLot_X0_add rfl rfl rfl cd_X0_add ⟨Nat.le_of_ble_eq_true rfl, Nat.le_of_ble_eq_true rfl⟩) ⟨g_blind cZm, g_recv hK hG (k := 17) cDeeds_17.1.1 (cE_0 cDeeds_17.1 _ _) vwCl_0, g_pre cZm hK hG hZ hS⟩ rfl rfl hl.1 rfl (lv_room (Nat.le_of_ble_eq_true rfl)) dX4_doByLot_173 ⟨Nat.le_refl _, Nat.le_refl _⟩) hS (fun H locs hG hS => ?_)
        have h := Option.some.inj h
        subst h
        subst hQ
        exact g_vret hx hb hr hlocks cZm hK hZ hG hS dX4_doByLot_176
      · have h := ite_f h c10
        refine lv_aload_n hx hb dX4_doByLot_123 rfl (lv_at hl 1 rfl) ?_
        refine g_get hx hb l4 hown hK hG (k := 0) (by decide) (cE_4 _ _) vwCl_4 2 (by decide) k8 (fun _ h9 => h9) rfl dX4_doByLot_124 ?_
        refine lv_iconst (v := (0 : Int32)) hx hb dX4_doByLot_127 (by decide) ?_
        refine lv_iconst (v := (0 : Int32)) hx hb dX4_doByLot_128 (by decide) ?_
        refine lv_iconst (v := (0 : Int32)) hx hb dX4_doByLot_129 (by decide) ?_
        refine lv_iconst (v := (0 : Int32)) hx hb dX4_doByLot_130 (by decide) ?_
        obtain ⟨q12, eq12, h⟩ := obind h
        refine g_endv (va_runV (As := [.int (0 : Int32), .int (0 : Int32), .int (0 : Int32), .int (0 : Int32)]) (rest := []) ⟨hx, hb, hml, hown, hts⟩ (k_X0_add l D cy ad P Dr tI hX (b := 17) cDeeds_17 I L (0 : Int32) (0 : Int32) (0 : Int32) (0 : Int32) q12 eq12) (cwV 4 hts gX4_doByLot_X0_add rfl rfl rfl cd_X0_add ⟨Nat.le_of_ble_eq_true rfl, Nat.le_of_ble_eq_true rfl⟩) ⟨g_blind cZm, g_recv hK hG (k := 17) cDeeds_17.1.1 (cE_0 cDeeds_17.1 _ _) vwCl_0, g_pre cZm hK hG hZ hS⟩ rfl rfl hl.1 rfl (lv_room (Nat.le_of_ble_eq_true rfl)) dX4_doByLot_131 ⟨Nat.le_refl _, Nat.le_refl _⟩) hS (fun H locs hG hS => ?_)
        have h := Option.some.inj h
        subst h
        subst hQ
        exact g_vret hx hb hr hlocks cZm hK hZ hG hS dX4_doByLot_134
    clear h
    have h := h9
    clear h9
    refine lv_icmp_eq (tgt := 87) hx hb dX4_doByLot_74 (by decide) (fun c5 => ?_) (fun c5 => ?_)
    · have h := ite_t h c5
      refine lv_ldcw (v := (1073741824 : Int32)) hx hb hown k6 dX4_doByLot_87 ?_
      refine lv_goto (tgt := 105) hx hb dX4_doByLot_90 (by decide) ?_
      have h := Option.some.inj h
      subst h
      exact hk_q4 _ _ _ hG hS (lv_sub hl [2, 1, 0] rfl)
    · have h := ite_f h c5
      refine lv_aload_n hx hb dX4_doByLot_77 rfl (lv_at hl 2 rfl) ?_
      refine lv_iload_n hx hb dX4_doByLot_78 rfl (lv_at hl 1 rfl) ?_
      refine lv_iload hx hb dX4_doByLot_79 (lv_at hl 0 rfl) ?_
      obtain ⟨v6, ev6, h⟩ := obind h
      refine g_endi (va_runV (As := [.int v2.toInt32, .int v3.toInt32]) (rest := []) ⟨hx, hb, hml, hown, hts⟩ (k_X4_areApart l D cy ad P Dr tI hX I L v2.toInt32 v3.toInt32 v6 ev6) (cwV 2 hts gX4_doByLot_X4_areApart rfl rfl rfl cd_X4_areApart ⟨Nat.le_of_ble_eq_true rfl, Nat.le_of_ble_eq_true rfl⟩) ⟨g_blind cZm, g_recv hK hG (k := 0) (by decide) (cE_4 _ _) vwCl_4, g_pre cZm hK hG hZ hS⟩ rfl rfl hl.1 rfl (lv_room (Nat.le_of_ble_eq_true rfl)) dX4_doByLot_81 ⟨Nat.le_refl _, Nat.le_refl _⟩) hS (fun H locs hG hS => ?_)
      refine lv_if_eq (tgt := 93) hx hb dX4_doByLot_84 (by decide) (fun c7 => ?_) (fun c7 => ?_)
      · have h := ite_t h c7
        refine lv_aload_n hx hb dX4_doByLot_93 rfl (lv_at hl 2 rfl) ?_
        refine lv_iload_n hx hb dX4_doByLot_94 rfl (lv_at hl 1 rfl) ?_
        refine lv_iload hx hb dX4_doByLot_95 (lv_at hl 0 rfl) ?_
        refine lv_aload_n hx hb dX4_doByLot_97 rfl (lv_at hl 2 rfl) ?_
        refine lv_iload_n hx hb dX4_doByLot_98 rfl (lv_at hl 1 rfl) ?_
        obtain ⟨v8, ev8, h⟩ := obind h
        refine g_endi (va_runV (As := [.int v2.toInt32]) (rest := [.int v3.toInt32, .int v2.toInt32, .ref (ad 0)]) ⟨hx, hb, hml, hown, hts⟩ (k_X4_stonesWith l D cy ad P Dr tI hX I L v2.toInt32 v8 ev8) (cwV 1 hts gX4_doByLot_X4_stonesWith rfl rfl rfl cd_X4_stonesWith ⟨Nat.le_of_ble_eq_true rfl, Nat.le_of_ble_eq_true rfl⟩) ⟨g_blind cZm, g_recv hK hG (k := 0) (by decide) (cE_4 _ _) vwCl_4, g_pre cZm hK hG hZ hS⟩ rfl rfl hl.1 rfl (lv_room (Nat.le_of_ble_eq_true rfl)) dX4_doByLot_99 ⟨Nat.le_refl _, Nat.le_refl _⟩) hS (fun H locs hG hS => ?_)
        obtain ⟨v9, ev9, h⟩ := obind h
        refine g_endi (va_runV (As := [.int v2.toInt32, .int v3.toInt32, .int v8]) (rest := []) ⟨hx, hb, hml, hown, hts⟩ (k_X4_least l D cy ad P Dr tI hX I L v2.toInt32 v3.toInt32 v8 v9 ev9) (cwV 3 hts gX4_doByLot_X4_least rfl rfl rfl cd_X4_least ⟨Nat.le_of_ble_eq_true rfl, Nat.le_of_ble_eq_true rfl⟩) ⟨g_blind cZm, g_recv hK hG (k := 0) (by decide) (cE_4 _ _) vwCl_4, g_pre cZm hK hG hZ hS⟩ rfl rfl hl.1 rfl (lv_room (Nat.le_of_ble_eq_true rfl)) dX4_doByLot_102 ⟨Nat.le_refl _, Nat.le_refl _⟩) hS (fun H locs hG hS => ?_)
        have h := Option.some.inj h
        subst h
        exact hk_q4 _ _ _ hG hS (lv_sub hl [2, 1, 0] rfl)
      · have h := ite_f h c7
        refine lv_ldcw (v := (1073741824 : Int32)) hx hb hown k6 dX4_doByLot_87 ?_
        refine lv_goto (tgt := 105) hx hb dX4_doByLot_90 (by decide) ?_
        have h := Option.some.inj h
        subst h
        exact hk_q4 _ _ _ hG hS (lv_sub hl [2, 1, 0] rfl)
  · have h := ite_t h c1
    refine lv_aload_n hx hb dX4_doByLot_14 rfl (lv_at hl 0 rfl) ?_
    refine g_get hx hb l4 hown hK hG (k := 0) (by decide) (cE_4 _ _) vwCl_4 2 (by decide) k8 (fun _ h9 => h9) rfl dX4_doByLot_15 ?_
    refine lv_iconst (v := (0 : Int32)) hx hb dX4_doByLot_18 (by decide) ?_
    refine lv_iconst (v := (0 : Int32)) hx hb dX4_doByLot_19 (by decide) ?_
    refine lv_aload_n hx hb dX4_doByLot_20 rfl (lv_at hl 0 rfl) ?_
    refine g_get hx hb l4 hown hK hG (k := 0) (by decide) (cE_4 _ _) vwCl_4 2 (by decide) k8 (fun _ h9 => h9) rfl dX4_doByLot_21 ?_
    obtain ⟨v13, ev13, h⟩ := obind h
    refine g_endi (va_runV (As := []) (rest := [.int (0 : Int32), .int (0 : Int32), .ref (ad 17)]) ⟨hx, hb, hml, hown, hts⟩ (k_X0_eaten l D cy ad P Dr tI hX (b := 17) cDeeds_17 I L v13 ev13) (cwV 0 hts gX4_doByLot_X0_eaten rfl rfl rfl cd_X0_eaten ⟨Nat.le_of_ble_eq_true rfl, Nat.le_of_ble_eq_true rfl⟩) ⟨g_blind cZm, g_recv hK hG (k := 17) cDeeds_17.1.1 (cE_0 cDeeds_17.1 _ _) vwCl_0, g_pre cZm hK hG hZ hS⟩ rfl rfl hl.1 rfl (lv_room (Nat.le_of_ble_eq_true rfl)) dX4_doByLot_24 ⟨Nat.le_refl _, Nat.le_refl _⟩) hS (fun H locs hG hS => ?_)
    refine lv_bipush (v := (9 : Int32)) hx hb dX4_doByLot_27 (by decide) ?_
    obtain ⟨q14, h9, h⟩ := obind h
    have hk_q14 : ∀ (H : Heap) (locs : List Loc) (ls : Array Slot), cG D cy ad P Dr I L H → va_S (gA 64 ad) s.heap H locs → lv_has ls 7 [] → W p l e rm_X4_doByLot s m args below meth c H locs 0 0 Q (F0 m 37 ls [.int q14, .int (0 : Int32), .int (0 : Int32), .ref (ad 17)]) := by
      intro H locs ls hG hS hl
      refine lv_iconst (v := (0 : Int32)) hx hb dX4_doByLot_37 (by decide) ?_
      obtain ⟨q16, eq16, h⟩ := obind h
      refine g_endv (va_runV (As := [.int (0 : Int32), .int (0 : Int32), .int q14, .int (0 : Int32)]) (rest := []) ⟨hx, hb, hml, hown, hts⟩ (k_X0_add l D cy ad P Dr tI hX (b := 17) cDeeds_17 I L (0 : Int32) (0 : Int32) q14 (0 : Int32) q16 eq16) (cwV 4 hts gX4_doByLot_X0_add rfl rfl rfl cd_X0_add ⟨Nat.le_of_ble_eq_true rfl, Nat.le_of_ble_eq_true rfl⟩) ⟨g_blind cZm, g_recv hK hG (k := 17) cDeeds_17.1.1 (cE_0 cDeeds_17.1 _ _) vwCl_0, g_pre cZm hK hG hZ hS⟩ rfl rfl hl.1 rfl (lv_room (Nat.le_of_ble_eq_true rfl)) dX4_doByLot_38 ⟨Nat.le_refl _, Nat.le_refl _⟩) hS (fun H locs hG hS => ?_)
      have h := Option.some.inj h
      subst h
      subst hQ
      exact g_vret hx hb hr hlocks cZm hK hZ hG hS dX4_doByLot_41
    clear h
    have h := h9
    clear h9
    refine lv_icmp_ge (tgt := 36) hx hb dX4_doByLot_29 (by decide) (fun c15 => ?_) (fun c15 => ?_)
    · have h := ite_t h c15
      refine lv_iconst (v := (0 : Int32)) hx hb dX4_doByLot_36 (by decide) ?_
      have h := Option.some.inj h
      subst h
      exact hk_q14 _ _ _ hG hS (lv_sub hl [] rfl)
    · have h := ite_f h c15
      refine lv_iconst (v := (1 : Int32)) hx hb dX4_doByLot_32 (by decide) ?_
      refine lv_goto (tgt := 37) hx hb dX4_doByLot_33 (by decide) ?_
      have h := Option.some.inj h
      subst h
      exact hk_q14 _ _ _ hG hS (lv_sub hl [] rfl)
def X4_lots_L1 (P : Nat) (x1 : Int32) (K7 : xMem → Option (Int32 × xMem)) : Nat → Int64 → Int32 → xMem → Option (Int32 × xMem)
  | 0, _, _, _ => none
  | n8 + 1, x3_8, x5_8, I9 => if x1 ≤ x5_8 then (K7 I9) else ((X4_doByLot P I9 ((x3_8 * (48271 : Int64)) - (x3_8 * (48271 : Int64)) / (2147483647 : Int64) * (2147483647 : Int64))).bind fun q12 => X4_lots_L1 P x1 K7 n8 ((x3_8 * (48271 : Int64)) - (x3_8 * (48271 : Int64)) / (2147483647 : Int64) * (2147483647 : Int64)) (x5_8 + (1 : Int32)) q12)
def X4_lots (P : Nat) (I : xMem) (x1 : Int32) (x2 : Int32) : Option (Int32 × xMem) := if x1 < (1 : Int32) then (some ((-1 : Int32), I)) else (if (20 : Int32) < x1 then (some ((-1 : Int32), I)) else (if x2 < (1 : Int32) then (some ((-1 : Int32), I)) else (if (lg_cmp x2.toInt64 (2147483647 : Int64)) < (0 : Int32) then (if (I P 2) = (0 : Int32) then (some ((-4 : Int32), I)) else (if ((I 17 0) + x1) ≤ (40 : Int32) then (X4_lots_L1 P x1 (fun (I10 : xMem) => (X0_top 17 I10).bind fun v13 => some ((J6_bitCount_0f7a4 v13), I10)) bigF x2.toInt64 (0 : Int32) I) else (some ((-2 : Int32), I)))) else (some ((-1 : Int32), I)))))
abbrev rm_X4_lots : Room := { frames := 5, cells := 0, slots := 0, locals := 119 }
theorem cd_X4_lots : yX4_lots.cls = RX4 ∧ yX4_lots.cls ≠ "java/lang/invoke/MethodHandle" ∧ yX4_lots.cls ≠ "java/lang/invoke/VarHandle" ∧ (parseMethodDescriptor yX4_lots.desc).map (fun d => d.parameters.length) = some 2 := by decide +kernel
set_option maxHeartbeats 4000000 in
set_option maxRecDepth 100000 in
theorem k_X4_lots (l : Launch) (D : va_G) (cy : Nat → ClassId) (ad : Nat → Nat) (P Dr : Nat) (tI : xTab) (hX : cOk ad P Dr) (I : xMem) (L : xLon) (x1 : Int32) (x2 : Int32) (r : Int32 × xMem) (h : X4_lots P I x1 x2 = some r) : Met l yX4_lots wsX4_lots rm_X4_lots (va_Pc [.ref (ad 0), .int x1, .int x2] (cW D cy ad P Dr tI I L)) (cPi D cy ad P Dr tI r.2 L r.1) 0 0 (gA 64 ad) := by
  refine g_met (own := RX4) (cc := cX4_lots) (maxL := 6) (ret := (some .int)) (by decide) rfl (Nat.le_of_ble_eq_true rfl) rfl ?_
  intro p e s m args below meth c ls hx hb hml hr hlocks hown hts hG hK hZ hl
  generalize hQ : MQ below _ args s 0 0 _ = Q
  have hl : lv_has ls 6 [(0, .ref (ad 0)), (1, .int x1), (2, .int x2)] := hl
  have hS : va_S (gA 64 ad) s.heap s.heap [] := va_S.rf
  obtain ⟨hi, hP, hDr⟩ := id hX
  have l0 : ∀ w ∈ wsX00, w.before args s = true := fun w h => hts w (List.mem_cons_of_mem _ (List.mem_append_right _ h))
  have l1 : ∀ w ∈ wsX10, w.before args s = true := fun w h => hts w (List.mem_cons_of_mem _ (List.mem_append_left _ (List.mem_append_right _ h)))
  have l4 : ∀ w ∈ wsX40, w.before args s = true := fun w h => hts w (List.mem_cons_of_mem _ (List.mem_append_left _ (List.mem_append_left _ (List.mem_append_right _ h))))
  have k1 := hts (.constantLong RX4 256 (2147483647)) (by decide +kernel)
  have k2 := hts (.fieldLink RX4 50 "PairStairs" "plan" "LPairStairs$Plan;") (by decide +kernel)
  have k3 := hts (.fieldLink RX4 115 "PairStairs$Plan" "people" "I") (by decide +kernel)
  have k4 := hts (.fieldLink RX4 24 "PairStairs" "deeds" "LPairStairs$Deeds;") (by decide +kernel)
  have k5 := hts (.fieldLink RX4 112 "PairStairs$Deeds" "done" "I") (by decide +kernel)
  have k6 := hts (.constantLong RX4 258 (48271)) (by decide +kernel)
  unfold X4_lots at h
  refine lv_iload_n hx hb dX4_lots_0 rfl (lv_at hl 1 rfl) ?_
  refine lv_iconst (v := (1 : Int32)) hx hb dX4_lots_1 (by decide) ?_
  refine lv_icmp_lt (tgt := 25) hx hb dX4_lots_2 (by decide) (fun c1 => ?_) (fun c1 => ?_)
  · have h := ite_t h c1
    refine lv_iconst (v := (-1 : Int32)) hx hb dX4_lots_25 (by decide) ?_
    have h := Option.some.inj h
    subst h
    subst hQ
    exact g_iret hx hb hr hlocks cZm hK hZ hG hS rfl dX4_lots_26
  · have h := ite_f h c1
    refine lv_iload_n hx hb dX4_lots_5 rfl (lv_at hl 1 rfl) ?_
    refine lv_bipush (v := (20 : Int32)) hx hb dX4_lots_6 (by decide) ?_
    refine lv_icmp_gt (tgt := 25) hx hb dX4_lots_8 (by decide) (fun c2 => ?_) (fun c2 => ?_)
    · have h := ite_t h c2
      refine lv_iconst (v := (-1 : Int32)) hx hb dX4_lots_25 (by decide) ?_
      have h := Option.some.inj h
      subst h
      subst hQ
      exact g_iret hx hb hr hlocks cZm hK hZ hG hS rfl dX4_lots_26
    · have h := ite_f h c2
      refine lv_iload_n hx hb dX4_lots_11 rfl (lv_at hl 2 rfl) ?_
      refine lv_iconst (v := (1 : Int32)) hx hb dX4_lots_12 (by decide) ?_
      refine lv_icmp_lt (tgt := 25) hx hb dX4_lots_13 (by decide) (fun c3 => ?_) (fun c3 => ?_)
      · have h := ite_t h c3
        refine lv_iconst (v := (-1 : Int32)) hx hb dX4_lots_25 (by decide) ?_
        have h := Option.some.inj h
        subst h
        subst hQ
        exact g_iret hx hb hr hlocks cZm hK hZ hG hS rfl dX4_lots_26
      · have h := ite_f h c3
        refine lv_iload_n hx hb dX4_lots_16 rfl (lv_at hl 2 rfl) ?_
        refine lv_i2l hx hb dX4_lots_17 rfl ?_
        refine lv_ldc2 (v := (2147483647 : Int64)) hx hb hown k1 dX4_lots_18 ?_
        refine W.lcmp hx hb dX4_lots_21 ?_
        refine lv_if_lt (tgt := 27) hx hb dX4_lots_22 (by decide) (fun c4 => ?_) (fun c4 => ?_)
        · have h := ite_t h c4
          refine lv_aload_n hx hb dX4_lots_27 rfl (lv_at hl 0 rfl) ?_
          refine g_get hx hb l4 hown hK hG (k := 0) (by decide) (cE_4 _ _) vwCl_4 7 (by decide) k2 (fun _ h9 => h9) rfl dX4_lots_28 ?_
          refine g_get hx hb l1 hown hK hG (k := P) hP.1.1 (cE_1 hP.1 _ _) vwCl_1 2 (by decide) k3 (fun _ h9 => h9) rfl dX4_lots_31 ?_
          refine lv_if_ne (tgt := 40) hx hb dX4_lots_34 (by decide) (fun c5 => ?_) (fun c5 => ?_)
          · have h := ite_f h c5
            refine lv_aload_n hx hb dX4_lots_40 rfl (lv_at hl 0 rfl) ?_
            refine g_get hx hb l4 hown hK hG (k := 0) (by decide) (cE_4 _ _) vwCl_4 2 (by decide) k4 (fun _ h9 => h9) rfl dX4_lots_41 ?_
            refine g_get hx hb l0 hown hK hG (k := 17) cDeeds_17.1.1 (cE_0 cDeeds_17.1 _ _) vwCl_0 0 (by decide) k5 (fun _ h9 => h9) rfl dX4_lots_44 ?_
            refine lv_iload_n hx hb dX4_lots_47 rfl (lv_at hl 1 rfl) ?_
            refine lv_iadd hx hb dX4_lots_48 ?_
            refine lv_bipush (v := (40 : Int32)) hx hb dX4_lots_49 (by decide) ?_
            refine lv_icmp_le (tgt := 57) hx hb dX4_lots_51 (by decide) (fun c6 => ?_) (fun c6 => ?_)
            · have h := ite_t h c6
              refine lv_iload_n hx hb dX4_lots_57 rfl (lv_at hl 2 rfl) ?_
              refine lv_i2l hx hb dX4_lots_58 rfl ?_
              refine lv_lstore_n (lv' := [(3, .long x2.toInt64), (0, .ref (ad 0)), (1, .int x1), (2, .int x2)]) hx hb dX4_lots_59 rfl hl (by decide) rfl (fun ls hl => ?_)
              refine lv_iconst (v := (0 : Int32)) hx hb dX4_lots_60 (by decide) ?_
              refine lv_istore (lv' := [(5, .int (0 : Int32)), (3, .long x2.toInt64), (0, .ref (ad 0)), (1, .int x1), (2, .int x2)]) hx hb dX4_lots_61 hl (by decide) rfl (fun ls hl => ?_)
              have keyK7 : ∀ (K7 : xMem → Option (Int32 × xMem)), (∀ (I10 : xMem) (H : Heap) (locs : List Loc) (ls : Array Slot), K7 I10 = some r → cG D cy ad P Dr I10 L H → va_S (gA 64 ad) s.heap H locs → lv_has ls 6 [(0, .ref (ad 0))] → W p l e rm_X4_lots s m args below meth c H locs 0 0 Q (F0 m 90 ls [])) → ∀ (n8 : Nat) (x3_8 : Int64) (x5_8 : Int32) (I9 : xMem) (H : Heap) (locs : List Loc) (ls : Array Slot), X4_lots_L1 P x1 K7 n8 x3_8 x5_8 I9 = some r → cG D cy ad P Dr I9 L H → va_S (gA 64 ad) s.heap H locs → lv_has ls 6 [(0, .ref (ad 0)), (1, .int x1), (3, .long x3_8), (5, .int x5_8)] → W p l e rm_X4_lots s m args below meth c H locs 0 0 Q (F0 m 63 ls []) := by
                intro K7 hkK7 n8
                induction n8 with
                | zero =>
                  intro x3_8 x5_8 I9 H locs ls h
                  exact ono h
                | succ n8 ihn8 =>
                  intro x3_8 x5_8 I9 H locs ls h hG hS hl
                  rw [X4_lots_L1] at h
                  refine lv_iload hx hb dX4_lots_63 (lv_at hl 3 rfl) ?_
                  refine lv_iload_n hx hb dX4_lots_65 rfl (lv_at hl 1 rfl) ?_
                  refine lv_icmp_ge (tgt := 90) hx hb dX4_lots_66 (by decide) (fun c11 => ?_) (fun c11 => ?_)
                  · have h := ite_t h c11
                    exact hkK7 I9 _ _ _ h hG hS (lv_sub hl [0] rfl)
                  · have h := ite_f h c11
                    refine lv_lload_n hx hb dX4_lots_69 rfl (lv_at hl 2 rfl) ?_
                    refine lv_ldc2 (v := (48271 : Int64)) hx hb hown k6 dX4_lots_70 ?_
                    refine lv_lmul hx hb dX4_lots_73 ?_
                    refine lv_ldc2 (v := (2147483647 : Int64)) hx hb hown k1 dX4_lots_74 ?_
                    refine lv_lrem hx hb dX4_lots_77 (by decide) ?_
                    refine lv_lstore_n (lv' := [(3, .long ((x3_8 * (48271 : Int64)) - (x3_8 * (48271 : Int64)) / (2147483647 : Int64) * (2147483647 : Int64))), (0, .ref (ad 0)), (1, .int x1), (5, .int x5_8)]) hx hb dX4_lots_78 rfl hl (by decide) rfl (fun ls hl => ?_)
                    refine lv_aload_n hx hb dX4_lots_79 rfl (lv_at hl 1 rfl) ?_
                    refine lv_lload_n hx hb dX4_lots_80 rfl (lv_at hl 0 rfl) ?_
                    obtain ⟨q12, eq12, h⟩ := obind h
                    refine g_endv (va_runV (As := [.long ((x3_8 * (48271 : Int64)) - (x3_8 * (48271 : Int64)) / (2147483647 : Int64) * (2147483647 : Int64))]) (rest := []) ⟨hx, hb, hml, hown, hts⟩ (k_X4_doByLot l D cy ad P Dr tI hX I9 L ((x3_8 * (48271 : Int64)) - (x3_8 * (48271 : Int64)) / (2147483647 : Int64) * (2147483647 : Int64)) q12 eq12) (cwV 1 hts gX4_lots_X4_doByLot rfl rfl rfl cd_X4_doByLot ⟨Nat.le_of_ble_eq_true rfl, Nat.le_of_ble_eq_true rfl⟩) ⟨g_blind cZm, g_recv hK hG (k := 0) (by decide) (cE_4 _ _) vwCl_4, g_pre cZm hK hG hZ hS⟩ rfl rfl hl.1 rfl (lv_room (Nat.le_of_ble_eq_true rfl)) dX4_lots_81 ⟨Nat.le_refl _, Nat.le_refl _⟩) hS (fun H locs hG hS => ?_)
                    refine lv_iinc (v := (x5_8 + (1 : Int32))) (lv' := [(5, .int (x5_8 + (1 : Int32))), (3, .long ((x3_8 * (48271 : Int64)) - (x3_8 * (48271 : Int64)) / (2147483647 : Int64) * (2147483647 : Int64))), (0, .ref (ad 0)), (1, .int x1)]) hx hb dX4_lots_84 hl (k := 3) rfl rfl (by decide) rfl (fun ls hl => ?_)
                    refine lv_goto (tgt := 63) hx hb dX4_lots_87 (by decide) ?_
                    exact ihn8 ((x3_8 * (48271 : Int64)) - (x3_8 * (48271 : Int64)) / (2147483647 : Int64) * (2147483647 : Int64)) (x5_8 + (1 : Int32)) q12 _ _ _ h hG hS (lv_sub hl [2, 3, 1, 0] rfl)
              refine keyK7 _ (fun I10 H locs ls h hG hS hl => ?_) bigF x2.toInt64 (0 : Int32) I _ _ _ h hG hS (lv_sub hl [2, 3, 1, 0] rfl)
              clear keyK7
              refine lv_aload_n hx hb dX4_lots_90 rfl (lv_at hl 0 rfl) ?_
              refine g_get hx hb l4 hown hK hG (k := 0) (by decide) (cE_4 _ _) vwCl_4 2 (by decide) k4 (fun _ h9 => h9) rfl dX4_lots_91 ?_
              obtain ⟨v13, ev13, h⟩ := obind h
              refine g_endi (va_runV (As := []) (rest := []) ⟨hx, hb, hml, hown, hts⟩ (k_X0_top l D cy ad P Dr tI hX (b := 17) cDeeds_17 I10 L v13 ev13) (cwV 0 hts gX4_lots_X0_top rfl rfl rfl cd_X0_top ⟨Nat.le_of_ble_eq_true rfl, Nat.le_of_ble_eq_true rfl⟩) ⟨g_blind cZm, g_recv hK hG (k := 17) cDeeds_17.1.1 (cE_0 cDeeds_17.1 _ _) vwCl_0, g_pre cZm hK hG hZ hS⟩ rfl rfl hl.1 rfl (lv_room (Nat.le_of_ble_eq_true rfl)) dX4_lots_94 ⟨Nat.le_refl _, Nat.le_refl _⟩) hS (fun H locs hG hS => ?_)
              refine g_endi (va_runS (As := [.int v13]) (rest := []) ⟨hx, hb, hml, hown, hts⟩ (k_J6_bitCount_0f7a4 l D cy ad P Dr tI hX I10 L v13 _ rfl) (va_cwS 1 hts gX4_lots_J6_bitCount_0f7a4 rfl rfl rfl cd_J6_bitCount_0f7a4.2 ⟨Nat.le_of_ble_eq_true rfl, Nat.le_of_ble_eq_true rfl⟩) ⟨g_blind cZm, g_pre cZm hK hG hZ hS⟩ rfl rfl hl.1 rfl (lv_room (Nat.le_of_ble_eq_true rfl)) dX4_lots_97 ⟨Nat.le_refl _, Nat.le_refl _⟩) hS (fun H locs hG hS => ?_)
              have h := Option.some.inj h
              subst h
              subst hQ
              exact g_iret hx hb hr hlocks cZm hK hZ hG hS rfl dX4_lots_100
            · have h := ite_f h c6
              refine lv_bipush (v := (-2 : Int32)) hx hb dX4_lots_54 (by decide) ?_
              have h := Option.some.inj h
              subst h
              subst hQ
              exact g_iret hx hb hr hlocks cZm hK hZ hG hS rfl dX4_lots_56
          · have h := ite_t h c5
            refine lv_bipush (v := (-4 : Int32)) hx hb dX4_lots_37 (by decide) ?_
            have h := Option.some.inj h
            subst h
            subst hQ
            exact g_iret hx hb hr hlocks cZm hK hZ hG hS rfl dX4_lots_39
        · have h := ite_f h c4
          refine lv_iconst (v := (-1 : Int32)) hx hb dX4_lots_25 (by decide) ?_
          have h := Option.some.inj h
          subst h
          subst hQ
          exact g_iret hx hb hr hlocks cZm hK hZ hG hS rfl dX4_lots_26
def X4_asked (I : xMem) : Int32 := (I 0 10)
abbrev rm_X4_asked : Room := { frames := 0, cells := 0, slots := 0, locals := 0 }
theorem cd_X4_asked : yX4_asked.cls = RX4 ∧ yX4_asked.cls ≠ "java/lang/invoke/MethodHandle" ∧ yX4_asked.cls ≠ "java/lang/invoke/VarHandle" ∧ (parseMethodDescriptor yX4_asked.desc).map (fun d => d.parameters.length) = some 0 := by decide +kernel
set_option maxHeartbeats 4000000 in
set_option maxRecDepth 100000 in
theorem k_X4_asked (l : Launch) (D : va_G) (cy : Nat → ClassId) (ad : Nat → Nat) (P Dr : Nat) (tI : xTab) (hX : cOk ad P Dr) (I : xMem) (L : xLon)  (r : Int32) (h : X4_asked I = r) : Met l yX4_asked wsX4_asked rm_X4_asked (va_Pc [.ref (ad 0)] (cW D cy ad P Dr tI I L)) (cPi D cy ad P Dr tI I L r) 0 0 (gA 64 ad) := by
  refine g_met (own := RX4) (cc := cX4_asked) (maxL := 1) (ret := (some .int)) (by decide) rfl (Nat.le_of_ble_eq_true rfl) rfl ?_
  intro p e s m args below meth c ls hx hb hml hr hlocks hown hts hG hK hZ hl
  generalize hQ : MQ below _ args s 0 0 _ = Q
  have hl : lv_has ls 1 [(0, .ref (ad 0))] := hl
  have hS : va_S (gA 64 ad) s.heap s.heap [] := va_S.rf
  obtain ⟨hi, hP, hDr⟩ := id hX
  have l4 : ∀ w ∈ wsX40, w.before args s = true := fun w h => hts w (List.mem_cons_of_mem _ (List.mem_append_right _ h))
  have k1 := hts (.fieldLink RX4 72 "PairStairs" "told" "I") (by decide +kernel)
  unfold X4_asked at h
  refine lv_aload_n hx hb dX4_asked_0 rfl (lv_at hl 0 rfl) ?_
  refine g_get hx hb l4 hown hK hG (k := 0) (by decide) (cE_4 _ _) vwCl_4 10 (by decide) k1 (fun _ h9 => h9) rfl dX4_asked_1 ?_
  subst h
  subst hQ
  exact g_iret hx hb hr hlocks cZm hK hZ hG hS rfl dX4_asked_4
def X4_upper (L : xLon) : Int64 := (L 11)
abbrev rm_X4_upper : Room := { frames := 0, cells := 0, slots := 0, locals := 0 }
theorem cd_X4_upper : yX4_upper.cls = RX4 ∧ yX4_upper.cls ≠ "java/lang/invoke/MethodHandle" ∧ yX4_upper.cls ≠ "java/lang/invoke/VarHandle" ∧ (parseMethodDescriptor yX4_upper.desc).map (fun d => d.parameters.length) = some 0 := by decide +kernel
set_option maxHeartbeats 4000000 in
set_option maxRecDepth 100000 in
theorem k_X4_upper (l : Launch) (D : va_G) (cy : Nat → ClassId) (ad : Nat → Nat) (P Dr : Nat) (tI : xTab) (hX : cOk ad P Dr) (I : xMem) (L : xLon)  (r : Int64) (h : X4_upper L = r) : Met l yX4_upper wsX4_upper rm_X4_upper (va_Pc [.ref (ad 0)] (cW D cy ad P Dr tI I L)) (cPl D cy ad P Dr tI I L r) 0 0 (gA 64 ad) := by
  refine g_met (own := RX4) (cc := cX4_upper) (maxL := 1) (ret := (some .long)) (by decide) rfl (Nat.le_of_ble_eq_true rfl) rfl ?_
  intro p e s m args below meth c ls hx hb hml hr hlocks hown hts hG hK hZ hl
  generalize hQ : MQ below _ args s 0 0 _ = Q
  have hl : lv_has ls 1 [(0, .ref (ad 0))] := hl
  have hS : va_S (gA 64 ad) s.heap s.heap [] := va_S.rf
  obtain ⟨hi, hP, hDr⟩ := id hX
  have l4 : ∀ w ∈ wsX40, w.before args s = true := fun w h => hts w (List.mem_cons_of_mem _ (List.mem_append_right _ h))
  have k1 := hts (.fieldLink RX4 264 "PairStairs" "above" "J") (by decide +kernel)
  unfold X4_upper at h
  refine lv_aload_n hx hb dX4_upper_0 rfl (lv_at hl 0 rfl) ?_
  refine g_get hx hb l4 hown hK hG (k := 0) (by decide) (cE_4 _ _) vwCl_4 11 (by decide) k1 (fun _ h9 => h9) rfl dX4_upper_1 ?_
  subst h
  subst hQ
  exact g_lret hx hb hr hlocks cZm hK hZ hG hS rfl dX4_upper_4
def X4_lower (L : xLon) : Int64 := (L 12)
abbrev rm_X4_lower : Room := { frames := 0, cells := 0, slots := 0, locals := 0 }
theorem cd_X4_lower : yX4_lower.cls = RX4 ∧ yX4_lower.cls ≠ "java/lang/invoke/MethodHandle" ∧ yX4_lower.cls ≠ "java/lang/invoke/VarHandle" ∧ (parseMethodDescriptor yX4_lower.desc).map (fun d => d.parameters.length) = some 0 := by decide +kernel
set_option maxHeartbeats 4000000 in
set_option maxRecDepth 100000 in
theorem k_X4_lower (l : Launch) (D : va_G) (cy : Nat → ClassId) (ad : Nat → Nat) (P Dr : Nat) (tI : xTab) (hX : cOk ad P Dr) (I : xMem) (L : xLon)  (r : Int64) (h : X4_lower L = r) : Met l yX4_lower wsX4_lower rm_X4_lower (va_Pc [.ref (ad 0)] (cW D cy ad P Dr tI I L)) (cPl D cy ad P Dr tI I L r) 0 0 (gA 64 ad) := by
  refine g_met (own := RX4) (cc := cX4_lower) (maxL := 1) (ret := (some .long)) (by decide) rfl (Nat.le_of_ble_eq_true rfl) rfl ?_
  intro p e s m args below meth c ls hx hb hml hr hlocks hown hts hG hK hZ hl
  generalize hQ : MQ below _ args s 0 0 _ = Q
  have hl : lv_has ls 1 [(0, .ref (ad 0))] := hl
  have hS : va_S (gA 64 ad) s.heap s.heap [] := va_S.rf
  obtain ⟨hi, hP, hDr⟩ := id hX
  have l4 : ∀ w ∈ wsX40, w.before args s = true := fun w h => hts w (List.mem_cons_of_mem _ (List.mem_append_right _ h))
  have k1 := hts (.fieldLink RX4 57 "PairStairs" "below" "J") (by decide +kernel)
  unfold X4_lower at h
  refine lv_aload_n hx hb dX4_lower_0 rfl (lv_at hl 0 rfl) ?_
  refine g_get hx hb l4 hown hK hG (k := 0) (by decide) (cE_4 _ _) vwCl_4 12 (by decide) k1 (fun _ h9 => h9) rfl dX4_lower_1 ?_
  subst h
  subst hQ
  exact g_lret hx hb hr hlocks cZm hK hZ hG hS rfl dX4_lower_4
def X4_howManyKept_L1 (I : xMem) (K1 : Int32 → Option (Int32)) : Nat → Int32 → Int32 → Option (Int32)
  | 0, _, _ => none
  | n2 + 1, x1_2, x2_2 => if (3 : Int32) ≤ x2_2 then (K1 x1_2) else ((rdI I 38 3 x2_2).bind fun v4 => (if v4 = (0 : Int32) then (some (0 : Int32)) else (some (1 : Int32))).bind fun q5 => X4_howManyKept_L1 I K1 n2 (x1_2 + q5) (x2_2 + (1 : Int32)))
def X4_howManyKept (I : xMem) : Option (Int32) := X4_howManyKept_L1 I (fun (z1_2 : Int32) => some z1_2) bigF (0 : Int32) (0 : Int32)
abbrev rm_X4_howManyKept : Room := { frames := 0, cells := 0, slots := 0, locals := 0 }
theorem cd_X4_howManyKept : yX4_howManyKept.cls = RX4 ∧ yX4_howManyKept.cls ≠ "java/lang/invoke/MethodHandle" ∧ yX4_howManyKept.cls ≠ "java/lang/invoke/VarHandle" ∧ (parseMethodDescriptor yX4_howManyKept.desc).map (fun d => d.parameters.length) = some 0 := by decide +kernel
set_option maxHeartbeats 4000000 in
set_option maxRecDepth 100000 in
theorem k_X4_howManyKept (l : Launch) (D : va_G) (cy : Nat → ClassId) (ad : Nat → Nat) (P Dr : Nat) (tI : xTab) (hX : cOk ad P Dr) (I : xMem) (L : xLon)  (r : Int32) (h : X4_howManyKept I = some r) : Met l yX4_howManyKept wsX4_howManyKept rm_X4_howManyKept (va_Pc [.ref (ad 0)] (cW D cy ad P Dr tI I L)) (cPi D cy ad P Dr tI I L r) 0 0 (gA 64 ad) := by
  refine g_met (own := RX4) (cc := cX4_howManyKept) (maxL := 3) (ret := (some .int)) (by decide) rfl (Nat.le_of_ble_eq_true rfl) rfl ?_
  intro p e s m args below meth c ls hx hb hml hr hlocks hown hts hG hK hZ hl
  generalize hQ : MQ below _ args s 0 0 _ = Q
  have hl : lv_has ls 3 [(0, .ref (ad 0))] := hl
  have hS : va_S (gA 64 ad) s.heap s.heap [] := va_S.rf
  obtain ⟨hi, hP, hDr⟩ := id hX
  have l4 : ∀ w ∈ wsX40, w.before args s = true := fun w h => hts w (List.mem_cons_of_mem _ (List.mem_append_right _ h))
  have k1 := hts (.fieldLink RX4 32 "PairStairs" "isKept" "[Z") (by decide +kernel)
  unfold X4_howManyKept at h
  refine lv_iconst (v := (0 : Int32)) hx hb dX4_howManyKept_0 (by decide) ?_
  refine lv_istore_n (lv' := [(1, .int (0 : Int32)), (0, .ref (ad 0))]) hx hb dX4_howManyKept_1 rfl hl (by decide) rfl (fun ls hl => ?_)
  refine lv_iconst (v := (0 : Int32)) hx hb dX4_howManyKept_2 (by decide) ?_
  refine lv_istore_n (lv' := [(2, .int (0 : Int32)), (1, .int (0 : Int32)), (0, .ref (ad 0))]) hx hb dX4_howManyKept_3 rfl hl (by decide) rfl (fun ls hl => ?_)
  have keyK1 : ∀ (K1 : Int32 → Option (Int32)), (∀ (z1_2 : Int32) (H : Heap) (locs : List Loc) (ls : Array Slot), K1 z1_2 = some r → cG D cy ad P Dr I L H → va_S (gA 64 ad) s.heap H locs → lv_has ls 3 [(1, .int z1_2)] → W p l e rm_X4_howManyKept s m args below meth c H locs 0 0 Q (F0 m 32 ls [])) → ∀ (n2 : Nat) (x1_2 : Int32) (x2_2 : Int32) (H : Heap) (locs : List Loc) (ls : Array Slot), X4_howManyKept_L1 I K1 n2 x1_2 x2_2 = some r → cG D cy ad P Dr I L H → va_S (gA 64 ad) s.heap H locs → lv_has ls 3 [(0, .ref (ad 0)), (1, .int x1_2), (2, .int x2_2)] → W p l e rm_X4_howManyKept s m args below meth c H locs 0 0 Q (F0 m 4 ls []) := by
    intro K1 hkK1 n2
    induction n2 with
    | zero =>
      intro x1_2 x2_2 H locs ls h
      exact ono h
    | succ n2 ihn2 =>
      intro x1_2 x2_2 H locs ls h hG hS hl
      rw [X4_howManyKept_L1] at h
      refine lv_iload_n hx hb dX4_howManyKept_4 rfl (lv_at hl 2 rfl) ?_
      refine lv_iconst (v := (3 : Int32)) hx hb dX4_howManyKept_5 (by decide) ?_
      refine lv_icmp_ge (tgt := 32) hx hb dX4_howManyKept_6 (by decide) (fun c3 => ?_) (fun c3 => ?_)
      · have h := ite_t h c3
        exact hkK1 x1_2 _ _ _ h hG hS (lv_sub hl [1] rfl)
      · have h := ite_f h c3
        refine lv_iload_n hx hb dX4_howManyKept_9 rfl (lv_at hl 1 rfl) ?_
        refine lv_aload_n hx hb dX4_howManyKept_10 rfl (lv_at hl 0 rfl) ?_
        refine g_get hx hb l4 hown hK hG (k := 0) (by decide) (cE_4 _ _) vwCl_4 4 (by decide) k1 (fun _ h9 => h9) rfl dX4_howManyKept_11 ?_
        refine lv_iload_n hx hb dX4_howManyKept_14 rfl (lv_at hl 2 rfl) ?_
        refine g_zald hx hb hK hG (k := 38) (n := 3) (by decide) (cE_7 _ _) 1 rfl h dX4_howManyKept_15 (fun v4 h => ?_)
        obtain ⟨q5, h9, h⟩ := obind h
        have hk_q5 : ∀ (H : Heap) (locs : List Loc) (ls : Array Slot), cG D cy ad P Dr I L H → va_S (gA 64 ad) s.heap H locs → lv_has ls 3 [(0, .ref (ad 0)), (2, .int x2_2)] → W p l e rm_X4_howManyKept s m args below meth c H locs 0 0 Q (F0 m 24 ls [.int q5, .int x1_2]) := by
          intro H locs ls hG hS hl
          refine lv_iadd hx hb dX4_howManyKept_24 ?_
          refine lv_istore_n (lv' := [(1, .int (x1_2 + q5)), (0, .ref (ad 0)), (2, .int x2_2)]) hx hb dX4_howManyKept_25 rfl hl (by decide) rfl (fun ls hl => ?_)
          refine lv_iinc (v := (x2_2 + (1 : Int32))) (lv' := [(2, .int (x2_2 + (1 : Int32))), (1, .int (x1_2 + q5)), (0, .ref (ad 0))]) hx hb dX4_howManyKept_26 hl (k := 2) rfl rfl (by decide) rfl (fun ls hl => ?_)
          refine lv_goto (tgt := 4) hx hb dX4_howManyKept_29 (by decide) ?_
          exact ihn2 (x1_2 + q5) (x2_2 + (1 : Int32)) _ _ _ h hG hS (lv_sub hl [2, 1, 0] rfl)
        clear h
        have h := h9
        clear h9
        refine lv_if_eq (tgt := 23) hx hb dX4_howManyKept_16 (by decide) (fun c6 => ?_) (fun c6 => ?_)
        · have h := ite_t h c6
          refine lv_iconst (v := (0 : Int32)) hx hb dX4_howManyKept_23 (by decide) ?_
          have h := Option.some.inj h
          subst h
          exact hk_q5 _ _ _ hG hS (lv_sub hl [0, 2] rfl)
        · have h := ite_f h c6
          refine lv_iconst (v := (1 : Int32)) hx hb dX4_howManyKept_19 (by decide) ?_
          refine lv_goto (tgt := 24) hx hb dX4_howManyKept_20 (by decide) ?_
          have h := Option.some.inj h
          subst h
          exact hk_q5 _ _ _ hG hS (lv_sub hl [0, 2] rfl)
  refine keyK1 _ (fun z1_2 H locs ls h hG hS hl => ?_) bigF (0 : Int32) (0 : Int32) _ _ _ h hG hS (lv_sub hl [2, 1, 0] rfl)
  clear keyK1
  refine lv_iload_n hx hb dX4_howManyKept_32 rfl (lv_at hl 0 rfl) ?_
  have h := Option.some.inj h
  subst h
  subst hQ
  exact g_iret hx hb hr hlocks cZm hK hZ hG hS rfl dX4_howManyKept_33
def X4_count (P : Nat) (I : xMem) (x1 : Int32) : Option (Int32) := if x1 = (0 : Int32) then (some (I P 2)) else (if x1 = (1 : Int32) then (some (I P 1)) else (if x1 = (2 : Int32) then (some (I 17 0)) else (if x1 = (3 : Int32) then ((X0_eaten 17 I).bind fun v5 => some v5) else (if x1 = (4 : Int32) then ((X0_top 17 I).bind fun v7 => some v7) else (if x1 = (5 : Int32) then ((X0_stonesUp 17 I).bind fun v9 => some v9) else (if x1 = (6 : Int32) then (some (I P 0)) else (if x1 = (7 : Int32) then ((X0_stepsSunk 17 I).bind fun v12 => some v12) else (if x1 = (8 : Int32) then ((X1_howMany P I (2 : Int32)).bind fun v14 => some v14) else (if x1 = (9 : Int32) then ((X1_howMany P I (3 : Int32)).bind fun v16 => some v16) else (if x1 = (10 : Int32) then ((X2_howMany 1 I).bind fun v18 => some v18) else (if x1 = (11 : Int32) then ((X2_howMany 10 I).bind fun v20 => some v20) else (if x1 = (12 : Int32) then ((X4_howManyKept I).bind fun v22 => some v22) else (some (-1 : Int32))))))))))))))
abbrev rm_X4_count : Room := { frames := 2, cells := 0, slots := 0, locals := 43 }
theorem cd_X4_count : yX4_count.cls = RX4 ∧ yX4_count.cls ≠ "java/lang/invoke/MethodHandle" ∧ yX4_count.cls ≠ "java/lang/invoke/VarHandle" ∧ (parseMethodDescriptor yX4_count.desc).map (fun d => d.parameters.length) = some 1 := by decide +kernel
set_option maxHeartbeats 4000000 in
set_option maxRecDepth 100000 in
theorem k_X4_count (l : Launch) (D : va_G) (cy : Nat → ClassId) (ad : Nat → Nat) (P Dr : Nat) (tI : xTab) (hX : cOk ad P Dr) (I : xMem) (L : xLon) (x1 : Int32) (r : Int32) (h : X4_count P I x1 = some r) : Met l yX4_count wsX4_count rm_X4_count (va_Pc [.ref (ad 0), .int x1] (cW D cy ad P Dr tI I L)) (cPi D cy ad P Dr tI I L r) 0 0 (gA 64 ad) := by
  refine g_met (own := RX4) (cc := cX4_count) (maxL := 2) (ret := (some .int)) (by decide) rfl (Nat.le_of_ble_eq_true rfl) rfl ?_
  intro p e s m args below meth c ls hx hb hml hr hlocks hown hts hG hK hZ hl
  generalize hQ : MQ below _ args s 0 0 _ = Q
  have hl : lv_has ls 2 [(0, .ref (ad 0)), (1, .int x1)] := hl
  have hS : va_S (gA 64 ad) s.heap s.heap [] := va_S.rf
  obtain ⟨hi, hP, hDr⟩ := id hX
  have l0 : ∀ w ∈ wsX00, w.before args s = true := fun w h => hts w (List.mem_cons_of_mem _ (List.mem_append_left _ (List.mem_append_right _ h)))
  have l1 : ∀ w ∈ wsX10, w.before args s = true := fun w h => hts w (List.mem_cons_of_mem _ (List.mem_append_left _ (List.mem_append_left _ (List.mem_append_right _ h))))
  have l4 : ∀ w ∈ wsX40, w.before args s = true := fun w h => hts w (List.mem_cons_of_mem _ (List.mem_append_left _ (List.mem_append_left _ (List.mem_append_left _ (List.mem_append_right _ h)))))
  have k1 := hts (.fieldLink RX4 50 "PairStairs" "plan" "LPairStairs$Plan;") (by decide +kernel)
  have k2 := hts (.fieldLink RX4 115 "PairStairs$Plan" "people" "I") (by decide +kernel)
  have k3 := hts (.fieldLink RX4 211 "PairStairs$Plan" "stones" "I") (by decide +kernel)
  have k4 := hts (.fieldLink RX4 24 "PairStairs" "deeds" "LPairStairs$Deeds;") (by decide +kernel)
  have k5 := hts (.fieldLink RX4 112 "PairStairs$Deeds" "done" "I") (by decide +kernel)
  have k6 := hts (.fieldLink RX4 168 "PairStairs$Plan" "limit" "I") (by decide +kernel)
  have k7 := hts (.fieldLink RX4 12 "PairStairs" "rows" "LPairStairs$Shelf;") (by decide +kernel)
  have k8 := hts (.fieldLink RX4 18 "PairStairs" "texts" "LPairStairs$Shelf;") (by decide +kernel)
  unfold X4_count at h
  refine lv_iload_n hx hb dX4_count_0 rfl (lv_at hl 1 rfl) ?_
  by_cases c1 : x1 = (0 : Int32)
  · have h := ite_t h c1
    refine lv_tableIn (tgt := 68) hx hb dX4_count_1 (by rw [c1]; decide) (by rw [c1]; decide) (by rw [c1]; rfl) (by decide) ?_
    refine lv_aload_n hx hb dX4_count_68 rfl (lv_at hl 0 rfl) ?_
    refine g_get hx hb l4 hown hK hG (k := 0) (by decide) (cE_4 _ _) vwCl_4 7 (by decide) k1 (fun _ h9 => h9) rfl dX4_count_69 ?_
    refine g_get hx hb l1 hown hK hG (k := P) hP.1.1 (cE_1 hP.1 _ _) vwCl_1 2 (by decide) k2 (fun _ h9 => h9) rfl dX4_count_72 ?_
    have h := Option.some.inj h
    subst h
    subst hQ
    exact g_iret hx hb hr hlocks cZm hK hZ hG hS rfl dX4_count_75
  · have h := ite_f h c1
    by_cases c2 : x1 = (1 : Int32)
    · have h := ite_t h c2
      refine lv_tableIn (tgt := 76) hx hb dX4_count_1 (by rw [c2]; decide) (by rw [c2]; decide) (by rw [c2]; rfl) (by decide) ?_
      refine lv_aload_n hx hb dX4_count_76 rfl (lv_at hl 0 rfl) ?_
      refine g_get hx hb l4 hown hK hG (k := 0) (by decide) (cE_4 _ _) vwCl_4 7 (by decide) k1 (fun _ h9 => h9) rfl dX4_count_77 ?_
      refine g_get hx hb l1 hown hK hG (k := P) hP.1.1 (cE_1 hP.1 _ _) vwCl_1 1 (by decide) k3 (fun _ h9 => h9) rfl dX4_count_80 ?_
      have h := Option.some.inj h
      subst h
      subst hQ
      exact g_iret hx hb hr hlocks cZm hK hZ hG hS rfl dX4_count_83
    · have h := ite_f h c2
      by_cases c3 : x1 = (2 : Int32)
      · have h := ite_t h c3
        refine lv_tableIn (tgt := 84) hx hb dX4_count_1 (by rw [c3]; decide) (by rw [c3]; decide) (by rw [c3]; rfl) (by decide) ?_
        refine lv_aload_n hx hb dX4_count_84 rfl (lv_at hl 0 rfl) ?_
        refine g_get hx hb l4 hown hK hG (k := 0) (by decide) (cE_4 _ _) vwCl_4 2 (by decide) k4 (fun _ h9 => h9) rfl dX4_count_85 ?_
        refine g_get hx hb l0 hown hK hG (k := 17) cDeeds_17.1.1 (cE_0 cDeeds_17.1 _ _) vwCl_0 0 (by decide) k5 (fun _ h9 => h9) rfl dX4_count_88 ?_
        have h := Option.some.inj h
        subst h
        subst hQ
        exact g_iret hx hb hr hlocks cZm hK hZ hG hS rfl dX4_count_91
      · have h := ite_f h c3
        by_cases c4 : x1 = (3 : Int32)
        · have h := ite_t h c4
          refine lv_tableIn (tgt := 92) hx hb dX4_count_1 (by rw [c4]; decide) (by rw [c4]; decide) (by rw [c4]; rfl) (by decide) ?_
          refine lv_aload_n hx hb dX4_count_92 rfl (lv_at hl 0 rfl) ?_
          refine g_get hx hb l4 hown hK hG (k := 0) (by decide) (cE_4 _ _) vwCl_4 2 (by decide) k4 (fun _ h9 => h9) rfl dX4_count_93 ?_
          obtain ⟨v5, ev5, h⟩ := obind h
          refine g_endi (va_runV (As := []) (rest := []) ⟨hx, hb, hml, hown, hts⟩ (k_X0_eaten l D cy ad P Dr tI hX (b := 17) cDeeds_17 I L v5 ev5) (cwV 0 hts gX4_count_X0_eaten rfl rfl rfl cd_X0_eaten ⟨Nat.le_of_ble_eq_true rfl, Nat.le_of_ble_eq_true rfl⟩) ⟨g_blind cZm, g_recv hK hG (k := 17) cDeeds_17.1.1 (cE_0 cDeeds_17.1 _ _) vwCl_0, g_pre cZm hK hG hZ hS⟩ rfl rfl hl.1 rfl (lv_room (Nat.le_of_ble_eq_true rfl)) dX4_count_96 ⟨Nat.le_refl _, Nat.le_refl _⟩) hS (fun H locs hG hS => ?_)
          have h := Option.some.inj h
          subst h
          subst hQ
          exact g_iret hx hb hr hlocks cZm hK hZ hG hS rfl dX4_count_99
        · have h := ite_f h c4
          by_cases c6 : x1 = (4 : Int32)
          · have h := ite_t h c6
            refine lv_tableIn (tgt := 100) hx hb dX4_count_1 (by rw [c6]; decide) (by rw [c6]; decide) (by rw [c6]; rfl) (by decide) ?_
            refine lv_aload_n hx hb dX4_count_100 rfl (lv_at hl 0 rfl) ?_
            refine g_get hx hb l4 hown hK hG (k := 0) (by decide) (cE_4 _ _) vwCl_4 2 (by decide) k4 (fun _ h9 => h9) rfl dX4_count_101 ?_
            obtain ⟨v7, ev7, h⟩ := obind h
            refine g_endi (va_runV (As := []) (rest := []) ⟨hx, hb, hml, hown, hts⟩ (k_X0_top l D cy ad P Dr tI hX (b := 17) cDeeds_17 I L v7 ev7) (cwV 0 hts gX4_count_X0_top rfl rfl rfl cd_X0_top ⟨Nat.le_of_ble_eq_true rfl, Nat.le_of_ble_eq_true rfl⟩) ⟨g_blind cZm, g_recv hK hG (k := 17) cDeeds_17.1.1 (cE_0 cDeeds_17.1 _ _) vwCl_0, g_pre cZm hK hG hZ hS⟩ rfl rfl hl.1 rfl (lv_room (Nat.le_of_ble_eq_true rfl)) dX4_count_104 ⟨Nat.le_refl _, Nat.le_refl _⟩) hS (fun H locs hG hS => ?_)
            have h := Option.some.inj h
            subst h
            subst hQ
            exact g_iret hx hb hr hlocks cZm hK hZ hG hS rfl dX4_count_107
          · have h := ite_f h c6
            by_cases c8 : x1 = (5 : Int32)
            · have h := ite_t h c8
              refine lv_tableIn (tgt := 108) hx hb dX4_count_1 (by rw [c8]; decide) (by rw [c8]; decide) (by rw [c8]; rfl) (by decide) ?_
              refine lv_aload_n hx hb dX4_count_108 rfl (lv_at hl 0 rfl) ?_
              refine g_get hx hb l4 hown hK hG (k := 0) (by decide) (cE_4 _ _) vwCl_4 2 (by decide) k4 (fun _ h9 => h9) rfl dX4_count_109 ?_
              obtain ⟨v9, ev9, h⟩ := obind h
              refine g_endi (va_runV (As := []) (rest := []) ⟨hx, hb, hml, hown, hts⟩ (k_X0_stonesUp l D cy ad P Dr tI hX (b := 17) cDeeds_17 I L v9 ev9) (cwV 0 hts gX4_count_X0_stonesUp rfl rfl rfl cd_X0_stonesUp ⟨Nat.le_of_ble_eq_true rfl, Nat.le_of_ble_eq_true rfl⟩) ⟨g_blind cZm, g_recv hK hG (k := 17) cDeeds_17.1.1 (cE_0 cDeeds_17.1 _ _) vwCl_0, g_pre cZm hK hG hZ hS⟩ rfl rfl hl.1 rfl (lv_room (Nat.le_of_ble_eq_true rfl)) dX4_count_112 ⟨Nat.le_refl _, Nat.le_refl _⟩) hS (fun H locs hG hS => ?_)
              have h := Option.some.inj h
              subst h
              subst hQ
              exact g_iret hx hb hr hlocks cZm hK hZ hG hS rfl dX4_count_115
            · have h := ite_f h c8
              by_cases c10 : x1 = (6 : Int32)
              · have h := ite_t h c10
                refine lv_tableIn (tgt := 116) hx hb dX4_count_1 (by rw [c10]; decide) (by rw [c10]; decide) (by rw [c10]; rfl) (by decide) ?_
                refine lv_aload_n hx hb dX4_count_116 rfl (lv_at hl 0 rfl) ?_
                refine g_get hx hb l4 hown hK hG (k := 0) (by decide) (cE_4 _ _) vwCl_4 7 (by decide) k1 (fun _ h9 => h9) rfl dX4_count_117 ?_
                refine g_get hx hb l1 hown hK hG (k := P) hP.1.1 (cE_1 hP.1 _ _) vwCl_1 0 (by decide) k6 (fun _ h9 => h9) rfl dX4_count_120 ?_
                have h := Option.some.inj h
                subst h
                subst hQ
                exact g_iret hx hb hr hlocks cZm hK hZ hG hS rfl dX4_count_123
              · have h := ite_f h c10
                by_cases c11 : x1 = (7 : Int32)
                · have h := ite_t h c11
                  refine lv_tableIn (tgt := 124) hx hb dX4_count_1 (by rw [c11]; decide) (by rw [c11]; decide) (by rw [c11]; rfl) (by decide) ?_
                  refine lv_aload_n hx hb dX4_count_124 rfl (lv_at hl 0 rfl) ?_
                  refine g_get hx hb l4 hown hK hG (k := 0) (by decide) (cE_4 _ _) vwCl_4 2 (by decide) k4 (fun _ h9 => h9) rfl dX4_count_125 ?_
                  obtain ⟨v12, ev12, h⟩ := obind h
                  refine g_endi (va_runV (As := []) (rest := []) ⟨hx, hb, hml, hown, hts⟩ (k_X0_stepsSunk l D cy ad P Dr tI hX (b := 17) cDeeds_17 I L v12 ev12) (cwV 0 hts gX4_count_X0_stepsSunk rfl rfl rfl cd_X0_stepsSunk ⟨Nat.le_of_ble_eq_true rfl, Nat.le_of_ble_eq_true rfl⟩) ⟨g_blind cZm, g_recv hK hG (k := 17) cDeeds_17.1.1 (cE_0 cDeeds_17.1 _ _) vwCl_0, g_pre cZm hK hG hZ hS⟩ rfl rfl hl.1 rfl (lv_room (Nat.le_of_ble_eq_true rfl)) dX4_count_128 ⟨Nat.le_refl _, Nat.le_refl _⟩) hS (fun H locs hG hS => ?_)
                  have h := Option.some.inj h
                  subst h
                  subst hQ
                  exact g_iret hx hb hr hlocks cZm hK hZ hG hS rfl dX4_count_131
                · have h := ite_f h c11
                  by_cases c13 : x1 = (8 : Int32)
                  · have h := ite_t h c13
                    refine lv_tableIn (tgt := 132) hx hb dX4_count_1 (by rw [c13]; decide) (by rw [c13]; decide) (by rw [c13]; rfl) (by decide) ?_
                    refine lv_aload_n hx hb dX4_count_132 rfl (lv_at hl 0 rfl) ?_
                    refine g_get hx hb l4 hown hK hG (k := 0) (by decide) (cE_4 _ _) vwCl_4 7 (by decide) k1 (fun _ h9 => h9) rfl dX4_count_133 ?_
                    refine lv_iconst (v := (2 : Int32)) hx hb dX4_count_136 (by decide) ?_
                    obtain ⟨v14, ev14, h⟩ := obind h
                    refine g_endi (va_runV (As := [.int (2 : Int32)]) (rest := []) ⟨hx, hb, hml, hown, hts⟩ (k_X1_howMany l D cy ad P Dr tI hX (b := P) hP I L (2 : Int32) v14 ev14) (cwV 1 hts gX4_count_X1_howMany rfl rfl rfl cd_X1_howMany ⟨Nat.le_of_ble_eq_true rfl, Nat.le_of_ble_eq_true rfl⟩) ⟨g_blind cZm, g_recv hK hG (k := P) hP.1.1 (cE_1 hP.1 _ _) vwCl_1, g_pre cZm hK hG hZ hS⟩ rfl rfl hl.1 rfl (lv_room (Nat.le_of_ble_eq_true rfl)) dX4_count_137 ⟨Nat.le_refl _, Nat.le_refl _⟩) hS (fun H locs hG hS => ?_)
                    have h := Option.some.inj h
                    subst h
                    subst hQ
                    exact g_iret hx hb hr hlocks cZm hK hZ hG hS rfl dX4_count_140
                  · have h := ite_f h c13
                    by_cases c15 : x1 = (9 : Int32)
                    · have h := ite_t h c15
                      refine lv_tableIn (tgt := 141) hx hb dX4_count_1 (by rw [c15]; decide) (by rw [c15]; decide) (by rw [c15]; rfl) (by decide) ?_
                      refine lv_aload_n hx hb dX4_count_141 rfl (lv_at hl 0 rfl) ?_
                      refine g_get hx hb l4 hown hK hG (k := 0) (by decide) (cE_4 _ _) vwCl_4 7 (by decide) k1 (fun _ h9 => h9) rfl dX4_count_142 ?_
                      refine lv_iconst (v := (3 : Int32)) hx hb dX4_count_145 (by decide) ?_
                      obtain ⟨v16, ev16, h⟩ := obind h
                      refine g_endi (va_runV (As := [.int (3 : Int32)]) (rest := []) ⟨hx, hb, hml, hown, hts⟩ (k_X1_howMany l D cy ad P Dr tI hX (b := P) hP I L (3 : Int32) v16 ev16) (cwV 1 hts gX4_count_X1_howMany rfl rfl rfl cd_X1_howMany ⟨Nat.le_of_ble_eq_true rfl, Nat.le_of_ble_eq_true rfl⟩) ⟨g_blind cZm, g_recv hK hG (k := P) hP.1.1 (cE_1 hP.1 _ _) vwCl_1, g_pre cZm hK hG hZ hS⟩ rfl rfl hl.1 rfl (lv_room (Nat.le_of_ble_eq_true rfl)) dX4_count_146 ⟨Nat.le_refl _, Nat.le_refl _⟩) hS (fun H locs hG hS => ?_)
                      have h := Option.some.inj h
                      subst h
                      subst hQ
                      exact g_iret hx hb hr hlocks cZm hK hZ hG hS rfl dX4_count_149
                    · have h := ite_f h c15
                      by_cases c17 : x1 = (10 : Int32)
                      · have h := ite_t h c17
                        refine lv_tableIn (tgt := 150) hx hb dX4_count_1 (by rw [c17]; decide) (by rw [c17]; decide) (by rw [c17]; rfl) (by decide) ?_
                        refine lv_aload_n hx hb dX4_count_150 rfl (lv_at hl 0 rfl) ?_
                        refine g_get hx hb l4 hown hK hG (k := 0) (by decide) (cE_4 _ _) vwCl_4 0 (by decide) k7 (fun _ h9 => h9) rfl dX4_count_151 ?_
                        obtain ⟨v18, ev18, h⟩ := obind h
                        refine g_endi (va_runV (As := []) (rest := []) ⟨hx, hb, hml, hown, hts⟩ (k_X2_howMany l D cy ad P Dr tI hX (b := 1) cShelf_1 I L v18 ev18) (cwV 0 hts gX4_count_X2_howMany rfl rfl rfl cd_X2_howMany ⟨Nat.le_of_ble_eq_true rfl, Nat.le_of_ble_eq_true rfl⟩) ⟨g_blind cZm, g_recv hK hG (k := 1) cShelf_1.1.1 (cE_2 cShelf_1.1 _ _) vwCl_2, g_pre cZm hK hG hZ hS⟩ rfl rfl hl.1 rfl (lv_room (Nat.le_of_ble_eq_true rfl)) dX4_count_154 ⟨Nat.le_refl _, Nat.le_refl _⟩) hS (fun H locs hG hS => ?_)
                        have h := Option.some.inj h
                        subst h
                        subst hQ
                        exact g_iret hx hb hr hlocks cZm hK hZ hG hS rfl dX4_count_157
                      · have h := ite_f h c17
                        by_cases c19 : x1 = (11 : Int32)
                        · have h := ite_t h c19
                          refine lv_tableIn (tgt := 158) hx hb dX4_count_1 (by rw [c19]; decide) (by rw [c19]; decide) (by rw [c19]; rfl) (by decide) ?_
                          refine lv_aload_n hx hb dX4_count_158 rfl (lv_at hl 0 rfl) ?_
                          refine g_get hx hb l4 hown hK hG (k := 0) (by decide) (cE_4 _ _) vwCl_4 1 (by decide) k8 (fun _ h9 => h9) rfl dX4_count_159 ?_
                          obtain ⟨v20, ev20, h⟩ := obind h
                          refine g_endi (va_runV (As := []) (rest := []) ⟨hx, hb, hml, hown, hts⟩ (k_X2_howMany l D cy ad P Dr tI hX (b := 10) cShelf_10 I L v20 ev20) (cwV 0 hts gX4_count_X2_howMany rfl rfl rfl cd_X2_howMany ⟨Nat.le_of_ble_eq_true rfl, Nat.le_of_ble_eq_true rfl⟩) ⟨g_blind cZm, g_recv hK hG (k := 10) cShelf_10.1.1 (cE_2 cShelf_10.1 _ _) vwCl_2, g_pre cZm hK hG hZ hS⟩ rfl rfl hl.1 rfl (lv_room (Nat.le_of_ble_eq_true rfl)) dX4_count_162 ⟨Nat.le_refl _, Nat.le_refl _⟩) hS (fun H locs hG hS => ?_)
                          have h := Option.some.inj h
                          subst h
                          subst hQ
                          exact g_iret hx hb hr hlocks cZm hK hZ hG hS rfl dX4_count_165
                        · have h := ite_f h c19
                          by_cases c21 : x1 = (12 : Int32)
                          · have h := ite_t h c21
                            refine lv_tableIn (tgt := 166) hx hb dX4_count_1 (by rw [c21]; decide) (by rw [c21]; decide) (by rw [c21]; rfl) (by decide) ?_
                            refine lv_aload_n hx hb dX4_count_166 rfl (lv_at hl 0 rfl) ?_
                            obtain ⟨v22, ev22, h⟩ := obind h
                            refine g_endi (va_runV (As := []) (rest := []) ⟨hx, hb, hml, hown, hts⟩ (k_X4_howManyKept l D cy ad P Dr tI hX I L v22 ev22) (cwV 0 hts gX4_count_X4_howManyKept rfl rfl rfl cd_X4_howManyKept ⟨Nat.le_of_ble_eq_true rfl, Nat.le_of_ble_eq_true rfl⟩) ⟨g_blind cZm, g_recv hK hG (k := 0) (by decide) (cE_4 _ _) vwCl_4, g_pre cZm hK hG hZ hS⟩ rfl rfl hl.1 rfl (lv_room (Nat.le_of_ble_eq_true rfl)) dX4_count_167 ⟨Nat.le_refl _, Nat.le_refl _⟩) hS (fun H locs hG hS => ?_)
                            have h := Option.some.inj h
                            subst h
                            subst hQ
                            exact g_iret hx hb hr hlocks cZm hK hZ hG hS rfl dX4_count_170
                          · have h := ite_f h c21
                            refine lv_tableOut (tgt := 171) hx hb dX4_count_1 (tsw_out 0 12 (fun k h1 h2 => ?_)) (by decide) ?_
                            · rcases (show k = 0 ∨ k = 1 ∨ k = 2 ∨ k = 3 ∨ k = 4 ∨ k = 5 ∨ k = 6 ∨ k = 7 ∨ k = 8 ∨ k = 9 ∨ k = 10 ∨ k = 11 ∨ k = 12 by omega) with rfl | rfl | rfl | rfl | rfl | rfl | rfl | rfl | rfl | rfl | rfl | rfl | rfl
                              · exact c1
                              · exact c2
                              · exact c3
                              · exact c4
                              · exact c6
                              · exact c8
                              · exact c10
                              · exact c11
                              · exact c13
                              · exact c15
                              · exact c17
                              · exact c19
                              · exact c21
                            · refine lv_iconst (v := (-1 : Int32)) hx hb dX4_count_171 (by decide) ?_
                              have h := Option.some.inj h
                              subst h
                              subst hQ
                              exact g_iret hx hb hr hlocks cZm hK hZ hG hS rfl dX4_count_172
def X4_digest_L1 (P : Nat) (I : xMem) (K1 : Int64 → Option (Int64)) : Nat → Int64 → Int32 → Option (Int64)
  | 0, _, _ => none
  | n2 + 1, x1_2, x3_2 => if (12 : Int32) < x3_2 then (K1 x1_2) else ((X4_count P I x3_2).bind fun v4 => X4_digest_L1 P I K1 n2 (((31 : Int64) * x1_2) + v4.toInt64) (x3_2 + (1 : Int32)))
def X4_digest_L2 (P : Nat) (I : xMem) (K5 : Int64 → Option (Int64)) : Nat → Int64 → Int32 → Option (Int64)
  | 0, _, _ => none
  | n6 + 1, x1_6, x3_6 => if (I P 1) ≤ x3_6 then (K5 x1_6) else ((rdI I (P + 1) 4 x3_6).bind fun v8 => X4_digest_L2 P I K5 n6 (((31 : Int64) * x1_6) + v8.toInt64) (x3_6 + (1 : Int32)))
def X4_digest_L4 (P : Nat) (I : xMem) (x3_10 : Int32) (K12 : Int64 → Option (Int64)) : Nat → Int64 → Int32 → Option (Int64)
  | 0, _, _ => none
  | n13 + 1, x1_13, x4_13 => if (4 : Int32) < x4_13 then (K12 x1_13) else ((X4_about P I x3_10 x4_13).bind fun v15 => X4_digest_L4 P I x3_10 K12 n13 (((31 : Int64) * x1_13) + v15.toInt64) (x4_13 + (1 : Int32)))
def X4_digest_L3 (P : Nat) (I : xMem) (K9 : Int64 → Option (Int64)) : Nat → Int64 → Int32 → Option (Int64)
  | 0, _, _ => none
  | n10 + 1, x1_10, x3_10 => if (I P 2) ≤ x3_10 then (K9 x1_10) else (X4_digest_L4 P I x3_10 (fun (z1_13 : Int64) => X4_digest_L3 P I K9 n10 z1_13 (x3_10 + (1 : Int32))) bigF x1_10 (0 : Int32))
def X4_digest_L5 (I : xMem) (K16 : Int64 → Option (Int64)) : Nat → Int64 → Int32 → Option (Int64)
  | 0, _, _ => none
  | n17 + 1, x1_17, x3_17 => if (3 : Int32) ≤ x3_17 then (K16 x1_17) else ((rdI I 38 3 x3_17).bind fun v19 => (if v19 = (0 : Int32) then (some (-1 : Int32)) else ((rdX 3 x3_17).bind fun j22 => some (I (23 + 5 * j22) 0))).bind fun q20 => X4_digest_L5 I K16 n17 (((31 : Int64) * x1_17) + q20.toInt64) (x3_17 + (1 : Int32)))
def X4_digest (P : Nat) (I : xMem) : Option (Int64) := X4_digest_L1 P I (fun (z1_2 : Int64) => X4_digest_L2 P I (fun (z1_6 : Int64) => X4_digest_L3 P I (fun (z1_10 : Int64) => X4_digest_L5 I (fun (z1_17 : Int64) => (X2_digested 1 I z1_17).bind fun v23 => (X2_digested 10 I v23).bind fun v24 => some v24) bigF z1_10 (0 : Int32)) bigF z1_6 (0 : Int32)) bigF z1_2 (0 : Int32)) bigF (17 : Int64) (0 : Int32)
abbrev rm_X4_digest : Room := { frames := 7, cells := 0, slots := 0, locals := 161 }
theorem cd_X4_digest : yX4_digest.cls = RX4 ∧ yX4_digest.cls ≠ "java/lang/invoke/MethodHandle" ∧ yX4_digest.cls ≠ "java/lang/invoke/VarHandle" ∧ (parseMethodDescriptor yX4_digest.desc).map (fun d => d.parameters.length) = some 0 := by decide +kernel
set_option maxHeartbeats 4000000 in
set_option maxRecDepth 100000 in
theorem k_X4_digest (l : Launch) (D : va_G) (cy : Nat → ClassId) (ad : Nat → Nat) (P Dr : Nat) (tI : xTab) (hX : cOk ad P Dr) (I : xMem) (L : xLon)  (r : Int64) (h : X4_digest P I = some r) : Met l yX4_digest wsX4_digest rm_X4_digest (va_Pc [.ref (ad 0)] (cW D cy ad P Dr tI I L)) (cPl D cy ad P Dr tI I L r) 0 0 (gA 64 ad) := by
  refine g_met (own := RX4) (cc := cX4_digest) (maxL := 5) (ret := (some .long)) (by decide) rfl (Nat.le_of_ble_eq_true rfl) rfl ?_
  intro p e s m args below meth c ls hx hb hml hr hlocks hown hts hG hK hZ hl
  generalize hQ : MQ below _ args s 0 0 _ = Q
  have hl : lv_has ls 5 [(0, .ref (ad 0))] := hl
  have hS : va_S (gA 64 ad) s.heap s.heap [] := va_S.rf
  obtain ⟨hi, hP, hDr⟩ := id hX
  have l0 : ∀ w ∈ wsX00, w.before args s = true := fun w h => hts w (List.mem_cons_of_mem _ (List.mem_append_left _ (List.mem_append_right _ h)))
  have l1 : ∀ w ∈ wsX10, w.before args s = true := fun w h => hts w (List.mem_cons_of_mem _ (List.mem_append_left _ (List.mem_append_left _ (List.mem_append_right _ h))))
  have l4 : ∀ w ∈ wsX40, w.before args s = true := fun w h => hts w (List.mem_cons_of_mem _ (List.mem_append_left _ (List.mem_append_left _ (List.mem_append_left _ (List.mem_append_right _ h)))))
  have k1 := hts (.constantLong RX4 278 (17)) (by decide +kernel)
  have k2 := hts (.constantLong RX4 280 (31)) (by decide +kernel)
  have k3 := hts (.fieldLink RX4 50 "PairStairs" "plan" "LPairStairs$Plan;") (by decide +kernel)
  have k4 := hts (.fieldLink RX4 211 "PairStairs$Plan" "stones" "I") (by decide +kernel)
  have k5 := hts (.fieldLink RX4 285 "PairStairs$Plan" "stoneWeight" "[I") (by decide +kernel)
  have k6 := hts (.fieldLink RX4 115 "PairStairs$Plan" "people" "I") (by decide +kernel)
  have k7 := hts (.fieldLink RX4 32 "PairStairs" "isKept" "[Z") (by decide +kernel)
  have k8 := hts (.fieldLink RX4 28 "PairStairs" "kept" "[LPairStairs$Deeds;") (by decide +kernel)
  have k9 := hts (.fieldLink RX4 112 "PairStairs$Deeds" "done" "I") (by decide +kernel)
  have k10 := hts (.fieldLink RX4 18 "PairStairs" "texts" "LPairStairs$Shelf;") (by decide +kernel)
  have k11 := hts (.fieldLink RX4 12 "PairStairs" "rows" "LPairStairs$Shelf;") (by decide +kernel)
  unfold X4_digest at h
  refine lv_ldc2 (v := (17 : Int64)) hx hb hown k1 dX4_digest_0 ?_
  refine lv_lstore_n (lv' := [(1, .long (17 : Int64)), (0, .ref (ad 0))]) hx hb dX4_digest_3 rfl hl (by decide) rfl (fun ls hl => ?_)
  refine lv_iconst (v := (0 : Int32)) hx hb dX4_digest_4 (by decide) ?_
  refine lv_istore_n (lv' := [(3, .int (0 : Int32)), (1, .long (17 : Int64)), (0, .ref (ad 0))]) hx hb dX4_digest_5 rfl hl (by decide) rfl (fun ls hl => ?_)
  have keyK1 : ∀ (K1 : Int64 → Option (Int64)), (∀ (z1_2 : Int64) (H : Heap) (locs : List Loc) (ls : Array Slot), K1 z1_2 = some r → cG D cy ad P Dr I L H → va_S (gA 64 ad) s.heap H locs → lv_has ls 5 [(0, .ref (ad 0)), (1, .long z1_2)] → W p l e rm_X4_digest s m args below meth c H locs 0 0 Q (F0 m 31 ls [])) → ∀ (n2 : Nat) (x1_2 : Int64) (x3_2 : Int32) (H : Heap) (locs : List Loc) (ls : Array Slot), X4_digest_L1 P I K1 n2 x1_2 x3_2 = some r → cG D cy ad P Dr I L H → va_S (gA 64 ad) s.heap H locs → lv_has ls 5 [(0, .ref (ad 0)), (1, .long x1_2), (3, .int x3_2)] → W p l e rm_X4_digest s m args below meth c H locs 0 0 Q (F0 m 6 ls []) := by
    intro K1 hkK1 n2
    induction n2 with
    | zero =>
      intro x1_2 x3_2 H locs ls h
      exact ono h
    | succ n2 ihn2 =>
      intro x1_2 x3_2 H locs ls h hG hS hl
      rw [X4_digest_L1] at h
      refine lv_iload_n hx hb dX4_digest_6 rfl (lv_at hl 2 rfl) ?_
      refine lv_bipush (v := (12 : Int32)) hx hb dX4_digest_7 (by decide) ?_
      refine lv_icmp_gt (tgt := 31) hx hb dX4_digest_9 (by decide) (fun c3 => ?_) (fun c3 => ?_)
      · have h := ite_t h c3
        exact hkK1 x1_2 _ _ _ h hG hS (lv_sub hl [0, 1] rfl)
      · have h := ite_f h c3
        refine lv_ldc2 (v := (31 : Int64)) hx hb hown k2 dX4_digest_12 ?_
        refine lv_lload_n hx hb dX4_digest_15 rfl (lv_at hl 1 rfl) ?_
        refine lv_lmul hx hb dX4_digest_16 ?_
        refine lv_aload_n hx hb dX4_digest_17 rfl (lv_at hl 0 rfl) ?_
        refine lv_iload_n hx hb dX4_digest_18 rfl (lv_at hl 2 rfl) ?_
        obtain ⟨v4, ev4, h⟩ := obind h
        refine g_endi (va_runV (As := [.int x3_2]) (rest := [.long ((31 : Int64) * x1_2)]) ⟨hx, hb, hml, hown, hts⟩ (k_X4_count l D cy ad P Dr tI hX I L x3_2 v4 ev4) (cwV 1 hts gX4_digest_X4_count rfl rfl rfl cd_X4_count ⟨Nat.le_of_ble_eq_true rfl, Nat.le_of_ble_eq_true rfl⟩) ⟨g_blind cZm, g_recv hK hG (k := 0) (by decide) (cE_4 _ _) vwCl_4, g_pre cZm hK hG hZ hS⟩ rfl rfl hl.1 rfl (lv_room (Nat.le_of_ble_eq_true rfl)) dX4_digest_19 ⟨Nat.le_refl _, Nat.le_refl _⟩) hS (fun H locs hG hS => ?_)
        refine lv_i2l hx hb dX4_digest_22 rfl ?_
        refine lv_ladd hx hb dX4_digest_23 ?_
        refine lv_lstore_n (lv' := [(1, .long (((31 : Int64) * x1_2) + v4.toInt64)), (0, .ref (ad 0)), (3, .int x3_2)]) hx hb dX4_digest_24 rfl hl (by decide) rfl (fun ls hl => ?_)
        refine lv_iinc (v := (x3_2 + (1 : Int32))) (lv' := [(3, .int (x3_2 + (1 : Int32))), (1, .long (((31 : Int64) * x1_2) + v4.toInt64)), (0, .ref (ad 0))]) hx hb dX4_digest_25 hl (k := 2) rfl rfl (by decide) rfl (fun ls hl => ?_)
        refine lv_goto (tgt := 6) hx hb dX4_digest_28 (by decide) ?_
        exact ihn2 (((31 : Int64) * x1_2) + v4.toInt64) (x3_2 + (1 : Int32)) _ _ _ h hG hS (lv_sub hl [2, 1, 0] rfl)
  refine keyK1 _ (fun z1_2 H locs ls h hG hS hl => ?_) bigF (17 : Int64) (0 : Int32) _ _ _ h hG hS (lv_sub hl [2, 1, 0] rfl)
  clear keyK1
  refine lv_iconst (v := (0 : Int32)) hx hb dX4_digest_31 (by decide) ?_
  refine lv_istore_n (lv' := [(3, .int (0 : Int32)), (0, .ref (ad 0)), (1, .long z1_2)]) hx hb dX4_digest_32 rfl hl (by decide) rfl (fun ls hl => ?_)
  have keyK5 : ∀ (K5 : Int64 → Option (Int64)), (∀ (z1_6 : Int64) (H : Heap) (locs : List Loc) (ls : Array Slot), K5 z1_6 = some r → cG D cy ad P Dr I L H → va_S (gA 64 ad) s.heap H locs → lv_has ls 5 [(0, .ref (ad 0)), (1, .long z1_6)] → W p l e rm_X4_digest s m args below meth c H locs 0 0 Q (F0 m 67 ls [])) → ∀ (n6 : Nat) (x1_6 : Int64) (x3_6 : Int32) (H : Heap) (locs : List Loc) (ls : Array Slot), X4_digest_L2 P I K5 n6 x1_6 x3_6 = some r → cG D cy ad P Dr I L H → va_S (gA 64 ad) s.heap H locs → lv_has ls 5 [(0, .ref (ad 0)), (1, .long x1_6), (3, .int x3_6)] → W p l e rm_X4_digest s m args below meth c H locs 0 0 Q (F0 m 33 ls []) := by
    intro K5 hkK5 n6
    induction n6 with
    | zero =>
      intro x1_6 x3_6 H locs ls h
      exact ono h
    | succ n6 ihn6 =>
      intro x1_6 x3_6 H locs ls h hG hS hl
      rw [X4_digest_L2] at h
      refine lv_iload_n hx hb dX4_digest_33 rfl (lv_at hl 2 rfl) ?_
      refine lv_aload_n hx hb dX4_digest_34 rfl (lv_at hl 0 rfl) ?_
      refine g_get hx hb l4 hown hK hG (k := 0) (by decide) (cE_4 _ _) vwCl_4 7 (by decide) k3 (fun _ h9 => h9) rfl dX4_digest_35 ?_
      refine g_get hx hb l1 hown hK hG (k := P) hP.1.1 (cE_1 hP.1 _ _) vwCl_1 1 (by decide) k4 (fun _ h9 => h9) rfl dX4_digest_38 ?_
      refine lv_icmp_ge (tgt := 67) hx hb dX4_digest_41 (by decide) (fun c7 => ?_) (fun c7 => ?_)
      · have h := ite_t h c7
        exact hkK5 x1_6 _ _ _ h hG hS (lv_sub hl [0, 1] rfl)
      · have h := ite_f h c7
        refine lv_ldc2 (v := (31 : Int64)) hx hb hown k2 dX4_digest_44 ?_
        refine lv_lload_n hx hb dX4_digest_47 rfl (lv_at hl 1 rfl) ?_
        refine lv_lmul hx hb dX4_digest_48 ?_
        refine lv_aload_n hx hb dX4_digest_49 rfl (lv_at hl 0 rfl) ?_
        refine g_get hx hb l4 hown hK hG (k := 0) (by decide) (cE_4 _ _) vwCl_4 7 (by decide) k3 (fun _ h9 => h9) rfl dX4_digest_50 ?_
        refine g_get hx hb l1 hown hK hG (k := P) hP.1.1 (cE_1 hP.1 _ _) vwCl_1 3 (by decide) k5 (fun _ h9 => h9) rfl dX4_digest_53 ?_
        refine lv_iload_n hx hb dX4_digest_56 rfl (lv_at hl 2 rfl) ?_
        refine g_ald hx hb hK hG (k := (P + 1)) (n := 4) hP.2.1.1.1 (cIA_e hP.2.1 _ _) 0 rfl h dX4_digest_57 (fun v8 h => ?_)
        refine lv_i2l hx hb dX4_digest_58 rfl ?_
        refine lv_ladd hx hb dX4_digest_59 ?_
        refine lv_lstore_n (lv' := [(1, .long (((31 : Int64) * x1_6) + v8.toInt64)), (0, .ref (ad 0)), (3, .int x3_6)]) hx hb dX4_digest_60 rfl hl (by decide) rfl (fun ls hl => ?_)
        refine lv_iinc (v := (x3_6 + (1 : Int32))) (lv' := [(3, .int (x3_6 + (1 : Int32))), (1, .long (((31 : Int64) * x1_6) + v8.toInt64)), (0, .ref (ad 0))]) hx hb dX4_digest_61 hl (k := 2) rfl rfl (by decide) rfl (fun ls hl => ?_)
        refine lv_goto (tgt := 33) hx hb dX4_digest_64 (by decide) ?_
        exact ihn6 (((31 : Int64) * x1_6) + v8.toInt64) (x3_6 + (1 : Int32)) _ _ _ h hG hS (lv_sub hl [2, 1, 0] rfl)
  refine keyK5 _ (fun z1_6 H locs ls h hG hS hl => ?_) bigF z1_2 (0 : Int32) _ _ _ h hG hS (lv_sub hl [1, 2, 0] rfl)
  clear keyK5
  refine lv_iconst (v := (0 : Int32)) hx hb dX4_digest_67 (by decide) ?_
  refine lv_istore_n (lv' := [(3, .int (0 : Int32)), (0, .ref (ad 0)), (1, .long z1_6)]) hx hb dX4_digest_68 rfl hl (by decide) rfl (fun ls hl => ?_)
  have keyK9 : ∀ (K9 : Int64 → Option (Int64)), (∀ (z1_10 : Int64) (H : Heap) (locs : List Loc) (ls : Array Slot), K9 z1_10 = some r → cG D cy ad P Dr I L H → va_S (gA 64 ad) s.heap H locs → lv_has ls 5 [(0, .ref (ad 0)), (1, .long z1_10)] → W p l e rm_X4_digest s m args below meth c H locs 0 0 Q (F0 m 116 ls [])) → ∀ (n10 : Nat) (x1_10 : Int64) (x3_10 : Int32) (H : Heap) (locs : List Loc) (ls : Array Slot), X4_digest_L3 P I K9 n10 x1_10 x3_10 = some r → cG D cy ad P Dr I L H → va_S (gA 64 ad) s.heap H locs → lv_has ls 5 [(0, .ref (ad 0)), (1, .long x1_10), (3, .int x3_10)] → W p l e rm_X4_digest s m args below meth c H locs 0 0 Q (F0 m 69 ls []) := by
    intro K9 hkK9 n10
    induction n10 with
    | zero =>
      intro x1_10 x3_10 H locs ls h
      exact ono h
    | succ n10 ihn10 =>
      intro x1_10 x3_10 H locs ls h hG hS hl
      rw [X4_digest_L3] at h
      refine lv_iload_n hx hb dX4_digest_69 rfl (lv_at hl 2 rfl) ?_
      refine lv_aload_n hx hb dX4_digest_70 rfl (lv_at hl 0 rfl) ?_
      refine g_get hx hb l4 hown hK hG (k := 0) (by decide) (cE_4 _ _) vwCl_4 7 (by decide) k3 (fun _ h9 => h9) rfl dX4_digest_71 ?_
      refine g_get hx hb l1 hown hK hG (k := P) hP.1.1 (cE_1 hP.1 _ _) vwCl_1 2 (by decide) k6 (fun _ h9 => h9) rfl dX4_digest_74 ?_
      refine lv_icmp_ge (tgt := 116) hx hb dX4_digest_77 (by decide) (fun c11 => ?_) (fun c11 => ?_)
      · have h := ite_t h c11
        exact hkK9 x1_10 _ _ _ h hG hS (lv_sub hl [0, 1] rfl)
      · have h := ite_f h c11
        refine lv_iconst (v := (0 : Int32)) hx hb dX4_digest_80 (by decide) ?_
        refine lv_istore (lv' := [(4, .int (0 : Int32)), (0, .ref (ad 0)), (1, .long x1_10), (3, .int x3_10)]) hx hb dX4_digest_81 hl (by decide) rfl (fun ls hl => ?_)
        have keyK12 : ∀ (K12 : Int64 → Option (Int64)), (∀ (z1_13 : Int64) (H : Heap) (locs : List Loc) (ls : Array Slot), K12 z1_13 = some r → cG D cy ad P Dr I L H → va_S (gA 64 ad) s.heap H locs → lv_has ls 5 [(0, .ref (ad 0)), (1, .long z1_13), (3, .int x3_10)] → W p l e rm_X4_digest s m args below meth c H locs 0 0 Q (F0 m 110 ls [])) → ∀ (n13 : Nat) (x1_13 : Int64) (x4_13 : Int32) (H : Heap) (locs : List Loc) (ls : Array Slot), X4_digest_L4 P I x3_10 K12 n13 x1_13 x4_13 = some r → cG D cy ad P Dr I L H → va_S (gA 64 ad) s.heap H locs → lv_has ls 5 [(0, .ref (ad 0)), (1, .long x1_13), (3, .int x3_10), (4, .int x4_13)] → W p l e rm_X4_digest s m args below meth c H locs 0 0 Q (F0 m 83 ls []) := by
          intro K12 hkK12 n13
          induction n13 with
          | zero =>
            intro x1_13 x4_13 H locs ls h
            exact ono h
          | succ n13 ihn13 =>
            intro x1_13 x4_13 H locs ls h hG hS hl
            rw [X4_digest_L4] at h
            refine lv_iload hx hb dX4_digest_83 (lv_at hl 3 rfl) ?_
            refine lv_iconst (v := (4 : Int32)) hx hb dX4_digest_85 (by decide) ?_
            refine lv_icmp_gt (tgt := 110) hx hb dX4_digest_86 (by decide) (fun c14 => ?_) (fun c14 => ?_)
            · have h := ite_t h c14
              exact hkK12 x1_13 _ _ _ h hG hS (lv_sub hl [0, 1, 2] rfl)
            · have h := ite_f h c14
              refine lv_ldc2 (v := (31 : Int64)) hx hb hown k2 dX4_digest_89 ?_
              refine lv_lload_n hx hb dX4_digest_92 rfl (lv_at hl 1 rfl) ?_
              refine lv_lmul hx hb dX4_digest_93 ?_
              refine lv_aload_n hx hb dX4_digest_94 rfl (lv_at hl 0 rfl) ?_
              refine lv_iload_n hx hb dX4_digest_95 rfl (lv_at hl 2 rfl) ?_
              refine lv_iload hx hb dX4_digest_96 (lv_at hl 3 rfl) ?_
              obtain ⟨v15, ev15, h⟩ := obind h
              refine g_endi (va_runV (As := [.int x3_10, .int x4_13]) (rest := [.long ((31 : Int64) * x1_13)]) ⟨hx, hb, hml, hown, hts⟩ (k_X4_about l D cy ad P Dr tI hX I L x3_10 x4_13 v15 ev15) (cwV 2 hts gX4_digest_X4_about rfl rfl rfl cd_X4_about ⟨Nat.le_of_ble_eq_true rfl, Nat.le_of_ble_eq_true rfl⟩) ⟨g_blind cZm, g_recv hK hG (k := 0) (by decide) (cE_4 _ _) vwCl_4, g_pre cZm hK hG hZ hS⟩ rfl rfl hl.1 rfl (lv_room (Nat.le_of_ble_eq_true rfl)) dX4_digest_98 ⟨Nat.le_refl _, Nat.le_refl _⟩) hS (fun H locs hG hS => ?_)
              refine lv_i2l hx hb dX4_digest_101 rfl ?_
              refine lv_ladd hx hb dX4_digest_102 ?_
              refine lv_lstore_n (lv' := [(1, .long (((31 : Int64) * x1_13) + v15.toInt64)), (0, .ref (ad 0)), (3, .int x3_10), (4, .int x4_13)]) hx hb dX4_digest_103 rfl hl (by decide) rfl (fun ls hl => ?_)
              refine lv_iinc (v := (x4_13 + (1 : Int32))) (lv' := [(4, .int (x4_13 + (1 : Int32))), (1, .long (((31 : Int64) * x1_13) + v15.toInt64)), (0, .ref (ad 0)), (3, .int x3_10)]) hx hb dX4_digest_104 hl (k := 3) rfl rfl (by decide) rfl (fun ls hl => ?_)
              refine lv_goto (tgt := 83) hx hb dX4_digest_107 (by decide) ?_
              exact ihn13 (((31 : Int64) * x1_13) + v15.toInt64) (x4_13 + (1 : Int32)) _ _ _ h hG hS (lv_sub hl [2, 1, 3, 0] rfl)
        refine keyK12 _ (fun z1_13 H locs ls h hG hS hl => ?_) bigF x1_10 (0 : Int32) _ _ _ h hG hS (lv_sub hl [1, 2, 3, 0] rfl)
        clear keyK12
        refine lv_iinc (v := (x3_10 + (1 : Int32))) (lv' := [(3, .int (x3_10 + (1 : Int32))), (0, .ref (ad 0)), (1, .long z1_13)]) hx hb dX4_digest_110 hl (k := 2) rfl rfl (by decide) rfl (fun ls hl => ?_)
        refine lv_goto (tgt := 69) hx hb dX4_digest_113 (by decide) ?_
        exact ihn10 z1_13 (x3_10 + (1 : Int32)) _ _ _ h hG hS (lv_sub hl [1, 2, 0] rfl)
  refine keyK9 _ (fun z1_10 H locs ls h hG hS hl => ?_) bigF z1_6 (0 : Int32) _ _ _ h hG hS (lv_sub hl [1, 2, 0] rfl)
  clear keyK9
  refine lv_iconst (v := (0 : Int32)) hx hb dX4_digest_116 (by decide) ?_
  refine lv_istore_n (lv' := [(3, .int (0 : Int32)), (0, .ref (ad 0)), (1, .long z1_10)]) hx hb dX4_digest_117 rfl hl (by decide) rfl (fun ls hl => ?_)
  have keyK16 : ∀ (K16 : Int64 → Option (Int64)), (∀ (z1_17 : Int64) (H : Heap) (locs : List Loc) (ls : Array Slot), K16 z1_17 = some r → cG D cy ad P Dr I L H → va_S (gA 64 ad) s.heap H locs → lv_has ls 5 [(0, .ref (ad 0)), (1, .long z1_17)] → W p l e rm_X4_digest s m args below meth c H locs 0 0 Q (F0 m 159 ls [])) → ∀ (n17 : Nat) (x1_17 : Int64) (x3_17 : Int32) (H : Heap) (locs : List Loc) (ls : Array Slot), X4_digest_L5 I K16 n17 x1_17 x3_17 = some r → cG D cy ad P Dr I L H → va_S (gA 64 ad) s.heap H locs → lv_has ls 5 [(0, .ref (ad 0)), (1, .long x1_17), (3, .int x3_17)] → W p l e rm_X4_digest s m args below meth c H locs 0 0 Q (F0 m 118 ls []) := by
    intro K16 hkK16 n17
    induction n17 with
    | zero =>
      intro x1_17 x3_17 H locs ls h
      exact ono h
    | succ n17 ihn17 =>
      intro x1_17 x3_17 H locs ls h hG hS hl
      rw [X4_digest_L5] at h
      refine lv_iload_n hx hb dX4_digest_118 rfl (lv_at hl 2 rfl) ?_
      refine lv_iconst (v := (3 : Int32)) hx hb dX4_digest_119 (by decide) ?_
      refine lv_icmp_ge (tgt := 159) hx hb dX4_digest_120 (by decide) (fun c18 => ?_) (fun c18 => ?_)
      · have h := ite_t h c18
        exact hkK16 x1_17 _ _ _ h hG hS (lv_sub hl [0, 1] rfl)
      · have h := ite_f h c18
        refine lv_ldc2 (v := (31 : Int64)) hx hb hown k2 dX4_digest_123 ?_
        refine lv_lload_n hx hb dX4_digest_126 rfl (lv_at hl 1 rfl) ?_
        refine lv_lmul hx hb dX4_digest_127 ?_
        refine lv_aload_n hx hb dX4_digest_128 rfl (lv_at hl 0 rfl) ?_
        refine g_get hx hb l4 hown hK hG (k := 0) (by decide) (cE_4 _ _) vwCl_4 4 (by decide) k7 (fun _ h9 => h9) rfl dX4_digest_129 ?_
        refine lv_iload_n hx hb dX4_digest_132 rfl (lv_at hl 2 rfl) ?_
        refine g_zald hx hb hK hG (k := 38) (n := 3) (by decide) (cE_7 _ _) 1 rfl h dX4_digest_133 (fun v19 h => ?_)
        obtain ⟨q20, h9, h⟩ := obind h
        have hk_q20 : ∀ (H : Heap) (locs : List Loc) (ls : Array Slot), cG D cy ad P Dr I L H → va_S (gA 64 ad) s.heap H locs → lv_has ls 5 [(0, .ref (ad 0)), (3, .int x3_17)] → W p l e rm_X4_digest s m args below meth c H locs 0 0 Q (F0 m 150 ls [.int q20, .long ((31 : Int64) * x1_17)]) := by
          intro H locs ls hG hS hl
          refine lv_i2l hx hb dX4_digest_150 rfl ?_
          refine lv_ladd hx hb dX4_digest_151 ?_
          refine lv_lstore_n (lv' := [(1, .long (((31 : Int64) * x1_17) + q20.toInt64)), (0, .ref (ad 0)), (3, .int x3_17)]) hx hb dX4_digest_152 rfl hl (by decide) rfl (fun ls hl => ?_)
          refine lv_iinc (v := (x3_17 + (1 : Int32))) (lv' := [(3, .int (x3_17 + (1 : Int32))), (1, .long (((31 : Int64) * x1_17) + q20.toInt64)), (0, .ref (ad 0))]) hx hb dX4_digest_153 hl (k := 2) rfl rfl (by decide) rfl (fun ls hl => ?_)
          refine lv_goto (tgt := 118) hx hb dX4_digest_156 (by decide) ?_
          exact ihn17 (((31 : Int64) * x1_17) + q20.toInt64) (x3_17 + (1 : Int32)) _ _ _ h hG hS (lv_sub hl [2, 1, 0] rfl)
        clear h
        have h := h9
        clear h9
        refine lv_if_eq (tgt := 149) hx hb dX4_digest_134 (by decide) (fun c21 => ?_) (fun c21 => ?_)
        · have h := ite_t h c21
          refine lv_iconst (v := (-1 : Int32)) hx hb dX4_digest_149 (by decide) ?_
          have h := Option.some.inj h
          subst h
          exact hk_q20 _ _ _ hG hS (lv_sub hl [0, 2] rfl)
        · have h := ite_f h c21
          refine lv_aload_n hx hb dX4_digest_137 rfl (lv_at hl 0 rfl) ?_
          refine g_get hx hb l4 hown hK hG (k := 0) (by decide) (cE_4 _ _) vwCl_4 3 (by decide) k8 (fun _ h9 => h9) rfl dX4_digest_138 ?_
          refine lv_iload_n hx hb dX4_digest_141 rfl (lv_at hl 2 rfl) ?_
          refine g_aldq hx hb hK hG (k := 22) (n := 3) (g := fun j => 23 + 5 * j) (by decide) (cE_8 _ _) 2 rfl rfl h dX4_digest_142 (fun j22 hj22 h => ?_)
          refine g_get hx hb l0 hown hK hG (k := (23 + 5 * j22)) (cDeeds_k j22 hj22).1.1 (cE_0 (cDeeds_k j22 hj22).1 _ _) vwCl_0 0 (by decide) k9 (fun _ h9 => h9) rfl dX4_digest_143 ?_
          refine lv_goto (tgt := 150) hx hb dX4_digest_146 (by decide) ?_
          have h := Option.some.inj h
          subst h
          exact hk_q20 _ _ _ hG hS (lv_sub hl [0, 2] rfl)
  refine keyK16 _ (fun z1_17 H locs ls h hG hS hl => ?_) bigF z1_10 (0 : Int32) _ _ _ h hG hS (lv_sub hl [1, 2, 0] rfl)
  clear keyK16
  refine lv_aload_n hx hb dX4_digest_159 rfl (lv_at hl 0 rfl) ?_
  refine g_get hx hb l4 hown hK hG (k := 0) (by decide) (cE_4 _ _) vwCl_4 1 (by decide) k10 (fun _ h9 => h9) rfl dX4_digest_160 ?_
  refine lv_aload_n hx hb dX4_digest_163 rfl (lv_at hl 0 rfl) ?_
  refine g_get hx hb l4 hown hK hG (k := 0) (by decide) (cE_4 _ _) vwCl_4 0 (by decide) k11 (fun _ h9 => h9) rfl dX4_digest_164 ?_
  refine lv_lload_n hx hb dX4_digest_167 rfl (lv_at hl 1 rfl) ?_
  obtain ⟨v23, ev23, h⟩ := obind h
  refine g_endl (va_runV (As := [.long z1_17]) (rest := [.ref (ad 10)]) ⟨hx, hb, hml, hown, hts⟩ (k_X2_digested l D cy ad P Dr tI hX (b := 1) cShelf_1 I L z1_17 v23 ev23) (cwV 1 hts gX4_digest_X2_digested rfl rfl rfl cd_X2_digested ⟨Nat.le_of_ble_eq_true rfl, Nat.le_of_ble_eq_true rfl⟩) ⟨g_blind cZm, g_recv hK hG (k := 1) cShelf_1.1.1 (cE_2 cShelf_1.1 _ _) vwCl_2, g_pre cZm hK hG hZ hS⟩ rfl rfl hl.1 rfl (lv_room (Nat.le_of_ble_eq_true rfl)) dX4_digest_168 ⟨Nat.le_refl _, Nat.le_refl _⟩) hS (fun H locs hG hS => ?_)
  obtain ⟨v24, ev24, h⟩ := obind h
  refine g_endl (va_runV (As := [.long v23]) (rest := []) ⟨hx, hb, hml, hown, hts⟩ (k_X2_digested l D cy ad P Dr tI hX (b := 10) cShelf_10 I L v23 v24 ev24) (cwV 1 hts gX4_digest_X2_digested rfl rfl rfl cd_X2_digested ⟨Nat.le_of_ble_eq_true rfl, Nat.le_of_ble_eq_true rfl⟩) ⟨g_blind cZm, g_recv hK hG (k := 10) cShelf_10.1.1 (cE_2 cShelf_10.1 _ _) vwCl_2, g_pre cZm hK hG hZ hS⟩ rfl rfl hl.1 rfl (lv_room (Nat.le_of_ble_eq_true rfl)) dX4_digest_171 ⟨Nat.le_refl _, Nat.le_refl _⟩) hS (fun H locs hG hS => ?_)
  have h := Option.some.inj h
  subst h
  subst hQ
  exact g_lret hx hb hr hlocks cZm hK hZ hG hS rfl dX4_digest_174
