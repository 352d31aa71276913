def X1_takesAhead (b : Nat) (I : xMem) (x1 : Int32) : Option (Int32 × xMem) := (if x1 = (120 : Int32) then ((some (wr I b 7 (1 : Int32))).bind fun I3 => some I3) else (some I)).bind fun q1 => if x1 = (120 : Int32) then (some ((nz (1 : Int32)), q1)) else (if x1 = (32 : Int32) then (some ((nz (1 : Int32)), q1)) else (some ((nz (0 : Int32)), q1)))
abbrev rm_X1_takesAhead : Room := { frames := 0, cells := 0, slots := 0, locals := 0 }
theorem cd_X1_takesAhead : yX1_takesAhead.cls = RX1 ∧ yX1_takesAhead.cls ≠ "java/lang/invoke/MethodHandle" ∧ yX1_takesAhead.cls ≠ "java/lang/invoke/VarHandle" ∧ (parseMethodDescriptor yX1_takesAhead.desc).map (fun d => d.parameters.length) = some 1 := by decide +kernel
set_option maxHeartbeats 4000000 in
set_option maxRecDepth 100000 in
theorem k_X1_takesAhead (l : Launch) (D : va_G) (cy : Nat → ClassId) (ad : Nat → Nat) (P Dr : Nat) (tI : xTab) (hX : cOk ad P Dr) {b : Nat} (hB : cPlan b) (I : xMem) (L : xLon) (x1 : Int32) (r : Int32 × xMem) (h : X1_takesAhead b I x1 = some r) : Met l yX1_takesAhead wsX1_takesAhead rm_X1_takesAhead (va_Pc [.ref (ad b), .int x1] (cW D cy ad P Dr tI I L)) (cPi D cy ad P Dr tI r.2 L r.1) 0 0 (gA 64 ad) := by
  refine g_met (own := RX1) (cc := cX1_takesAhead) (maxL := 2) (ret := (some .boolean)) (by decide) rfl (Nat.le_of_ble_eq_true rfl) rfl ?_
  intro p e s m args below meth c ls hx hb hml hr hlocks hown hts hG hK hZ hl
  generalize hQ : MQ below _ args s 0 0 _ = Q
  have hl : lv_has ls 2 [(0, .ref (ad b)), (1, .int x1)] := hl
  have hS : va_S (gA 64 ad) s.heap s.heap [] := va_S.rf
  obtain ⟨hi, hP, hDr⟩ := id hX
  have l1 : ∀ w ∈ wsX10, w.before args s = true := fun w h => hts w (List.mem_cons_of_mem _ (List.mem_append_right _ h))
  have k1 := hts (.fieldLink RX1 31 "PairStairs$Plan" "awaited" "I") (by decide +kernel)
  unfold X1_takesAhead at h
  refine lv_iload_n hx hb dX1_takesAhead_0 rfl (lv_at hl 1 rfl) ?_
  refine lv_bipush (v := (120 : Int32)) hx hb dX1_takesAhead_1 (by decide) ?_
  obtain ⟨q1, h9, h⟩ := obind h
  have hk_q1 : ∀ (H : Heap) (locs : List Loc) (ls : Array Slot), cG D cy ad P Dr q1 L H → va_S (gA 64 ad) s.heap H locs → lv_has ls 2 [(1, .int x1)] → W p l e rm_X1_takesAhead s m args below meth c H locs 0 0 Q (F0 m 11 ls []) := by
    intro H locs ls hG hS hl
    refine lv_iload_n hx hb dX1_takesAhead_11 rfl (lv_at hl 0 rfl) ?_
    refine lv_bipush (v := (120 : Int32)) hx hb dX1_takesAhead_12 (by decide) ?_
    refine lv_icmp_eq (tgt := 23) hx hb dX1_takesAhead_14 (by decide) (fun c4 => ?_) (fun c4 => ?_)
    · have h := ite_t h c4
      refine lv_iconst (v := (1 : Int32)) hx hb dX1_takesAhead_23 (by decide) ?_
      refine lv_goto (tgt := 28) hx hb dX1_takesAhead_24 (by decide) ?_
      have h := Option.some.inj h
      subst h
      subst hQ
      exact g_zret hx hb hr hlocks cZm hK hZ hG hS rfl dX1_takesAhead_28
    · have h := ite_f h c4
      refine lv_iload_n hx hb dX1_takesAhead_17 rfl (lv_at hl 0 rfl) ?_
      refine lv_bipush (v := (32 : Int32)) hx hb dX1_takesAhead_18 (by decide) ?_
      refine lv_icmp_ne (tgt := 27) hx hb dX1_takesAhead_20 (by decide) (fun c5 => ?_) (fun c5 => ?_)
      · have h := ite_f h c5
        refine lv_iconst (v := (0 : Int32)) hx hb dX1_takesAhead_27 (by decide) ?_
        have h := Option.some.inj h
        subst h
        subst hQ
        exact g_zret hx hb hr hlocks cZm hK hZ hG hS rfl dX1_takesAhead_28
      · have h := ite_t h c5
        refine lv_iconst (v := (1 : Int32)) hx hb dX1_takesAhead_23 (by decide) ?_
        refine lv_goto (tgt := 28) hx hb dX1_takesAhead_24 (by decide) ?_
        have h := Option.some.inj h
        subst h
        subst hQ
        exact g_zret hx hb hr hlocks cZm hK hZ hG hS rfl dX1_takesAhead_28
  clear h
  have h := h9
  clear h9
  refine lv_icmp_ne (tgt := 11) hx hb dX1_takesAhead_3 (by decide) (fun c2 => ?_) (fun c2 => ?_)
  · have h := ite_f h c2
    have h := Option.some.inj h
    subst h
    exact hk_q1 _ _ _ hG hS (lv_sub hl [1] rfl)
  · have h := ite_t h c2
    refine lv_aload_n hx hb dX1_takesAhead_6 rfl (lv_at hl 0 rfl) ?_
    refine lv_iconst (v := (1 : Int32)) hx hb dX1_takesAhead_7 (by decide) ?_
    obtain ⟨I3, eI3, h⟩ := obind h
    refine g_put hx hb l1 tyX1_ok nmX1 hown hK hG hi hS (k := b) hB.1.1 (cE_1 hB.1 _ _) vwCl_1 7 (by decide) k1 (fun _ h9 => h9) rfl rfl (Nat.le_of_ble_eq_true rfl) (by rw [cE_1 hB.1 _ _]; rfl) dX1_takesAhead_8 (fun H locs hG hS => ?_)
    rw [Option.some.inj eI3] at hG
    have h := Option.some.inj h
    subst h
    exact hk_q1 _ _ _ hG hS (lv_sub hl [1] rfl)
def X1_kindOf (x1 : Int32) : Int32 := if x1 = (98 : Int32) then ((5 : Int32)) else (if x1 = (99 : Int32) then ((2 : Int32)) else (if x1 = (100 : Int32) then ((-9 : Int32)) else (if x1 = (101 : Int32) then ((-9 : Int32)) else (if x1 = (102 : Int32) then ((-9 : Int32)) else (if x1 = (103 : Int32) then ((0 : Int32)) else (if x1 = (104 : Int32) then ((-9 : Int32)) else (if x1 = (105 : Int32) then ((-9 : Int32)) else (if x1 = (106 : Int32) then ((-9 : Int32)) else (if x1 = (107 : Int32) then ((-9 : Int32)) else (if x1 = (108 : Int32) then ((3 : Int32)) else (if x1 = (109 : Int32) then ((-9 : Int32)) else (if x1 = (110 : Int32) then ((4 : Int32)) else (if x1 = (111 : Int32) then ((-9 : Int32)) else (if x1 = (112 : Int32) then ((-9 : Int32)) else (if x1 = (113 : Int32) then ((-9 : Int32)) else (if x1 = (114 : Int32) then ((-9 : Int32)) else (if x1 = (115 : Int32) then ((-9 : Int32)) else (if x1 = (116 : Int32) then ((1 : Int32)) else ((-9 : Int32))))))))))))))))))))
abbrev rm_X1_kindOf : Room := { frames := 0, cells := 0, slots := 0, locals := 0 }
theorem cd_X1_kindOf : yX1_kindOf.cls = RX1 ∧ yX1_kindOf.cls ≠ "java/lang/invoke/MethodHandle" ∧ yX1_kindOf.cls ≠ "java/lang/invoke/VarHandle" ∧ (parseMethodDescriptor yX1_kindOf.desc).map (fun d => d.parameters.length) = some 1 := by decide +kernel
set_option maxHeartbeats 4000000 in
set_option maxRecDepth 100000 in
theorem k_X1_kindOf (l : Launch) (D : va_G) (cy : Nat → ClassId) (ad : Nat → Nat) (P Dr : Nat) (tI : xTab) (hX : cOk ad P Dr) (I : xMem) (L : xLon) (x1 : Int32) (r : Int32) (h : X1_kindOf x1 = r) : Met l yX1_kindOf wsX1_kindOf rm_X1_kindOf (va_Pc [.int x1] (cW D cy ad P Dr tI I L)) (cPi D cy ad P Dr tI I L r) 0 0 (gA 64 ad) := by
  refine g_met (own := RX1) (cc := cX1_kindOf) (maxL := 1) (ret := (some .int)) (by decide) rfl (Nat.le_of_ble_eq_true rfl) rfl ?_
  intro p e s m args below meth c ls hx hb hml hr hlocks hown hts hG hK hZ hl
  generalize hQ : MQ below _ args s 0 0 _ = Q
  have hl : lv_has ls 1 [(0, .int x1)] := hl
  have hS : va_S (gA 64 ad) s.heap s.heap [] := va_S.rf
  obtain ⟨hi, hP, hDr⟩ := id hX
  unfold X1_kindOf at h
  refine lv_iload_n hx hb dX1_kindOf_0 rfl (lv_at hl 0 rfl) ?_
  by_cases c1 : x1 = (98 : Int32)
  · have h := ite_t h c1
    refine lv_tableIn (tgt := 102) hx hb dX1_kindOf_1 (by rw [c1]; decide) (by rw [c1]; decide) (by rw [c1]; rfl) (by decide) ?_
    refine lv_iconst (v := (5 : Int32)) hx hb dX1_kindOf_102 (by decide) ?_
    subst h
    subst hQ
    exact g_iret hx hb hr hlocks cZm hK hZ hG hS rfl dX1_kindOf_103
  · have h := ite_f h c1
    by_cases c2 : x1 = (99 : Int32)
    · have h := ite_t h c2
      refine lv_tableIn (tgt := 96) hx hb dX1_kindOf_1 (by rw [c2]; decide) (by rw [c2]; decide) (by rw [c2]; rfl) (by decide) ?_
      refine lv_iconst (v := (2 : Int32)) hx hb dX1_kindOf_96 (by decide) ?_
      subst h
      subst hQ
      exact g_iret hx hb hr hlocks cZm hK hZ hG hS rfl dX1_kindOf_97
    · have h := ite_f h c2
      by_cases c3 : x1 = (100 : Int32)
      · have h := ite_t h c3
        refine lv_tableIn (tgt := 104) hx hb dX1_kindOf_1 (by rw [c3]; decide) (by rw [c3]; decide) (by rw [c3]; rfl) (by decide) ?_
        refine lv_bipush (v := (-9 : Int32)) hx hb dX1_kindOf_104 (by decide) ?_
        subst h
        subst hQ
        exact g_iret hx hb hr hlocks cZm hK hZ hG hS rfl dX1_kindOf_106
      · have h := ite_f h c3
        by_cases c4 : x1 = (101 : Int32)
        · have h := ite_t h c4
          refine lv_tableIn (tgt := 104) hx hb dX1_kindOf_1 (by rw [c4]; decide) (by rw [c4]; decide) (by rw [c4]; rfl) (by decide) ?_
          refine lv_bipush (v := (-9 : Int32)) hx hb dX1_kindOf_104 (by decide) ?_
          subst h
          subst hQ
          exact g_iret hx hb hr hlocks cZm hK hZ hG hS rfl dX1_kindOf_106
        · have h := ite_f h c4
          by_cases c5 : x1 = (102 : Int32)
          · have h := ite_t h c5
            refine lv_tableIn (tgt := 104) hx hb dX1_kindOf_1 (by rw [c5]; decide) (by rw [c5]; decide) (by rw [c5]; rfl) (by decide) ?_
            refine lv_bipush (v := (-9 : Int32)) hx hb dX1_kindOf_104 (by decide) ?_
            subst h
            subst hQ
            exact g_iret hx hb hr hlocks cZm hK hZ hG hS rfl dX1_kindOf_106
          · have h := ite_f h c5
            by_cases c6 : x1 = (103 : Int32)
            · have h := ite_t h c6
              refine lv_tableIn (tgt := 92) hx hb dX1_kindOf_1 (by rw [c6]; decide) (by rw [c6]; decide) (by rw [c6]; rfl) (by decide) ?_
              refine lv_iconst (v := (0 : Int32)) hx hb dX1_kindOf_92 (by decide) ?_
              subst h
              subst hQ
              exact g_iret hx hb hr hlocks cZm hK hZ hG hS rfl dX1_kindOf_93
            · have h := ite_f h c6
              by_cases c7 : x1 = (104 : Int32)
              · have h := ite_t h c7
                refine lv_tableIn (tgt := 104) hx hb dX1_kindOf_1 (by rw [c7]; decide) (by rw [c7]; decide) (by rw [c7]; rfl) (by decide) ?_
                refine lv_bipush (v := (-9 : Int32)) hx hb dX1_kindOf_104 (by decide) ?_
                subst h
                subst hQ
                exact g_iret hx hb hr hlocks cZm hK hZ hG hS rfl dX1_kindOf_106
              · have h := ite_f h c7
                by_cases c8 : x1 = (105 : Int32)
                · have h := ite_t h c8
                  refine lv_tableIn (tgt := 104) hx hb dX1_kindOf_1 (by rw [c8]; decide) (by rw [c8]; decide) (by rw [c8]; rfl) (by decide) ?_
                  refine lv_bipush (v := (-9 : Int32)) hx hb dX1_kindOf_104 (by decide) ?_
                  subst h
                  subst hQ
                  exact g_iret hx hb hr hlocks cZm hK hZ hG hS rfl dX1_kindOf_106
                · have h := ite_f h c8
                  by_cases c9 : x1 = (106 : Int32)
                  · have h := ite_t h c9
                    refine lv_tableIn (tgt := 104) hx hb dX1_kindOf_1 (by rw [c9]; decide) (by rw [c9]; decide) (by rw [c9]; rfl) (by decide) ?_
                    refine lv_bipush (v := (-9 : Int32)) hx hb dX1_kindOf_104 (by decide) ?_
                    subst h
                    subst hQ
                    exact g_iret hx hb hr hlocks cZm hK hZ hG hS rfl dX1_kindOf_106
                  · have h := ite_f h c9
                    by_cases c10 : x1 = (107 : Int32)
                    · have h := ite_t h c10
                      refine lv_tableIn (tgt := 104) hx hb dX1_kindOf_1 (by rw [c10]; decide) (by rw [c10]; decide) (by rw [c10]; rfl) (by decide) ?_
                      refine lv_bipush (v := (-9 : Int32)) hx hb dX1_kindOf_104 (by decide) ?_
                      subst h
                      subst hQ
                      exact g_iret hx hb hr hlocks cZm hK hZ hG hS rfl dX1_kindOf_106
                    · have h := ite_f h c10
                      by_cases c11 : x1 = (108 : Int32)
                      · have h := ite_t h c11
                        refine lv_tableIn (tgt := 98) hx hb dX1_kindOf_1 (by rw [c11]; decide) (by rw [c11]; decide) (by rw [c11]; rfl) (by decide) ?_
                        refine lv_iconst (v := (3 : Int32)) hx hb dX1_kindOf_98 (by decide) ?_
                        subst h
                        subst hQ
                        exact g_iret hx hb hr hlocks cZm hK hZ hG hS rfl dX1_kindOf_99
                      · have h := ite_f h c11
                        by_cases c12 : x1 = (109 : Int32)
                        · have h := ite_t h c12
                          refine lv_tableIn (tgt := 104) hx hb dX1_kindOf_1 (by rw [c12]; decide) (by rw [c12]; decide) (by rw [c12]; rfl) (by decide) ?_
                          refine lv_bipush (v := (-9 : Int32)) hx hb dX1_kindOf_104 (by decide) ?_
                          subst h
                          subst hQ
                          exact g_iret hx hb hr hlocks cZm hK hZ hG hS rfl dX1_kindOf_106
                        · have h := ite_f h c12
                          by_cases c13 : x1 = (110 : Int32)
                          · have h := ite_t h c13
                            refine lv_tableIn (tgt := 100) hx hb dX1_kindOf_1 (by rw [c13]; decide) (by rw [c13]; decide) (by rw [c13]; rfl) (by decide) ?_
                            refine lv_iconst (v := (4 : Int32)) hx hb dX1_kindOf_100 (by decide) ?_
                            subst h
                            subst hQ
                            exact g_iret hx hb hr hlocks cZm hK hZ hG hS rfl dX1_kindOf_101
                          · have h := ite_f h c13
                            by_cases c14 : x1 = (111 : Int32)
                            · have h := ite_t h c14
                              refine lv_tableIn (tgt := 104) hx hb dX1_kindOf_1 (by rw [c14]; decide) (by rw [c14]; decide) (by rw [c14]; rfl) (by decide) ?_
                              refine lv_bipush (v := (-9 : Int32)) hx hb dX1_kindOf_104 (by decide) ?_
                              subst h
                              subst hQ
                              exact g_iret hx hb hr hlocks cZm hK hZ hG hS rfl dX1_kindOf_106
                            · have h := ite_f h c14
                              by_cases c15 : x1 = (112 : Int32)
                              · have h := ite_t h c15
                                refine lv_tableIn (tgt := 104) hx hb dX1_kindOf_1 (by rw [c15]; decide) (by rw [c15]; decide) (by rw [c15]; rfl) (by decide) ?_
                                refine lv_bipush (v := (-9 : Int32)) hx hb dX1_kindOf_104 (by decide) ?_
                                subst h
                                subst hQ
                                exact g_iret hx hb hr hlocks cZm hK hZ hG hS rfl dX1_kindOf_106
                              · have h := ite_f h c15
                                by_cases c16 : x1 = (113 : Int32)
                                · have h := ite_t h c16
                                  refine lv_tableIn (tgt := 104) hx hb dX1_kindOf_1 (by rw [c16]; decide) (by rw [c16]; decide) (by rw [c16]; rfl) (by decide) ?_
                                  refine lv_bipush (v := (-9 : Int32)) hx hb dX1_kindOf_104 (by decide) ?_
                                  subst h
                                  subst hQ
                                  exact g_iret hx hb hr hlocks cZm hK hZ hG hS rfl dX1_kindOf_106
                                · have h := ite_f h c16
                                  by_cases c17 : x1 = (114 : Int32)
                                  · have h := ite_t h c17
                                    refine lv_tableIn (tgt := 104) hx hb dX1_kindOf_1 (by rw [c17]; decide) (by rw [c17]; decide) (by rw [c17]; rfl) (by decide) ?_
                                    refine lv_bipush (v := (-9 : Int32)) hx hb dX1_kindOf_104 (by decide) ?_
                                    subst h
                                    subst hQ
                                    exact g_iret hx hb hr hlocks cZm hK hZ hG hS rfl dX1_kindOf_106
                                  · have h := ite_f h c17
                                    by_cases c18 : x1 = (115 : Int32)
                                    · have h := ite_t h c18
                                      refine lv_tableIn (tgt := 104) hx hb dX1_kindOf_1 (by rw [c18]; decide) (by rw [c18]; decide) (by rw [c18]; rfl) (by decide) ?_
                                      refine lv_bipush (v := (-9 : Int32)) hx hb dX1_kindOf_104 (by decide) ?_
                                      subst h
                                      subst hQ
                                      exact g_iret hx hb hr hlocks cZm hK hZ hG hS rfl dX1_kindOf_106
                                    · have h := ite_f h c18
                                      by_cases c19 : x1 = (116 : Int32)
                                      · have h := ite_t h c19
                                        refine lv_tableIn (tgt := 94) hx hb dX1_kindOf_1 (by rw [c19]; decide) (by rw [c19]; decide) (by rw [c19]; rfl) (by decide) ?_
                                        refine lv_iconst (v := (1 : Int32)) hx hb dX1_kindOf_94 (by decide) ?_
                                        subst h
                                        subst hQ
                                        exact g_iret hx hb hr hlocks cZm hK hZ hG hS rfl dX1_kindOf_95
                                      · have h := ite_f h c19
                                        refine lv_tableOut (tgt := 104) hx hb dX1_kindOf_1 (tsw_out 98 116 (fun k h1 h2 => ?_)) (by decide) ?_
                                        · rcases (show k = 98 ∨ k = 99 ∨ k = 100 ∨ k = 101 ∨ k = 102 ∨ k = 103 ∨ k = 104 ∨ k = 105 ∨ k = 106 ∨ k = 107 ∨ k = 108 ∨ k = 109 ∨ k = 110 ∨ k = 111 ∨ k = 112 ∨ k = 113 ∨ k = 114 ∨ k = 115 ∨ k = 116 by omega) with rfl | rfl | rfl | rfl | rfl | rfl | rfl | rfl | rfl | rfl | rfl | rfl | rfl | rfl | rfl | rfl | rfl | rfl | rfl
                                          · exact c1
                                          · exact c2
                                          · exact c3
                                          · exact c4
                                          · exact c5
                                          · exact c6
                                          · exact c7
                                          · exact c8
                                          · exact c9
                                          · exact c10
                                          · exact c11
                                          · exact c12
                                          · exact c13
                                          · exact c14
                                          · exact c15
                                          · exact c16
                                          · exact c17
                                          · exact c18
                                          · exact c19
                                        · refine lv_bipush (v := (-9 : Int32)) hx hb dX1_kindOf_104 (by decide) ?_
                                          subst h
                                          subst hQ
                                          exact g_iret hx hb hr hlocks cZm hK hZ hG hS rfl dX1_kindOf_106
def X1_takesLetter (b : Nat) (I : xMem) (x1 : Int32) : Option (Int32 × xMem) := if x1 = (111 : Int32) then ((some (wr I b 7 (3 : Int32))).bind fun I6 => if (I6 b 2) = (0 : Int32) then (if (4 : Int32) ≤ (I6 b 1) then (some ((nz (0 : Int32)), I6)) else (some ((nz (1 : Int32)), I6))) else (some ((nz (0 : Int32)), I6))) else (if (X1_kindOf x1) = (-9 : Int32) then (some ((nz (0 : Int32)), I)) else (if (I b 2) < (6 : Int32) then ((wrI I (b + 3) 6 (I b 2) (X1_kindOf x1)).bind fun I4 => (some (wr I4 b 7 (4 : Int32))).bind fun I5 => some ((nz (1 : Int32)), I5)) else (some ((nz (0 : Int32)), I))))
abbrev rm_X1_takesLetter : Room := { frames := 1, cells := 0, slots := 0, locals := 20 }
theorem cd_X1_takesLetter : yX1_takesLetter.cls = RX1 ∧ yX1_takesLetter.cls ≠ "java/lang/invoke/MethodHandle" ∧ yX1_takesLetter.cls ≠ "java/lang/invoke/VarHandle" ∧ (parseMethodDescriptor yX1_takesLetter.desc).map (fun d => d.parameters.length) = some 1 := by decide +kernel
set_option maxHeartbeats 4000000 in
set_option maxRecDepth 100000 in
theorem k_X1_takesLetter (l : Launch) (D : va_G) (cy : Nat → ClassId) (ad : Nat → Nat) (P Dr : Nat) (tI : xTab) (hX : cOk ad P Dr) {b : Nat} (hB : cPlan b) (I : xMem) (L : xLon) (x1 : Int32) (r : Int32 × xMem) (h : X1_takesLetter b I x1 = some r) : Met l yX1_takesLetter wsX1_takesLetter rm_X1_takesLetter (va_Pc [.ref (ad b), .int x1] (cW D cy ad P Dr tI I L)) (cPi D cy ad P Dr tI r.2 L r.1) 0 0 (gA 64 ad) := by
  refine g_met (own := RX1) (cc := cX1_takesLetter) (maxL := 3) (ret := (some .boolean)) (by decide) rfl (Nat.le_of_ble_eq_true rfl) rfl ?_
  intro p e s m args below meth c ls hx hb hml hr hlocks hown hts hG hK hZ hl
  generalize hQ : MQ below _ args s 0 0 _ = Q
  have hl : lv_has ls 3 [(0, .ref (ad b)), (1, .int x1)] := hl
  have hS : va_S (gA 64 ad) s.heap s.heap [] := va_S.rf
  obtain ⟨hi, hP, hDr⟩ := id hX
  have l1 : ∀ w ∈ wsX10, w.before args s = true := fun w h => hts w (List.mem_cons_of_mem _ (List.mem_append_right _ h))
  have k1 := hts (.fieldLink RX1 28 "PairStairs$Plan" "people" "I") (by decide +kernel)
  have k2 := hts (.fieldLink RX1 18 "PairStairs$Plan" "kind" "[I") (by decide +kernel)
  have k3 := hts (.fieldLink RX1 31 "PairStairs$Plan" "awaited" "I") (by decide +kernel)
  have k4 := hts (.fieldLink RX1 24 "PairStairs$Plan" "stones" "I") (by decide +kernel)
  unfold X1_takesLetter at h
  refine lv_iload_n hx hb dX1_takesLetter_0 rfl (lv_at hl 1 rfl) ?_
  refine lv_bipush (v := (111 : Int32)) hx hb dX1_takesLetter_1 (by decide) ?_
  refine lv_icmp_ne (tgt := 32) hx hb dX1_takesLetter_3 (by decide) (fun c1 => ?_) (fun c1 => ?_)
  · have h := ite_f h c1
    refine lv_iload_n hx hb dX1_takesLetter_32 rfl (lv_at hl 1 rfl) ?_
    refine g_endi (va_runS (As := [.int x1]) (rest := []) ⟨hx, hb, hml, hown, hts⟩ (k_X1_kindOf l D cy ad P Dr tI hX I L x1 _ rfl) (va_cwS 1 hts gX1_takesLetter_X1_kindOf rfl rfl rfl cd_X1_kindOf.2 ⟨Nat.le_of_ble_eq_true rfl, Nat.le_of_ble_eq_true rfl⟩) ⟨g_blind cZm, g_pre cZm hK hG hZ hS⟩ rfl rfl hl.1 rfl (lv_room (Nat.le_of_ble_eq_true rfl)) dX1_takesLetter_33 ⟨Nat.le_refl _, Nat.le_refl _⟩) hS (fun H locs hG hS => ?_)
    refine lv_istore_n (lv' := [(2, .int (X1_kindOf x1)), (0, .ref (ad b)), (1, .int x1)]) hx hb dX1_takesLetter_36 rfl hl (by decide) rfl (fun ls hl => ?_)
    refine lv_iload_n hx hb dX1_takesLetter_37 rfl (lv_at hl 0 rfl) ?_
    refine lv_bipush (v := (-9 : Int32)) hx hb dX1_takesLetter_38 (by decide) ?_
    refine lv_icmp_eq (tgt := 52) hx hb dX1_takesLetter_40 (by decide) (fun c2 => ?_) (fun c2 => ?_)
    · have h := ite_t h c2
      refine lv_iconst (v := (0 : Int32)) hx hb dX1_takesLetter_52 (by decide) ?_
      have h := Option.some.inj h
      subst h
      subst hQ
      exact g_zret hx hb hr hlocks cZm hK hZ hG hS rfl dX1_takesLetter_53
    · have h := ite_f h c2
      refine lv_aload_n hx hb dX1_takesLetter_43 rfl (lv_at hl 1 rfl) ?_
      refine g_get hx hb l1 hown hK hG (k := b) hB.1.1 (cE_1 hB.1 _ _) vwCl_1 2 (by decide) k1 (fun _ h9 => h9) rfl dX1_takesLetter_44 ?_
      refine lv_bipush (v := (6 : Int32)) hx hb dX1_takesLetter_47 (by decide) ?_
      refine lv_icmp_lt (tgt := 54) hx hb dX1_takesLetter_49 (by decide) (fun c3 => ?_) (fun c3 => ?_)
      · have h := ite_t h c3
        refine lv_aload_n hx hb dX1_takesLetter_54 rfl (lv_at hl 1 rfl) ?_
        refine g_get hx hb l1 hown hK hG (k := b) hB.1.1 (cE_1 hB.1 _ _) vwCl_1 5 (by decide) k2 (fun _ h9 => h9) rfl dX1_takesLetter_55 ?_
        refine lv_aload_n hx hb dX1_takesLetter_58 rfl (lv_at hl 1 rfl) ?_
        refine g_get hx hb l1 hown hK hG (k := b) hB.1.1 (cE_1 hB.1 _ _) vwCl_1 2 (by decide) k1 (fun _ h9 => h9) rfl dX1_takesLetter_59 ?_
        refine lv_iload_n hx hb dX1_takesLetter_62 rfl (lv_at hl 0 rfl) ?_
        refine g_ast hx hb hK hG hi hS (k := (b + 3)) (n := 6) hB.2.2.2.1.1.1 (fun f => cIA_e hB.2.2.2.1 f _) 0 rfl h dX1_takesLetter_63 (fun I4 H locs h hG hS => ?_)
        refine lv_aload_n hx hb dX1_takesLetter_64 rfl (lv_at hl 1 rfl) ?_
        refine lv_iconst (v := (4 : Int32)) hx hb dX1_takesLetter_65 (by decide) ?_
        obtain ⟨I5, eI5, h⟩ := obind h
        refine g_put hx hb l1 tyX1_ok nmX1 hown hK hG hi hS (k := b) hB.1.1 (cE_1 hB.1 _ _) vwCl_1 7 (by decide) k3 (fun _ h9 => h9) rfl rfl (Nat.le_of_ble_eq_true rfl) (by rw [cE_1 hB.1 _ _]; rfl) dX1_takesLetter_66 (fun H locs hG hS => ?_)
        rw [Option.some.inj eI5] at hG
        refine lv_iconst (v := (1 : Int32)) hx hb dX1_takesLetter_69 (by decide) ?_
        have h := Option.some.inj h
        subst h
        subst hQ
        exact g_zret hx hb hr hlocks cZm hK hZ hG hS rfl dX1_takesLetter_70
      · have h := ite_f h c3
        refine lv_iconst (v := (0 : Int32)) hx hb dX1_takesLetter_52 (by decide) ?_
        have h := Option.some.inj h
        subst h
        subst hQ
        exact g_zret hx hb hr hlocks cZm hK hZ hG hS rfl dX1_takesLetter_53
  · have h := ite_t h c1
    refine lv_aload_n hx hb dX1_takesLetter_6 rfl (lv_at hl 0 rfl) ?_
    refine lv_iconst (v := (3 : Int32)) hx hb dX1_takesLetter_7 (by decide) ?_
    obtain ⟨I6, eI6, h⟩ := obind h
    refine g_put hx hb l1 tyX1_ok nmX1 hown hK hG hi hS (k := b) hB.1.1 (cE_1 hB.1 _ _) vwCl_1 7 (by decide) k3 (fun _ h9 => h9) rfl rfl (Nat.le_of_ble_eq_true rfl) (by rw [cE_1 hB.1 _ _]; rfl) dX1_takesLetter_8 (fun H locs hG hS => ?_)
    rw [Option.some.inj eI6] at hG
    refine lv_aload_n hx hb dX1_takesLetter_11 rfl (lv_at hl 0 rfl) ?_
    refine g_get hx hb l1 hown hK hG (k := b) hB.1.1 (cE_1 hB.1 _ _) vwCl_1 2 (by decide) k1 (fun _ h9 => h9) rfl dX1_takesLetter_12 ?_
    refine lv_if_ne (tgt := 30) hx hb dX1_takesLetter_15 (by decide) (fun c7 => ?_) (fun c7 => ?_)
    · have h := ite_f h c7
      refine lv_iconst (v := (0 : Int32)) hx hb dX1_takesLetter_30 (by decide) ?_
      have h := Option.some.inj h
      subst h
      subst hQ
      exact g_zret hx hb hr hlocks cZm hK hZ hG hS rfl dX1_takesLetter_31
    · have h := ite_t h c7
      refine lv_aload_n hx hb dX1_takesLetter_18 rfl (lv_at hl 0 rfl) ?_
      refine g_get hx hb l1 hown hK hG (k := b) hB.1.1 (cE_1 hB.1 _ _) vwCl_1 1 (by decide) k4 (fun _ h9 => h9) rfl dX1_takesLetter_19 ?_
      refine lv_iconst (v := (4 : Int32)) hx hb dX1_takesLetter_22 (by decide) ?_
      refine lv_icmp_ge (tgt := 30) hx hb dX1_takesLetter_23 (by decide) (fun c8 => ?_) (fun c8 => ?_)
      · have h := ite_t h c8
        refine lv_iconst (v := (0 : Int32)) hx hb dX1_takesLetter_30 (by decide) ?_
        have h := Option.some.inj h
        subst h
        subst hQ
        exact g_zret hx hb hr hlocks cZm hK hZ hG hS rfl dX1_takesLetter_31
      · have h := ite_f h c8
        refine lv_iconst (v := (1 : Int32)) hx hb dX1_takesLetter_26 (by decide) ?_
        refine lv_goto (tgt := 31) hx hb dX1_takesLetter_27 (by decide) ?_
        have h := Option.some.inj h
        subst h
        subst hQ
        exact g_zret hx hb hr hlocks cZm hK hZ hG hS rfl dX1_takesLetter_31
def X1_takesLimit (b : Nat) (I : xMem) (x1 : Int32) : Option (Int32 × xMem) := (some (wr I b 0 x1)).bind fun I1 => (some (wr I1 b 7 (2 : Int32))).bind fun I2 => some ((nz (1 : Int32)), I2)
abbrev rm_X1_takesLimit : Room := { frames := 0, cells := 0, slots := 0, locals := 0 }
theorem cd_X1_takesLimit : yX1_takesLimit.cls = RX1 ∧ yX1_takesLimit.cls ≠ "java/lang/invoke/MethodHandle" ∧ yX1_takesLimit.cls ≠ "java/lang/invoke/VarHandle" ∧ (parseMethodDescriptor yX1_takesLimit.desc).map (fun d => d.parameters.length) = some 1 := by decide +kernel
set_option maxHeartbeats 4000000 in
set_option maxRecDepth 100000 in
theorem k_X1_takesLimit (l : Launch) (D : va_G) (cy : Nat → ClassId) (ad : Nat → Nat) (P Dr : Nat) (tI : xTab) (hX : cOk ad P Dr) {b : Nat} (hB : cPlan b) (I : xMem) (L : xLon) (x1 : Int32) (r : Int32 × xMem) (h : X1_takesLimit b I x1 = some r) : Met l yX1_takesLimit wsX1_takesLimit rm_X1_takesLimit (va_Pc [.ref (ad b), .int x1] (cW D cy ad P Dr tI I L)) (cPi D cy ad P Dr tI r.2 L r.1) 0 0 (gA 64 ad) := by
  refine g_met (own := RX1) (cc := cX1_takesLimit) (maxL := 2) (ret := (some .boolean)) (by decide) rfl (Nat.le_of_ble_eq_true rfl) rfl ?_
  intro p e s m args below meth c ls hx hb hml hr hlocks hown hts hG hK hZ hl
  generalize hQ : MQ below _ args s 0 0 _ = Q
  have hl : lv_has ls 2 [(0, .ref (ad b)), (1, .int x1)] := hl
  have hS : va_S (gA 64 ad) s.heap s.heap [] := va_S.rf
  obtain ⟨hi, hP, hDr⟩ := id hX
  have l1 : ∀ w ∈ wsX10, w.before args s = true := fun w h => hts w (List.mem_cons_of_mem _ (List.mem_append_right _ h))
  have k1 := hts (.fieldLink RX1 62 "PairStairs$Plan" "limit" "I") (by decide +kernel)
  have k2 := hts (.fieldLink RX1 31 "PairStairs$Plan" "awaited" "I") (by decide +kernel)
  unfold X1_takesLimit at h
  refine lv_aload_n hx hb dX1_takesLimit_0 rfl (lv_at hl 0 rfl) ?_
  refine lv_iload_n hx hb dX1_takesLimit_1 rfl (lv_at hl 1 rfl) ?_
  obtain ⟨I1, eI1, h⟩ := obind h
  refine g_put hx hb l1 tyX1_ok nmX1 hown hK hG hi hS (k := b) hB.1.1 (cE_1 hB.1 _ _) vwCl_1 0 (by decide) k1 (fun _ h9 => h9) rfl rfl (Nat.le_of_ble_eq_true rfl) (by rw [cE_1 hB.1 _ _]; rfl) dX1_takesLimit_2 (fun H locs hG hS => ?_)
  rw [Option.some.inj eI1] at hG
  refine lv_aload_n hx hb dX1_takesLimit_5 rfl (lv_at hl 0 rfl) ?_
  refine lv_iconst (v := (2 : Int32)) hx hb dX1_takesLimit_6 (by decide) ?_
  obtain ⟨I2, eI2, h⟩ := obind h
  refine g_put hx hb l1 tyX1_ok nmX1 hown hK hG hi hS (k := b) hB.1.1 (cE_1 hB.1 _ _) vwCl_1 7 (by decide) k2 (fun _ h9 => h9) rfl rfl (Nat.le_of_ble_eq_true rfl) (by rw [cE_1 hB.1 _ _]; rfl) dX1_takesLimit_7 (fun H locs hG hS => ?_)
  rw [Option.some.inj eI2] at hG
  refine lv_iconst (v := (1 : Int32)) hx hb dX1_takesLimit_10 (by decide) ?_
  have h := Option.some.inj h
  subst h
  subst hQ
  exact g_zret hx hb hr hlocks cZm hK hZ hG hS rfl dX1_takesLimit_11
def X1_takesPounds (b : Nat) (I : xMem) (x1 : Int32) : Option (Int32 × xMem) := if x1 = (0 : Int32) then (some ((nz (0 : Int32)), I)) else ((wrI I (b + 4) 6 (I b 2) x1).bind fun I2 => (some (wr I2 b 2 ((I2 b 2) + (1 : Int32)))).bind fun I3 => (some (wr I3 b 7 (2 : Int32))).bind fun I4 => some ((nz (1 : Int32)), I4))
abbrev rm_X1_takesPounds : Room := { frames := 0, cells := 0, slots := 0, locals := 0 }
theorem cd_X1_takesPounds : yX1_takesPounds.cls = RX1 ∧ yX1_takesPounds.cls ≠ "java/lang/invoke/MethodHandle" ∧ yX1_takesPounds.cls ≠ "java/lang/invoke/VarHandle" ∧ (parseMethodDescriptor yX1_takesPounds.desc).map (fun d => d.parameters.length) = some 1 := by decide +kernel
set_option maxHeartbeats 4000000 in
set_option maxRecDepth 100000 in
theorem k_X1_takesPounds (l : Launch) (D : va_G) (cy : Nat → ClassId) (ad : Nat → Nat) (P Dr : Nat) (tI : xTab) (hX : cOk ad P Dr) {b : Nat} (hB : cPlan b) (I : xMem) (L : xLon) (x1 : Int32) (r : Int32 × xMem) (h : X1_takesPounds b I x1 = some r) : Met l yX1_takesPounds wsX1_takesPounds rm_X1_takesPounds (va_Pc [.ref (ad b), .int x1] (cW D cy ad P Dr tI I L)) (cPi D cy ad P Dr tI r.2 L r.1) 0 0 (gA 64 ad) := by
  refine g_met (own := RX1) (cc := cX1_takesPounds) (maxL := 2) (ret := (some .boolean)) (by decide) rfl (Nat.le_of_ble_eq_true rfl) rfl ?_
  intro p e s m args below meth c ls hx hb hml hr hlocks hown hts hG hK hZ hl
  generalize hQ : MQ below _ args s 0 0 _ = Q
  have hl : lv_has ls 2 [(0, .ref (ad b)), (1, .int x1)] := hl
  have hS : va_S (gA 64 ad) s.heap s.heap [] := va_S.rf
  obtain ⟨hi, hP, hDr⟩ := id hX
  have l1 : ∀ w ∈ wsX10, w.before args s = true := fun w h => hts w (List.mem_cons_of_mem _ (List.mem_append_right _ h))
  have k1 := hts (.fieldLink RX1 21 "PairStairs$Plan" "weight" "[I") (by decide +kernel)
  have k2 := hts (.fieldLink RX1 28 "PairStairs$Plan" "people" "I") (by decide +kernel)
  have k3 := hts (.fieldLink RX1 31 "PairStairs$Plan" "awaited" "I") (by decide +kernel)
  unfold X1_takesPounds at h
  refine lv_iload_n hx hb dX1_takesPounds_0 rfl (lv_at hl 1 rfl) ?_
  refine lv_if_ne (tgt := 6) hx hb dX1_takesPounds_1 (by decide) (fun c1 => ?_) (fun c1 => ?_)
  · have h := ite_f h c1
    refine lv_aload_n hx hb dX1_takesPounds_6 rfl (lv_at hl 0 rfl) ?_
    refine g_get hx hb l1 hown hK hG (k := b) hB.1.1 (cE_1 hB.1 _ _) vwCl_1 6 (by decide) k1 (fun _ h9 => h9) rfl dX1_takesPounds_7 ?_
    refine lv_aload_n hx hb dX1_takesPounds_10 rfl (lv_at hl 0 rfl) ?_
    refine g_get hx hb l1 hown hK hG (k := b) hB.1.1 (cE_1 hB.1 _ _) vwCl_1 2 (by decide) k2 (fun _ h9 => h9) rfl dX1_takesPounds_11 ?_
    refine lv_iload_n hx hb dX1_takesPounds_14 rfl (lv_at hl 1 rfl) ?_
    refine g_ast hx hb hK hG hi hS (k := (b + 4)) (n := 6) hB.2.2.2.2.1.1 (fun f => cIA_e hB.2.2.2.2 f _) 0 rfl h dX1_takesPounds_15 (fun I2 H locs h hG hS => ?_)
    refine lv_aload_n hx hb dX1_takesPounds_16 rfl (lv_at hl 0 rfl) ?_
    refine lv_dup hx hb dX1_takesPounds_17 rfl ?_
    refine g_get hx hb l1 hown hK hG (k := b) hB.1.1 (cE_1 hB.1 _ _) vwCl_1 2 (by decide) k2 (fun _ h9 => h9) rfl dX1_takesPounds_18 ?_
    refine lv_iconst (v := (1 : Int32)) hx hb dX1_takesPounds_21 (by decide) ?_
    refine lv_iadd hx hb dX1_takesPounds_22 ?_
    obtain ⟨I3, eI3, h⟩ := obind h
    refine g_put hx hb l1 tyX1_ok nmX1 hown hK hG hi hS (k := b) hB.1.1 (cE_1 hB.1 _ _) vwCl_1 2 (by decide) k2 (fun _ h9 => h9) rfl rfl (Nat.le_of_ble_eq_true rfl) (by rw [cE_1 hB.1 _ _]; rfl) dX1_takesPounds_23 (fun H locs hG hS => ?_)
    rw [Option.some.inj eI3] at hG
    refine lv_aload_n hx hb dX1_takesPounds_26 rfl (lv_at hl 0 rfl) ?_
    refine lv_iconst (v := (2 : Int32)) hx hb dX1_takesPounds_27 (by decide) ?_
    obtain ⟨I4, eI4, h⟩ := obind h
    refine g_put hx hb l1 tyX1_ok nmX1 hown hK hG hi hS (k := b) hB.1.1 (cE_1 hB.1 _ _) vwCl_1 7 (by decide) k3 (fun _ h9 => h9) rfl rfl (Nat.le_of_ble_eq_true rfl) (by rw [cE_1 hB.1 _ _]; rfl) dX1_takesPounds_28 (fun H locs hG hS => ?_)
    rw [Option.some.inj eI4] at hG
    refine lv_iconst (v := (1 : Int32)) hx hb dX1_takesPounds_31 (by decide) ?_
    have h := Option.some.inj h
    subst h
    subst hQ
    exact g_zret hx hb hr hlocks cZm hK hZ hG hS rfl dX1_takesPounds_32
  · have h := ite_t h c1
    refine lv_iconst (v := (0 : Int32)) hx hb dX1_takesPounds_4 (by decide) ?_
    have h := Option.some.inj h
    subst h
    subst hQ
    exact g_zret hx hb hr hlocks cZm hK hZ hG hS rfl dX1_takesPounds_5
def X1_takesStone (b : Nat) (I : xMem) (x1 : Int32) : Option (Int32 × xMem) := if x1 = (0 : Int32) then (some ((nz (0 : Int32)), I)) else ((wrI I (b + 1) 4 (I b 1) x1).bind fun I2 => (some (wr I2 b 1 ((I2 b 1) + (1 : Int32)))).bind fun I3 => (some (wr I3 b 7 (2 : Int32))).bind fun I4 => some ((nz (1 : Int32)), I4))
abbrev rm_X1_takesStone : Room := { frames := 0, cells := 0, slots := 0, locals := 0 }
theorem cd_X1_takesStone : yX1_takesStone.cls = RX1 ∧ yX1_takesStone.cls ≠ "java/lang/invoke/MethodHandle" ∧ yX1_takesStone.cls ≠ "java/lang/invoke/VarHandle" ∧ (parseMethodDescriptor yX1_takesStone.desc).map (fun d => d.parameters.length) = some 1 := by decide +kernel
set_option maxHeartbeats 4000000 in
set_option maxRecDepth 100000 in
theorem k_X1_takesStone (l : Launch) (D : va_G) (cy : Nat → ClassId) (ad : Nat → Nat) (P Dr : Nat) (tI : xTab) (hX : cOk ad P Dr) {b : Nat} (hB : cPlan b) (I : xMem) (L : xLon) (x1 : Int32) (r : Int32 × xMem) (h : X1_takesStone b I x1 = some r) : Met l yX1_takesStone wsX1_takesStone rm_X1_takesStone (va_Pc [.ref (ad b), .int x1] (cW D cy ad P Dr tI I L)) (cPi D cy ad P Dr tI r.2 L r.1) 0 0 (gA 64 ad) := by
  refine g_met (own := RX1) (cc := cX1_takesStone) (maxL := 2) (ret := (some .boolean)) (by decide) rfl (Nat.le_of_ble_eq_true rfl) rfl ?_
  intro p e s m args below meth c ls hx hb hml hr hlocks hown hts hG hK hZ hl
  generalize hQ : MQ below _ args s 0 0 _ = Q
  have hl : lv_has ls 2 [(0, .ref (ad b)), (1, .int x1)] := hl
  have hS : va_S (gA 64 ad) s.heap s.heap [] := va_S.rf
  obtain ⟨hi, hP, hDr⟩ := id hX
  have l1 : ∀ w ∈ wsX10, w.before args s = true := fun w h => hts w (List.mem_cons_of_mem _ (List.mem_append_right _ h))
  have k1 := hts (.fieldLink RX1 9 "PairStairs$Plan" "stoneWeight" "[I") (by decide +kernel)
  have k2 := hts (.fieldLink RX1 24 "PairStairs$Plan" "stones" "I") (by decide +kernel)
  have k3 := hts (.fieldLink RX1 31 "PairStairs$Plan" "awaited" "I") (by decide +kernel)
  unfold X1_takesStone at h
  refine lv_iload_n hx hb dX1_takesStone_0 rfl (lv_at hl 1 rfl) ?_
  refine lv_if_ne (tgt := 6) hx hb dX1_takesStone_1 (by decide) (fun c1 => ?_) (fun c1 => ?_)
  · have h := ite_f h c1
    refine lv_aload_n hx hb dX1_takesStone_6 rfl (lv_at hl 0 rfl) ?_
    refine g_get hx hb l1 hown hK hG (k := b) hB.1.1 (cE_1 hB.1 _ _) vwCl_1 3 (by decide) k1 (fun _ h9 => h9) rfl dX1_takesStone_7 ?_
    refine lv_aload_n hx hb dX1_takesStone_10 rfl (lv_at hl 0 rfl) ?_
    refine g_get hx hb l1 hown hK hG (k := b) hB.1.1 (cE_1 hB.1 _ _) vwCl_1 1 (by decide) k2 (fun _ h9 => h9) rfl dX1_takesStone_11 ?_
    refine lv_iload_n hx hb dX1_takesStone_14 rfl (lv_at hl 1 rfl) ?_
    refine g_ast hx hb hK hG hi hS (k := (b + 1)) (n := 4) hB.2.1.1.1 (fun f => cIA_e hB.2.1 f _) 0 rfl h dX1_takesStone_15 (fun I2 H locs h hG hS => ?_)
    refine lv_aload_n hx hb dX1_takesStone_16 rfl (lv_at hl 0 rfl) ?_
    refine lv_dup hx hb dX1_takesStone_17 rfl ?_
    refine g_get hx hb l1 hown hK hG (k := b) hB.1.1 (cE_1 hB.1 _ _) vwCl_1 1 (by decide) k2 (fun _ h9 => h9) rfl dX1_takesStone_18 ?_
    refine lv_iconst (v := (1 : Int32)) hx hb dX1_takesStone_21 (by decide) ?_
    refine lv_iadd hx hb dX1_takesStone_22 ?_
    obtain ⟨I3, eI3, h⟩ := obind h
    refine g_put hx hb l1 tyX1_ok nmX1 hown hK hG hi hS (k := b) hB.1.1 (cE_1 hB.1 _ _) vwCl_1 1 (by decide) k2 (fun _ h9 => h9) rfl rfl (Nat.le_of_ble_eq_true rfl) (by rw [cE_1 hB.1 _ _]; rfl) dX1_takesStone_23 (fun H locs hG hS => ?_)
    rw [Option.some.inj eI3] at hG
    refine lv_aload_n hx hb dX1_takesStone_26 rfl (lv_at hl 0 rfl) ?_
    refine lv_iconst (v := (2 : Int32)) hx hb dX1_takesStone_27 (by decide) ?_
    obtain ⟨I4, eI4, h⟩ := obind h
    refine g_put hx hb l1 tyX1_ok nmX1 hown hK hG hi hS (k := b) hB.1.1 (cE_1 hB.1 _ _) vwCl_1 7 (by decide) k3 (fun _ h9 => h9) rfl rfl (Nat.le_of_ble_eq_true rfl) (by rw [cE_1 hB.1 _ _]; rfl) dX1_takesStone_28 (fun H locs hG hS => ?_)
    rw [Option.some.inj eI4] at hG
    refine lv_iconst (v := (1 : Int32)) hx hb dX1_takesStone_31 (by decide) ?_
    have h := Option.some.inj h
    subst h
    subst hQ
    exact g_zret hx hb hr hlocks cZm hK hZ hG hS rfl dX1_takesStone_32
  · have h := ite_t h c1
    refine lv_iconst (v := (0 : Int32)) hx hb dX1_takesStone_4 (by decide) ?_
    have h := Option.some.inj h
    subst h
    subst hQ
    exact g_zret hx hb hr hlocks cZm hK hZ hG hS rfl dX1_takesStone_5
def X1_takesTens (b : Nat) (I : xMem) (x1 : Int32) : Option (Int32 × xMem) := (some (wr I b 8 x1)).bind fun I1 => (some (wr I1 b 7 (5 : Int32))).bind fun I2 => some ((nz (1 : Int32)), I2)
abbrev rm_X1_takesTens : Room := { frames := 0, cells := 0, slots := 0, locals := 0 }
theorem cd_X1_takesTens : yX1_takesTens.cls = RX1 ∧ yX1_takesTens.cls ≠ "java/lang/invoke/MethodHandle" ∧ yX1_takesTens.cls ≠ "java/lang/invoke/VarHandle" ∧ (parseMethodDescriptor yX1_takesTens.desc).map (fun d => d.parameters.length) = some 1 := by decide +kernel
set_option maxHeartbeats 4000000 in
set_option maxRecDepth 100000 in
theorem k_X1_takesTens (l : Launch) (D : va_G) (cy : Nat → ClassId) (ad : Nat → Nat) (P Dr : Nat) (tI : xTab) (hX : cOk ad P Dr) {b : Nat} (hB : cPlan b) (I : xMem) (L : xLon) (x1 : Int32) (r : Int32 × xMem) (h : X1_takesTens b I x1 = some r) : Met l yX1_takesTens wsX1_takesTens rm_X1_takesTens (va_Pc [.ref (ad b), .int x1] (cW D cy ad P Dr tI I L)) (cPi D cy ad P Dr tI r.2 L r.1) 0 0 (gA 64 ad) := by
  refine g_met (own := RX1) (cc := cX1_takesTens) (maxL := 2) (ret := (some .boolean)) (by decide) rfl (Nat.le_of_ble_eq_true rfl) rfl ?_
  intro p e s m args below meth c ls hx hb hml hr hlocks hown hts hG hK hZ hl
  generalize hQ : MQ below _ args s 0 0 _ = Q
  have hl : lv_has ls 2 [(0, .ref (ad b)), (1, .int x1)] := hl
  have hS : va_S (gA 64 ad) s.heap s.heap [] := va_S.rf
  obtain ⟨hi, hP, hDr⟩ := id hX
  have l1 : ∀ w ∈ wsX10, w.before args s = true := fun w h => hts w (List.mem_cons_of_mem _ (List.mem_append_right _ h))
  have k1 := hts (.fieldLink RX1 56 "PairStairs$Plan" "tens" "I") (by decide +kernel)
  have k2 := hts (.fieldLink RX1 31 "PairStairs$Plan" "awaited" "I") (by decide +kernel)
  unfold X1_takesTens at h
  refine lv_aload_n hx hb dX1_takesTens_0 rfl (lv_at hl 0 rfl) ?_
  refine lv_iload_n hx hb dX1_takesTens_1 rfl (lv_at hl 1 rfl) ?_
  obtain ⟨I1, eI1, h⟩ := obind h
  refine g_put hx hb l1 tyX1_ok nmX1 hown hK hG hi hS (k := b) hB.1.1 (cE_1 hB.1 _ _) vwCl_1 8 (by decide) k1 (fun _ h9 => h9) rfl rfl (Nat.le_of_ble_eq_true rfl) (by rw [cE_1 hB.1 _ _]; rfl) dX1_takesTens_2 (fun H locs hG hS => ?_)
  rw [Option.some.inj eI1] at hG
  refine lv_aload_n hx hb dX1_takesTens_5 rfl (lv_at hl 0 rfl) ?_
  refine lv_iconst (v := (5 : Int32)) hx hb dX1_takesTens_6 (by decide) ?_
  obtain ⟨I2, eI2, h⟩ := obind h
  refine g_put hx hb l1 tyX1_ok nmX1 hown hK hG hi hS (k := b) hB.1.1 (cE_1 hB.1 _ _) vwCl_1 7 (by decide) k2 (fun _ h9 => h9) rfl rfl (Nat.le_of_ble_eq_true rfl) (by rw [cE_1 hB.1 _ _]; rfl) dX1_takesTens_7 (fun H locs hG hS => ?_)
  rw [Option.some.inj eI2] at hG
  refine lv_iconst (v := (1 : Int32)) hx hb dX1_takesTens_10 (by decide) ?_
  have h := Option.some.inj h
  subst h
  subst hQ
  exact g_zret hx hb hr hlocks cZm hK hZ hG hS rfl dX1_takesTens_11
def X1_takes (b : Nat) (I : xMem) (x1 : Int32) : Option (Int32 × xMem) := (if (x1 - (48 : Int32)) < (0 : Int32) then (some (0 : Int32)) else (if (9 : Int32) < (x1 - (48 : Int32)) then (some (0 : Int32)) else (some (1 : Int32)))).bind fun q1 => if (I b 7) = (0 : Int32) then ((X1_takesAhead b I x1).bind fun q5 => some ((nz q5.1), q5.2)) else (if (I b 7) = (1 : Int32) then (if q1 = (0 : Int32) then (some ((nz (0 : Int32)), I)) else ((X1_takesLimit b I (x1 - (48 : Int32))).bind fun q8 => if q8.1 = (0 : Int32) then (some ((nz (0 : Int32)), q8.2)) else (some ((nz (1 : Int32)), q8.2)))) else (if (I b 7) = (2 : Int32) then (if x1 = (32 : Int32) then (some ((nz (1 : Int32)), I)) else ((X1_takesLetter b I x1).bind fun q12 => if q12.1 = (0 : Int32) then (some ((nz (0 : Int32)), q12.2)) else (some ((nz (1 : Int32)), q12.2)))) else (if (I b 7) = (3 : Int32) then (if q1 = (0 : Int32) then (some ((nz (0 : Int32)), I)) else ((X1_takesStone b I (x1 - (48 : Int32))).bind fun q16 => if q16.1 = (0 : Int32) then (some ((nz (0 : Int32)), q16.2)) else (some ((nz (1 : Int32)), q16.2)))) else (if (I b 7) = (4 : Int32) then (if q1 = (0 : Int32) then (some ((nz (0 : Int32)), I)) else ((X1_takesTens b I (x1 - (48 : Int32))).bind fun q20 => if q20.1 = (0 : Int32) then (some ((nz (0 : Int32)), q20.2)) else (some ((nz (1 : Int32)), q20.2)))) else (if q1 = (0 : Int32) then (some ((nz (0 : Int32)), I)) else ((X1_takesPounds b I (((10 : Int32) * (I b 8)) + (x1 - (48 : Int32)))).bind fun q23 => if q23.1 = (0 : Int32) then (some ((nz (0 : Int32)), q23.2)) else (some ((nz (1 : Int32)), q23.2))))))))
abbrev rm_X1_takes : Room := { frames := 2, cells := 0, slots := 0, locals := 42 }
theorem cd_X1_takes : yX1_takes.cls = RX1 ∧ yX1_takes.cls ≠ "java/lang/invoke/MethodHandle" ∧ yX1_takes.cls ≠ "java/lang/invoke/VarHandle" ∧ (parseMethodDescriptor yX1_takes.desc).map (fun d => d.parameters.length) = some 1 := by decide +kernel
set_option maxHeartbeats 4000000 in
set_option maxRecDepth 100000 in
theorem k_X1_takes (l : Launch) (D : va_G) (cy : Nat → ClassId) (ad : Nat → Nat) (P Dr : Nat) (tI : xTab) (hX : cOk ad P Dr) {b : Nat} (hB : cPlan b) (I : xMem) (L : xLon) (x1 : Int32) (r : Int32 × xMem) (h : X1_takes b I x1 = some r) : Met l yX1_takes wsX1_takes rm_X1_takes (va_Pc [.ref (ad b), .int x1] (cW D cy ad P Dr tI I L)) (cPi D cy ad P Dr tI r.2 L r.1) 0 0 (gA 64 ad) := by
  refine g_met (own := RX1) (cc := cX1_takes) (maxL := 4) (ret := (some .boolean)) (by decide) rfl (Nat.le_of_ble_eq_true rfl) rfl ?_
  intro p e s m args below meth c ls hx hb hml hr hlocks hown hts hG hK hZ hl
  generalize hQ : MQ below _ args s 0 0 _ = Q
  have hl : lv_has ls 4 [(0, .ref (ad b)), (1, .int x1)] := hl
  have hS : va_S (gA 64 ad) s.heap s.heap [] := va_S.rf
  obtain ⟨hi, hP, hDr⟩ := id hX
  have l1 : ∀ w ∈ wsX10, w.before args s = true := fun w h => hts w (List.mem_cons_of_mem _ (List.mem_append_right _ h))
  have k1 := hts (.fieldLink RX1 31 "PairStairs$Plan" "awaited" "I") (by decide +kernel)
  have k2 := hts (.fieldLink RX1 56 "PairStairs$Plan" "tens" "I") (by decide +kernel)
  unfold X1_takes at h
  refine lv_iload_n hx hb dX1_takes_0 rfl (lv_at hl 1 rfl) ?_
  refine lv_bipush (v := (48 : Int32)) hx hb dX1_takes_1 (by decide) ?_
  refine lv_isub hx hb dX1_takes_3 ?_
  refine lv_istore_n (lv' := [(2, .int (x1 - (48 : Int32))), (0, .ref (ad b)), (1, .int x1)]) hx hb dX1_takes_4 rfl hl (by decide) rfl (fun ls hl => ?_)
  refine lv_iload_n hx hb dX1_takes_5 rfl (lv_at hl 0 rfl) ?_
  obtain ⟨q1, h9, h⟩ := obind h
  have hk_q1 : ∀ (H : Heap) (locs : List Loc) (ls : Array Slot), cG D cy ad P Dr I L H → va_S (gA 64 ad) s.heap H locs → lv_has ls 4 [(0, .ref (ad b)), (1, .int x1), (2, .int (x1 - (48 : Int32)))] → W p l e rm_X1_takes s m args below meth c H locs 0 0 Q (F0 m 20 ls [.int q1]) := by
    intro H locs ls hG hS hl
    refine lv_istore_n (lv' := [(3, .int q1), (0, .ref (ad b)), (1, .int x1), (2, .int (x1 - (48 : Int32)))]) hx hb dX1_takes_20 rfl hl (by decide) rfl (fun ls hl => ?_)
    refine lv_aload_n hx hb dX1_takes_21 rfl (lv_at hl 1 rfl) ?_
    refine g_get hx hb l1 hown hK hG (k := b) hB.1.1 (cE_1 hB.1 _ _) vwCl_1 7 (by decide) k1 (fun _ h9 => h9) rfl dX1_takes_22 ?_
    by_cases c4 : (I b 7) = (0 : Int32)
    · have h := ite_t h c4
      refine lv_tableIn (tgt := 60) hx hb dX1_takes_25 (by rw [c4]; decide) (by rw [c4]; decide) (by rw [c4]; rfl) (by decide) ?_
      refine lv_aload_n hx hb dX1_takes_60 rfl (lv_at hl 1 rfl) ?_
      refine lv_iload_n hx hb dX1_takes_61 rfl (lv_at hl 2 rfl) ?_
      obtain ⟨q5, eq5, h⟩ := obind h
      refine g_endi (va_runV (As := [.int x1]) (rest := []) ⟨hx, hb, hml, hown, hts⟩ (k_X1_takesAhead l D cy ad P Dr tI hX (b := b) hB I L x1 q5 eq5) (cwV 1 hts gX1_takes_X1_takesAhead rfl rfl rfl cd_X1_takesAhead ⟨Nat.le_of_ble_eq_true rfl, Nat.le_of_ble_eq_true rfl⟩) ⟨g_blind cZm, g_recv hK hG (k := b) hB.1.1 (cE_1 hB.1 _ _) vwCl_1, g_pre cZm hK hG hZ hS⟩ rfl rfl hl.1 rfl (lv_room (Nat.le_of_ble_eq_true rfl)) dX1_takes_62 ⟨Nat.le_refl _, Nat.le_refl _⟩) hS (fun H locs hG hS => ?_)
      have h := Option.some.inj h
      subst h
      subst hQ
      exact g_zret hx hb hr hlocks cZm hK hZ hG hS rfl dX1_takes_65
    · have h := ite_f h c4
      by_cases c6 : (I b 7) = (1 : Int32)
      · have h := ite_t h c6
        refine lv_tableIn (tgt := 66) hx hb dX1_takes_25 (by rw [c6]; decide) (by rw [c6]; decide) (by rw [c6]; rfl) (by decide) ?_
        refine lv_iload_n hx hb dX1_takes_66 rfl (lv_at hl 0 rfl) ?_
        refine lv_if_eq (tgt := 82) hx hb dX1_takes_67 (by decide) (fun c7 => ?_) (fun c7 => ?_)
        · have h := ite_t h c7
          refine lv_iconst (v := (0 : Int32)) hx hb dX1_takes_82 (by decide) ?_
          have h := Option.some.inj h
          subst h
          subst hQ
          exact g_zret hx hb hr hlocks cZm hK hZ hG hS rfl dX1_takes_83
        · have h := ite_f h c7
          refine lv_aload_n hx hb dX1_takes_70 rfl (lv_at hl 1 rfl) ?_
          refine lv_iload_n hx hb dX1_takes_71 rfl (lv_at hl 3 rfl) ?_
          obtain ⟨q8, eq8, h⟩ := obind h
          refine g_endi (va_runV (As := [.int (x1 - (48 : Int32))]) (rest := []) ⟨hx, hb, hml, hown, hts⟩ (k_X1_takesLimit l D cy ad P Dr tI hX (b := b) hB I L (x1 - (48 : Int32)) q8 eq8) (cwV 1 hts gX1_takes_X1_takesLimit rfl rfl rfl cd_X1_takesLimit ⟨Nat.le_of_ble_eq_true rfl, Nat.le_of_ble_eq_true rfl⟩) ⟨g_blind cZm, g_recv hK hG (k := b) hB.1.1 (cE_1 hB.1 _ _) vwCl_1, g_pre cZm hK hG hZ hS⟩ rfl rfl hl.1 rfl (lv_room (Nat.le_of_ble_eq_true rfl)) dX1_takes_72 ⟨Nat.le_refl _, Nat.le_refl _⟩) hS (fun H locs hG hS => ?_)
          refine lv_if_eq (tgt := 82) hx hb dX1_takes_75 (by decide) (fun c9 => ?_) (fun c9 => ?_)
          · have h := ite_t h c9
            refine lv_iconst (v := (0 : Int32)) hx hb dX1_takes_82 (by decide) ?_
            have h := Option.some.inj h
            subst h
            subst hQ
            exact g_zret hx hb hr hlocks cZm hK hZ hG hS rfl dX1_takes_83
          · have h := ite_f h c9
            refine lv_iconst (v := (1 : Int32)) hx hb dX1_takes_78 (by decide) ?_
            refine lv_goto (tgt := 83) hx hb dX1_takes_79 (by decide) ?_
            have h := Option.some.inj h
            subst h
            subst hQ
            exact g_zret hx hb hr hlocks cZm hK hZ hG hS rfl dX1_takes_83
      · have h := ite_f h c6
        by_cases c10 : (I b 7) = (2 : Int32)
        · have h := ite_t h c10
          refine lv_tableIn (tgt := 84) hx hb dX1_takes_25 (by rw [c10]; decide) (by rw [c10]; decide) (by rw [c10]; rfl) (by decide) ?_
          refine lv_iload_n hx hb dX1_takes_84 rfl (lv_at hl 2 rfl) ?_
          refine lv_bipush (v := (32 : Int32)) hx hb dX1_takes_85 (by decide) ?_
          refine lv_icmp_eq (tgt := 98) hx hb dX1_takes_87 (by decide) (fun c11 => ?_) (fun c11 => ?_)
          · have h := ite_t h c11
            refine lv_iconst (v := (1 : Int32)) hx hb dX1_takes_98 (by decide) ?_
            refine lv_goto (tgt := 103) hx hb dX1_takes_99 (by decide) ?_
            have h := Option.some.inj h
            subst h
            subst hQ
            exact g_zret hx hb hr hlocks cZm hK hZ hG hS rfl dX1_takes_103
          · have h := ite_f h c11
            refine lv_aload_n hx hb dX1_takes_90 rfl (lv_at hl 1 rfl) ?_
            refine lv_iload_n hx hb dX1_takes_91 rfl (lv_at hl 2 rfl) ?_
            obtain ⟨q12, eq12, h⟩ := obind h
            refine g_endi (va_runV (As := [.int x1]) (rest := []) ⟨hx, hb, hml, hown, hts⟩ (k_X1_takesLetter l D cy ad P Dr tI hX (b := b) hB I L x1 q12 eq12) (cwV 1 hts gX1_takes_X1_takesLetter rfl rfl rfl cd_X1_takesLetter ⟨Nat.le_of_ble_eq_true rfl, Nat.le_of_ble_eq_true rfl⟩) ⟨g_blind cZm, g_recv hK hG (k := b) hB.1.1 (cE_1 hB.1 _ _) vwCl_1, g_pre cZm hK hG hZ hS⟩ rfl rfl hl.1 rfl (lv_room (Nat.le_of_ble_eq_true rfl)) dX1_takes_92 ⟨Nat.le_refl _, Nat.le_refl _⟩) hS (fun H locs hG hS => ?_)
            refine lv_if_eq (tgt := 102) hx hb dX1_takes_95 (by decide) (fun c13 => ?_) (fun c13 => ?_)
            · have h := ite_t h c13
              refine lv_iconst (v := (0 : Int32)) hx hb dX1_takes_102 (by decide) ?_
              have h := Option.some.inj h
              subst h
              subst hQ
              exact g_zret hx hb hr hlocks cZm hK hZ hG hS rfl dX1_takes_103
            · have h := ite_f h c13
              refine lv_iconst (v := (1 : Int32)) hx hb dX1_takes_98 (by decide) ?_
              refine lv_goto (tgt := 103) hx hb dX1_takes_99 (by decide) ?_
              have h := Option.some.inj h
              subst h
              subst hQ
              exact g_zret hx hb hr hlocks cZm hK hZ hG hS rfl dX1_takes_103
        · have h := ite_f h c10
          by_cases c14 : (I b 7) = (3 : Int32)
          · have h := ite_t h c14
            refine lv_tableIn (tgt := 104) hx hb dX1_takes_25 (by rw [c14]; decide) (by rw [c14]; decide) (by rw [c14]; rfl) (by decide) ?_
            refine lv_iload_n hx hb dX1_takes_104 rfl (lv_at hl 0 rfl) ?_
            refine lv_if_eq (tgt := 120) hx hb dX1_takes_105 (by decide) (fun c15 => ?_) (fun c15 => ?_)
            · have h := ite_t h c15
              refine lv_iconst (v := (0 : Int32)) hx hb dX1_takes_120 (by decide) ?_
              have h := Option.some.inj h
              subst h
              subst hQ
              exact g_zret hx hb hr hlocks cZm hK hZ hG hS rfl dX1_takes_121
            · have h := ite_f h c15
              refine lv_aload_n hx hb dX1_takes_108 rfl (lv_at hl 1 rfl) ?_
              refine lv_iload_n hx hb dX1_takes_109 rfl (lv_at hl 3 rfl) ?_
              obtain ⟨q16, eq16, h⟩ := obind h
              refine g_endi (va_runV (As := [.int (x1 - (48 : Int32))]) (rest := []) ⟨hx, hb, hml, hown, hts⟩ (k_X1_takesStone l D cy ad P Dr tI hX (b := b) hB I L (x1 - (48 : Int32)) q16 eq16) (cwV 1 hts gX1_takes_X1_takesStone rfl rfl rfl cd_X1_takesStone ⟨Nat.le_of_ble_eq_true rfl, Nat.le_of_ble_eq_true rfl⟩) ⟨g_blind cZm, g_recv hK hG (k := b) hB.1.1 (cE_1 hB.1 _ _) vwCl_1, g_pre cZm hK hG hZ hS⟩ rfl rfl hl.1 rfl (lv_room (Nat.le_of_ble_eq_true rfl)) dX1_takes_110 ⟨Nat.le_refl _, Nat.le_refl _⟩) hS (fun H locs hG hS => ?_)
              refine lv_if_eq (tgt := 120) hx hb dX1_takes_113 (by decide) (fun c17 => ?_) (fun c17 => ?_)
              · have h := ite_t h c17
                refine lv_iconst (v := (0 : Int32)) hx hb dX1_takes_120 (by decide) ?_
                have h := Option.some.inj h
                subst h
                subst hQ
                exact g_zret hx hb hr hlocks cZm hK hZ hG hS rfl dX1_takes_121
              · have h := ite_f h c17
                refine lv_iconst (v := (1 : Int32)) hx hb dX1_takes_116 (by decide) ?_
                refine lv_goto (tgt := 121) hx hb dX1_takes_117 (by decide) ?_
                have h := Option.some.inj h
                subst h
                subst hQ
                exact g_zret hx hb hr hlocks cZm hK hZ hG hS rfl dX1_takes_121
          · have h := ite_f h c14
            by_cases c18 : (I b 7) = (4 : Int32)
            · have h := ite_t h c18
              refine lv_tableIn (tgt := 122) hx hb dX1_takes_25 (by rw [c18]; decide) (by rw [c18]; decide) (by rw [c18]; rfl) (by decide) ?_
              refine lv_iload_n hx hb dX1_takes_122 rfl (lv_at hl 0 rfl) ?_
              refine lv_if_eq (tgt := 138) hx hb dX1_takes_123 (by decide) (fun c19 => ?_) (fun c19 => ?_)
              · have h := ite_t h c19
                refine lv_iconst (v := (0 : Int32)) hx hb dX1_takes_138 (by decide) ?_
                have h := Option.some.inj h
                subst h
                subst hQ
                exact g_zret hx hb hr hlocks cZm hK hZ hG hS rfl dX1_takes_139
              · have h := ite_f h c19
                refine lv_aload_n hx hb dX1_takes_126 rfl (lv_at hl 1 rfl) ?_
                refine lv_iload_n hx hb dX1_takes_127 rfl (lv_at hl 3 rfl) ?_
                obtain ⟨q20, eq20, h⟩ := obind h
                refine g_endi (va_runV (As := [.int (x1 - (48 : Int32))]) (rest := []) ⟨hx, hb, hml, hown, hts⟩ (k_X1_takesTens l D cy ad P Dr tI hX (b := b) hB I L (x1 - (48 : Int32)) q20 eq20) (cwV 1 hts gX1_takes_X1_takesTens rfl rfl rfl cd_X1_takesTens ⟨Nat.le_of_ble_eq_true rfl, Nat.le_of_ble_eq_true rfl⟩) ⟨g_blind cZm, g_recv hK hG (k := b) hB.1.1 (cE_1 hB.1 _ _) vwCl_1, g_pre cZm hK hG hZ hS⟩ rfl rfl hl.1 rfl (lv_room (Nat.le_of_ble_eq_true rfl)) dX1_takes_128 ⟨Nat.le_refl _, Nat.le_refl _⟩) hS (fun H locs hG hS => ?_)
                refine lv_if_eq (tgt := 138) hx hb dX1_takes_131 (by decide) (fun c21 => ?_) (fun c21 => ?_)
                · have h := ite_t h c21
                  refine lv_iconst (v := (0 : Int32)) hx hb dX1_takes_138 (by decide) ?_
                  have h := Option.some.inj h
                  subst h
                  subst hQ
                  exact g_zret hx hb hr hlocks cZm hK hZ hG hS rfl dX1_takes_139
                · have h := ite_f h c21
                  refine lv_iconst (v := (1 : Int32)) hx hb dX1_takes_134 (by decide) ?_
                  refine lv_goto (tgt := 139) hx hb dX1_takes_135 (by decide) ?_
                  have h := Option.some.inj h
                  subst h
                  subst hQ
                  exact g_zret hx hb hr hlocks cZm hK hZ hG hS rfl dX1_takes_139
            · have h := ite_f h c18
              refine lv_tableOut (tgt := 140) hx hb dX1_takes_25 (tsw_out 0 4 (fun k h1 h2 => ?_)) (by decide) ?_
              · rcases (show k = 0 ∨ k = 1 ∨ k = 2 ∨ k = 3 ∨ k = 4 by omega) with rfl | rfl | rfl | rfl | rfl
                · exact c4
                · exact c6
                · exact c10
                · exact c14
                · exact c18
              · refine lv_iload_n hx hb dX1_takes_140 rfl (lv_at hl 0 rfl) ?_
                refine lv_if_eq (tgt := 164) hx hb dX1_takes_141 (by decide) (fun c22 => ?_) (fun c22 => ?_)
                · have h := ite_t h c22
                  refine lv_iconst (v := (0 : Int32)) hx hb dX1_takes_164 (by decide) ?_
                  have h := Option.some.inj h
                  subst h
                  subst hQ
                  exact g_zret hx hb hr hlocks cZm hK hZ hG hS rfl dX1_takes_165
                · have h := ite_f h c22
                  refine lv_aload_n hx hb dX1_takes_144 rfl (lv_at hl 1 rfl) ?_
                  refine lv_bipush (v := (10 : Int32)) hx hb dX1_takes_145 (by decide) ?_
                  refine lv_aload_n hx hb dX1_takes_147 rfl (lv_at hl 1 rfl) ?_
                  refine g_get hx hb l1 hown hK hG (k := b) hB.1.1 (cE_1 hB.1 _ _) vwCl_1 8 (by decide) k2 (fun _ h9 => h9) rfl dX1_takes_148 ?_
                  refine lv_imul hx hb dX1_takes_151 ?_
                  refine lv_iload_n hx hb dX1_takes_152 rfl (lv_at hl 3 rfl) ?_
                  refine lv_iadd hx hb dX1_takes_153 ?_
                  obtain ⟨q23, eq23, h⟩ := obind h
                  refine g_endi (va_runV (As := [.int (((10 : Int32) * (I b 8)) + (x1 - (48 : Int32)))]) (rest := []) ⟨hx, hb, hml, hown, hts⟩ (k_X1_takesPounds l D cy ad P Dr tI hX (b := b) hB I L (((10 : Int32) * (I b 8)) + (x1 - (48 : Int32))) q23 eq23) (cwV 1 hts gX1_takes_X1_takesPounds rfl rfl rfl cd_X1_takesPounds ⟨Nat.le_of_ble_eq_true rfl, Nat.le_of_ble_eq_true rfl⟩) ⟨g_blind cZm, g_recv hK hG (k := b) hB.1.1 (cE_1 hB.1 _ _) vwCl_1, g_pre cZm hK hG hZ hS⟩ rfl rfl hl.1 rfl (lv_room (Nat.le_of_ble_eq_true rfl)) dX1_takes_154 ⟨Nat.le_refl _, Nat.le_refl _⟩) hS (fun H locs hG hS => ?_)
                  refine lv_if_eq (tgt := 164) hx hb dX1_takes_157 (by decide) (fun c24 => ?_) (fun c24 => ?_)
                  · have h := ite_t h c24
                    refine lv_iconst (v := (0 : Int32)) hx hb dX1_takes_164 (by decide) ?_
                    have h := Option.some.inj h
                    subst h
                    subst hQ
                    exact g_zret hx hb hr hlocks cZm hK hZ hG hS rfl dX1_takes_165
                  · have h := ite_f h c24
                    refine lv_iconst (v := (1 : Int32)) hx hb dX1_takes_160 (by decide) ?_
                    refine lv_goto (tgt := 165) hx hb dX1_takes_161 (by decide) ?_
                    have h := Option.some.inj h
                    subst h
                    subst hQ
                    exact g_zret hx hb hr hlocks cZm hK hZ hG hS rfl dX1_takes_165
  clear h
  have h := h9
  clear h9
  refine lv_if_lt (tgt := 19) hx hb dX1_takes_6 (by decide) (fun c2 => ?_) (fun c2 => ?_)
  · have h := ite_t h c2
    refine lv_iconst (v := (0 : Int32)) hx hb dX1_takes_19 (by decide) ?_
    have h := Option.some.inj h
    subst h
    exact hk_q1 _ _ _ hG hS (lv_sub hl [1, 2, 0] rfl)
  · have h := ite_f h c2
    refine lv_iload_n hx hb dX1_takes_9 rfl (lv_at hl 0 rfl) ?_
    refine lv_bipush (v := (9 : Int32)) hx hb dX1_takes_10 (by decide) ?_
    refine lv_icmp_gt (tgt := 19) hx hb dX1_takes_12 (by decide) (fun c3 => ?_) (fun c3 => ?_)
    · have h := ite_t h c3
      refine lv_iconst (v := (0 : Int32)) hx hb dX1_takes_19 (by decide) ?_
      have h := Option.some.inj h
      subst h
      exact hk_q1 _ _ _ hG hS (lv_sub hl [1, 2, 0] rfl)
    · have h := ite_f h c3
      refine lv_iconst (v := (1 : Int32)) hx hb dX1_takes_15 (by decide) ?_
      refine lv_goto (tgt := 20) hx hb dX1_takes_16 (by decide) ?_
      have h := Option.some.inj h
      subst h
      exact hk_q1 _ _ _ hG hS (lv_sub hl [1, 2, 0] rfl)
def X1_allStones (b : Nat) (I : xMem) : Int32 := (((1 : Int32) <<< ((I b 1) &&& 31)) - (1 : Int32))
abbrev rm_X1_allStones : Room := { frames := 0, cells := 0, slots := 0, locals := 0 }
theorem cd_X1_allStones : yX1_allStones.cls = RX1 ∧ yX1_allStones.cls ≠ "java/lang/invoke/MethodHandle" ∧ yX1_allStones.cls ≠ "java/lang/invoke/VarHandle" ∧ (parseMethodDescriptor yX1_allStones.desc).map (fun d => d.parameters.length) = some 0 := by decide +kernel
set_option maxHeartbeats 4000000 in
set_option maxRecDepth 100000 in
theorem k_X1_allStones (l : Launch) (D : va_G) (cy : Nat → ClassId) (ad : Nat → Nat) (P Dr : Nat) (tI : xTab) (hX : cOk ad P Dr) {b : Nat} (hB : cPlan b) (I : xMem) (L : xLon)  (r : Int32) (h : X1_allStones b I = r) : Met l yX1_allStones wsX1_allStones rm_X1_allStones (va_Pc [.ref (ad b)] (cW D cy ad P Dr tI I L)) (cPi D cy ad P Dr tI I L r) 0 0 (gA 64 ad) := by
  refine g_met (own := RX1) (cc := cX1_allStones) (maxL := 1) (ret := (some .int)) (by decide) rfl (Nat.le_of_ble_eq_true rfl) rfl ?_
  intro p e s m args below meth c ls hx hb hml hr hlocks hown hts hG hK hZ hl
  generalize hQ : MQ below _ args s 0 0 _ = Q
  have hl : lv_has ls 1 [(0, .ref (ad b))] := hl
  have hS : va_S (gA 64 ad) s.heap s.heap [] := va_S.rf
  obtain ⟨hi, hP, hDr⟩ := id hX
  have l1 : ∀ w ∈ wsX10, w.before args s = true := fun w h => hts w (List.mem_cons_of_mem _ (List.mem_append_right _ h))
  have k1 := hts (.fieldLink RX1 24 "PairStairs$Plan" "stones" "I") (by decide +kernel)
  unfold X1_allStones at h
  refine lv_iconst (v := (1 : Int32)) hx hb dX1_allStones_0 (by decide) ?_
  refine lv_aload_n hx hb dX1_allStones_1 rfl (lv_at hl 0 rfl) ?_
  refine g_get hx hb l1 hown hK hG (k := b) hB.1.1 (cE_1 hB.1 _ _) vwCl_1 1 (by decide) k1 (fun _ h9 => h9) rfl dX1_allStones_2 ?_
  refine lv_ishl hx hb dX1_allStones_5 ?_
  refine lv_iconst (v := (1 : Int32)) hx hb dX1_allStones_6 (by decide) ?_
  refine lv_isub hx hb dX1_allStones_7 ?_
  subst h
  subst hQ
  exact g_iret hx hb hr hlocks cZm hK hZ hG hS rfl dX1_allStones_8
def X1_weighSets_L2 (b : Nat) (x1_2 : Int32) (K7 : xMem → Option (xMem)) : Nat → Int32 → xMem → Option (xMem)
  | 0, _, _ => none
  | n8 + 1, x2_8, I9 => if (I9 b 1) ≤ x2_8 then (K7 I9) else ((rdI I9 (b + 2) 16 x1_2).bind fun v12 => (rdI I9 (b + 1) 4 x2_8).bind fun v13 => (wrI I9 (b + 2) 16 x1_2 (v12 + (((x1_2 >>> (x2_8 &&& 31)) &&& (1 : Int32)) * v13))).bind fun I14 => X1_weighSets_L2 b x1_2 K7 n8 (x2_8 + (1 : Int32)) I14)
def X1_weighSets_L1 (b : Nat) (K1 : xMem → Option (xMem)) : Nat → Int32 → xMem → Option (xMem)
  | 0, _, _ => none
  | n2 + 1, x1_2, I3 => if (X1_allStones b I3) < x1_2 then (K1 I3) else ((wrI I3 (b + 2) 16 x1_2 (0 : Int32)).bind fun I6 => X1_weighSets_L2 b x1_2 (fun (I10 : xMem) => X1_weighSets_L1 b K1 n2 (x1_2 + (1 : Int32)) I10) bigF (0 : Int32) I6)
def X1_weighSets (b : Nat) (I : xMem) : Option (xMem) := X1_weighSets_L1 b (fun (I4 : xMem) => some I4) bigF (0 : Int32) I
abbrev rm_X1_weighSets : Room := { frames := 1, cells := 0, slots := 0, locals := 20 }
theorem cd_X1_weighSets : yX1_weighSets.cls = RX1 ∧ yX1_weighSets.cls ≠ "java/lang/invoke/MethodHandle" ∧ yX1_weighSets.cls ≠ "java/lang/invoke/VarHandle" ∧ (parseMethodDescriptor yX1_weighSets.desc).map (fun d => d.parameters.length) = some 0 := by decide +kernel
set_option maxHeartbeats 4000000 in
set_option maxRecDepth 100000 in
theorem k_X1_weighSets (l : Launch) (D : va_G) (cy : Nat → ClassId) (ad : Nat → Nat) (P Dr : Nat) (tI : xTab) (hX : cOk ad P Dr) {b : Nat} (hB : cPlan b) (I : xMem) (L : xLon)  (r : xMem) (h : X1_weighSets b I = some r) : Met l yX1_weighSets wsX1_weighSets rm_X1_weighSets (va_Pc [.ref (ad b)] (cW D cy ad P Dr tI I L)) (cPv D cy ad P Dr tI r L) 0 0 (gA 64 ad) := by
  refine g_met (own := RX1) (cc := cX1_weighSets) (maxL := 3) (ret := none) (by decide) rfl (Nat.le_of_ble_eq_true rfl) rfl ?_
  intro p e s m args below meth c ls hx hb hml hr hlocks hown hts hG hK hZ hl
  generalize hQ : MQ below _ args s 0 0 _ = Q
  have hl : lv_has ls 3 [(0, .ref (ad b))] := hl
  have hS : va_S (gA 64 ad) s.heap s.heap [] := va_S.rf
  obtain ⟨hi, hP, hDr⟩ := id hX
  have l1 : ∀ w ∈ wsX10, w.before args s = true := fun w h => hts w (List.mem_cons_of_mem _ (List.mem_append_right _ h))
  have k1 := hts (.fieldLink RX1 15 "PairStairs$Plan" "setWeight" "[I") (by decide +kernel)
  have k2 := hts (.fieldLink RX1 24 "PairStairs$Plan" "stones" "I") (by decide +kernel)
  have k3 := hts (.fieldLink RX1 9 "PairStairs$Plan" "stoneWeight" "[I") (by decide +kernel)
  unfold X1_weighSets at h
  refine lv_iconst (v := (0 : Int32)) hx hb dX1_weighSets_0 (by decide) ?_
  refine lv_istore_n (lv' := [(1, .int (0 : Int32)), (0, .ref (ad b))]) hx hb dX1_weighSets_1 rfl hl (by decide) rfl (fun ls hl => ?_)
  have keyK1 : ∀ (K1 : xMem → Option (xMem)), (∀ (I4 : xMem) (H : Heap) (locs : List Loc) (ls : Array Slot), K1 I4 = some r → cG D cy ad P Dr I4 L H → va_S (gA 64 ad) s.heap H locs → lv_has ls 3 [] → W p l e rm_X1_weighSets s m args below meth c H locs 0 0 Q (F0 m 60 ls [])) → ∀ (n2 : Nat) (x1_2 : Int32) (I3 : xMem) (H : Heap) (locs : List Loc) (ls : Array Slot), X1_weighSets_L1 b K1 n2 x1_2 I3 = some r → cG D cy ad P Dr I3 L H → va_S (gA 64 ad) s.heap H locs → lv_has ls 3 [(0, .ref (ad b)), (1, .int x1_2)] → W p l e rm_X1_weighSets s m args below meth c H locs 0 0 Q (F0 m 2 ls []) := by
    intro K1 hkK1 n2
    induction n2 with
    | zero =>
      intro x1_2 I3 H locs ls h
      exact ono h
    | succ n2 ihn2 =>
      intro x1_2 I3 H locs ls h hG hS hl
      rw [X1_weighSets_L1] at h
      refine lv_iload_n hx hb dX1_weighSets_2 rfl (lv_at hl 1 rfl) ?_
      refine lv_aload_n hx hb dX1_weighSets_3 rfl (lv_at hl 0 rfl) ?_
      refine g_endi (va_runV (As := []) (rest := [.int x1_2]) ⟨hx, hb, hml, hown, hts⟩ (k_X1_allStones l D cy ad P Dr tI hX (b := b) hB I3 L _ rfl) (cwV 0 hts gX1_weighSets_X1_allStones rfl rfl rfl cd_X1_allStones ⟨Nat.le_of_ble_eq_true rfl, Nat.le_of_ble_eq_true rfl⟩) ⟨g_blind cZm, g_recv hK hG (k := b) hB.1.1 (cE_1 hB.1 _ _) vwCl_1, g_pre cZm hK hG hZ hS⟩ rfl rfl hl.1 rfl (lv_room (Nat.le_of_ble_eq_true rfl)) dX1_weighSets_4 ⟨Nat.le_refl _, Nat.le_refl _⟩) hS (fun H locs hG hS => ?_)
      refine lv_icmp_gt (tgt := 60) hx hb dX1_weighSets_7 (by decide) (fun c5 => ?_) (fun c5 => ?_)
      · have h := ite_t h c5
        exact hkK1 I3 _ _ _ h hG hS (lv_sub hl [] rfl)
      · have h := ite_f h c5
        refine lv_aload_n hx hb dX1_weighSets_10 rfl (lv_at hl 0 rfl) ?_
        refine g_get hx hb l1 hown hK hG (k := b) hB.1.1 (cE_1 hB.1 _ _) vwCl_1 4 (by decide) k1 (fun _ h9 => h9) rfl dX1_weighSets_11 ?_
        refine lv_iload_n hx hb dX1_weighSets_14 rfl (lv_at hl 1 rfl) ?_
        refine lv_iconst (v := (0 : Int32)) hx hb dX1_weighSets_15 (by decide) ?_
        refine g_ast hx hb hK hG hi hS (k := (b + 2)) (n := 16) hB.2.2.1.1.1 (fun f => cIA_e hB.2.2.1 f _) 0 rfl h dX1_weighSets_16 (fun I6 H locs h hG hS => ?_)
        refine lv_iconst (v := (0 : Int32)) hx hb dX1_weighSets_17 (by decide) ?_
        refine lv_istore_n (lv' := [(2, .int (0 : Int32)), (0, .ref (ad b)), (1, .int x1_2)]) hx hb dX1_weighSets_18 rfl hl (by decide) rfl (fun ls hl => ?_)
        have keyK7 : ∀ (K7 : xMem → Option (xMem)), (∀ (I10 : xMem) (H : Heap) (locs : List Loc) (ls : Array Slot), K7 I10 = some r → cG D cy ad P Dr I10 L H → va_S (gA 64 ad) s.heap H locs → lv_has ls 3 [(0, .ref (ad b)), (1, .int x1_2)] → W p l e rm_X1_weighSets s m args below meth c H locs 0 0 Q (F0 m 54 ls [])) → ∀ (n8 : Nat) (x2_8 : Int32) (I9 : xMem) (H : Heap) (locs : List Loc) (ls : Array Slot), X1_weighSets_L2 b x1_2 K7 n8 x2_8 I9 = some r → cG D cy ad P Dr I9 L H → va_S (gA 64 ad) s.heap H locs → lv_has ls 3 [(0, .ref (ad b)), (1, .int x1_2), (2, .int x2_8)] → W p l e rm_X1_weighSets s m args below meth c H locs 0 0 Q (F0 m 19 ls []) := by
          intro K7 hkK7 n8
          induction n8 with
          | zero =>
            intro x2_8 I9 H locs ls h
            exact ono h
          | succ n8 ihn8 =>
            intro x2_8 I9 H locs ls h hG hS hl
            rw [X1_weighSets_L2] at h
            refine lv_iload_n hx hb dX1_weighSets_19 rfl (lv_at hl 2 rfl) ?_
            refine lv_aload_n hx hb dX1_weighSets_20 rfl (lv_at hl 0 rfl) ?_
            refine g_get hx hb l1 hown hK hG (k := b) hB.1.1 (cE_1 hB.1 _ _) vwCl_1 1 (by decide) k2 (fun _ h9 => h9) rfl dX1_weighSets_21 ?_
            refine lv_icmp_ge (tgt := 54) hx hb dX1_weighSets_24 (by decide) (fun c11 => ?_) (fun c11 => ?_)
            · have h := ite_t h c11
              exact hkK7 I9 _ _ _ h hG hS (lv_sub hl [0, 1] rfl)
            · have h := ite_f h c11
              refine lv_aload_n hx hb dX1_weighSets_27 rfl (lv_at hl 0 rfl) ?_
              refine g_get hx hb l1 hown hK hG (k := b) hB.1.1 (cE_1 hB.1 _ _) vwCl_1 4 (by decide) k1 (fun _ h9 => h9) rfl dX1_weighSets_28 ?_
              refine lv_iload_n hx hb dX1_weighSets_31 rfl (lv_at hl 1 rfl) ?_
              refine lv_dup2_11 hx hb dX1_weighSets_32 rfl rfl ?_
              refine g_ald hx hb hK hG (k := (b + 2)) (n := 16) hB.2.2.1.1.1 (cIA_e hB.2.2.1 _ _) 0 rfl h dX1_weighSets_33 (fun v12 h => ?_)
              refine lv_iload_n hx hb dX1_weighSets_34 rfl (lv_at hl 1 rfl) ?_
              refine lv_iload_n hx hb dX1_weighSets_35 rfl (lv_at hl 2 rfl) ?_
              refine lv_ishr hx hb dX1_weighSets_36 ?_
              refine lv_iconst (v := (1 : Int32)) hx hb dX1_weighSets_37 (by decide) ?_
              refine lv_iand hx hb dX1_weighSets_38 ?_
              refine lv_aload_n hx hb dX1_weighSets_39 rfl (lv_at hl 0 rfl) ?_
              refine g_get hx hb l1 hown hK hG (k := b) hB.1.1 (cE_1 hB.1 _ _) vwCl_1 3 (by decide) k3 (fun _ h9 => h9) rfl dX1_weighSets_40 ?_
              refine lv_iload_n hx hb dX1_weighSets_43 rfl (lv_at hl 2 rfl) ?_
              refine g_ald hx hb hK hG (k := (b + 1)) (n := 4) hB.2.1.1.1 (cIA_e hB.2.1 _ _) 0 rfl h dX1_weighSets_44 (fun v13 h => ?_)
              refine lv_imul hx hb dX1_weighSets_45 ?_
              refine lv_iadd hx hb dX1_weighSets_46 ?_
              refine g_ast hx hb hK hG hi hS (k := (b + 2)) (n := 16) hB.2.2.1.1.1 (fun f => cIA_e hB.2.2.1 f _) 0 rfl h dX1_weighSets_47 (fun I14 H locs h hG hS => ?_)
              refine lv_iinc (v := (x2_8 + (1 : Int32))) (lv' := [(2, .int (x2_8 + (1 : Int32))), (0, .ref (ad b)), (1, .int x1_2)]) hx hb dX1_weighSets_48 hl (k := 2) rfl rfl (by decide) rfl (fun ls hl => ?_)
              refine lv_goto (tgt := 19) hx hb dX1_weighSets_51 (by decide) ?_
              exact ihn8 (x2_8 + (1 : Int32)) I14 _ _ _ h hG hS (lv_sub hl [1, 2, 0] rfl)
        refine keyK7 _ (fun I10 H locs ls h hG hS hl => ?_) bigF (0 : Int32) I6 _ _ _ h hG hS (lv_sub hl [1, 2, 0] rfl)
        clear keyK7
        refine lv_iinc (v := (x1_2 + (1 : Int32))) (lv' := [(1, .int (x1_2 + (1 : Int32))), (0, .ref (ad b))]) hx hb dX1_weighSets_54 hl (k := 1) rfl rfl (by decide) rfl (fun ls hl => ?_)
        refine lv_goto (tgt := 2) hx hb dX1_weighSets_57 (by decide) ?_
        exact ihn2 (x1_2 + (1 : Int32)) I10 _ _ _ h hG hS (lv_sub hl [1, 0] rfl)
  refine keyK1 _ (fun I4 H locs ls h hG hS hl => ?_) bigF (0 : Int32) I _ _ _ h hG hS (lv_sub hl [1, 0] rfl)
  clear keyK1
  have h := Option.some.inj h
  subst h
  subst hQ
  exact g_vret hx hb hr hlocks cZm hK hZ hG hS dX1_weighSets_60
def X1_read_L1 (b : Nat) (y1 : Nat) (n1 : Nat) (x2 : Int32) (K4 : xMem → Option (Int32 × xMem)) : Nat → Int32 → xMem → Option (Int32 × xMem)
  | 0, _, _ => none
  | n5 + 1, x3_5, I6 => if x2 ≤ x3_5 then (K4 I6) else ((rdI I6 y1 n1 x3_5).bind fun v9 => (X1_takes b I6 v9).bind fun q10 => if q10.1 = (0 : Int32) then (some (x3_5, q10.2)) else (X1_read_L1 b y1 n1 x2 K4 n5 (x3_5 + (1 : Int32)) q10.2))
def X1_read (b : Nat) (I : xMem) (y1 : Nat) (n1 : Nat) (x2 : Int32) : Option (Int32 × xMem) := (some (wr I b 1 (0 : Int32))).bind fun I1 => (some (wr I1 b 2 (0 : Int32))).bind fun I2 => (some (wr I2 b 7 (0 : Int32))).bind fun I3 => X1_read_L1 b y1 n1 x2 (fun (I7 : xMem) => if (I7 b 7) = (2 : Int32) then (if (2 : Int32) ≤ (I7 b 2) then ((X1_weighSets b I7).bind fun q14 => some ((-9 : Int32), q14)) else (some (x2, I7))) else (some (x2, I7))) bigF (0 : Int32) I3
abbrev rm_X1_read : Room := { frames := 3, cells := 0, slots := 0, locals := 65 }
theorem cd_X1_read : yX1_read.cls = RX1 ∧ yX1_read.cls ≠ "java/lang/invoke/MethodHandle" ∧ yX1_read.cls ≠ "java/lang/invoke/VarHandle" ∧ (parseMethodDescriptor yX1_read.desc).map (fun d => d.parameters.length) = some 2 := by decide +kernel
set_option maxHeartbeats 4000000 in
set_option maxRecDepth 100000 in
theorem k_X1_read (l : Launch) (D : va_G) (cy : Nat → ClassId) (ad : Nat → Nat) (P Dr : Nat) (tI : xTab) (hX : cOk ad P Dr) {b : Nat} (hB : cPlan b) (I : xMem) (L : xLon) {y1 n1 : Nat} (hY1 : cIA y1 n1) (x2 : Int32) (r : Int32 × xMem) (h : X1_read b I y1 n1 x2 = some r) : Met l yX1_read wsX1_read rm_X1_read (va_Pc [.ref (ad b), .ref (ad y1), .int x2] (cW D cy ad P Dr tI I L)) (cPi D cy ad P Dr tI r.2 L r.1) 0 0 (gA 64 ad) := by
  refine g_met (own := RX1) (cc := cX1_read) (maxL := 4) (ret := (some .int)) (by decide) rfl (Nat.le_of_ble_eq_true rfl) rfl ?_
  intro p e s m args below meth c ls hx hb hml hr hlocks hown hts hG hK hZ hl
  generalize hQ : MQ below _ args s 0 0 _ = Q
  have hl : lv_has ls 4 [(0, .ref (ad b)), (1, .ref (ad y1)), (2, .int x2)] := hl
  have hS : va_S (gA 64 ad) s.heap s.heap [] := va_S.rf
  obtain ⟨hi, hP, hDr⟩ := id hX
  have l1 : ∀ w ∈ wsX10, w.before args s = true := fun w h => hts w (List.mem_cons_of_mem _ (List.mem_append_right _ h))
  have k1 := hts (.fieldLink RX1 24 "PairStairs$Plan" "stones" "I") (by decide +kernel)
  have k2 := hts (.fieldLink RX1 28 "PairStairs$Plan" "people" "I") (by decide +kernel)
  have k3 := hts (.fieldLink RX1 31 "PairStairs$Plan" "awaited" "I") (by decide +kernel)
  unfold X1_read at h
  refine lv_aload_n hx hb dX1_read_0 rfl (lv_at hl 0 rfl) ?_
  refine lv_iconst (v := (0 : Int32)) hx hb dX1_read_1 (by decide) ?_
  obtain ⟨I1, eI1, h⟩ := obind h
  refine g_put hx hb l1 tyX1_ok nmX1 hown hK hG hi hS (k := b) hB.1.1 (cE_1 hB.1 _ _) vwCl_1 1 (by decide) k1 (fun _ h9 => h9) rfl rfl (Nat.le_of_ble_eq_true rfl) (by rw [cE_1 hB.1 _ _]; rfl) dX1_read_2 (fun H locs hG hS => ?_)
  rw [Option.some.inj eI1] at hG
  refine lv_aload_n hx hb dX1_read_5 rfl (lv_at hl 0 rfl) ?_
  refine lv_iconst (v := (0 : Int32)) hx hb dX1_read_6 (by decide) ?_
  obtain ⟨I2, eI2, h⟩ := obind h
  refine g_put hx hb l1 tyX1_ok nmX1 hown hK hG hi hS (k := b) hB.1.1 (cE_1 hB.1 _ _) vwCl_1 2 (by decide) k2 (fun _ h9 => h9) rfl rfl (Nat.le_of_ble_eq_true rfl) (by rw [cE_1 hB.1 _ _]; rfl) dX1_read_7 (fun H locs hG hS => ?_)
  rw [Option.some.inj eI2] at hG
  refine lv_aload_n hx hb dX1_read_10 rfl (lv_at hl 0 rfl) ?_
  refine lv_iconst (v := (0 : Int32)) hx hb dX1_read_11 (by decide) ?_
  obtain ⟨I3, eI3, h⟩ := obind h
  refine g_put hx hb l1 tyX1_ok nmX1 hown hK hG hi hS (k := b) hB.1.1 (cE_1 hB.1 _ _) vwCl_1 7 (by decide) k3 (fun _ h9 => h9) rfl rfl (Nat.le_of_ble_eq_true rfl) (by rw [cE_1 hB.1 _ _]; rfl) dX1_read_12 (fun H locs hG hS => ?_)
  rw [Option.some.inj eI3] at hG
  refine lv_iconst (v := (0 : Int32)) hx hb dX1_read_15 (by decide) ?_
  refine lv_istore_n (lv' := [(3, .int (0 : Int32)), (0, .ref (ad b)), (1, .ref (ad y1)), (2, .int x2)]) hx hb dX1_read_16 rfl hl (by decide) rfl (fun ls hl => ?_)
  have keyK4 : ∀ (K4 : xMem → Option (Int32 × xMem)), (∀ (I7 : xMem) (H : Heap) (locs : List Loc) (ls : Array Slot), K4 I7 = some r → cG D cy ad P Dr I7 L H → va_S (gA 64 ad) s.heap H locs → lv_has ls 4 [(0, .ref (ad b)), (2, .int x2)] → W p l e rm_X1_read s m args below meth c H locs 0 0 Q (F0 m 40 ls [])) → ∀ (n5 : Nat) (x3_5 : Int32) (I6 : xMem) (H : Heap) (locs : List Loc) (ls : Array Slot), X1_read_L1 b y1 n1 x2 K4 n5 x3_5 I6 = some r → cG D cy ad P Dr I6 L H → va_S (gA 64 ad) s.heap H locs → lv_has ls 4 [(0, .ref (ad b)), (1, .ref (ad y1)), (2, .int x2), (3, .int x3_5)] → W p l e rm_X1_read s m args below meth c H locs 0 0 Q (F0 m 17 ls []) := by
    intro K4 hkK4 n5
    induction n5 with
    | zero =>
      intro x3_5 I6 H locs ls h
      exact ono h
    | succ n5 ihn5 =>
      intro x3_5 I6 H locs ls h hG hS hl
      rw [X1_read_L1] at h
      refine lv_iload_n hx hb dX1_read_17 rfl (lv_at hl 3 rfl) ?_
      refine lv_iload_n hx hb dX1_read_18 rfl (lv_at hl 2 rfl) ?_
      refine lv_icmp_ge (tgt := 40) hx hb dX1_read_19 (by decide) (fun c8 => ?_) (fun c8 => ?_)
      · have h := ite_t h c8
        exact hkK4 I6 _ _ _ h hG hS (lv_sub hl [0, 2] rfl)
      · have h := ite_f h c8
        refine lv_aload_n hx hb dX1_read_22 rfl (lv_at hl 0 rfl) ?_
        refine lv_aload_n hx hb dX1_read_23 rfl (lv_at hl 1 rfl) ?_
        refine lv_iload_n hx hb dX1_read_24 rfl (lv_at hl 3 rfl) ?_
        refine g_ald hx hb hK hG (k := y1) (n := n1) hY1.1.1 (cIA_e hY1 _ _) 0 rfl h dX1_read_25 (fun v9 h => ?_)
        obtain ⟨q10, eq10, h⟩ := obind h
        refine g_endi (va_runV (As := [.int v9]) (rest := []) ⟨hx, hb, hml, hown, hts⟩ (k_X1_takes l D cy ad P Dr tI hX (b := b) hB I6 L v9 q10 eq10) (cwV 1 hts gX1_read_X1_takes rfl rfl rfl cd_X1_takes ⟨Nat.le_of_ble_eq_true rfl, Nat.le_of_ble_eq_true rfl⟩) ⟨g_blind cZm, g_recv hK hG (k := b) hB.1.1 (cE_1 hB.1 _ _) vwCl_1, g_pre cZm hK hG hZ hS⟩ rfl rfl hl.1 rfl (lv_room (Nat.le_of_ble_eq_true rfl)) dX1_read_26 ⟨Nat.le_refl _, Nat.le_refl _⟩) hS (fun H locs hG hS => ?_)
        refine lv_if_ne (tgt := 34) hx hb dX1_read_29 (by decide) (fun c11 => ?_) (fun c11 => ?_)
        · have h := ite_f h c11
          refine lv_iinc (v := (x3_5 + (1 : Int32))) (lv' := [(3, .int (x3_5 + (1 : Int32))), (0, .ref (ad b)), (1, .ref (ad y1)), (2, .int x2)]) hx hb dX1_read_34 hl (k := 3) rfl rfl (by decide) rfl (fun ls hl => ?_)
          refine lv_goto (tgt := 17) hx hb dX1_read_37 (by decide) ?_
          exact ihn5 (x3_5 + (1 : Int32)) q10.2 _ _ _ h hG hS (lv_sub hl [1, 2, 3, 0] rfl)
        · have h := ite_t h c11
          refine lv_iload_n hx hb dX1_read_32 rfl (lv_at hl 3 rfl) ?_
          have h := Option.some.inj h
          subst h
          subst hQ
          exact g_iret hx hb hr hlocks cZm hK hZ hG hS rfl dX1_read_33
  refine keyK4 _ (fun I7 H locs ls h hG hS hl => ?_) bigF (0 : Int32) I3 _ _ _ h hG hS (lv_sub hl [1, 2, 3, 0] rfl)
  clear keyK4
  refine lv_aload_n hx hb dX1_read_40 rfl (lv_at hl 0 rfl) ?_
  refine g_get hx hb l1 hown hK hG (k := b) hB.1.1 (cE_1 hB.1 _ _) vwCl_1 7 (by decide) k3 (fun _ h9 => h9) rfl dX1_read_41 ?_
  refine lv_iconst (v := (2 : Int32)) hx hb dX1_read_44 (by decide) ?_
  refine lv_icmp_ne (tgt := 56) hx hb dX1_read_45 (by decide) (fun c12 => ?_) (fun c12 => ?_)
  · have h := ite_f h c12
    refine lv_iload_n hx hb dX1_read_56 rfl (lv_at hl 1 rfl) ?_
    have h := Option.some.inj h
    subst h
    subst hQ
    exact g_iret hx hb hr hlocks cZm hK hZ hG hS rfl dX1_read_57
  · have h := ite_t h c12
    refine lv_aload_n hx hb dX1_read_48 rfl (lv_at hl 0 rfl) ?_
    refine g_get hx hb l1 hown hK hG (k := b) hB.1.1 (cE_1 hB.1 _ _) vwCl_1 2 (by decide) k2 (fun _ h9 => h9) rfl dX1_read_49 ?_
    refine lv_iconst (v := (2 : Int32)) hx hb dX1_read_52 (by decide) ?_
    refine lv_icmp_ge (tgt := 58) hx hb dX1_read_53 (by decide) (fun c13 => ?_) (fun c13 => ?_)
    · have h := ite_t h c13
      refine lv_aload_n hx hb dX1_read_58 rfl (lv_at hl 0 rfl) ?_
      obtain ⟨q14, eq14, h⟩ := obind h
      refine g_endv (va_runV (As := []) (rest := []) ⟨hx, hb, hml, hown, hts⟩ (k_X1_weighSets l D cy ad P Dr tI hX (b := b) hB I7 L q14 eq14) (cwV 0 hts gX1_read_X1_weighSets rfl rfl rfl cd_X1_weighSets ⟨Nat.le_of_ble_eq_true rfl, Nat.le_of_ble_eq_true rfl⟩) ⟨g_blind cZm, g_recv hK hG (k := b) hB.1.1 (cE_1 hB.1 _ _) vwCl_1, g_pre cZm hK hG hZ hS⟩ rfl rfl hl.1 rfl (lv_room (Nat.le_of_ble_eq_true rfl)) dX1_read_59 ⟨Nat.le_refl _, Nat.le_refl _⟩) hS (fun H locs hG hS => ?_)
      refine lv_bipush (v := (-9 : Int32)) hx hb dX1_read_62 (by decide) ?_
      have h := Option.some.inj h
      subst h
      subst hQ
      exact g_iret hx hb hr hlocks cZm hK hZ hG hS rfl dX1_read_64
    · have h := ite_f h c13
      refine lv_iload_n hx hb dX1_read_56 rfl (lv_at hl 1 rfl) ?_
      have h := Option.some.inj h
      subst h
      subst hQ
      exact g_iret hx hb hr hlocks cZm hK hZ hG hS rfl dX1_read_57
def X1_areTwins (b : Nat) (I : xMem) (x1 : Int32) (x2 : Int32) : Option (Int32) := (rdI I (b + 3) 6 x1).bind fun v1 => if v1 = (1 : Int32) then ((rdI I (b + 3) 6 x2).bind fun v3 => if v3 = (1 : Int32) then (some (nz (1 : Int32))) else (some (nz (0 : Int32)))) else (some (nz (0 : Int32)))
abbrev rm_X1_areTwins : Room := { frames := 0, cells := 0, slots := 0, locals := 0 }
theorem cd_X1_areTwins : yX1_areTwins.cls = RX1 ∧ yX1_areTwins.cls ≠ "java/lang/invoke/MethodHandle" ∧ yX1_areTwins.cls ≠ "java/lang/invoke/VarHandle" ∧ (parseMethodDescriptor yX1_areTwins.desc).map (fun d => d.parameters.length) = some 2 := by decide +kernel
set_option maxHeartbeats 4000000 in
set_option maxRecDepth 100000 in
theorem k_X1_areTwins (l : Launch) (D : va_G) (cy : Nat → ClassId) (ad : Nat → Nat) (P Dr : Nat) (tI : xTab) (hX : cOk ad P Dr) {b : Nat} (hB : cPlan b) (I : xMem) (L : xLon) (x1 : Int32) (x2 : Int32) (r : Int32) (h : X1_areTwins b I x1 x2 = some r) : Met l yX1_areTwins wsX1_areTwins rm_X1_areTwins (va_Pc [.ref (ad b), .int x1, .int x2] (cW D cy ad P Dr tI I L)) (cPi D cy ad P Dr tI I L r) 0 0 (gA 64 ad) := by
  refine g_met (own := RX1) (cc := cX1_areTwins) (maxL := 3) (ret := (some .boolean)) (by decide) rfl (Nat.le_of_ble_eq_true rfl) rfl ?_
  intro p e s m args below meth c ls hx hb hml hr hlocks hown hts hG hK hZ hl
  generalize hQ : MQ below _ args s 0 0 _ = Q
  have hl : lv_has ls 3 [(0, .ref (ad b)), (1, .int x1), (2, .int x2)] := hl
  have hS : va_S (gA 64 ad) s.heap s.heap [] := va_S.rf
  obtain ⟨hi, hP, hDr⟩ := id hX
  have l1 : ∀ w ∈ wsX10, w.before args s = true := fun w h => hts w (List.mem_cons_of_mem _ (List.mem_append_right _ h))
  have k1 := hts (.fieldLink RX1 18 "PairStairs$Plan" "kind" "[I") (by decide +kernel)
  unfold X1_areTwins at h
  refine lv_aload_n hx hb dX1_areTwins_0 rfl (lv_at hl 0 rfl) ?_
  refine g_get hx hb l1 hown hK hG (k := b) hB.1.1 (cE_1 hB.1 _ _) vwCl_1 5 (by decide) k1 (fun _ h9 => h9) rfl dX1_areTwins_1 ?_
  refine lv_iload_n hx hb dX1_areTwins_4 rfl (lv_at hl 1 rfl) ?_
  refine g_ald hx hb hK hG (k := (b + 3)) (n := 6) hB.2.2.2.1.1.1 (cIA_e hB.2.2.2.1 _ _) 0 rfl h dX1_areTwins_5 (fun v1 h => ?_)
  refine lv_iconst (v := (1 : Int32)) hx hb dX1_areTwins_6 (by decide) ?_
  refine lv_icmp_ne (tgt := 24) hx hb dX1_areTwins_7 (by decide) (fun c2 => ?_) (fun c2 => ?_)
  · have h := ite_f h c2
    refine lv_iconst (v := (0 : Int32)) hx hb dX1_areTwins_24 (by decide) ?_
    have h := Option.some.inj h
    subst h
    subst hQ
    exact g_zret hx hb hr hlocks cZm hK hZ hG hS rfl dX1_areTwins_25
  · have h := ite_t h c2
    refine lv_aload_n hx hb dX1_areTwins_10 rfl (lv_at hl 0 rfl) ?_
    refine g_get hx hb l1 hown hK hG (k := b) hB.1.1 (cE_1 hB.1 _ _) vwCl_1 5 (by decide) k1 (fun _ h9 => h9) rfl dX1_areTwins_11 ?_
    refine lv_iload_n hx hb dX1_areTwins_14 rfl (lv_at hl 2 rfl) ?_
    refine g_ald hx hb hK hG (k := (b + 3)) (n := 6) hB.2.2.2.1.1.1 (cIA_e hB.2.2.2.1 _ _) 0 rfl h dX1_areTwins_15 (fun v3 h => ?_)
    refine lv_iconst (v := (1 : Int32)) hx hb dX1_areTwins_16 (by decide) ?_
    refine lv_icmp_ne (tgt := 24) hx hb dX1_areTwins_17 (by decide) (fun c4 => ?_) (fun c4 => ?_)
    · have h := ite_f h c4
      refine lv_iconst (v := (0 : Int32)) hx hb dX1_areTwins_24 (by decide) ?_
      have h := Option.some.inj h
      subst h
      subst hQ
      exact g_zret hx hb hr hlocks cZm hK hZ hG hS rfl dX1_areTwins_25
    · have h := ite_t h c4
      refine lv_iconst (v := (1 : Int32)) hx hb dX1_areTwins_20 (by decide) ?_
      refine lv_goto (tgt := 25) hx hb dX1_areTwins_21 (by decide) ?_
      have h := Option.some.inj h
      subst h
      subst hQ
      exact g_zret hx hb hr hlocks cZm hK hZ hG hS rfl dX1_areTwins_25
def X4_sunk (x1 : Int32) (x2 : Int32) : Int32 := if x2 = (0 : Int32) then ((if (0 : Int32) ≤ x1 then x1 else 0 - x1)) else (((if (0 : Int32) ≤ x1 then x1 else 0 - x1) / (2 : Int32)))
abbrev rm_X4_sunk : Room := { frames := 1, cells := 0, slots := 0, locals := 21 }
theorem cd_X4_sunk : yX4_sunk.cls = RX4 ∧ yX4_sunk.cls ≠ "java/lang/invoke/MethodHandle" ∧ yX4_sunk.cls ≠ "java/lang/invoke/VarHandle" ∧ (parseMethodDescriptor yX4_sunk.desc).map (fun d => d.parameters.length) = some 2 := by decide +kernel
set_option maxHeartbeats 4000000 in
set_option maxRecDepth 100000 in
theorem k_X4_sunk (l : Launch) (D : va_G) (cy : Nat → ClassId) (ad : Nat → Nat) (P Dr : Nat) (tI : xTab) (hX : cOk ad P Dr) (I : xMem) (L : xLon) (x1 : Int32) (x2 : Int32) (r : Int32) (h : X4_sunk x1 x2 = r) : Met l yX4_sunk wsX4_sunk rm_X4_sunk (va_Pc [.int x1, .int x2] (cW D cy ad P Dr tI I L)) (cPi D cy ad P Dr tI I L r) 0 0 (gA 64 ad) := by
  refine g_met (own := RX4) (cc := cX4_sunk) (maxL := 3) (ret := (some .int)) (by decide) rfl (Nat.le_of_ble_eq_true rfl) rfl ?_
  intro p e s m args below meth c ls hx hb hml hr hlocks hown hts hG hK hZ hl
  generalize hQ : MQ below _ args s 0 0 _ = Q
  have hl : lv_has ls 3 [(0, .int x1), (1, .int x2)] := hl
  have hS : va_S (gA 64 ad) s.heap s.heap [] := va_S.rf
  obtain ⟨hi, hP, hDr⟩ := id hX
  have k1 := hts (.methodLink RX4 346 Lib.Math.abs.name) (by decide +kernel)
  have k2 := hts (.static Lib.Math.abs.name) (by decide +kernel)
  have k3 := hts (.initialized "java/lang/Math") (by decide +kernel)
  have k4 := hts (.code Lib.Math.abs.name Lib.Math.abs.code 1 (some .int)) (by decide +kernel)
  unfold X4_sunk at h
  refine lv_iload_n hx hb dX4_sunk_0 rfl (lv_at hl 0 rfl) ?_
  refine va_mabs hx hb (hml.trans hl.1.symm) hown k1 k2 k3 k4 (Nat.le_of_ble_eq_true rfl) (Nat.le_of_ble_eq_true rfl) (Nat.le_refl _) (Nat.le_refl _) dX4_sunk_1 ?_
  refine lv_istore_n (lv' := [(2, .int (if (0 : Int32) ≤ x1 then x1 else 0 - x1)), (0, .int x1), (1, .int x2)]) hx hb dX4_sunk_4 rfl hl (by decide) rfl (fun ls hl => ?_)
  refine lv_iload_n hx hb dX4_sunk_5 rfl (lv_at hl 2 rfl) ?_
  refine lv_if_eq (tgt := 15) hx hb dX4_sunk_6 (by decide) (fun c1 => ?_) (fun c1 => ?_)
  · have h := ite_t h c1
    refine lv_iload_n hx hb dX4_sunk_15 rfl (lv_at hl 0 rfl) ?_
    subst h
    subst hQ
    exact g_iret hx hb hr hlocks cZm hK hZ hG hS rfl dX4_sunk_16
  · have h := ite_f h c1
    refine lv_iload_n hx hb dX4_sunk_9 rfl (lv_at hl 0 rfl) ?_
    refine lv_iconst (v := (2 : Int32)) hx hb dX4_sunk_10 (by decide) ?_
    refine lv_idiv hx hb dX4_sunk_11 (by decide) ?_
    refine lv_goto (tgt := 16) hx hb dX4_sunk_12 (by decide) ?_
    subst h
    subst hQ
    exact g_iret hx hb hr hlocks cZm hK hZ hG hS rfl dX4_sunk_16
def X1_least_L2 (b : Nat) (I : xMem) (x1 : Int32) (x2 : Int32) (x3 : Int32) (x5_2 : Int32) (K4 : Int32 → Option (Int32)) : Nat → Int32 → Int32 → Option (Int32)
  | 0, _, _ => none
  | n5 + 1, x4_5, x6_5 => if (X1_allStones b I) < x6_5 then (K4 x4_5) else (if (x5_2 &&& (x3 ^^^ (-1 : Int32))) = (0 : Int32) then (if (x6_5 &&& (x5_2 ||| (x3 ^^^ (-1 : Int32)))) = (0 : Int32) then ((rdI I (b + 2) 16 x5_2).bind fun v9 => (rdI I (b + 2) 16 x6_5).bind fun v10 => X1_least_L2 b I x1 x2 x3 x5_2 K4 n5 (if ((((256 : Int32) * (X4_sunk ((x1 + v9) - v10) x2)) + ((16 : Int32) * x5_2)) + x6_5) < x4_5 then ((((256 : Int32) * (X4_sunk ((x1 + v9) - v10) x2)) + ((16 : Int32) * x5_2)) + x6_5) else x4_5) (x6_5 + (1 : Int32))) else (X1_least_L2 b I x1 x2 x3 x5_2 K4 n5 x4_5 (x6_5 + (1 : Int32)))) else (K4 x4_5))
def X1_least_L1 (b : Nat) (I : xMem) (x1 : Int32) (x2 : Int32) (x3 : Int32) (K1 : Int32 → Option (Int32)) : Nat → Int32 → Int32 → Option (Int32)
  | 0, _, _ => none
  | n2 + 1, x4_2, x5_2 => if (X1_allStones b I) < x5_2 then (K1 x4_2) else (X1_least_L2 b I x1 x2 x3 x5_2 (fun (z4_5 : Int32) => X1_least_L1 b I x1 x2 x3 K1 n2 z4_5 (x5_2 + (1 : Int32))) bigF x4_2 (0 : Int32))
def X1_least (b : Nat) (I : xMem) (x1 : Int32) (x2 : Int32) (x3 : Int32) : Option (Int32) := X1_least_L1 b I x1 x2 x3 (fun (z4_2 : Int32) => some z4_2) bigF (1073741824 : Int32) (0 : Int32)
abbrev rm_X1_least : Room := { frames := 2, cells := 0, slots := 0, locals := 43 }
theorem cd_X1_least : yX1_least.cls = RX1 ∧ yX1_least.cls ≠ "java/lang/invoke/MethodHandle" ∧ yX1_least.cls ≠ "java/lang/invoke/VarHandle" ∧ (parseMethodDescriptor yX1_least.desc).map (fun d => d.parameters.length) = some 3 := by decide +kernel
set_option maxHeartbeats 4000000 in
set_option maxRecDepth 100000 in
theorem k_X1_least (l : Launch) (D : va_G) (cy : Nat → ClassId) (ad : Nat → Nat) (P Dr : Nat) (tI : xTab) (hX : cOk ad P Dr) {b : Nat} (hB : cPlan b) (I : xMem) (L : xLon) (x1 : Int32) (x2 : Int32) (x3 : Int32) (r : Int32) (h : X1_least b I x1 x2 x3 = some r) : Met l yX1_least wsX1_least rm_X1_least (va_Pc [.ref (ad b), .int x1, .int x2, .int x3] (cW D cy ad P Dr tI I L)) (cPi D cy ad P Dr tI I L r) 0 0 (gA 64 ad) := by
  refine g_met (own := RX1) (cc := cX1_least) (maxL := 8) (ret := (some .int)) (by decide) rfl (Nat.le_of_ble_eq_true rfl) rfl ?_
  intro p e s m args below meth c ls hx hb hml hr hlocks hown hts hG hK hZ hl
  generalize hQ : MQ below _ args s 0 0 _ = Q
  have hl : lv_has ls 8 [(0, .ref (ad b)), (1, .int x1), (2, .int x2), (3, .int x3)] := hl
  have hS : va_S (gA 64 ad) s.heap s.heap [] := va_S.rf
  obtain ⟨hi, hP, hDr⟩ := id hX
  have l1 : ∀ w ∈ wsX10, w.before args s = true := fun w h => hts w (List.mem_cons_of_mem _ (List.mem_append_right _ h))
  have k1 := hts (.constant RX1 88 (1073741824)) (by decide +kernel)
  have k2 := hts (.fieldLink RX1 15 "PairStairs$Plan" "setWeight" "[I") (by decide +kernel)
  have k3 := hts (.initialized RX4) (by decide +kernel)
  have k4 := hts (.static yX4_sunk) (by decide +kernel)
  have k5 := hts (.methodLink RX1 89 Lib.Math.min.name) (by decide +kernel)
  have k6 := hts (.static Lib.Math.min.name) (by decide +kernel)
  have k7 := hts (.initialized "java/lang/Math") (by decide +kernel)
  have k8 := hts (.code Lib.Math.min.name Lib.Math.min.code 2 (some .int)) (by decide +kernel)
  unfold X1_least at h
  refine lv_ldc (v := (1073741824 : Int32)) hx hb hown k1 dX1_least_0 ?_
  refine lv_istore (lv' := [(4, .int (1073741824 : Int32)), (0, .ref (ad b)), (1, .int x1), (2, .int x2), (3, .int x3)]) hx hb dX1_least_2 hl (by decide) rfl (fun ls hl => ?_)
  refine lv_iconst (v := (0 : Int32)) hx hb dX1_least_4 (by decide) ?_
  refine lv_istore (lv' := [(5, .int (0 : Int32)), (4, .int (1073741824 : Int32)), (0, .ref (ad b)), (1, .int x1), (2, .int x2), (3, .int x3)]) hx hb dX1_least_5 hl (by decide) rfl (fun ls hl => ?_)
  have keyK1 : ∀ (K1 : Int32 → Option (Int32)), (∀ (z4_2 : Int32) (H : Heap) (locs : List Loc) (ls : Array Slot), K1 z4_2 = some r → cG D cy ad P Dr I L H → va_S (gA 64 ad) s.heap H locs → lv_has ls 8 [(4, .int z4_2)] → W p l e rm_X1_least s m args below meth c H locs 0 0 Q (F0 m 106 ls [])) → ∀ (n2 : Nat) (x4_2 : Int32) (x5_2 : Int32) (H : Heap) (locs : List Loc) (ls : Array Slot), X1_least_L1 b I x1 x2 x3 K1 n2 x4_2 x5_2 = some r → cG D cy ad P Dr I L H → va_S (gA 64 ad) s.heap H locs → lv_has ls 8 [(0, .ref (ad b)), (1, .int x1), (2, .int x2), (3, .int x3), (4, .int x4_2), (5, .int x5_2)] → W p l e rm_X1_least s m args below meth c H locs 0 0 Q (F0 m 7 ls []) := by
    intro K1 hkK1 n2
    induction n2 with
    | zero =>
      intro x4_2 x5_2 H locs ls h
      exact ono h
    | succ n2 ihn2 =>
      intro x4_2 x5_2 H locs ls h hG hS hl
      rw [X1_least_L1] at h
      refine lv_iload hx hb dX1_least_7 (lv_at hl 5 rfl) ?_
      refine lv_aload_n hx hb dX1_least_9 rfl (lv_at hl 0 rfl) ?_
      refine g_endi (va_runV (As := []) (rest := [.int x5_2]) ⟨hx, hb, hml, hown, hts⟩ (k_X1_allStones l D cy ad P Dr tI hX (b := b) hB I L _ rfl) (cwV 0 hts gX1_least_X1_allStones rfl rfl rfl cd_X1_allStones ⟨Nat.le_of_ble_eq_true rfl, Nat.le_of_ble_eq_true rfl⟩) ⟨g_blind cZm, g_recv hK hG (k := b) hB.1.1 (cE_1 hB.1 _ _) vwCl_1, g_pre cZm hK hG hZ hS⟩ rfl rfl hl.1 rfl (lv_room (Nat.le_of_ble_eq_true rfl)) dX1_least_10 ⟨Nat.le_refl _, Nat.le_refl _⟩) hS (fun H locs hG hS => ?_)
      refine lv_icmp_gt (tgt := 106) hx hb dX1_least_13 (by decide) (fun c3 => ?_) (fun c3 => ?_)
      · have h := ite_t h c3
        exact hkK1 x4_2 _ _ _ h hG hS (lv_sub hl [4] rfl)
      · have h := ite_f h c3
        refine lv_iconst (v := (0 : Int32)) hx hb dX1_least_16 (by decide) ?_
        refine lv_istore (lv' := [(6, .int (0 : Int32)), (0, .ref (ad b)), (1, .int x1), (2, .int x2), (3, .int x3), (4, .int x4_2), (5, .int x5_2)]) hx hb dX1_least_17 hl (by decide) rfl (fun ls hl => ?_)
        have keyK4 : ∀ (K4 : Int32 → Option (Int32)), (∀ (z4_5 : Int32) (H : Heap) (locs : List Loc) (ls : Array Slot), K4 z4_5 = some r → cG D cy ad P Dr I L H → va_S (gA 64 ad) s.heap H locs → lv_has ls 8 [(0, .ref (ad b)), (1, .int x1), (2, .int x2), (3, .int x3), (4, .int z4_5), (5, .int x5_2)] → W p l e rm_X1_least s m args below meth c H locs 0 0 Q (F0 m 100 ls [])) → ∀ (n5 : Nat) (x4_5 : Int32) (x6_5 : Int32) (H : Heap) (locs : List Loc) (ls : Array Slot), X1_least_L2 b I x1 x2 x3 x5_2 K4 n5 x4_5 x6_5 = some r → cG D cy ad P Dr I L H → va_S (gA 64 ad) s.heap H locs → lv_has ls 8 [(0, .ref (ad b)), (1, .int x1), (2, .int x2), (3, .int x3), (4, .int x4_5), (5, .int x5_2), (6, .int x6_5)] → W p l e rm_X1_least s m args below meth c H locs 0 0 Q (F0 m 19 ls []) := by
          intro K4 hkK4 n5
          induction n5 with
          | zero =>
            intro x4_5 x6_5 H locs ls h
            exact ono h
          | succ n5 ihn5 =>
            intro x4_5 x6_5 H locs ls h hG hS hl
            rw [X1_least_L2] at h
            refine lv_iload hx hb dX1_least_19 (lv_at hl 6 rfl) ?_
            refine lv_aload_n hx hb dX1_least_21 rfl (lv_at hl 0 rfl) ?_
            refine g_endi (va_runV (As := []) (rest := [.int x6_5]) ⟨hx, hb, hml, hown, hts⟩ (k_X1_allStones l D cy ad P Dr tI hX (b := b) hB I L _ rfl) (cwV 0 hts gX1_least_X1_allStones rfl rfl rfl cd_X1_allStones ⟨Nat.le_of_ble_eq_true rfl, Nat.le_of_ble_eq_true rfl⟩) ⟨g_blind cZm, g_recv hK hG (k := b) hB.1.1 (cE_1 hB.1 _ _) vwCl_1, g_pre cZm hK hG hZ hS⟩ rfl rfl hl.1 rfl (lv_room (Nat.le_of_ble_eq_true rfl)) dX1_least_22 ⟨Nat.le_refl _, Nat.le_refl _⟩) hS (fun H locs hG hS => ?_)
            refine lv_icmp_gt (tgt := 100) hx hb dX1_least_25 (by decide) (fun c6 => ?_) (fun c6 => ?_)
            · have h := ite_t h c6
              exact hkK4 x4_5 _ _ _ h hG hS (lv_sub hl [0, 1, 2, 3, 4, 5] rfl)
            · have h := ite_f h c6
              refine lv_iload hx hb dX1_least_28 (lv_at hl 5 rfl) ?_
              refine lv_iload_n hx hb dX1_least_30 rfl (lv_at hl 3 rfl) ?_
              refine lv_iconst (v := (-1 : Int32)) hx hb dX1_least_31 (by decide) ?_
              refine lv_ixor hx hb dX1_least_32 ?_
              refine lv_iand hx hb dX1_least_33 ?_
              refine lv_if_ne (tgt := 100) hx hb dX1_least_34 (by decide) (fun c7 => ?_) (fun c7 => ?_)
              · have h := ite_f h c7
                exact hkK4 x4_5 _ _ _ h hG hS (lv_sub hl [0, 1, 2, 3, 4, 5] rfl)
              · have h := ite_t h c7
                refine lv_iload hx hb dX1_least_37 (lv_at hl 6 rfl) ?_
                refine lv_iload hx hb dX1_least_39 (lv_at hl 5 rfl) ?_
                refine lv_iload_n hx hb dX1_least_41 rfl (lv_at hl 3 rfl) ?_
                refine lv_iconst (v := (-1 : Int32)) hx hb dX1_least_42 (by decide) ?_
                refine lv_ixor hx hb dX1_least_43 ?_
                refine lv_ior hx hb dX1_least_44 ?_
                refine lv_iand hx hb dX1_least_45 ?_
                refine lv_if_ne (tgt := 94) hx hb dX1_least_46 (by decide) (fun c8 => ?_) (fun c8 => ?_)
                · have h := ite_f h c8
                  refine lv_iinc (v := (x6_5 + (1 : Int32))) (lv' := [(6, .int (x6_5 + (1 : Int32))), (0, .ref (ad b)), (1, .int x1), (2, .int x2), (3, .int x3), (4, .int x4_5), (5, .int x5_2)]) hx hb dX1_least_94 hl (k := 6) rfl rfl (by decide) rfl (fun ls hl => ?_)
                  refine lv_goto (tgt := 19) hx hb dX1_least_97 (by decide) ?_
                  exact ihn5 x4_5 (x6_5 + (1 : Int32)) _ _ _ h hG hS (lv_sub hl [1, 2, 3, 4, 5, 6, 0] rfl)
                · have h := ite_t h c8
                  refine lv_iload_n hx hb dX1_least_49 rfl (lv_at hl 1 rfl) ?_
                  refine lv_aload_n hx hb dX1_least_50 rfl (lv_at hl 0 rfl) ?_
                  refine g_get hx hb l1 hown hK hG (k := b) hB.1.1 (cE_1 hB.1 _ _) vwCl_1 4 (by decide) k2 (fun _ h9 => h9) rfl dX1_least_51 ?_
                  refine lv_iload hx hb dX1_least_54 (lv_at hl 5 rfl) ?_
                  refine g_ald hx hb hK hG (k := (b + 2)) (n := 16) hB.2.2.1.1.1 (cIA_e hB.2.2.1 _ _) 0 rfl h dX1_least_56 (fun v9 h => ?_)
                  refine lv_iadd hx hb dX1_least_57 ?_
                  refine lv_aload_n hx hb dX1_least_58 rfl (lv_at hl 0 rfl) ?_
                  refine g_get hx hb l1 hown hK hG (k := b) hB.1.1 (cE_1 hB.1 _ _) vwCl_1 4 (by decide) k2 (fun _ h9 => h9) rfl dX1_least_59 ?_
                  refine lv_iload hx hb dX1_least_62 (lv_at hl 6 rfl) ?_
                  refine g_ald hx hb hK hG (k := (b + 2)) (n := 16) hB.2.2.1.1.1 (cIA_e hB.2.2.1 _ _) 0 rfl h dX1_least_64 (fun v10 h => ?_)
                  refine lv_isub hx hb dX1_least_65 ?_
                  refine lv_iload_n hx hb dX1_least_66 rfl (lv_at hl 2 rfl) ?_
                  refine g_endi (va_runSN (As := [.int ((x1 + v9) - v10), .int x2]) (rest := []) ⟨hx, hb, hml, hown, hts⟩ (k_X4_sunk l D cy ad P Dr tI hX I L ((x1 + v9) - v10) x2 _ rfl) ⟨va_cnB 2 hts gX1_least_X4_sunk_n84 rfl rfl rfl hZ.2.1 k3 cd_X4_sunk.2 ⟨Nat.le_of_ble_eq_true rfl, Nat.le_of_ble_eq_true rfl⟩, k4, trivial⟩ ⟨g_blind cZm, g_pre cZm hK hG hZ hS⟩ rfl rfl hl.1 rfl (lv_room (Nat.le_of_ble_eq_true rfl)) dX1_least_67 ⟨Nat.le_refl _, Nat.le_refl _⟩) hS (fun H locs hG hS => ?_)
                  refine lv_istore (lv' := [(7, .int (X4_sunk ((x1 + v9) - v10) x2)), (0, .ref (ad b)), (1, .int x1), (2, .int x2), (3, .int x3), (4, .int x4_5), (5, .int x5_2), (6, .int x6_5)]) hx hb dX1_least_70 hl (by decide) rfl (fun ls hl => ?_)
                  refine lv_iload hx hb dX1_least_72 (lv_at hl 5 rfl) ?_
                  refine lv_sipush (v := (256 : Int32)) hx hb dX1_least_74 (by decide) ?_
                  refine lv_iload hx hb dX1_least_77 (lv_at hl 0 rfl) ?_
                  refine lv_imul hx hb dX1_least_79 ?_
                  refine lv_bipush (v := (16 : Int32)) hx hb dX1_least_80 (by decide) ?_
                  refine lv_iload hx hb dX1_least_82 (lv_at hl 6 rfl) ?_
                  refine lv_imul hx hb dX1_least_84 ?_
                  refine lv_iadd hx hb dX1_least_85 ?_
                  refine lv_iload hx hb dX1_least_86 (lv_at hl 7 rfl) ?_
                  refine lv_iadd hx hb dX1_least_88 ?_
                  refine va_mmin hx hb (hml.trans hl.1.symm) hown k5 k6 k7 k8 (Nat.le_of_ble_eq_true rfl) (Nat.le_of_ble_eq_true rfl) (Nat.le_refl _) (Nat.le_refl _) dX1_least_89 ?_
                  refine lv_istore (lv' := [(4, .int (if ((((256 : Int32) * (X4_sunk ((x1 + v9) - v10) x2)) + ((16 : Int32) * x5_2)) + x6_5) < x4_5 then ((((256 : Int32) * (X4_sunk ((x1 + v9) - v10) x2)) + ((16 : Int32) * x5_2)) + x6_5) else x4_5)), (7, .int (X4_sunk ((x1 + v9) - v10) x2)), (0, .ref (ad b)), (1, .int x1), (2, .int x2), (3, .int x3), (5, .int x5_2), (6, .int x6_5)]) hx hb dX1_least_92 hl (by decide) rfl (fun ls hl => ?_)
                  refine lv_iinc (v := (x6_5 + (1 : Int32))) (lv' := [(6, .int (x6_5 + (1 : Int32))), (4, .int (if ((((256 : Int32) * (X4_sunk ((x1 + v9) - v10) x2)) + ((16 : Int32) * x5_2)) + x6_5) < x4_5 then ((((256 : Int32) * (X4_sunk ((x1 + v9) - v10) x2)) + ((16 : Int32) * x5_2)) + x6_5) else x4_5)), (7, .int (X4_sunk ((x1 + v9) - v10) x2)), (0, .ref (ad b)), (1, .int x1), (2, .int x2), (3, .int x3), (5, .int x5_2)]) hx hb dX1_least_94 hl (k := 7) rfl rfl (by decide) rfl (fun ls hl => ?_)
                  refine lv_goto (tgt := 19) hx hb dX1_least_97 (by decide) ?_
                  exact ihn5 (if ((((256 : Int32) * (X4_sunk ((x1 + v9) - v10) x2)) + ((16 : Int32) * x5_2)) + x6_5) < x4_5 then ((((256 : Int32) * (X4_sunk ((x1 + v9) - v10) x2)) + ((16 : Int32) * x5_2)) + x6_5) else x4_5) (x6_5 + (1 : Int32)) _ _ _ h hG hS (lv_sub hl [3, 4, 5, 6, 1, 7, 0] rfl)
        refine keyK4 _ (fun z4_5 H locs ls h hG hS hl => ?_) bigF x4_2 (0 : Int32) _ _ _ h hG hS (lv_sub hl [1, 2, 3, 4, 5, 6, 0] rfl)
        clear keyK4
        refine lv_iinc (v := (x5_2 + (1 : Int32))) (lv' := [(5, .int (x5_2 + (1 : Int32))), (0, .ref (ad b)), (1, .int x1), (2, .int x2), (3, .int x3), (4, .int z4_5)]) hx hb dX1_least_100 hl (k := 5) rfl rfl (by decide) rfl (fun ls hl => ?_)
        refine lv_goto (tgt := 7) hx hb dX1_least_103 (by decide) ?_
        exact ihn2 z4_5 (x5_2 + (1 : Int32)) _ _ _ h hG hS (lv_sub hl [1, 2, 3, 4, 5, 0] rfl)
  refine keyK1 _ (fun z4_2 H locs ls h hG hS hl => ?_) bigF (1073741824 : Int32) (0 : Int32) _ _ _ h hG hS (lv_sub hl [2, 3, 4, 5, 1, 0] rfl)
  clear keyK1
  refine lv_iload hx hb dX1_least_106 (lv_at hl 0 rfl) ?_
  have h := Option.some.inj h
  subst h
  subst hQ
  exact g_iret hx hb hr hlocks cZm hK hZ hG hS rfl dX1_least_108
def X4_counted (x1 : Int32) (x2 : Int32) (x3 : Int32) : Int32 := if x1 = (2 : Int32) then ((x2 / (2 : Int32))) else (if x1 = (3 : Int32) then ((x2 + (5 : Int32))) else (if x1 = (4 : Int32) then (((x2 + (5 : Int32)) + x3)) else (if x1 = (5 : Int32) then (((x2 / (2 : Int32)) / (2 : Int32))) else (x2))))
abbrev rm_X4_counted : Room := { frames := 0, cells := 0, slots := 0, locals := 0 }
theorem cd_X4_counted : yX4_counted.cls = RX4 ∧ yX4_counted.cls ≠ "java/lang/invoke/MethodHandle" ∧ yX4_counted.cls ≠ "java/lang/invoke/VarHandle" ∧ (parseMethodDescriptor yX4_counted.desc).map (fun d => d.parameters.length) = some 3 := by decide +kernel
set_option maxHeartbeats 4000000 in
set_option maxRecDepth 100000 in
theorem k_X4_counted (l : Launch) (D : va_G) (cy : Nat → ClassId) (ad : Nat → Nat) (P Dr : Nat) (tI : xTab) (hX : cOk ad P Dr) (I : xMem) (L : xLon) (x1 : Int32) (x2 : Int32) (x3 : Int32) (r : Int32) (h : X4_counted x1 x2 x3 = r) : Met l yX4_counted wsX4_counted rm_X4_counted (va_Pc [.int x1, .int x2, .int x3] (cW D cy ad P Dr tI I L)) (cPi D cy ad P Dr tI I L r) 0 0 (gA 64 ad) := by
  refine g_met (own := RX4) (cc := cX4_counted) (maxL := 3) (ret := (some .int)) (by decide) rfl (Nat.le_of_ble_eq_true rfl) rfl ?_
  intro p e s m args below meth c ls hx hb hml hr hlocks hown hts hG hK hZ hl
  generalize hQ : MQ below _ args s 0 0 _ = Q
  have hl : lv_has ls 3 [(0, .int x1), (1, .int x2), (2, .int x3)] := hl
  have hS : va_S (gA 64 ad) s.heap s.heap [] := va_S.rf
  obtain ⟨hi, hP, hDr⟩ := id hX
  unfold X4_counted at h
  refine lv_iload_n hx hb dX4_counted_0 rfl (lv_at hl 0 rfl) ?_
  by_cases c1 : x1 = (2 : Int32)
  · have h := ite_t h c1
    refine lv_tableIn (tgt := 32) hx hb dX4_counted_1 (by rw [c1]; decide) (by rw [c1]; decide) (by rw [c1]; rfl) (by decide) ?_
    refine lv_iload_n hx hb dX4_counted_32 rfl (lv_at hl 1 rfl) ?_
    refine lv_iconst (v := (2 : Int32)) hx hb dX4_counted_33 (by decide) ?_
    refine lv_idiv hx hb dX4_counted_34 (by decide) ?_
    subst h
    subst hQ
    exact g_iret hx hb hr hlocks cZm hK hZ hG hS rfl dX4_counted_35
  · have h := ite_f h c1
    by_cases c2 : x1 = (3 : Int32)
    · have h := ite_t h c2
      refine lv_tableIn (tgt := 36) hx hb dX4_counted_1 (by rw [c2]; decide) (by rw [c2]; decide) (by rw [c2]; rfl) (by decide) ?_
      refine lv_iload_n hx hb dX4_counted_36 rfl (lv_at hl 1 rfl) ?_
      refine lv_iconst (v := (5 : Int32)) hx hb dX4_counted_37 (by decide) ?_
      refine lv_iadd hx hb dX4_counted_38 ?_
      subst h
      subst hQ
      exact g_iret hx hb hr hlocks cZm hK hZ hG hS rfl dX4_counted_39
    · have h := ite_f h c2
      by_cases c3 : x1 = (4 : Int32)
      · have h := ite_t h c3
        refine lv_tableIn (tgt := 40) hx hb dX4_counted_1 (by rw [c3]; decide) (by rw [c3]; decide) (by rw [c3]; rfl) (by decide) ?_
        refine lv_iload_n hx hb dX4_counted_40 rfl (lv_at hl 1 rfl) ?_
        refine lv_iconst (v := (5 : Int32)) hx hb dX4_counted_41 (by decide) ?_
        refine lv_iadd hx hb dX4_counted_42 ?_
        refine lv_iload_n hx hb dX4_counted_43 rfl (lv_at hl 2 rfl) ?_
        refine lv_iadd hx hb dX4_counted_44 ?_
        subst h
        subst hQ
        exact g_iret hx hb hr hlocks cZm hK hZ hG hS rfl dX4_counted_45
      · have h := ite_f h c3
        by_cases c4 : x1 = (5 : Int32)
        · have h := ite_t h c4
          refine lv_tableIn (tgt := 46) hx hb dX4_counted_1 (by rw [c4]; decide) (by rw [c4]; decide) (by rw [c4]; rfl) (by decide) ?_
          refine lv_iload_n hx hb dX4_counted_46 rfl (lv_at hl 1 rfl) ?_
          refine lv_iconst (v := (2 : Int32)) hx hb dX4_counted_47 (by decide) ?_
          refine lv_idiv hx hb dX4_counted_48 (by decide) ?_
          refine lv_iconst (v := (2 : Int32)) hx hb dX4_counted_49 (by decide) ?_
          refine lv_idiv hx hb dX4_counted_50 (by decide) ?_
          subst h
          subst hQ
          exact g_iret hx hb hr hlocks cZm hK hZ hG hS rfl dX4_counted_51
        · have h := ite_f h c4
          refine lv_tableOut (tgt := 52) hx hb dX4_counted_1 (tsw_out 2 5 (fun k h1 h2 => ?_)) (by decide) ?_
          · rcases (show k = 2 ∨ k = 3 ∨ k = 4 ∨ k = 5 by omega) with rfl | rfl | rfl | rfl
            · exact c1
            · exact c2
            · exact c3
            · exact c4
          · refine lv_iload_n hx hb dX4_counted_52 rfl (lv_at hl 1 rfl) ?_
            subst h
            subst hQ
            exact g_iret hx hb hr hlocks cZm hK hZ hG hS rfl dX4_counted_53
def X1_steps (b : Nat) (I : xMem) (x1 : Int32) (x2 : Int32) (x3 : Int32) (x4 : Int32) (x5 : Int32) : Option (Int32) := (rdI I (b + 3) 6 x1).bind fun v1 => (rdI I (b + 4) 6 x1).bind fun v2 => (rdI I (b + 2) 16 x3).bind fun v3 => (rdI I (b + 3) 6 x2).bind fun v4 => (rdI I (b + 4) 6 x2).bind fun v5 => (rdI I (b + 2) 16 x4).bind fun v6 => (X1_areTwins b I x1 x2).bind fun v7 => some (X4_sunk (((X4_counted v1 v2 x5) + v3) - ((X4_counted v4 v5 x5) + v6)) v7)
abbrev rm_X1_steps : Room := { frames := 2, cells := 0, slots := 0, locals := 43 }
theorem cd_X1_steps : yX1_steps.cls = RX1 ∧ yX1_steps.cls ≠ "java/lang/invoke/MethodHandle" ∧ yX1_steps.cls ≠ "java/lang/invoke/VarHandle" ∧ (parseMethodDescriptor yX1_steps.desc).map (fun d => d.parameters.length) = some 5 := by decide +kernel
set_option maxHeartbeats 4000000 in
set_option maxRecDepth 100000 in
theorem k_X1_steps (l : Launch) (D : va_G) (cy : Nat → ClassId) (ad : Nat → Nat) (P Dr : Nat) (tI : xTab) (hX : cOk ad P Dr) {b : Nat} (hB : cPlan b) (I : xMem) (L : xLon) (x1 : Int32) (x2 : Int32) (x3 : Int32) (x4 : Int32) (x5 : Int32) (r : Int32) (h : X1_steps b I x1 x2 x3 x4 x5 = some r) : Met l yX1_steps wsX1_steps rm_X1_steps (va_Pc [.ref (ad b), .int x1, .int x2, .int x3, .int x4, .int x5] (cW D cy ad P Dr tI I L)) (cPi D cy ad P Dr tI I L r) 0 0 (gA 64 ad) := by
  refine g_met (own := RX1) (cc := cX1_steps) (maxL := 8) (ret := (some .int)) (by decide) rfl (Nat.le_of_ble_eq_true rfl) rfl ?_
  intro p e s m args below meth c ls hx hb hml hr hlocks hown hts hG hK hZ hl
  generalize hQ : MQ below _ args s 0 0 _ = Q
  have hl : lv_has ls 8 [(0, .ref (ad b)), (1, .int x1), (2, .int x2), (3, .int x3), (4, .int x4), (5, .int x5)] := hl
  have hS : va_S (gA 64 ad) s.heap s.heap [] := va_S.rf
  obtain ⟨hi, hP, hDr⟩ := id hX
  have l1 : ∀ w ∈ wsX10, w.before args s = true := fun w h => hts w (List.mem_cons_of_mem _ (List.mem_append_right _ h))
  have k1 := hts (.fieldLink RX1 18 "PairStairs$Plan" "kind" "[I") (by decide +kernel)
  have k2 := hts (.fieldLink RX1 21 "PairStairs$Plan" "weight" "[I") (by decide +kernel)
  have k3 := hts (.initialized RX4) (by decide +kernel)
  have k4 := hts (.static yX4_counted) (by decide +kernel)
  have k5 := hts (.fieldLink RX1 15 "PairStairs$Plan" "setWeight" "[I") (by decide +kernel)
  have k6 := hts (.static yX4_sunk) (by decide +kernel)
  unfold X1_steps at h
  refine lv_aload_n hx hb dX1_steps_0 rfl (lv_at hl 0 rfl) ?_
  refine g_get hx hb l1 hown hK hG (k := b) hB.1.1 (cE_1 hB.1 _ _) vwCl_1 5 (by decide) k1 (fun _ h9 => h9) rfl dX1_steps_1 ?_
  refine lv_iload_n hx hb dX1_steps_4 rfl (lv_at hl 1 rfl) ?_
  refine g_ald hx hb hK hG (k := (b + 3)) (n := 6) hB.2.2.2.1.1.1 (cIA_e hB.2.2.2.1 _ _) 0 rfl h dX1_steps_5 (fun v1 h => ?_)
  refine lv_aload_n hx hb dX1_steps_6 rfl (lv_at hl 0 rfl) ?_
  refine g_get hx hb l1 hown hK hG (k := b) hB.1.1 (cE_1 hB.1 _ _) vwCl_1 6 (by decide) k2 (fun _ h9 => h9) rfl dX1_steps_7 ?_
  refine lv_iload_n hx hb dX1_steps_10 rfl (lv_at hl 1 rfl) ?_
  refine g_ald hx hb hK hG (k := (b + 4)) (n := 6) hB.2.2.2.2.1.1 (cIA_e hB.2.2.2.2 _ _) 0 rfl h dX1_steps_11 (fun v2 h => ?_)
  refine lv_iload hx hb dX1_steps_12 (lv_at hl 5 rfl) ?_
  refine g_endi (va_runSN (As := [.int v1, .int v2, .int x5]) (rest := []) ⟨hx, hb, hml, hown, hts⟩ (k_X4_counted l D cy ad P Dr tI hX I L v1 v2 x5 _ rfl) ⟨va_cnB 3 hts gX1_steps_X4_counted_n76 rfl rfl rfl hZ.1 k3 cd_X4_counted.2 ⟨Nat.le_of_ble_eq_true rfl, Nat.le_of_ble_eq_true rfl⟩, k4, trivial⟩ ⟨g_blind cZm, g_pre cZm hK hG hZ hS⟩ rfl rfl hl.1 rfl (lv_room (Nat.le_of_ble_eq_true rfl)) dX1_steps_14 ⟨Nat.le_refl _, Nat.le_refl _⟩) hS (fun H locs hG hS => ?_)
  refine lv_aload_n hx hb dX1_steps_17 rfl (lv_at hl 0 rfl) ?_
  refine g_get hx hb l1 hown hK hG (k := b) hB.1.1 (cE_1 hB.1 _ _) vwCl_1 4 (by decide) k5 (fun _ h9 => h9) rfl dX1_steps_18 ?_
  refine lv_iload_n hx hb dX1_steps_21 rfl (lv_at hl 3 rfl) ?_
  refine g_ald hx hb hK hG (k := (b + 2)) (n := 16) hB.2.2.1.1.1 (cIA_e hB.2.2.1 _ _) 0 rfl h dX1_steps_22 (fun v3 h => ?_)
  refine lv_iadd hx hb dX1_steps_23 ?_
  refine lv_istore (lv' := [(6, .int ((X4_counted v1 v2 x5) + v3)), (0, .ref (ad b)), (1, .int x1), (2, .int x2), (3, .int x3), (4, .int x4), (5, .int x5)]) hx hb dX1_steps_24 hl (by decide) rfl (fun ls hl => ?_)
  refine lv_aload_n hx hb dX1_steps_26 rfl (lv_at hl 1 rfl) ?_
  refine g_get hx hb l1 hown hK hG (k := b) hB.1.1 (cE_1 hB.1 _ _) vwCl_1 5 (by decide) k1 (fun _ h9 => h9) rfl dX1_steps_27 ?_
  refine lv_iload_n hx hb dX1_steps_30 rfl (lv_at hl 3 rfl) ?_
  refine g_ald hx hb hK hG (k := (b + 3)) (n := 6) hB.2.2.2.1.1.1 (cIA_e hB.2.2.2.1 _ _) 0 rfl h dX1_steps_31 (fun v4 h => ?_)
  refine lv_aload_n hx hb dX1_steps_32 rfl (lv_at hl 1 rfl) ?_
  refine g_get hx hb l1 hown hK hG (k := b) hB.1.1 (cE_1 hB.1 _ _) vwCl_1 6 (by decide) k2 (fun _ h9 => h9) rfl dX1_steps_33 ?_
  refine lv_iload_n hx hb dX1_steps_36 rfl (lv_at hl 3 rfl) ?_
  refine g_ald hx hb hK hG (k := (b + 4)) (n := 6) hB.2.2.2.2.1.1 (cIA_e hB.2.2.2.2 _ _) 0 rfl h dX1_steps_37 (fun v5 h => ?_)
  refine lv_iload hx hb dX1_steps_38 (lv_at hl 6 rfl) ?_
  refine g_endi (va_runSN (As := [.int v4, .int v5, .int x5]) (rest := []) ⟨hx, hb, hml, hown, hts⟩ (k_X4_counted l D cy ad P Dr tI hX I L v4 v5 x5 _ rfl) ⟨va_cnB 3 hts gX1_steps_X4_counted_n76 rfl rfl rfl hZ.1 k3 cd_X4_counted.2 ⟨Nat.le_of_ble_eq_true rfl, Nat.le_of_ble_eq_true rfl⟩, k4, trivial⟩ ⟨g_blind cZm, g_pre cZm hK hG hZ hS⟩ rfl rfl hl.1 rfl (lv_room (Nat.le_of_ble_eq_true rfl)) dX1_steps_40 ⟨Nat.le_refl _, Nat.le_refl _⟩) hS (fun H locs hG hS => ?_)
  refine lv_aload_n hx hb dX1_steps_43 rfl (lv_at hl 1 rfl) ?_
  refine g_get hx hb l1 hown hK hG (k := b) hB.1.1 (cE_1 hB.1 _ _) vwCl_1 4 (by decide) k5 (fun _ h9 => h9) rfl dX1_steps_44 ?_
  refine lv_iload hx hb dX1_steps_47 (lv_at hl 5 rfl) ?_
  refine g_ald hx hb hK hG (k := (b + 2)) (n := 16) hB.2.2.1.1.1 (cIA_e hB.2.2.1 _ _) 0 rfl h dX1_steps_49 (fun v6 h => ?_)
  refine lv_iadd hx hb dX1_steps_50 ?_
  refine lv_istore (lv' := [(7, .int ((X4_counted v4 v5 x5) + v6)), (6, .int ((X4_counted v1 v2 x5) + v3)), (0, .ref (ad b)), (1, .int x1), (2, .int x2), (3, .int x3), (4, .int x4), (5, .int x5)]) hx hb dX1_steps_51 hl (by decide) rfl (fun ls hl => ?_)
  refine lv_iload hx hb dX1_steps_53 (lv_at hl 1 rfl) ?_
  refine lv_iload hx hb dX1_steps_55 (lv_at hl 0 rfl) ?_
  refine lv_isub hx hb dX1_steps_57 ?_
  refine lv_aload_n hx hb dX1_steps_58 rfl (lv_at hl 2 rfl) ?_
  refine lv_iload_n hx hb dX1_steps_59 rfl (lv_at hl 3 rfl) ?_
  refine lv_iload_n hx hb dX1_steps_60 rfl (lv_at hl 4 rfl) ?_
  obtain ⟨v7, ev7, h⟩ := obind h
  refine g_endi (va_runV (As := [.int x1, .int x2]) (rest := [.int (((X4_counted v1 v2 x5) + v3) - ((X4_counted v4 v5 x5) + v6))]) ⟨hx, hb, hml, hown, hts⟩ (k_X1_areTwins l D cy ad P Dr tI hX (b := b) hB I L x1 x2 v7 ev7) (cwV 2 hts gX1_steps_X1_areTwins rfl rfl rfl cd_X1_areTwins ⟨Nat.le_of_ble_eq_true rfl, Nat.le_of_ble_eq_true rfl⟩) ⟨g_blind cZm, g_recv hK hG (k := b) hB.1.1 (cE_1 hB.1 _ _) vwCl_1, g_pre cZm hK hG hZ hS⟩ rfl rfl hl.1 rfl (lv_room (Nat.le_of_ble_eq_true rfl)) dX1_steps_61 ⟨Nat.le_refl _, Nat.le_refl _⟩) hS (fun H locs hG hS => ?_)
  refine g_endi (va_runSN (As := [.int (((X4_counted v1 v2 x5) + v3) - ((X4_counted v4 v5 x5) + v6)), .int v7]) (rest := []) ⟨hx, hb, hml, hown, hts⟩ (k_X4_sunk l D cy ad P Dr tI hX I L (((X4_counted v1 v2 x5) + v3) - ((X4_counted v4 v5 x5) + v6)) v7 _ rfl) ⟨va_cnB 2 hts gX1_steps_X4_sunk_n84 rfl rfl rfl hZ.2.1 k3 cd_X4_sunk.2 ⟨Nat.le_of_ble_eq_true rfl, Nat.le_of_ble_eq_true rfl⟩, k6, trivial⟩ ⟨g_blind cZm, g_pre cZm hK hG hZ hS⟩ rfl rfl hl.1 rfl (lv_room (Nat.le_of_ble_eq_true rfl)) dX1_steps_64 ⟨Nat.le_refl _, Nat.le_refl _⟩) hS (fun H locs hG hS => ?_)
  have h := Option.some.inj h
  subst h
  subst hQ
  exact g_iret hx hb hr hlocks cZm hK hZ hG hS rfl dX1_steps_67
def X1_openSets_L2 (b : Nat) (I : xMem) (x1 : Int32) (x2 : Int32) (x4_2 : Int32) (K4 : Int32 → Option (Int32)) : Nat → Int32 → Int32 → Option (Int32)
  | 0, _, _ => none
  | n5 + 1, x3_5, x5_5 => if (X1_allStones b I) < x5_5 then (K4 x3_5) else ((rdI I (b + 2) 16 x4_2).bind fun v7 => (rdI I (b + 2) 16 x5_5).bind fun v8 => if (x4_2 &&& x5_5) = (0 : Int32) then (if (I b 0) < (X4_sunk ((x1 + v7) - v8) x2) then (X1_openSets_L2 b I x1 x2 x4_2 K4 n5 x3_5 (x5_5 + (1 : Int32))) else (X1_openSets_L2 b I x1 x2 x4_2 K4 n5 (x3_5 ||| ((1 : Int32) <<< ((x4_2 ||| x5_5) &&& 31))) (x5_5 + (1 : Int32)))) else (X1_openSets_L2 b I x1 x2 x4_2 K4 n5 x3_5 (x5_5 + (1 : Int32))))
def X1_openSets_L1 (b : Nat) (I : xMem) (x1 : Int32) (x2 : Int32) (K1 : Int32 → Option (Int32)) : Nat → Int32 → Int32 → Option (Int32)
  | 0, _, _ => none
  | n2 + 1, x3_2, x4_2 => if (X1_allStones b I) < x4_2 then (K1 x3_2) else (X1_openSets_L2 b I x1 x2 x4_2 (fun (z3_5 : Int32) => X1_openSets_L1 b I x1 x2 K1 n2 z3_5 (x4_2 + (1 : Int32))) bigF x3_2 (0 : Int32))
def X1_openSets (b : Nat) (I : xMem) (x1 : Int32) (x2 : Int32) : Option (Int32) := X1_openSets_L1 b I x1 x2 (fun (z3_2 : Int32) => some z3_2) bigF (0 : Int32) (0 : Int32)
abbrev rm_X1_openSets : Room := { frames := 2, cells := 0, slots := 0, locals := 43 }
theorem cd_X1_openSets : yX1_openSets.cls = RX1 ∧ yX1_openSets.cls ≠ "java/lang/invoke/MethodHandle" ∧ yX1_openSets.cls ≠ "java/lang/invoke/VarHandle" ∧ (parseMethodDescriptor yX1_openSets.desc).map (fun d => d.parameters.length) = some 2 := by decide +kernel
set_option maxHeartbeats 4000000 in
set_option maxRecDepth 100000 in
theorem k_X1_openSets (l : Launch) (D : va_G) (cy : Nat → ClassId) (ad : Nat → Nat) (P Dr : Nat) (tI : xTab) (hX : cOk ad P Dr) {b : Nat} (hB : cPlan b) (I : xMem) (L : xLon) (x1 : Int32) (x2 : Int32) (r : Int32) (h : X1_openSets b I x1 x2 = some r) : Met l yX1_openSets wsX1_openSets rm_X1_openSets (va_Pc [.ref (ad b), .int x1, .int x2] (cW D cy ad P Dr tI I L)) (cPi D cy ad P Dr tI I L r) 0 0 (gA 64 ad) := by
  refine g_met (own := RX1) (cc := cX1_openSets) (maxL := 7) (ret := (some .int)) (by decide) rfl (Nat.le_of_ble_eq_true rfl) rfl ?_
  intro p e s m args below meth c ls hx hb hml hr hlocks hown hts hG hK hZ hl
  generalize hQ : MQ below _ args s 0 0 _ = Q
  have hl : lv_has ls 7 [(0, .ref (ad b)), (1, .int x1), (2, .int x2)] := hl
  have hS : va_S (gA 64 ad) s.heap s.heap [] := va_S.rf
  obtain ⟨hi, hP, hDr⟩ := id hX
  have l1 : ∀ w ∈ wsX10, w.before args s = true := fun w h => hts w (List.mem_cons_of_mem _ (List.mem_append_right _ h))
  have k1 := hts (.fieldLink RX1 15 "PairStairs$Plan" "setWeight" "[I") (by decide +kernel)
  have k2 := hts (.initialized RX4) (by decide +kernel)
  have k3 := hts (.static yX4_sunk) (by decide +kernel)
  have k4 := hts (.fieldLink RX1 62 "PairStairs$Plan" "limit" "I") (by decide +kernel)
  unfold X1_openSets at h
  refine lv_iconst (v := (0 : Int32)) hx hb dX1_openSets_0 (by decide) ?_
  refine lv_istore_n (lv' := [(3, .int (0 : Int32)), (0, .ref (ad b)), (1, .int x1), (2, .int x2)]) hx hb dX1_openSets_1 rfl hl (by decide) rfl (fun ls hl => ?_)
  refine lv_iconst (v := (0 : Int32)) hx hb dX1_openSets_2 (by decide) ?_
  refine lv_istore (lv' := [(4, .int (0 : Int32)), (3, .int (0 : Int32)), (0, .ref (ad b)), (1, .int x1), (2, .int x2)]) hx hb dX1_openSets_3 hl (by decide) rfl (fun ls hl => ?_)
  have keyK1 : ∀ (K1 : Int32 → Option (Int32)), (∀ (z3_2 : Int32) (H : Heap) (locs : List Loc) (ls : Array Slot), K1 z3_2 = some r → cG D cy ad P Dr I L H → va_S (gA 64 ad) s.heap H locs → lv_has ls 7 [(3, .int z3_2)] → W p l e rm_X1_openSets s m args below meth c H locs 0 0 Q (F0 m 88 ls [])) → ∀ (n2 : Nat) (x3_2 : Int32) (x4_2 : Int32) (H : Heap) (locs : List Loc) (ls : Array Slot), X1_openSets_L1 b I x1 x2 K1 n2 x3_2 x4_2 = some r → cG D cy ad P Dr I L H → va_S (gA 64 ad) s.heap H locs → lv_has ls 7 [(0, .ref (ad b)), (1, .int x1), (2, .int x2), (3, .int x3_2), (4, .int x4_2)] → W p l e rm_X1_openSets s m args below meth c H locs 0 0 Q (F0 m 5 ls []) := by
    intro K1 hkK1 n2
    induction n2 with
    | zero =>
      intro x3_2 x4_2 H locs ls h
      exact ono h
    | succ n2 ihn2 =>
      intro x3_2 x4_2 H locs ls h hG hS hl
      rw [X1_openSets_L1] at h
      refine lv_iload hx hb dX1_openSets_5 (lv_at hl 4 rfl) ?_
      refine lv_aload_n hx hb dX1_openSets_7 rfl (lv_at hl 0 rfl) ?_
      refine g_endi (va_runV (As := []) (rest := [.int x4_2]) ⟨hx, hb, hml, hown, hts⟩ (k_X1_allStones l D cy ad P Dr tI hX (b := b) hB I L _ rfl) (cwV 0 hts gX1_openSets_X1_allStones rfl rfl rfl cd_X1_allStones ⟨Nat.le_of_ble_eq_true rfl, Nat.le_of_ble_eq_true rfl⟩) ⟨g_blind cZm, g_recv hK hG (k := b) hB.1.1 (cE_1 hB.1 _ _) vwCl_1, g_pre cZm hK hG hZ hS⟩ rfl rfl hl.1 rfl (lv_room (Nat.le_of_ble_eq_true rfl)) dX1_openSets_8 ⟨Nat.le_refl _, Nat.le_refl _⟩) hS (fun H locs hG hS => ?_)
      refine lv_icmp_gt (tgt := 88) hx hb dX1_openSets_11 (by decide) (fun c3 => ?_) (fun c3 => ?_)
      · have h := ite_t h c3
        exact hkK1 x3_2 _ _ _ h hG hS (lv_sub hl [3] rfl)
      · have h := ite_f h c3
        refine lv_iconst (v := (0 : Int32)) hx hb dX1_openSets_14 (by decide) ?_
        refine lv_istore (lv' := [(5, .int (0 : Int32)), (0, .ref (ad b)), (1, .int x1), (2, .int x2), (3, .int x3_2), (4, .int x4_2)]) hx hb dX1_openSets_15 hl (by decide) rfl (fun ls hl => ?_)
        have keyK4 : ∀ (K4 : Int32 → Option (Int32)), (∀ (z3_5 : Int32) (H : Heap) (locs : List Loc) (ls : Array Slot), K4 z3_5 = some r → cG D cy ad P Dr I L H → va_S (gA 64 ad) s.heap H locs → lv_has ls 7 [(0, .ref (ad b)), (1, .int x1), (2, .int x2), (3, .int z3_5), (4, .int x4_2)] → W p l e rm_X1_openSets s m args below meth c H locs 0 0 Q (F0 m 82 ls [])) → ∀ (n5 : Nat) (x3_5 : Int32) (x5_5 : Int32) (H : Heap) (locs : List Loc) (ls : Array Slot), X1_openSets_L2 b I x1 x2 x4_2 K4 n5 x3_5 x5_5 = some r → cG D cy ad P Dr I L H → va_S (gA 64 ad) s.heap H locs → lv_has ls 7 [(0, .ref (ad b)), (1, .int x1), (2, .int x2), (3, .int x3_5), (4, .int x4_2), (5, .int x5_5)] → W p l e rm_X1_openSets s m args below meth c H locs 0 0 Q (F0 m 17 ls []) := by
          intro K4 hkK4 n5
          induction n5 with
          | zero =>
            intro x3_5 x5_5 H locs ls h
            exact ono h
          | succ n5 ihn5 =>
            intro x3_5 x5_5 H locs ls h hG hS hl
            rw [X1_openSets_L2] at h
            refine lv_iload hx hb dX1_openSets_17 (lv_at hl 5 rfl) ?_
            refine lv_aload_n hx hb dX1_openSets_19 rfl (lv_at hl 0 rfl) ?_
            refine g_endi (va_runV (As := []) (rest := [.int x5_5]) ⟨hx, hb, hml, hown, hts⟩ (k_X1_allStones l D cy ad P Dr tI hX (b := b) hB I L _ rfl) (cwV 0 hts gX1_openSets_X1_allStones rfl rfl rfl cd_X1_allStones ⟨Nat.le_of_ble_eq_true rfl, Nat.le_of_ble_eq_true rfl⟩) ⟨g_blind cZm, g_recv hK hG (k := b) hB.1.1 (cE_1 hB.1 _ _) vwCl_1, g_pre cZm hK hG hZ hS⟩ rfl rfl hl.1 rfl (lv_room (Nat.le_of_ble_eq_true rfl)) dX1_openSets_20 ⟨Nat.le_refl _, Nat.le_refl _⟩) hS (fun H locs hG hS => ?_)
            refine lv_icmp_gt (tgt := 82) hx hb dX1_openSets_23 (by decide) (fun c6 => ?_) (fun c6 => ?_)
            · have h := ite_t h c6
              exact hkK4 x3_5 _ _ _ h hG hS (lv_sub hl [0, 1, 2, 3, 4] rfl)
            · have h := ite_f h c6
              refine lv_iload_n hx hb dX1_openSets_26 rfl (lv_at hl 1 rfl) ?_
              refine lv_aload_n hx hb dX1_openSets_27 rfl (lv_at hl 0 rfl) ?_
              refine g_get hx hb l1 hown hK hG (k := b) hB.1.1 (cE_1 hB.1 _ _) vwCl_1 4 (by decide) k1 (fun _ h9 => h9) rfl dX1_openSets_28 ?_
              refine lv_iload hx hb dX1_openSets_31 (lv_at hl 4 rfl) ?_
              refine g_ald hx hb hK hG (k := (b + 2)) (n := 16) hB.2.2.1.1.1 (cIA_e hB.2.2.1 _ _) 0 rfl h dX1_openSets_33 (fun v7 h => ?_)
              refine lv_iadd hx hb dX1_openSets_34 ?_
              refine lv_aload_n hx hb dX1_openSets_35 rfl (lv_at hl 0 rfl) ?_
              refine g_get hx hb l1 hown hK hG (k := b) hB.1.1 (cE_1 hB.1 _ _) vwCl_1 4 (by decide) k1 (fun _ h9 => h9) rfl dX1_openSets_36 ?_
              refine lv_iload hx hb dX1_openSets_39 (lv_at hl 5 rfl) ?_
              refine g_ald hx hb hK hG (k := (b + 2)) (n := 16) hB.2.2.1.1.1 (cIA_e hB.2.2.1 _ _) 0 rfl h dX1_openSets_41 (fun v8 h => ?_)
              refine lv_isub hx hb dX1_openSets_42 ?_
              refine lv_istore (lv' := [(6, .int ((x1 + v7) - v8)), (0, .ref (ad b)), (1, .int x1), (2, .int x2), (3, .int x3_5), (4, .int x4_2), (5, .int x5_5)]) hx hb dX1_openSets_43 hl (by decide) rfl (fun ls hl => ?_)
              refine lv_iload hx hb dX1_openSets_45 (lv_at hl 5 rfl) ?_
              refine lv_iload hx hb dX1_openSets_47 (lv_at hl 6 rfl) ?_
              refine lv_iand hx hb dX1_openSets_49 ?_
              refine lv_if_ne (tgt := 76) hx hb dX1_openSets_50 (by decide) (fun c9 => ?_) (fun c9 => ?_)
              · have h := ite_f h c9
                refine lv_iinc (v := (x5_5 + (1 : Int32))) (lv' := [(5, .int (x5_5 + (1 : Int32))), (6, .int ((x1 + v7) - v8)), (0, .ref (ad b)), (1, .int x1), (2, .int x2), (3, .int x3_5), (4, .int x4_2)]) hx hb dX1_openSets_76 hl (k := 6) rfl rfl (by decide) rfl (fun ls hl => ?_)
                refine lv_goto (tgt := 17) hx hb dX1_openSets_79 (by decide) ?_
                exact ihn5 x3_5 (x5_5 + (1 : Int32)) _ _ _ h hG hS (lv_sub hl [2, 3, 4, 5, 6, 0] rfl)
              · have h := ite_t h c9
                refine lv_iload hx hb dX1_openSets_53 (lv_at hl 0 rfl) ?_
                refine lv_iload_n hx hb dX1_openSets_55 rfl (lv_at hl 3 rfl) ?_
                refine g_endi (va_runSN (As := [.int ((x1 + v7) - v8), .int x2]) (rest := []) ⟨hx, hb, hml, hown, hts⟩ (k_X4_sunk l D cy ad P Dr tI hX I L ((x1 + v7) - v8) x2 _ rfl) ⟨va_cnB 2 hts gX1_openSets_X4_sunk_n84 rfl rfl rfl hZ.2.1 k2 cd_X4_sunk.2 ⟨Nat.le_of_ble_eq_true rfl, Nat.le_of_ble_eq_true rfl⟩, k3, trivial⟩ ⟨g_blind cZm, g_pre cZm hK hG hZ hS⟩ rfl rfl hl.1 rfl (lv_room (Nat.le_of_ble_eq_true rfl)) dX1_openSets_56 ⟨Nat.le_refl _, Nat.le_refl _⟩) hS (fun H locs hG hS => ?_)
                refine lv_aload_n hx hb dX1_openSets_59 rfl (lv_at hl 1 rfl) ?_
                refine g_get hx hb l1 hown hK hG (k := b) hB.1.1 (cE_1 hB.1 _ _) vwCl_1 0 (by decide) k4 (fun _ h9 => h9) rfl dX1_openSets_60 ?_
                refine lv_icmp_gt (tgt := 76) hx hb dX1_openSets_63 (by decide) (fun c10 => ?_) (fun c10 => ?_)
                · have h := ite_t h c10
                  refine lv_iinc (v := (x5_5 + (1 : Int32))) (lv' := [(5, .int (x5_5 + (1 : Int32))), (6, .int ((x1 + v7) - v8)), (0, .ref (ad b)), (1, .int x1), (2, .int x2), (3, .int x3_5), (4, .int x4_2)]) hx hb dX1_openSets_76 hl (k := 6) rfl rfl (by decide) rfl (fun ls hl => ?_)
                  refine lv_goto (tgt := 17) hx hb dX1_openSets_79 (by decide) ?_
                  exact ihn5 x3_5 (x5_5 + (1 : Int32)) _ _ _ h hG hS (lv_sub hl [2, 3, 4, 5, 6, 0] rfl)
                · have h := ite_f h c10
                  refine lv_iload_n hx hb dX1_openSets_66 rfl (lv_at hl 4 rfl) ?_
                  refine lv_iconst (v := (1 : Int32)) hx hb dX1_openSets_67 (by decide) ?_
                  refine lv_iload hx hb dX1_openSets_68 (lv_at hl 5 rfl) ?_
                  refine lv_iload hx hb dX1_openSets_70 (lv_at hl 6 rfl) ?_
                  refine lv_ior hx hb dX1_openSets_72 ?_
                  refine lv_ishl hx hb dX1_openSets_73 ?_
                  refine lv_ior hx hb dX1_openSets_74 ?_
                  refine lv_istore_n (lv' := [(3, .int (x3_5 ||| ((1 : Int32) <<< ((x4_2 ||| x5_5) &&& 31)))), (6, .int ((x1 + v7) - v8)), (0, .ref (ad b)), (1, .int x1), (2, .int x2), (4, .int x4_2), (5, .int x5_5)]) hx hb dX1_openSets_75 rfl hl (by decide) rfl (fun ls hl => ?_)
                  refine lv_iinc (v := (x5_5 + (1 : Int32))) (lv' := [(5, .int (x5_5 + (1 : Int32))), (3, .int (x3_5 ||| ((1 : Int32) <<< ((x4_2 ||| x5_5) &&& 31)))), (6, .int ((x1 + v7) - v8)), (0, .ref (ad b)), (1, .int x1), (2, .int x2), (4, .int x4_2)]) hx hb dX1_openSets_76 hl (k := 6) rfl rfl (by decide) rfl (fun ls hl => ?_)
                  refine lv_goto (tgt := 17) hx hb dX1_openSets_79 (by decide) ?_
                  exact ihn5 (x3_5 ||| ((1 : Int32) <<< ((x4_2 ||| x5_5) &&& 31))) (x5_5 + (1 : Int32)) _ _ _ h hG hS (lv_sub hl [3, 4, 5, 1, 6, 0] rfl)
        refine keyK4 _ (fun z3_5 H locs ls h hG hS hl => ?_) bigF x3_2 (0 : Int32) _ _ _ h hG hS (lv_sub hl [1, 2, 3, 4, 5, 0] rfl)
        clear keyK4
        refine lv_iinc (v := (x4_2 + (1 : Int32))) (lv' := [(4, .int (x4_2 + (1 : Int32))), (0, .ref (ad b)), (1, .int x1), (2, .int x2), (3, .int z3_5)]) hx hb dX1_openSets_82 hl (k := 4) rfl rfl (by decide) rfl (fun ls hl => ?_)
        refine lv_goto (tgt := 5) hx hb dX1_openSets_85 (by decide) ?_
        exact ihn2 z3_5 (x4_2 + (1 : Int32)) _ _ _ h hG hS (lv_sub hl [1, 2, 3, 4, 0] rfl)
  refine keyK1 _ (fun z3_2 H locs ls h hG hS hl => ?_) bigF (0 : Int32) (0 : Int32) _ _ _ h hG hS (lv_sub hl [2, 3, 4, 1, 0] rfl)
  clear keyK1
  refine lv_iload_n hx hb dX1_openSets_88 rfl (lv_at hl 0 rfl) ?_
  have h := Option.some.inj h
  subst h
  subst hQ
  exact g_iret hx hb hr hlocks cZm hK hZ hG hS rfl dX1_openSets_89
def X1_howMany_L1 (b : Nat) (I : xMem) (x1 : Int32) (K1 : Int32 → Option (Int32)) : Nat → Int32 → Int32 → Option (Int32)
  | 0, _, _ => none
  | n2 + 1, x2_2, x3_2 => if (I b 2) ≤ x3_2 then (K1 x2_2) else ((rdI I (b + 3) 6 x3_2).bind fun v4 => (rdT isT 6 v4).bind fun v5 => X1_howMany_L1 b I x1 K1 n2 (x2_2 + ((v5 >>> (x1 &&& 31)) &&& (1 : Int32))) (x3_2 + (1 : Int32)))
def X1_howMany (b : Nat) (I : xMem) (x1 : Int32) : Option (Int32) := X1_howMany_L1 b I x1 (fun (z2_2 : Int32) => some z2_2) bigF (0 : Int32) (0 : Int32)
abbrev rm_X1_howMany : Room := { frames := 0, cells := 0, slots := 0, locals := 0 }
theorem cd_X1_howMany : yX1_howMany.cls = RX1 ∧ yX1_howMany.cls ≠ "java/lang/invoke/MethodHandle" ∧ yX1_howMany.cls ≠ "java/lang/invoke/VarHandle" ∧ (parseMethodDescriptor yX1_howMany.desc).map (fun d => d.parameters.length) = some 1 := by decide +kernel
set_option maxHeartbeats 4000000 in
set_option maxRecDepth 100000 in
theorem k_X1_howMany (l : Launch) (D : va_G) (cy : Nat → ClassId) (ad : Nat → Nat) (P Dr : Nat) (tI : xTab) (hX : cOk ad P Dr) {b : Nat} (hB : cPlan b) (I : xMem) (L : xLon) (x1 : Int32) (r : Int32) (h : X1_howMany b I x1 = some r) : Met l yX1_howMany wsX1_howMany rm_X1_howMany (va_Pc [.ref (ad b), .int x1] (cW D cy ad P Dr tI I L)) (cPi D cy ad P Dr tI I L r) 0 0 (gA 64 ad) := by
  refine g_met (own := RX1) (cc := cX1_howMany) (maxL := 4) (ret := (some .int)) (by decide) rfl (Nat.le_of_ble_eq_true rfl) rfl ?_
  intro p e s m args below meth c ls hx hb hml hr hlocks hown hts hG hK hZ hl
  generalize hQ : MQ below _ args s 0 0 _ = Q
  have hl : lv_has ls 4 [(0, .ref (ad b)), (1, .int x1)] := hl
  have hS : va_S (gA 64 ad) s.heap s.heap [] := va_S.rf
  obtain ⟨hi, hP, hDr⟩ := id hX
  have l1 : ∀ w ∈ wsX10, w.before args s = true := fun w h => hts w (List.mem_cons_of_mem _ (List.mem_append_right _ h))
  have k1 := hts (.fieldLink RX1 28 "PairStairs$Plan" "people" "I") (by decide +kernel)
  have k2 := hts (.fieldLink RX1 18 "PairStairs$Plan" "kind" "[I") (by decide +kernel)
  unfold X1_howMany at h
  refine lv_iconst (v := (0 : Int32)) hx hb dX1_howMany_0 (by decide) ?_
  refine lv_istore_n (lv' := [(2, .int (0 : Int32)), (0, .ref (ad b)), (1, .int x1)]) hx hb dX1_howMany_1 rfl hl (by decide) rfl (fun ls hl => ?_)
  refine lv_iconst (v := (0 : Int32)) hx hb dX1_howMany_2 (by decide) ?_
  refine lv_istore_n (lv' := [(3, .int (0 : Int32)), (2, .int (0 : Int32)), (0, .ref (ad b)), (1, .int x1)]) hx hb dX1_howMany_3 rfl hl (by decide) rfl (fun ls hl => ?_)
  have keyK1 : ∀ (K1 : Int32 → Option (Int32)), (∀ (z2_2 : Int32) (H : Heap) (locs : List Loc) (ls : Array Slot), K1 z2_2 = some r → cG D cy ad P Dr I L H → va_S (gA 64 ad) s.heap H locs → lv_has ls 4 [(2, .int z2_2)] → W p l e rm_X1_howMany s m args below meth c H locs 0 0 Q (F0 m 35 ls [])) → ∀ (n2 : Nat) (x2_2 : Int32) (x3_2 : Int32) (H : Heap) (locs : List Loc) (ls : Array Slot), X1_howMany_L1 b I x1 K1 n2 x2_2 x3_2 = some r → cG D cy ad P Dr I L H → va_S (gA 64 ad) s.heap H locs → lv_has ls 4 [(0, .ref (ad b)), (1, .int x1), (2, .int x2_2), (3, .int x3_2)] → W p l e rm_X1_howMany s m args below meth c H locs 0 0 Q (F0 m 4 ls []) := by
    intro K1 hkK1 n2
    induction n2 with
    | zero =>
      intro x2_2 x3_2 H locs ls h
      exact ono h
    | succ n2 ihn2 =>
      intro x2_2 x3_2 H locs ls h hG hS hl
      rw [X1_howMany_L1] at h
      refine lv_iload_n hx hb dX1_howMany_4 rfl (lv_at hl 3 rfl) ?_
      refine lv_aload_n hx hb dX1_howMany_5 rfl (lv_at hl 0 rfl) ?_
      refine g_get hx hb l1 hown hK hG (k := b) hB.1.1 (cE_1 hB.1 _ _) vwCl_1 2 (by decide) k1 (fun _ h9 => h9) rfl dX1_howMany_6 ?_
      refine lv_icmp_ge (tgt := 35) hx hb dX1_howMany_9 (by decide) (fun c3 => ?_) (fun c3 => ?_)
      · have h := ite_t h c3
        exact hkK1 x2_2 _ _ _ h hG hS (lv_sub hl [2] rfl)
      · have h := ite_f h c3
        refine lv_iload_n hx hb dX1_howMany_12 rfl (lv_at hl 2 rfl) ?_
        refine va_getsN hx hb hZ.2.2.2.1 hS hown (va_Nw.use rfl hZ.2.2.1) (fun _ h9 => h9) dX1_howMany_13 ?_
        refine lv_aload_n hx hb dX1_howMany_16 rfl (lv_at hl 0 rfl) ?_
        refine g_get hx hb l1 hown hK hG (k := b) hB.1.1 (cE_1 hB.1 _ _) vwCl_1 5 (by decide) k2 (fun _ h9 => h9) rfl dX1_howMany_17 ?_
        refine lv_iload_n hx hb dX1_howMany_20 rfl (lv_at hl 3 rfl) ?_
        refine g_ald hx hb hK hG (k := (b + 3)) (n := 6) hB.2.2.2.1.1.1 (cIA_e hB.2.2.2.1 _ _) 0 rfl h dX1_howMany_21 (fun v4 h => ?_)
        refine g_tld hx hb hZ.2.2.2.2.1 hS h dX1_howMany_22 (fun v5 h => ?_)
        refine lv_iload_n hx hb dX1_howMany_23 rfl (lv_at hl 1 rfl) ?_
        refine lv_ishr hx hb dX1_howMany_24 ?_
        refine lv_iconst (v := (1 : Int32)) hx hb dX1_howMany_25 (by decide) ?_
        refine lv_iand hx hb dX1_howMany_26 ?_
        refine lv_iadd hx hb dX1_howMany_27 ?_
        refine lv_istore_n (lv' := [(2, .int (x2_2 + ((v5 >>> (x1 &&& 31)) &&& (1 : Int32)))), (0, .ref (ad b)), (1, .int x1), (3, .int x3_2)]) hx hb dX1_howMany_28 rfl hl (by decide) rfl (fun ls hl => ?_)
        refine lv_iinc (v := (x3_2 + (1 : Int32))) (lv' := [(3, .int (x3_2 + (1 : Int32))), (2, .int (x2_2 + ((v5 >>> (x1 &&& 31)) &&& (1 : Int32)))), (0, .ref (ad b)), (1, .int x1)]) hx hb dX1_howMany_29 hl (k := 3) rfl rfl (by decide) rfl (fun ls hl => ?_)
        refine lv_goto (tgt := 4) hx hb dX1_howMany_32 (by decide) ?_
        exact ihn2 (x2_2 + ((v5 >>> (x1 &&& 31)) &&& (1 : Int32))) (x3_2 + (1 : Int32)) _ _ _ h hG hS (lv_sub hl [2, 3, 1, 0] rfl)
  refine keyK1 _ (fun z2_2 H locs ls h hG hS hl => ?_) bigF (0 : Int32) (0 : Int32) _ _ _ h hG hS (lv_sub hl [2, 3, 1, 0] rfl)
  clear keyK1
  refine lv_iload_n hx hb dX1_howMany_35 rfl (lv_at hl 0 rfl) ?_
  have h := Option.some.inj h
  subst h
  subst hQ
  exact g_iret hx hb hr hlocks cZm hK hZ hG hS rfl dX1_howMany_36
