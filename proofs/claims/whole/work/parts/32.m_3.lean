def X5_goOnFrom_L2 (x1 : Int32) (x2_2 : Int32) (K6 : xMem → Option (xMem)) : Nat → Int32 → xMem → Option (xMem)
  | 0, _, _ => none
  | n7 + 1, x3_7, I8 => if (16 : Int32) ≤ x3_7 then (K6 I8) else ((rdI I8 15 36 x2_2).bind fun v11 => if v11 = (0 : Int32) then (K6 I8) else ((X5_mayGo I8 x1 x2_2 x3_7).bind fun v13 => if v13 = (0 : Int32) then (X5_goOnFrom_L2 x1 x2_2 K6 n7 (x3_7 + (1 : Int32)) I8) else ((rdI I8 13 1024 (X5_behind x1 x2_2 x3_7)).bind fun v15 => if v15 = (9999 : Int32) then ((rdI I8 13 1024 x1).bind fun v17 => (wrI I8 13 1024 (X5_behind x1 x2_2 x3_7) (v17 + (1 : Int32))).bind fun I18 => (wrI I18 14 1024 (I18 0 28) (X5_behind x1 x2_2 x3_7)).bind fun I19 => (some (wr I19 0 28 ((I19 0 28) + (1 : Int32)))).bind fun I20 => X5_goOnFrom_L2 x1 x2_2 K6 n7 (x3_7 + (1 : Int32)) I20) else (X5_goOnFrom_L2 x1 x2_2 K6 n7 (x3_7 + (1 : Int32)) I8))))
def X5_goOnFrom_L1 (x1 : Int32) (K1 : xMem → Option (xMem)) : Nat → Int32 → xMem → Option (xMem)
  | 0, _, _ => none
  | n2 + 1, x2_2, I3 => if (36 : Int32) ≤ x2_2 then (K1 I3) else (X5_goOnFrom_L2 x1 x2_2 (fun (I9 : xMem) => X5_goOnFrom_L1 x1 K1 n2 (x2_2 + (1 : Int32)) I9) bigF (0 : Int32) I3)
def X5_goOnFrom (I : xMem) (x1 : Int32) : Option (xMem) := X5_goOnFrom_L1 x1 (fun (I4 : xMem) => some I4) bigF (0 : Int32) I
abbrev rm_X5_goOnFrom : Room := { frames := 2, cells := 0, slots := 0, locals := 48 }
theorem cd_X5_goOnFrom : yX5_goOnFrom.cls = RX5 ∧ yX5_goOnFrom.cls ≠ "java/lang/invoke/MethodHandle" ∧ yX5_goOnFrom.cls ≠ "java/lang/invoke/VarHandle" ∧ (parseMethodDescriptor yX5_goOnFrom.desc).map (fun d => d.parameters.length) = some 1 := by decide +kernel
set_option maxHeartbeats 4000000 in
set_option maxRecDepth 100000 in
theorem k_X5_goOnFrom (l : Launch) (D : va_G) (cy : Nat → ClassId) (ad : Nat → Nat) (hi : gInj 18 ad) (I : xMem) (L : xLon) (x1 : Int32) (r : xMem) (h : X5_goOnFrom I x1 = some r) : Met l yX5_goOnFrom wsX5_goOnFrom rm_X5_goOnFrom (va_Pc [.ref (ad 0), .int x1] (mW D cy ad I L)) (mPv D cy ad r L) 0 0 (gA 18 ad) := by
  refine g_met (own := RX5) (cc := cX5_goOnFrom) (maxL := 5) (ret := none) (by decide) rfl (Nat.le_of_ble_eq_true rfl) rfl ?_
  intro p e s m args below meth c ls hx hb hml hr hlocks hown hts hG hK hZ hl
  generalize hQ : MQ below _ args s 0 0 _ = Q
  have hl : lv_has ls 5 [(0, .ref (ad 0)), (1, .int x1)] := hl
  have hS : va_S (gA 18 ad) s.heap s.heap [] := va_S.rf
  have l5 : ∀ w ∈ wsX50, w.before args s = true := fun w h => hts w (List.mem_cons_of_mem _ (List.mem_append_right _ h))
  have k1 := hts (.fieldLink RX5 57 "PairStairsModel" "loads" "[I") (by decide +kernel)
  have k2 := hts (.fieldLink RX5 51 "PairStairsModel" "far" "[I") (by decide +kernel)
  have k3 := hts (.fieldLink RX5 54 "PairStairsModel" "line" "[I") (by decide +kernel)
  have k4 := hts (.fieldLink RX5 254 "PairStairsModel" "lineEnd" "I") (by decide +kernel)
  unfold X5_goOnFrom at h
  refine lv_iconst (v := (0 : Int32)) hx hb dX5_goOnFrom_0 (by decide) ?_
  refine lv_istore_n (lv' := [(2, .int (0 : Int32)), (0, .ref (ad 0)), (1, .int x1)]) hx hb dX5_goOnFrom_1 rfl hl (by decide) rfl (fun ls hl => ?_)
  have keyK1 : ∀ (K1 : xMem → Option (xMem)), (∀ (I4 : xMem) (H : Heap) (locs : List Loc) (ls : Array Slot), K1 I4 = some r → mG D cy ad I4 L H → va_S (gA 18 ad) s.heap H locs → lv_has ls 5 [] → W p l e rm_X5_goOnFrom s m args below meth c H locs 0 0 Q (F0 m 104 ls [])) → ∀ (n2 : Nat) (x2_2 : Int32) (I3 : xMem) (H : Heap) (locs : List Loc) (ls : Array Slot), X5_goOnFrom_L1 x1 K1 n2 x2_2 I3 = some r → mG D cy ad I3 L H → va_S (gA 18 ad) s.heap H locs → lv_has ls 5 [(0, .ref (ad 0)), (1, .int x1), (2, .int x2_2)] → W p l e rm_X5_goOnFrom s m args below meth c H locs 0 0 Q (F0 m 2 ls []) := by
    intro K1 hkK1 n2
    induction n2 with
    | zero =>
      intro x2_2 I3 H locs ls h
      exact ono h
    | succ n2 ihn2 =>
      intro x2_2 I3 H locs ls h hG hS hl
      rw [X5_goOnFrom_L1] at h
      refine lv_iload_n hx hb dX5_goOnFrom_2 rfl (lv_at hl 2 rfl) ?_
      refine lv_bipush (v := (36 : Int32)) hx hb dX5_goOnFrom_3 (by decide) ?_
      refine lv_icmp_ge (tgt := 104) hx hb dX5_goOnFrom_5 (by decide) (fun c5 => ?_) (fun c5 => ?_)
      · have h := ite_t h c5
        exact hkK1 I3 _ _ _ h hG hS (lv_sub hl [] rfl)
      · have h := ite_f h c5
        refine lv_iconst (v := (0 : Int32)) hx hb dX5_goOnFrom_8 (by decide) ?_
        refine lv_istore_n (lv' := [(3, .int (0 : Int32)), (0, .ref (ad 0)), (1, .int x1), (2, .int x2_2)]) hx hb dX5_goOnFrom_9 rfl hl (by decide) rfl (fun ls hl => ?_)
        have keyK6 : ∀ (K6 : xMem → Option (xMem)), (∀ (I9 : xMem) (H : Heap) (locs : List Loc) (ls : Array Slot), K6 I9 = some r → mG D cy ad I9 L H → va_S (gA 18 ad) s.heap H locs → lv_has ls 5 [(0, .ref (ad 0)), (1, .int x1), (2, .int x2_2)] → W p l e rm_X5_goOnFrom s m args below meth c H locs 0 0 Q (F0 m 98 ls [])) → ∀ (n7 : Nat) (x3_7 : Int32) (I8 : xMem) (H : Heap) (locs : List Loc) (ls : Array Slot), X5_goOnFrom_L2 x1 x2_2 K6 n7 x3_7 I8 = some r → mG D cy ad I8 L H → va_S (gA 18 ad) s.heap H locs → lv_has ls 5 [(0, .ref (ad 0)), (1, .int x1), (2, .int x2_2), (3, .int x3_7)] → W p l e rm_X5_goOnFrom s m args below meth c H locs 0 0 Q (F0 m 10 ls []) := by
          intro K6 hkK6 n7
          induction n7 with
          | zero =>
            intro x3_7 I8 H locs ls h
            exact ono h
          | succ n7 ihn7 =>
            intro x3_7 I8 H locs ls h hG hS hl
            rw [X5_goOnFrom_L2] at h
            refine lv_iload_n hx hb dX5_goOnFrom_10 rfl (lv_at hl 3 rfl) ?_
            refine lv_bipush (v := (16 : Int32)) hx hb dX5_goOnFrom_11 (by decide) ?_
            refine lv_icmp_ge (tgt := 98) hx hb dX5_goOnFrom_13 (by decide) (fun c10 => ?_) (fun c10 => ?_)
            · have h := ite_t h c10
              exact hkK6 I8 _ _ _ h hG hS (lv_sub hl [0, 1, 2] rfl)
            · have h := ite_f h c10
              refine lv_aload_n hx hb dX5_goOnFrom_16 rfl (lv_at hl 0 rfl) ?_
              refine g_get hx hb l5 hown hK hG (k := 0) (by decide) (mE_5 _ _) vwCl_5 29 (by decide) k1 (fun _ h9 => h9) rfl dX5_goOnFrom_17 ?_
              refine lv_iload_n hx hb dX5_goOnFrom_20 rfl (lv_at hl 2 rfl) ?_
              refine g_ald hx hb hK hG (k := 15) (n := 36) (show mIA 15 36 from by decide +kernel).1.1 (mIA_e (show mIA 15 36 from by decide +kernel) _ _) 0 rfl h dX5_goOnFrom_21 (fun v11 h => ?_)
              refine lv_if_eq (tgt := 98) hx hb dX5_goOnFrom_22 (by decide) (fun c12 => ?_) (fun c12 => ?_)
              · have h := ite_t h c12
                exact hkK6 I8 _ _ _ h hG hS (lv_sub hl [0, 1, 2] rfl)
              · have h := ite_f h c12
                refine lv_iload_n hx hb dX5_goOnFrom_25 rfl (lv_at hl 1 rfl) ?_
                refine lv_iload_n hx hb dX5_goOnFrom_26 rfl (lv_at hl 2 rfl) ?_
                refine lv_iload_n hx hb dX5_goOnFrom_27 rfl (lv_at hl 3 rfl) ?_
                refine g_endi (va_runS (As := [.int x1, .int x2_2, .int x3_7]) (rest := []) ⟨hx, hb, hml, hown, hts⟩ (k_X5_behind l D cy ad hi I8 L x1 x2_2 x3_7 _ rfl) (va_cwS 3 hts gX5_goOnFrom_X5_behind rfl rfl rfl cd_X5_behind.2 ⟨Nat.le_of_ble_eq_true rfl, Nat.le_of_ble_eq_true rfl⟩) ⟨g_blind mZm, g_pre mZm hK hG hZ hS⟩ rfl rfl hl.1 rfl (lv_room (Nat.le_of_ble_eq_true rfl)) dX5_goOnFrom_28 ⟨Nat.le_refl _, Nat.le_refl _⟩) hS (fun H locs hG hS => ?_)
                refine lv_istore (lv' := [(4, .int (X5_behind x1 x2_2 x3_7)), (0, .ref (ad 0)), (1, .int x1), (2, .int x2_2), (3, .int x3_7)]) hx hb dX5_goOnFrom_31 hl (by decide) rfl (fun ls hl => ?_)
                refine lv_aload_n hx hb dX5_goOnFrom_33 rfl (lv_at hl 1 rfl) ?_
                refine lv_iload_n hx hb dX5_goOnFrom_34 rfl (lv_at hl 2 rfl) ?_
                refine lv_iload_n hx hb dX5_goOnFrom_35 rfl (lv_at hl 3 rfl) ?_
                refine lv_iload_n hx hb dX5_goOnFrom_36 rfl (lv_at hl 4 rfl) ?_
                obtain ⟨v13, ev13, h⟩ := obind h
                refine g_endi (va_runV (As := [.int x1, .int x2_2, .int x3_7]) (rest := []) ⟨hx, hb, hml, hown, hts⟩ (k_X5_mayGo l D cy ad hi I8 L x1 x2_2 x3_7 v13 ev13) (cwV 3 hts gX5_goOnFrom_X5_mayGo rfl rfl rfl cd_X5_mayGo ⟨Nat.le_of_ble_eq_true rfl, Nat.le_of_ble_eq_true rfl⟩) ⟨g_blind mZm, g_recv hK hG (k := 0) (by decide) (mE_5 _ _) vwCl_5, g_pre mZm hK hG hZ hS⟩ rfl rfl hl.1 rfl (lv_room (Nat.le_of_ble_eq_true rfl)) dX5_goOnFrom_37 ⟨Nat.le_refl _, Nat.le_refl _⟩) hS (fun H locs hG hS => ?_)
                refine lv_if_eq (tgt := 92) hx hb dX5_goOnFrom_40 (by decide) (fun c14 => ?_) (fun c14 => ?_)
                · have h := ite_t h c14
                  refine lv_iinc (v := (x3_7 + (1 : Int32))) (lv' := [(3, .int (x3_7 + (1 : Int32))), (4, .int (X5_behind x1 x2_2 x3_7)), (0, .ref (ad 0)), (1, .int x1), (2, .int x2_2)]) hx hb dX5_goOnFrom_92 hl (k := 4) rfl rfl (by decide) rfl (fun ls hl => ?_)
                  refine lv_goto (tgt := 10) hx hb dX5_goOnFrom_95 (by decide) ?_
                  exact ihn7 (x3_7 + (1 : Int32)) I8 _ _ _ h hG hS (lv_sub hl [2, 3, 4, 0] rfl)
                · have h := ite_f h c14
                  refine lv_aload_n hx hb dX5_goOnFrom_43 rfl (lv_at hl 1 rfl) ?_
                  refine g_get hx hb l5 hown hK hG (k := 0) (by decide) (mE_5 _ _) vwCl_5 26 (by decide) k2 (fun _ h9 => h9) rfl dX5_goOnFrom_44 ?_
                  refine lv_iload hx hb dX5_goOnFrom_47 (lv_at hl 0 rfl) ?_
                  refine g_ald hx hb hK hG (k := 13) (n := 1024) (show mIA 13 1024 from by decide +kernel).1.1 (mIA_e (show mIA 13 1024 from by decide +kernel) _ _) 0 rfl h dX5_goOnFrom_49 (fun v15 h => ?_)
                  refine lv_sipush (v := (9999 : Int32)) hx hb dX5_goOnFrom_50 (by decide) ?_
                  refine lv_icmp_ne (tgt := 92) hx hb dX5_goOnFrom_53 (by decide) (fun c16 => ?_) (fun c16 => ?_)
                  · have h := ite_f h c16
                    refine lv_iinc (v := (x3_7 + (1 : Int32))) (lv' := [(3, .int (x3_7 + (1 : Int32))), (4, .int (X5_behind x1 x2_2 x3_7)), (0, .ref (ad 0)), (1, .int x1), (2, .int x2_2)]) hx hb dX5_goOnFrom_92 hl (k := 4) rfl rfl (by decide) rfl (fun ls hl => ?_)
                    refine lv_goto (tgt := 10) hx hb dX5_goOnFrom_95 (by decide) ?_
                    exact ihn7 (x3_7 + (1 : Int32)) I8 _ _ _ h hG hS (lv_sub hl [2, 3, 4, 0] rfl)
                  · have h := ite_t h c16
                    refine lv_aload_n hx hb dX5_goOnFrom_56 rfl (lv_at hl 1 rfl) ?_
                    refine g_get hx hb l5 hown hK hG (k := 0) (by decide) (mE_5 _ _) vwCl_5 26 (by decide) k2 (fun _ h9 => h9) rfl dX5_goOnFrom_57 ?_
                    refine lv_iload hx hb dX5_goOnFrom_60 (lv_at hl 0 rfl) ?_
                    refine lv_aload_n hx hb dX5_goOnFrom_62 rfl (lv_at hl 1 rfl) ?_
                    refine g_get hx hb l5 hown hK hG (k := 0) (by decide) (mE_5 _ _) vwCl_5 26 (by decide) k2 (fun _ h9 => h9) rfl dX5_goOnFrom_63 ?_
                    refine lv_iload_n hx hb dX5_goOnFrom_66 rfl (lv_at hl 2 rfl) ?_
                    refine g_ald hx hb hK hG (k := 13) (n := 1024) (show mIA 13 1024 from by decide +kernel).1.1 (mIA_e (show mIA 13 1024 from by decide +kernel) _ _) 0 rfl h dX5_goOnFrom_67 (fun v17 h => ?_)
                    refine lv_iconst (v := (1 : Int32)) hx hb dX5_goOnFrom_68 (by decide) ?_
                    refine lv_iadd hx hb dX5_goOnFrom_69 ?_
                    refine g_ast hx hb hK hG hi hS (k := 13) (n := 1024) (show mIA 13 1024 from by decide +kernel).1.1 (fun f => mIA_e (show mIA 13 1024 from by decide +kernel) f _) 0 rfl h dX5_goOnFrom_70 (fun I18 H locs h hG hS => ?_)
                    refine lv_aload_n hx hb dX5_goOnFrom_71 rfl (lv_at hl 1 rfl) ?_
                    refine g_get hx hb l5 hown hK hG (k := 0) (by decide) (mE_5 _ _) vwCl_5 27 (by decide) k3 (fun _ h9 => h9) rfl dX5_goOnFrom_72 ?_
                    refine lv_aload_n hx hb dX5_goOnFrom_75 rfl (lv_at hl 1 rfl) ?_
                    refine g_get hx hb l5 hown hK hG (k := 0) (by decide) (mE_5 _ _) vwCl_5 28 (by decide) k4 (fun _ h9 => h9) rfl dX5_goOnFrom_76 ?_
                    refine lv_iload hx hb dX5_goOnFrom_79 (lv_at hl 0 rfl) ?_
                    refine g_ast hx hb hK hG hi hS (k := 14) (n := 1024) (show mIA 14 1024 from by decide +kernel).1.1 (fun f => mIA_e (show mIA 14 1024 from by decide +kernel) f _) 0 rfl h dX5_goOnFrom_81 (fun I19 H locs h hG hS => ?_)
                    refine lv_aload_n hx hb dX5_goOnFrom_82 rfl (lv_at hl 1 rfl) ?_
                    refine lv_dup hx hb dX5_goOnFrom_83 rfl ?_
                    refine g_get hx hb l5 hown hK hG (k := 0) (by decide) (mE_5 _ _) vwCl_5 28 (by decide) k4 (fun _ h9 => h9) rfl dX5_goOnFrom_84 ?_
                    refine lv_iconst (v := (1 : Int32)) hx hb dX5_goOnFrom_87 (by decide) ?_
                    refine lv_iadd hx hb dX5_goOnFrom_88 ?_
                    obtain ⟨I20, eI20, h⟩ := obind h
                    refine g_put hx hb l5 tyX5_ok nmX5 hown hK hG hi hS (k := 0) (by decide) (mE_5 _ _) vwCl_5 28 (by decide) k4 (fun _ h9 => h9) rfl rfl (Nat.le_of_ble_eq_true rfl) (by rw [mE_5 _ _]; rfl) dX5_goOnFrom_89 (fun H locs hG hS => ?_)
                    rw [Option.some.inj eI20] at hG
                    refine lv_iinc (v := (x3_7 + (1 : Int32))) (lv' := [(3, .int (x3_7 + (1 : Int32))), (4, .int (X5_behind x1 x2_2 x3_7)), (0, .ref (ad 0)), (1, .int x1), (2, .int x2_2)]) hx hb dX5_goOnFrom_92 hl (k := 4) rfl rfl (by decide) rfl (fun ls hl => ?_)
                    refine lv_goto (tgt := 10) hx hb dX5_goOnFrom_95 (by decide) ?_
                    exact ihn7 (x3_7 + (1 : Int32)) I20 _ _ _ h hG hS (lv_sub hl [2, 3, 4, 0] rfl)
        refine keyK6 _ (fun I9 H locs ls h hG hS hl => ?_) bigF (0 : Int32) I3 _ _ _ h hG hS (lv_sub hl [1, 2, 3, 0] rfl)
        clear keyK6
        refine lv_iinc (v := (x2_2 + (1 : Int32))) (lv' := [(2, .int (x2_2 + (1 : Int32))), (0, .ref (ad 0)), (1, .int x1)]) hx hb dX5_goOnFrom_98 hl (k := 2) rfl rfl (by decide) rfl (fun ls hl => ?_)
        refine lv_goto (tgt := 2) hx hb dX5_goOnFrom_101 (by decide) ?_
        exact ihn2 (x2_2 + (1 : Int32)) I9 _ _ _ h hG hS (lv_sub hl [1, 2, 0] rfl)
  refine keyK1 _ (fun I4 H locs ls h hG hS hl => ?_) bigF (0 : Int32) I _ _ _ h hG hS (lv_sub hl [1, 2, 0] rfl)
  clear keyK1
  have h := Option.some.inj h
  subst h
  subst hQ
  exact g_vret hx hb hr hlocks mZm hK hZ hG hS dX5_goOnFrom_104
def X5_layFar_L1 (x1 : Int32) (x2 : Int32) (K3 : xMem → Option (xMem)) : Nat → Int32 → xMem → Option (xMem)
  | 0, _, _ => none
  | n4 + 1, x3_4, I5 => if (1024 : Int32) ≤ x3_4 then (K3 I5) else ((wrI I5 13 1024 x3_4 (9999 : Int32)).bind fun I8 => if ((1 : Int32) <<< ((I8 0 4) &&& 31)) ≤ (x3_4 >>> ((4 : Int32) &&& 31)) then (X5_layFar_L1 x1 x2 K3 n4 (x3_4 + (1 : Int32)) I8) else (if ((1 : Int32) <<< ((I8 0 2) &&& 31)) ≤ (x3_4 &&& (15 : Int32)) then (X5_layFar_L1 x1 x2 K3 n4 (x3_4 + (1 : Int32)) I8) else (if ((x3_4 >>> ((4 : Int32) &&& 31)) &&& x1) = x2 then ((wrI I8 13 1024 x3_4 (0 : Int32)).bind fun I12 => (wrI I12 14 1024 (I12 0 28) x3_4).bind fun I13 => (some (wr I13 0 28 ((I13 0 28) + (1 : Int32)))).bind fun I14 => X5_layFar_L1 x1 x2 K3 n4 (x3_4 + (1 : Int32)) I14) else (X5_layFar_L1 x1 x2 K3 n4 (x3_4 + (1 : Int32)) I8))))
def X5_layFar_L2 (K15 : xMem → Option (xMem)) : Nat → Int32 → xMem → Option (xMem)
  | 0, _, _ => none
  | n16 + 1, x3_16, I17 => if (I17 0 28) ≤ x3_16 then (K15 I17) else ((rdI I17 14 1024 x3_16).bind fun v20 => (X5_goOnFrom I17 v20).bind fun q21 => X5_layFar_L2 K15 n16 (x3_16 + (1 : Int32)) q21)
def X5_layFar (I : xMem) (x1 : Int32) (x2 : Int32) : Option (xMem) := (X5_layLoads I).bind fun q1 => (some (wr q1 0 28 (0 : Int32))).bind fun I2 => X5_layFar_L1 x1 x2 (fun (I6 : xMem) => X5_layFar_L2 (fun (I18 : xMem) => some I18) bigF (0 : Int32) I6) bigF (0 : Int32) I2
abbrev rm_X5_layFar : Room := { frames := 4, cells := 0, slots := 0, locals := 97 }
theorem cd_X5_layFar : yX5_layFar.cls = RX5 ∧ yX5_layFar.cls ≠ "java/lang/invoke/MethodHandle" ∧ yX5_layFar.cls ≠ "java/lang/invoke/VarHandle" ∧ (parseMethodDescriptor yX5_layFar.desc).map (fun d => d.parameters.length) = some 2 := by decide +kernel
set_option maxHeartbeats 4000000 in
set_option maxRecDepth 100000 in
theorem k_X5_layFar (l : Launch) (D : va_G) (cy : Nat → ClassId) (ad : Nat → Nat) (hi : gInj 18 ad) (I : xMem) (L : xLon) (x1 : Int32) (x2 : Int32) (r : xMem) (h : X5_layFar I x1 x2 = some r) : Met l yX5_layFar wsX5_layFar rm_X5_layFar (va_Pc [.ref (ad 0), .int x1, .int x2] (mW D cy ad I L)) (mPv D cy ad r L) 0 0 (gA 18 ad) := by
  refine g_met (own := RX5) (cc := cX5_layFar) (maxL := 4) (ret := none) (by decide) rfl (Nat.le_of_ble_eq_true rfl) rfl ?_
  intro p e s m args below meth c ls hx hb hml hr hlocks hown hts hG hK hZ hl
  generalize hQ : MQ below _ args s 0 0 _ = Q
  have hl : lv_has ls 4 [(0, .ref (ad 0)), (1, .int x1), (2, .int x2)] := hl
  have hS : va_S (gA 18 ad) s.heap s.heap [] := va_S.rf
  have l5 : ∀ w ∈ wsX50, w.before args s = true := fun w h => hts w (List.mem_cons_of_mem _ (List.mem_append_right _ h))
  have k1 := hts (.fieldLink RX5 254 "PairStairsModel" "lineEnd" "I") (by decide +kernel)
  have k2 := hts (.fieldLink RX5 51 "PairStairsModel" "far" "[I") (by decide +kernel)
  have k3 := hts (.fieldLink RX5 157 "PairStairsModel" "people" "I") (by decide +kernel)
  have k4 := hts (.fieldLink RX5 154 "PairStairsModel" "stoneMany" "I") (by decide +kernel)
  have k5 := hts (.fieldLink RX5 54 "PairStairsModel" "line" "[I") (by decide +kernel)
  unfold X5_layFar at h
  refine lv_aload_n hx hb dX5_layFar_0 rfl (lv_at hl 0 rfl) ?_
  obtain ⟨q1, eq1, h⟩ := obind h
  refine g_endv (va_runV (As := []) (rest := []) ⟨hx, hb, hml, hown, hts⟩ (k_X5_layLoads l D cy ad hi I L q1 eq1) (cwV 0 hts gX5_layFar_X5_layLoads rfl rfl rfl cd_X5_layLoads ⟨Nat.le_of_ble_eq_true rfl, Nat.le_of_ble_eq_true rfl⟩) ⟨g_blind mZm, g_recv hK hG (k := 0) (by decide) (mE_5 _ _) vwCl_5, g_pre mZm hK hG hZ hS⟩ rfl rfl hl.1 rfl (lv_room (Nat.le_of_ble_eq_true rfl)) dX5_layFar_1 ⟨Nat.le_refl _, Nat.le_refl _⟩) hS (fun H locs hG hS => ?_)
  refine lv_aload_n hx hb dX5_layFar_4 rfl (lv_at hl 0 rfl) ?_
  refine lv_iconst (v := (0 : Int32)) hx hb dX5_layFar_5 (by decide) ?_
  obtain ⟨I2, eI2, h⟩ := obind h
  refine g_put hx hb l5 tyX5_ok nmX5 hown hK hG hi hS (k := 0) (by decide) (mE_5 _ _) vwCl_5 28 (by decide) k1 (fun _ h9 => h9) rfl rfl (Nat.le_of_ble_eq_true rfl) (by rw [mE_5 _ _]; rfl) dX5_layFar_6 (fun H locs hG hS => ?_)
  rw [Option.some.inj eI2] at hG
  refine lv_iconst (v := (0 : Int32)) hx hb dX5_layFar_9 (by decide) ?_
  refine lv_istore_n (lv' := [(3, .int (0 : Int32)), (0, .ref (ad 0)), (1, .int x1), (2, .int x2)]) hx hb dX5_layFar_10 rfl hl (by decide) rfl (fun ls hl => ?_)
  have keyK3 : ∀ (K3 : xMem → Option (xMem)), (∀ (I6 : xMem) (H : Heap) (locs : List Loc) (ls : Array Slot), K3 I6 = some r → mG D cy ad I6 L H → va_S (gA 18 ad) s.heap H locs → lv_has ls 4 [(0, .ref (ad 0))] → W p l e rm_X5_layFar s m args below meth c H locs 0 0 Q (F0 m 94 ls [])) → ∀ (n4 : Nat) (x3_4 : Int32) (I5 : xMem) (H : Heap) (locs : List Loc) (ls : Array Slot), X5_layFar_L1 x1 x2 K3 n4 x3_4 I5 = some r → mG D cy ad I5 L H → va_S (gA 18 ad) s.heap H locs → lv_has ls 4 [(0, .ref (ad 0)), (1, .int x1), (2, .int x2), (3, .int x3_4)] → W p l e rm_X5_layFar s m args below meth c H locs 0 0 Q (F0 m 11 ls []) := by
    intro K3 hkK3 n4
    induction n4 with
    | zero =>
      intro x3_4 I5 H locs ls h
      exact ono h
    | succ n4 ihn4 =>
      intro x3_4 I5 H locs ls h hG hS hl
      rw [X5_layFar_L1] at h
      refine lv_iload_n hx hb dX5_layFar_11 rfl (lv_at hl 3 rfl) ?_
      refine lv_sipush (v := (1024 : Int32)) hx hb dX5_layFar_12 (by decide) ?_
      refine lv_icmp_ge (tgt := 94) hx hb dX5_layFar_15 (by decide) (fun c7 => ?_) (fun c7 => ?_)
      · have h := ite_t h c7
        exact hkK3 I5 _ _ _ h hG hS (lv_sub hl [0] rfl)
      · have h := ite_f h c7
        refine lv_aload_n hx hb dX5_layFar_18 rfl (lv_at hl 0 rfl) ?_
        refine g_get hx hb l5 hown hK hG (k := 0) (by decide) (mE_5 _ _) vwCl_5 26 (by decide) k2 (fun _ h9 => h9) rfl dX5_layFar_19 ?_
        refine lv_iload_n hx hb dX5_layFar_22 rfl (lv_at hl 3 rfl) ?_
        refine lv_sipush (v := (9999 : Int32)) hx hb dX5_layFar_23 (by decide) ?_
        refine g_ast hx hb hK hG hi hS (k := 13) (n := 1024) (show mIA 13 1024 from by decide +kernel).1.1 (fun f => mIA_e (show mIA 13 1024 from by decide +kernel) f _) 0 rfl h dX5_layFar_26 (fun I8 H locs h hG hS => ?_)
        refine lv_iload_n hx hb dX5_layFar_27 rfl (lv_at hl 3 rfl) ?_
        refine lv_iconst (v := (4 : Int32)) hx hb dX5_layFar_28 (by decide) ?_
        refine lv_ishr hx hb dX5_layFar_29 ?_
        refine lv_iconst (v := (1 : Int32)) hx hb dX5_layFar_30 (by decide) ?_
        refine lv_aload_n hx hb dX5_layFar_31 rfl (lv_at hl 0 rfl) ?_
        refine g_get hx hb l5 hown hK hG (k := 0) (by decide) (mE_5 _ _) vwCl_5 4 (by decide) k3 (fun _ h9 => h9) rfl dX5_layFar_32 ?_
        refine lv_ishl hx hb dX5_layFar_35 ?_
        refine lv_icmp_ge (tgt := 88) hx hb dX5_layFar_36 (by decide) (fun c9 => ?_) (fun c9 => ?_)
        · have h := ite_t h c9
          refine lv_iinc (v := (x3_4 + (1 : Int32))) (lv' := [(3, .int (x3_4 + (1 : Int32))), (0, .ref (ad 0)), (1, .int x1), (2, .int x2)]) hx hb dX5_layFar_88 hl (k := 3) rfl rfl (by decide) rfl (fun ls hl => ?_)
          refine lv_goto (tgt := 11) hx hb dX5_layFar_91 (by decide) ?_
          exact ihn4 (x3_4 + (1 : Int32)) I8 _ _ _ h hG hS (lv_sub hl [1, 2, 3, 0] rfl)
        · have h := ite_f h c9
          refine lv_iload_n hx hb dX5_layFar_39 rfl (lv_at hl 3 rfl) ?_
          refine lv_bipush (v := (15 : Int32)) hx hb dX5_layFar_40 (by decide) ?_
          refine lv_iand hx hb dX5_layFar_42 ?_
          refine lv_iconst (v := (1 : Int32)) hx hb dX5_layFar_43 (by decide) ?_
          refine lv_aload_n hx hb dX5_layFar_44 rfl (lv_at hl 0 rfl) ?_
          refine g_get hx hb l5 hown hK hG (k := 0) (by decide) (mE_5 _ _) vwCl_5 2 (by decide) k4 (fun _ h9 => h9) rfl dX5_layFar_45 ?_
          refine lv_ishl hx hb dX5_layFar_48 ?_
          refine lv_icmp_ge (tgt := 88) hx hb dX5_layFar_49 (by decide) (fun c10 => ?_) (fun c10 => ?_)
          · have h := ite_t h c10
            refine lv_iinc (v := (x3_4 + (1 : Int32))) (lv' := [(3, .int (x3_4 + (1 : Int32))), (0, .ref (ad 0)), (1, .int x1), (2, .int x2)]) hx hb dX5_layFar_88 hl (k := 3) rfl rfl (by decide) rfl (fun ls hl => ?_)
            refine lv_goto (tgt := 11) hx hb dX5_layFar_91 (by decide) ?_
            exact ihn4 (x3_4 + (1 : Int32)) I8 _ _ _ h hG hS (lv_sub hl [1, 2, 3, 0] rfl)
          · have h := ite_f h c10
            refine lv_iload_n hx hb dX5_layFar_52 rfl (lv_at hl 3 rfl) ?_
            refine lv_iconst (v := (4 : Int32)) hx hb dX5_layFar_53 (by decide) ?_
            refine lv_ishr hx hb dX5_layFar_54 ?_
            refine lv_iload_n hx hb dX5_layFar_55 rfl (lv_at hl 1 rfl) ?_
            refine lv_iand hx hb dX5_layFar_56 ?_
            refine lv_iload_n hx hb dX5_layFar_57 rfl (lv_at hl 2 rfl) ?_
            refine lv_icmp_ne (tgt := 88) hx hb dX5_layFar_58 (by decide) (fun c11 => ?_) (fun c11 => ?_)
            · have h := ite_f h c11
              refine lv_iinc (v := (x3_4 + (1 : Int32))) (lv' := [(3, .int (x3_4 + (1 : Int32))), (0, .ref (ad 0)), (1, .int x1), (2, .int x2)]) hx hb dX5_layFar_88 hl (k := 3) rfl rfl (by decide) rfl (fun ls hl => ?_)
              refine lv_goto (tgt := 11) hx hb dX5_layFar_91 (by decide) ?_
              exact ihn4 (x3_4 + (1 : Int32)) I8 _ _ _ h hG hS (lv_sub hl [1, 2, 3, 0] rfl)
            · have h := ite_t h c11
              refine lv_aload_n hx hb dX5_layFar_61 rfl (lv_at hl 0 rfl) ?_
              refine g_get hx hb l5 hown hK hG (k := 0) (by decide) (mE_5 _ _) vwCl_5 26 (by decide) k2 (fun _ h9 => h9) rfl dX5_layFar_62 ?_
              refine lv_iload_n hx hb dX5_layFar_65 rfl (lv_at hl 3 rfl) ?_
              refine lv_iconst (v := (0 : Int32)) hx hb dX5_layFar_66 (by decide) ?_
              refine g_ast hx hb hK hG hi hS (k := 13) (n := 1024) (show mIA 13 1024 from by decide +kernel).1.1 (fun f => mIA_e (show mIA 13 1024 from by decide +kernel) f _) 0 rfl h dX5_layFar_67 (fun I12 H locs h hG hS => ?_)
              refine lv_aload_n hx hb dX5_layFar_68 rfl (lv_at hl 0 rfl) ?_
              refine g_get hx hb l5 hown hK hG (k := 0) (by decide) (mE_5 _ _) vwCl_5 27 (by decide) k5 (fun _ h9 => h9) rfl dX5_layFar_69 ?_
              refine lv_aload_n hx hb dX5_layFar_72 rfl (lv_at hl 0 rfl) ?_
              refine g_get hx hb l5 hown hK hG (k := 0) (by decide) (mE_5 _ _) vwCl_5 28 (by decide) k1 (fun _ h9 => h9) rfl dX5_layFar_73 ?_
              refine lv_iload_n hx hb dX5_layFar_76 rfl (lv_at hl 3 rfl) ?_
              refine g_ast hx hb hK hG hi hS (k := 14) (n := 1024) (show mIA 14 1024 from by decide +kernel).1.1 (fun f => mIA_e (show mIA 14 1024 from by decide +kernel) f _) 0 rfl h dX5_layFar_77 (fun I13 H locs h hG hS => ?_)
              refine lv_aload_n hx hb dX5_layFar_78 rfl (lv_at hl 0 rfl) ?_
              refine lv_dup hx hb dX5_layFar_79 rfl ?_
              refine g_get hx hb l5 hown hK hG (k := 0) (by decide) (mE_5 _ _) vwCl_5 28 (by decide) k1 (fun _ h9 => h9) rfl dX5_layFar_80 ?_
              refine lv_iconst (v := (1 : Int32)) hx hb dX5_layFar_83 (by decide) ?_
              refine lv_iadd hx hb dX5_layFar_84 ?_
              obtain ⟨I14, eI14, h⟩ := obind h
              refine g_put hx hb l5 tyX5_ok nmX5 hown hK hG hi hS (k := 0) (by decide) (mE_5 _ _) vwCl_5 28 (by decide) k1 (fun _ h9 => h9) rfl rfl (Nat.le_of_ble_eq_true rfl) (by rw [mE_5 _ _]; rfl) dX5_layFar_85 (fun H locs hG hS => ?_)
              rw [Option.some.inj eI14] at hG
              refine lv_iinc (v := (x3_4 + (1 : Int32))) (lv' := [(3, .int (x3_4 + (1 : Int32))), (0, .ref (ad 0)), (1, .int x1), (2, .int x2)]) hx hb dX5_layFar_88 hl (k := 3) rfl rfl (by decide) rfl (fun ls hl => ?_)
              refine lv_goto (tgt := 11) hx hb dX5_layFar_91 (by decide) ?_
              exact ihn4 (x3_4 + (1 : Int32)) I14 _ _ _ h hG hS (lv_sub hl [1, 2, 3, 0] rfl)
  refine keyK3 _ (fun I6 H locs ls h hG hS hl => ?_) bigF (0 : Int32) I2 _ _ _ h hG hS (lv_sub hl [1, 2, 3, 0] rfl)
  clear keyK3
  refine lv_iconst (v := (0 : Int32)) hx hb dX5_layFar_94 (by decide) ?_
  refine lv_istore_n (lv' := [(3, .int (0 : Int32)), (0, .ref (ad 0))]) hx hb dX5_layFar_95 rfl hl (by decide) rfl (fun ls hl => ?_)
  have keyK15 : ∀ (K15 : xMem → Option (xMem)), (∀ (I18 : xMem) (H : Heap) (locs : List Loc) (ls : Array Slot), K15 I18 = some r → mG D cy ad I18 L H → va_S (gA 18 ad) s.heap H locs → lv_has ls 4 [] → W p l e rm_X5_layFar s m args below meth c H locs 0 0 Q (F0 m 120 ls [])) → ∀ (n16 : Nat) (x3_16 : Int32) (I17 : xMem) (H : Heap) (locs : List Loc) (ls : Array Slot), X5_layFar_L2 K15 n16 x3_16 I17 = some r → mG D cy ad I17 L H → va_S (gA 18 ad) s.heap H locs → lv_has ls 4 [(0, .ref (ad 0)), (3, .int x3_16)] → W p l e rm_X5_layFar s m args below meth c H locs 0 0 Q (F0 m 96 ls []) := by
    intro K15 hkK15 n16
    induction n16 with
    | zero =>
      intro x3_16 I17 H locs ls h
      exact ono h
    | succ n16 ihn16 =>
      intro x3_16 I17 H locs ls h hG hS hl
      rw [X5_layFar_L2] at h
      refine lv_iload_n hx hb dX5_layFar_96 rfl (lv_at hl 1 rfl) ?_
      refine lv_aload_n hx hb dX5_layFar_97 rfl (lv_at hl 0 rfl) ?_
      refine g_get hx hb l5 hown hK hG (k := 0) (by decide) (mE_5 _ _) vwCl_5 28 (by decide) k1 (fun _ h9 => h9) rfl dX5_layFar_98 ?_
      refine lv_icmp_ge (tgt := 120) hx hb dX5_layFar_101 (by decide) (fun c19 => ?_) (fun c19 => ?_)
      · have h := ite_t h c19
        exact hkK15 I17 _ _ _ h hG hS (lv_sub hl [] rfl)
      · have h := ite_f h c19
        refine lv_aload_n hx hb dX5_layFar_104 rfl (lv_at hl 0 rfl) ?_
        refine lv_aload_n hx hb dX5_layFar_105 rfl (lv_at hl 0 rfl) ?_
        refine g_get hx hb l5 hown hK hG (k := 0) (by decide) (mE_5 _ _) vwCl_5 27 (by decide) k5 (fun _ h9 => h9) rfl dX5_layFar_106 ?_
        refine lv_iload_n hx hb dX5_layFar_109 rfl (lv_at hl 1 rfl) ?_
        refine g_ald hx hb hK hG (k := 14) (n := 1024) (show mIA 14 1024 from by decide +kernel).1.1 (mIA_e (show mIA 14 1024 from by decide +kernel) _ _) 0 rfl h dX5_layFar_110 (fun v20 h => ?_)
        obtain ⟨q21, eq21, h⟩ := obind h
        refine g_endv (va_runV (As := [.int v20]) (rest := []) ⟨hx, hb, hml, hown, hts⟩ (k_X5_goOnFrom l D cy ad hi I17 L v20 q21 eq21) (cwV 1 hts gX5_layFar_X5_goOnFrom rfl rfl rfl cd_X5_goOnFrom ⟨Nat.le_of_ble_eq_true rfl, Nat.le_of_ble_eq_true rfl⟩) ⟨g_blind mZm, g_recv hK hG (k := 0) (by decide) (mE_5 _ _) vwCl_5, g_pre mZm hK hG hZ hS⟩ rfl rfl hl.1 rfl (lv_room (Nat.le_of_ble_eq_true rfl)) dX5_layFar_111 ⟨Nat.le_refl _, Nat.le_refl _⟩) hS (fun H locs hG hS => ?_)
        refine lv_iinc (v := (x3_16 + (1 : Int32))) (lv' := [(3, .int (x3_16 + (1 : Int32))), (0, .ref (ad 0))]) hx hb dX5_layFar_114 hl (k := 1) rfl rfl (by decide) rfl (fun ls hl => ?_)
        refine lv_goto (tgt := 96) hx hb dX5_layFar_117 (by decide) ?_
        exact ihn16 (x3_16 + (1 : Int32)) q21 _ _ _ h hG hS (lv_sub hl [1, 0] rfl)
  refine keyK15 _ (fun I18 H locs ls h hG hS hl => ?_) bigF (0 : Int32) I6 _ _ _ h hG hS (lv_sub hl [1, 0] rfl)
  clear keyK15
  have h := Option.some.inj h
  subst h
  subst hQ
  exact g_vret hx hb hr hlocks mZm hK hZ hG hS dX5_layFar_120
def X5_fewestGoes_L2 (v1 : Int32) (v2 : Int32) (x4_8 : Int32) (K12 : xMem → Option (Int32 × xMem)) : Nat → Int32 → xMem → Option (Int32 × xMem)
  | 0, _, _ => none
  | n13 + 1, x5_13, I14 => if (16 : Int32) ≤ x5_13 then (K12 I14) else ((X5_mayGo I14 (((16 : Int32) * v1) + v2) x4_8 x5_13).bind fun v17 => if v17 = (0 : Int32) then ((some (wr I14 0 11 (I14 0 11))).bind fun I19 => X5_fewestGoes_L2 v1 v2 x4_8 K12 n13 (x5_13 + (1 : Int32)) I19) else ((rdI I14 13 1024 (X5_behind (((16 : Int32) * v1) + v2) x4_8 x5_13)).bind fun v20 => (rdI I14 13 1024 (((16 : Int32) * v1) + v2)).bind fun v21 => if v20 = (v21 - (1 : Int32)) then ((some (wr I14 0 11 x4_8)).bind fun I24 => X5_fewestGoes_L2 v1 v2 x4_8 K12 n13 (x5_13 + (1 : Int32)) I24) else ((some (wr I14 0 11 (I14 0 11))).bind fun I23 => X5_fewestGoes_L2 v1 v2 x4_8 K12 n13 (x5_13 + (1 : Int32)) I23)))
def X5_fewestGoes_L1 (v1 : Int32) (v2 : Int32) (K7 : xMem → Option (Int32 × xMem)) : Nat → Int32 → xMem → Option (Int32 × xMem)
  | 0, _, _ => none
  | n8 + 1, x4_8, I9 => if x4_8 < (0 : Int32) then (K7 I9) else (X5_fewestGoes_L2 v1 v2 x4_8 (fun (I15 : xMem) => X5_fewestGoes_L1 v1 v2 K7 n8 (x4_8 + (-1 : Int32)) I15) bigF (0 : Int32) I9)
def X5_fewestGoes (I : xMem) (x1 : Int32) (x2 : Int32) : Option (Int32 × xMem) := (rdI I 1 660 (2 : Int32)).bind fun v1 => (rdI I 1 660 (3 : Int32)).bind fun v2 => (X5_layFar I x1 x2).bind fun q3 => (rdI q3 13 1024 (((16 : Int32) * v1) + v2)).bind fun v4 => if v4 = (9999 : Int32) then (some ((-9 : Int32), q3)) else ((some (wr q3 0 11 (-9 : Int32))).bind fun I6 => X5_fewestGoes_L1 v1 v2 (fun (I10 : xMem) => (rdI I10 13 1024 (((16 : Int32) * v1) + v2)).bind fun v25 => some (v25, I10)) bigF (35 : Int32) I6)
abbrev rm_X5_fewestGoes : Room := { frames := 5, cells := 0, slots := 0, locals := 120 }
theorem cd_X5_fewestGoes : yX5_fewestGoes.cls = RX5 ∧ yX5_fewestGoes.cls ≠ "java/lang/invoke/MethodHandle" ∧ yX5_fewestGoes.cls ≠ "java/lang/invoke/VarHandle" ∧ (parseMethodDescriptor yX5_fewestGoes.desc).map (fun d => d.parameters.length) = some 2 := by decide +kernel
set_option maxHeartbeats 4000000 in
set_option maxRecDepth 100000 in
theorem k_X5_fewestGoes (l : Launch) (D : va_G) (cy : Nat → ClassId) (ad : Nat → Nat) (hi : gInj 18 ad) (I : xMem) (L : xLon) (x1 : Int32) (x2 : Int32) (r : Int32 × xMem) (h : X5_fewestGoes I x1 x2 = some r) : Met l yX5_fewestGoes wsX5_fewestGoes rm_X5_fewestGoes (va_Pc [.ref (ad 0), .int x1, .int x2] (mW D cy ad I L)) (mPi D cy ad r.2 L r.1) 0 0 (gA 18 ad) := by
  refine g_met (own := RX5) (cc := cX5_fewestGoes) (maxL := 6) (ret := (some .int)) (by decide) rfl (Nat.le_of_ble_eq_true rfl) rfl ?_
  intro p e s m args below meth c ls hx hb hml hr hlocks hown hts hG hK hZ hl
  generalize hQ : MQ below _ args s 0 0 _ = Q
  have hl : lv_has ls 6 [(0, .ref (ad 0)), (1, .int x1), (2, .int x2)] := hl
  have hS : va_S (gA 18 ad) s.heap s.heap [] := va_S.rf
  have l5 : ∀ w ∈ wsX50, w.before args s = true := fun w h => hts w (List.mem_cons_of_mem _ (List.mem_append_right _ h))
  have k1 := hts (.fieldLink RX5 7 "PairStairsModel" "row" "[I") (by decide +kernel)
  have k2 := hts (.fieldLink RX5 51 "PairStairsModel" "far" "[I") (by decide +kernel)
  have k3 := hts (.fieldLink RX5 70 "PairStairsModel" "asked" "I") (by decide +kernel)
  unfold X5_fewestGoes at h
  refine lv_bipush (v := (16 : Int32)) hx hb dX5_fewestGoes_0 (by decide) ?_
  refine lv_aload_n hx hb dX5_fewestGoes_2 rfl (lv_at hl 0 rfl) ?_
  refine g_get hx hb l5 hown hK hG (k := 0) (by decide) (mE_5 _ _) vwCl_5 0 (by decide) k1 (fun _ h9 => h9) rfl dX5_fewestGoes_3 ?_
  refine lv_iconst (v := (2 : Int32)) hx hb dX5_fewestGoes_6 (by decide) ?_
  refine g_ald hx hb hK hG (k := 1) (n := 660) (show mIA 1 660 from by decide +kernel).1.1 (mIA_e (show mIA 1 660 from by decide +kernel) _ _) 0 rfl h dX5_fewestGoes_7 (fun v1 h => ?_)
  refine lv_imul hx hb dX5_fewestGoes_8 ?_
  refine lv_aload_n hx hb dX5_fewestGoes_9 rfl (lv_at hl 0 rfl) ?_
  refine g_get hx hb l5 hown hK hG (k := 0) (by decide) (mE_5 _ _) vwCl_5 0 (by decide) k1 (fun _ h9 => h9) rfl dX5_fewestGoes_10 ?_
  refine lv_iconst (v := (3 : Int32)) hx hb dX5_fewestGoes_13 (by decide) ?_
  refine g_ald hx hb hK hG (k := 1) (n := 660) (show mIA 1 660 from by decide +kernel).1.1 (mIA_e (show mIA 1 660 from by decide +kernel) _ _) 0 rfl h dX5_fewestGoes_14 (fun v2 h => ?_)
  refine lv_iadd hx hb dX5_fewestGoes_15 ?_
  refine lv_istore_n (lv' := [(3, .int (((16 : Int32) * v1) + v2)), (0, .ref (ad 0)), (1, .int x1), (2, .int x2)]) hx hb dX5_fewestGoes_16 rfl hl (by decide) rfl (fun ls hl => ?_)
  refine lv_aload_n hx hb dX5_fewestGoes_17 rfl (lv_at hl 1 rfl) ?_
  refine lv_iload_n hx hb dX5_fewestGoes_18 rfl (lv_at hl 2 rfl) ?_
  refine lv_iload_n hx hb dX5_fewestGoes_19 rfl (lv_at hl 3 rfl) ?_
  obtain ⟨q3, eq3, h⟩ := obind h
  refine g_endv (va_runV (As := [.int x1, .int x2]) (rest := []) ⟨hx, hb, hml, hown, hts⟩ (k_X5_layFar l D cy ad hi I L x1 x2 q3 eq3) (cwV 2 hts gX5_fewestGoes_X5_layFar rfl rfl rfl cd_X5_layFar ⟨Nat.le_of_ble_eq_true rfl, Nat.le_of_ble_eq_true rfl⟩) ⟨g_blind mZm, g_recv hK hG (k := 0) (by decide) (mE_5 _ _) vwCl_5, g_pre mZm hK hG hZ hS⟩ rfl rfl hl.1 rfl (lv_room (Nat.le_of_ble_eq_true rfl)) dX5_fewestGoes_20 ⟨Nat.le_refl _, Nat.le_refl _⟩) hS (fun H locs hG hS => ?_)
  refine lv_aload_n hx hb dX5_fewestGoes_23 rfl (lv_at hl 1 rfl) ?_
  refine g_get hx hb l5 hown hK hG (k := 0) (by decide) (mE_5 _ _) vwCl_5 26 (by decide) k2 (fun _ h9 => h9) rfl dX5_fewestGoes_24 ?_
  refine lv_iload_n hx hb dX5_fewestGoes_27 rfl (lv_at hl 0 rfl) ?_
  refine g_ald hx hb hK hG (k := 13) (n := 1024) (show mIA 13 1024 from by decide +kernel).1.1 (mIA_e (show mIA 13 1024 from by decide +kernel) _ _) 0 rfl h dX5_fewestGoes_28 (fun v4 h => ?_)
  refine lv_sipush (v := (9999 : Int32)) hx hb dX5_fewestGoes_29 (by decide) ?_
  refine lv_icmp_ne (tgt := 38) hx hb dX5_fewestGoes_32 (by decide) (fun c5 => ?_) (fun c5 => ?_)
  · have h := ite_f h c5
    refine lv_aload_n hx hb dX5_fewestGoes_38 rfl (lv_at hl 1 rfl) ?_
    refine lv_bipush (v := (-9 : Int32)) hx hb dX5_fewestGoes_39 (by decide) ?_
    obtain ⟨I6, eI6, h⟩ := obind h
    refine g_put hx hb l5 tyX5_ok nmX5 hown hK hG hi hS (k := 0) (by decide) (mE_5 _ _) vwCl_5 11 (by decide) k3 (fun _ h9 => h9) rfl rfl (Nat.le_of_ble_eq_true rfl) (by rw [mE_5 _ _]; rfl) dX5_fewestGoes_41 (fun H locs hG hS => ?_)
    rw [Option.some.inj eI6] at hG
    refine lv_bipush (v := (35 : Int32)) hx hb dX5_fewestGoes_44 (by decide) ?_
    refine lv_istore (lv' := [(4, .int (35 : Int32)), (3, .int (((16 : Int32) * v1) + v2)), (0, .ref (ad 0)), (1, .int x1), (2, .int x2)]) hx hb dX5_fewestGoes_46 hl (by decide) rfl (fun ls hl => ?_)
    have keyK7 : ∀ (K7 : xMem → Option (Int32 × xMem)), (∀ (I10 : xMem) (H : Heap) (locs : List Loc) (ls : Array Slot), K7 I10 = some r → mG D cy ad I10 L H → va_S (gA 18 ad) s.heap H locs → lv_has ls 6 [(0, .ref (ad 0)), (3, .int (((16 : Int32) * v1) + v2))] → W p l e rm_X5_fewestGoes s m args below meth c H locs 0 0 Q (F0 m 124 ls [])) → ∀ (n8 : Nat) (x4_8 : Int32) (I9 : xMem) (H : Heap) (locs : List Loc) (ls : Array Slot), X5_fewestGoes_L1 v1 v2 K7 n8 x4_8 I9 = some r → mG D cy ad I9 L H → va_S (gA 18 ad) s.heap H locs → lv_has ls 6 [(0, .ref (ad 0)), (3, .int (((16 : Int32) * v1) + v2)), (4, .int x4_8)] → W p l e rm_X5_fewestGoes s m args below meth c H locs 0 0 Q (F0 m 48 ls []) := by
      intro K7 hkK7 n8
      induction n8 with
      | zero =>
        intro x4_8 I9 H locs ls h
        exact ono h
      | succ n8 ihn8 =>
        intro x4_8 I9 H locs ls h hG hS hl
        rw [X5_fewestGoes_L1] at h
        refine lv_iload hx hb dX5_fewestGoes_48 (lv_at hl 2 rfl) ?_
        refine lv_if_lt (tgt := 124) hx hb dX5_fewestGoes_50 (by decide) (fun c11 => ?_) (fun c11 => ?_)
        · have h := ite_t h c11
          exact hkK7 I9 _ _ _ h hG hS (lv_sub hl [0, 1] rfl)
        · have h := ite_f h c11
          refine lv_iconst (v := (0 : Int32)) hx hb dX5_fewestGoes_53 (by decide) ?_
          refine lv_istore (lv' := [(5, .int (0 : Int32)), (0, .ref (ad 0)), (3, .int (((16 : Int32) * v1) + v2)), (4, .int x4_8)]) hx hb dX5_fewestGoes_54 hl (by decide) rfl (fun ls hl => ?_)
          have keyK12 : ∀ (K12 : xMem → Option (Int32 × xMem)), (∀ (I15 : xMem) (H : Heap) (locs : List Loc) (ls : Array Slot), K12 I15 = some r → mG D cy ad I15 L H → va_S (gA 18 ad) s.heap H locs → lv_has ls 6 [(0, .ref (ad 0)), (3, .int (((16 : Int32) * v1) + v2)), (4, .int x4_8)] → W p l e rm_X5_fewestGoes s m args below meth c H locs 0 0 Q (F0 m 118 ls [])) → ∀ (n13 : Nat) (x5_13 : Int32) (I14 : xMem) (H : Heap) (locs : List Loc) (ls : Array Slot), X5_fewestGoes_L2 v1 v2 x4_8 K12 n13 x5_13 I14 = some r → mG D cy ad I14 L H → va_S (gA 18 ad) s.heap H locs → lv_has ls 6 [(0, .ref (ad 0)), (3, .int (((16 : Int32) * v1) + v2)), (4, .int x4_8), (5, .int x5_13)] → W p l e rm_X5_fewestGoes s m args below meth c H locs 0 0 Q (F0 m 56 ls []) := by
            intro K12 hkK12 n13
            induction n13 with
            | zero =>
              intro x5_13 I14 H locs ls h
              exact ono h
            | succ n13 ihn13 =>
              intro x5_13 I14 H locs ls h hG hS hl
              rw [X5_fewestGoes_L2] at h
              refine lv_iload hx hb dX5_fewestGoes_56 (lv_at hl 3 rfl) ?_
              refine lv_bipush (v := (16 : Int32)) hx hb dX5_fewestGoes_58 (by decide) ?_
              refine lv_icmp_ge (tgt := 118) hx hb dX5_fewestGoes_60 (by decide) (fun c16 => ?_) (fun c16 => ?_)
              · have h := ite_t h c16
                exact hkK12 I14 _ _ _ h hG hS (lv_sub hl [0, 1, 2] rfl)
              · have h := ite_f h c16
                refine lv_aload_n hx hb dX5_fewestGoes_63 rfl (lv_at hl 0 rfl) ?_
                refine lv_aload_n hx hb dX5_fewestGoes_64 rfl (lv_at hl 0 rfl) ?_
                refine lv_iload_n hx hb dX5_fewestGoes_65 rfl (lv_at hl 1 rfl) ?_
                refine lv_iload hx hb dX5_fewestGoes_66 (lv_at hl 2 rfl) ?_
                refine lv_iload hx hb dX5_fewestGoes_68 (lv_at hl 3 rfl) ?_
                obtain ⟨v17, ev17, h⟩ := obind h
                refine g_endi (va_runV (As := [.int (((16 : Int32) * v1) + v2), .int x4_8, .int x5_13]) (rest := [.ref (ad 0)]) ⟨hx, hb, hml, hown, hts⟩ (k_X5_mayGo l D cy ad hi I14 L (((16 : Int32) * v1) + v2) x4_8 x5_13 v17 ev17) (cwV 3 hts gX5_fewestGoes_X5_mayGo rfl rfl rfl cd_X5_mayGo ⟨Nat.le_of_ble_eq_true rfl, Nat.le_of_ble_eq_true rfl⟩) ⟨g_blind mZm, g_recv hK hG (k := 0) (by decide) (mE_5 _ _) vwCl_5, g_pre mZm hK hG hZ hS⟩ rfl rfl hl.1 rfl (lv_room (Nat.le_of_ble_eq_true rfl)) dX5_fewestGoes_70 ⟨Nat.le_refl _, Nat.le_refl _⟩) hS (fun H locs hG hS => ?_)
                refine lv_if_eq (tgt := 105) hx hb dX5_fewestGoes_73 (by decide) (fun c18 => ?_) (fun c18 => ?_)
                · have h := ite_t h c18
                  refine lv_aload_n hx hb dX5_fewestGoes_105 rfl (lv_at hl 0 rfl) ?_
                  refine g_get hx hb l5 hown hK hG (k := 0) (by decide) (mE_5 _ _) vwCl_5 11 (by decide) k3 (fun _ h9 => h9) rfl dX5_fewestGoes_106 ?_
                  obtain ⟨I19, eI19, h⟩ := obind h
                  refine g_put hx hb l5 tyX5_ok nmX5 hown hK hG hi hS (k := 0) (by decide) (mE_5 _ _) vwCl_5 11 (by decide) k3 (fun _ h9 => h9) rfl rfl (Nat.le_of_ble_eq_true rfl) (by rw [mE_5 _ _]; rfl) dX5_fewestGoes_109 (fun H locs hG hS => ?_)
                  rw [Option.some.inj eI19] at hG
                  refine lv_iinc (v := (x5_13 + (1 : Int32))) (lv' := [(5, .int (x5_13 + (1 : Int32))), (0, .ref (ad 0)), (3, .int (((16 : Int32) * v1) + v2)), (4, .int x4_8)]) hx hb dX5_fewestGoes_112 hl (k := 3) rfl rfl (by decide) rfl (fun ls hl => ?_)
                  refine lv_goto (tgt := 56) hx hb dX5_fewestGoes_115 (by decide) ?_
                  exact ihn13 (x5_13 + (1 : Int32)) I19 _ _ _ h hG hS (lv_sub hl [1, 2, 3, 0] rfl)
                · have h := ite_f h c18
                  refine lv_aload_n hx hb dX5_fewestGoes_76 rfl (lv_at hl 0 rfl) ?_
                  refine g_get hx hb l5 hown hK hG (k := 0) (by decide) (mE_5 _ _) vwCl_5 26 (by decide) k2 (fun _ h9 => h9) rfl dX5_fewestGoes_77 ?_
                  refine lv_iload_n hx hb dX5_fewestGoes_80 rfl (lv_at hl 1 rfl) ?_
                  refine lv_iload hx hb dX5_fewestGoes_81 (lv_at hl 2 rfl) ?_
                  refine lv_iload hx hb dX5_fewestGoes_83 (lv_at hl 3 rfl) ?_
                  refine g_endi (va_runS (As := [.int (((16 : Int32) * v1) + v2), .int x4_8, .int x5_13]) (rest := [.ref (ad 13), .ref (ad 0)]) ⟨hx, hb, hml, hown, hts⟩ (k_X5_behind l D cy ad hi I14 L (((16 : Int32) * v1) + v2) x4_8 x5_13 _ rfl) (va_cwS 3 hts gX5_fewestGoes_X5_behind rfl rfl rfl cd_X5_behind.2 ⟨Nat.le_of_ble_eq_true rfl, Nat.le_of_ble_eq_true rfl⟩) ⟨g_blind mZm, g_pre mZm hK hG hZ hS⟩ rfl rfl hl.1 rfl (lv_room (Nat.le_of_ble_eq_true rfl)) dX5_fewestGoes_85 ⟨Nat.le_refl _, Nat.le_refl _⟩) hS (fun H locs hG hS => ?_)
                  refine g_ald hx hb hK hG (k := 13) (n := 1024) (show mIA 13 1024 from by decide +kernel).1.1 (mIA_e (show mIA 13 1024 from by decide +kernel) _ _) 0 rfl h dX5_fewestGoes_88 (fun v20 h => ?_)
                  refine lv_aload_n hx hb dX5_fewestGoes_89 rfl (lv_at hl 0 rfl) ?_
                  refine g_get hx hb l5 hown hK hG (k := 0) (by decide) (mE_5 _ _) vwCl_5 26 (by decide) k2 (fun _ h9 => h9) rfl dX5_fewestGoes_90 ?_
                  refine lv_iload_n hx hb dX5_fewestGoes_93 rfl (lv_at hl 1 rfl) ?_
                  refine g_ald hx hb hK hG (k := 13) (n := 1024) (show mIA 13 1024 from by decide +kernel).1.1 (mIA_e (show mIA 13 1024 from by decide +kernel) _ _) 0 rfl h dX5_fewestGoes_94 (fun v21 h => ?_)
                  refine lv_iconst (v := (1 : Int32)) hx hb dX5_fewestGoes_95 (by decide) ?_
                  refine lv_isub hx hb dX5_fewestGoes_96 ?_
                  refine lv_icmp_ne (tgt := 105) hx hb dX5_fewestGoes_97 (by decide) (fun c22 => ?_) (fun c22 => ?_)
                  · have h := ite_f h c22
                    refine lv_aload_n hx hb dX5_fewestGoes_105 rfl (lv_at hl 0 rfl) ?_
                    refine g_get hx hb l5 hown hK hG (k := 0) (by decide) (mE_5 _ _) vwCl_5 11 (by decide) k3 (fun _ h9 => h9) rfl dX5_fewestGoes_106 ?_
                    obtain ⟨I23, eI23, h⟩ := obind h
                    refine g_put hx hb l5 tyX5_ok nmX5 hown hK hG hi hS (k := 0) (by decide) (mE_5 _ _) vwCl_5 11 (by decide) k3 (fun _ h9 => h9) rfl rfl (Nat.le_of_ble_eq_true rfl) (by rw [mE_5 _ _]; rfl) dX5_fewestGoes_109 (fun H locs hG hS => ?_)
                    rw [Option.some.inj eI23] at hG
                    refine lv_iinc (v := (x5_13 + (1 : Int32))) (lv' := [(5, .int (x5_13 + (1 : Int32))), (0, .ref (ad 0)), (3, .int (((16 : Int32) * v1) + v2)), (4, .int x4_8)]) hx hb dX5_fewestGoes_112 hl (k := 3) rfl rfl (by decide) rfl (fun ls hl => ?_)
                    refine lv_goto (tgt := 56) hx hb dX5_fewestGoes_115 (by decide) ?_
                    exact ihn13 (x5_13 + (1 : Int32)) I23 _ _ _ h hG hS (lv_sub hl [1, 2, 3, 0] rfl)
                  · have h := ite_t h c22
                    refine lv_iload hx hb dX5_fewestGoes_100 (lv_at hl 2 rfl) ?_
                    refine lv_goto (tgt := 109) hx hb dX5_fewestGoes_102 (by decide) ?_
                    obtain ⟨I24, eI24, h⟩ := obind h
                    refine g_put hx hb l5 tyX5_ok nmX5 hown hK hG hi hS (k := 0) (by decide) (mE_5 _ _) vwCl_5 11 (by decide) k3 (fun _ h9 => h9) rfl rfl (Nat.le_of_ble_eq_true rfl) (by rw [mE_5 _ _]; rfl) dX5_fewestGoes_109 (fun H locs hG hS => ?_)
                    rw [Option.some.inj eI24] at hG
                    refine lv_iinc (v := (x5_13 + (1 : Int32))) (lv' := [(5, .int (x5_13 + (1 : Int32))), (0, .ref (ad 0)), (3, .int (((16 : Int32) * v1) + v2)), (4, .int x4_8)]) hx hb dX5_fewestGoes_112 hl (k := 3) rfl rfl (by decide) rfl (fun ls hl => ?_)
                    refine lv_goto (tgt := 56) hx hb dX5_fewestGoes_115 (by decide) ?_
                    exact ihn13 (x5_13 + (1 : Int32)) I24 _ _ _ h hG hS (lv_sub hl [1, 2, 3, 0] rfl)
          refine keyK12 _ (fun I15 H locs ls h hG hS hl => ?_) bigF (0 : Int32) I9 _ _ _ h hG hS (lv_sub hl [1, 2, 3, 0] rfl)
          clear keyK12
          refine lv_iinc (v := (x4_8 + (-1 : Int32))) (lv' := [(4, .int (x4_8 + (-1 : Int32))), (0, .ref (ad 0)), (3, .int (((16 : Int32) * v1) + v2))]) hx hb dX5_fewestGoes_118 hl (k := 2) rfl rfl (by decide) rfl (fun ls hl => ?_)
          refine lv_goto (tgt := 48) hx hb dX5_fewestGoes_121 (by decide) ?_
          exact ihn8 (x4_8 + (-1 : Int32)) I15 _ _ _ h hG hS (lv_sub hl [1, 2, 0] rfl)
    refine keyK7 _ (fun I10 H locs ls h hG hS hl => ?_) bigF (35 : Int32) I6 _ _ _ h hG hS (lv_sub hl [2, 1, 0] rfl)
    clear keyK7
    refine lv_aload_n hx hb dX5_fewestGoes_124 rfl (lv_at hl 0 rfl) ?_
    refine g_get hx hb l5 hown hK hG (k := 0) (by decide) (mE_5 _ _) vwCl_5 26 (by decide) k2 (fun _ h9 => h9) rfl dX5_fewestGoes_125 ?_
    refine lv_iload_n hx hb dX5_fewestGoes_128 rfl (lv_at hl 1 rfl) ?_
    refine g_ald hx hb hK hG (k := 13) (n := 1024) (show mIA 13 1024 from by decide +kernel).1.1 (mIA_e (show mIA 13 1024 from by decide +kernel) _ _) 0 rfl h dX5_fewestGoes_129 (fun v25 h => ?_)
    have h := Option.some.inj h
    subst h
    subst hQ
    exact g_iret hx hb hr hlocks mZm hK hZ hG hS rfl dX5_fewestGoes_130
  · have h := ite_t h c5
    refine lv_bipush (v := (-9 : Int32)) hx hb dX5_fewestGoes_35 (by decide) ?_
    have h := Option.some.inj h
    subst h
    subst hQ
    exact g_iret hx hb hr hlocks mZm hK hZ hG hS rfl dX5_fewestGoes_37
def X5_areOnes (I : xMem) (x1 : Int32) : Int32 := (nz (X5_in x1.toInt64 (0 : Int64) ((((1 : Int32) <<< ((I 0 4) &&& 31)) - (1 : Int32)).toInt64)))
abbrev rm_X5_areOnes : Room := { frames := 1, cells := 0, slots := 0, locals := 25 }
theorem cd_X5_areOnes : yX5_areOnes.cls = RX5 ∧ yX5_areOnes.cls ≠ "java/lang/invoke/MethodHandle" ∧ yX5_areOnes.cls ≠ "java/lang/invoke/VarHandle" ∧ (parseMethodDescriptor yX5_areOnes.desc).map (fun d => d.parameters.length) = some 1 := by decide +kernel
set_option maxHeartbeats 4000000 in
set_option maxRecDepth 100000 in
theorem k_X5_areOnes (l : Launch) (D : va_G) (cy : Nat → ClassId) (ad : Nat → Nat) (hi : gInj 18 ad) (I : xMem) (L : xLon) (x1 : Int32) (r : Int32) (h : X5_areOnes I x1 = r) : Met l yX5_areOnes wsX5_areOnes rm_X5_areOnes (va_Pc [.ref (ad 0), .int x1] (mW D cy ad I L)) (mPi D cy ad I L r) 0 0 (gA 18 ad) := by
  refine g_met (own := RX5) (cc := cX5_areOnes) (maxL := 2) (ret := (some .boolean)) (by decide) rfl (Nat.le_of_ble_eq_true rfl) rfl ?_
  intro p e s m args below meth c ls hx hb hml hr hlocks hown hts hG hK hZ hl
  generalize hQ : MQ below _ args s 0 0 _ = Q
  have hl : lv_has ls 2 [(0, .ref (ad 0)), (1, .int x1)] := hl
  have hS : va_S (gA 18 ad) s.heap s.heap [] := va_S.rf
  have l5 : ∀ w ∈ wsX50, w.before args s = true := fun w h => hts w (List.mem_cons_of_mem _ (List.mem_append_right _ h))
  have k1 := hts (.fieldLink RX5 157 "PairStairsModel" "people" "I") (by decide +kernel)
  unfold X5_areOnes at h
  refine lv_iload_n hx hb dX5_areOnes_0 rfl (lv_at hl 1 rfl) ?_
  refine lv_i2l hx hb dX5_areOnes_1 rfl ?_
  refine lv_lconst (v := (0 : Int64)) hx hb dX5_areOnes_2 (by decide) ?_
  refine lv_iconst (v := (1 : Int32)) hx hb dX5_areOnes_3 (by decide) ?_
  refine lv_aload_n hx hb dX5_areOnes_4 rfl (lv_at hl 0 rfl) ?_
  refine g_get hx hb l5 hown hK hG (k := 0) (by decide) (mE_5 _ _) vwCl_5 4 (by decide) k1 (fun _ h9 => h9) rfl dX5_areOnes_5 ?_
  refine lv_ishl hx hb dX5_areOnes_8 ?_
  refine lv_iconst (v := (1 : Int32)) hx hb dX5_areOnes_9 (by decide) ?_
  refine lv_isub hx hb dX5_areOnes_10 ?_
  refine lv_i2l hx hb dX5_areOnes_11 rfl ?_
  refine g_endi (va_runS (As := [.long x1.toInt64, .long (0 : Int64), .long ((((1 : Int32) <<< ((I 0 4) &&& 31)) - (1 : Int32)).toInt64)]) (rest := []) ⟨hx, hb, hml, hown, hts⟩ (k_X5_in l D cy ad hi I L x1.toInt64 (0 : Int64) ((((1 : Int32) <<< ((I 0 4) &&& 31)) - (1 : Int32)).toInt64) _ rfl) (va_cwS 3 hts gX5_areOnes_X5_in rfl rfl rfl cd_X5_in.2 ⟨Nat.le_of_ble_eq_true rfl, Nat.le_of_ble_eq_true rfl⟩) ⟨g_blind mZm, g_pre mZm hK hG hZ hS⟩ rfl rfl hl.1 rfl (lv_room (Nat.le_of_ble_eq_true rfl)) dX5_areOnes_12 ⟨Nat.le_refl _, Nat.le_refl _⟩) hS (fun H locs hG hS => ?_)
  subst h
  subst hQ
  exact g_zret hx hb hr hlocks mZm hK hZ hG hS rfl dX5_areOnes_15
def X5_up (I : xMem) (x1 : Int32) : Option (Int32 × xMem) := if (X5_areOnes I x1) = (0 : Int32) then (some ((-1 : Int32), I)) else ((X5_fewestGoes I x1 x1).bind fun q2 => some (q2.1, q2.2))
abbrev rm_X5_up : Room := { frames := 6, cells := 0, slots := 0, locals := 145 }
theorem cd_X5_up : yX5_up.cls = RX5 ∧ yX5_up.cls ≠ "java/lang/invoke/MethodHandle" ∧ yX5_up.cls ≠ "java/lang/invoke/VarHandle" ∧ (parseMethodDescriptor yX5_up.desc).map (fun d => d.parameters.length) = some 1 := by decide +kernel
set_option maxHeartbeats 4000000 in
set_option maxRecDepth 100000 in
theorem k_X5_up (l : Launch) (D : va_G) (cy : Nat → ClassId) (ad : Nat → Nat) (hi : gInj 18 ad) (I : xMem) (L : xLon) (x1 : Int32) (r : Int32 × xMem) (h : X5_up I x1 = some r) : Met l yX5_up wsX5_up rm_X5_up (va_Pc [.ref (ad 0), .int x1] (mW D cy ad I L)) (mPi D cy ad r.2 L r.1) 0 0 (gA 18 ad) := by
  refine g_met (own := RX5) (cc := cX5_up) (maxL := 2) (ret := (some .int)) (by decide) rfl (Nat.le_of_ble_eq_true rfl) rfl ?_
  intro p e s m args below meth c ls hx hb hml hr hlocks hown hts hG hK hZ hl
  generalize hQ : MQ below _ args s 0 0 _ = Q
  have hl : lv_has ls 2 [(0, .ref (ad 0)), (1, .int x1)] := hl
  have hS : va_S (gA 18 ad) s.heap s.heap [] := va_S.rf
  unfold X5_up at h
  refine lv_aload_n hx hb dX5_up_0 rfl (lv_at hl 0 rfl) ?_
  refine lv_iload_n hx hb dX5_up_1 rfl (lv_at hl 1 rfl) ?_
  refine g_endi (va_runV (As := [.int x1]) (rest := []) ⟨hx, hb, hml, hown, hts⟩ (k_X5_areOnes l D cy ad hi I L x1 _ rfl) (cwV 1 hts gX5_up_X5_areOnes rfl rfl rfl cd_X5_areOnes ⟨Nat.le_of_ble_eq_true rfl, Nat.le_of_ble_eq_true rfl⟩) ⟨g_blind mZm, g_recv hK hG (k := 0) (by decide) (mE_5 _ _) vwCl_5, g_pre mZm hK hG hZ hS⟩ rfl rfl hl.1 rfl (lv_room (Nat.le_of_ble_eq_true rfl)) dX5_up_2 ⟨Nat.le_refl _, Nat.le_refl _⟩) hS (fun H locs hG hS => ?_)
  refine lv_if_eq (tgt := 17) hx hb dX5_up_5 (by decide) (fun c1 => ?_) (fun c1 => ?_)
  · have h := ite_t h c1
    refine lv_iconst (v := (-1 : Int32)) hx hb dX5_up_17 (by decide) ?_
    have h := Option.some.inj h
    subst h
    subst hQ
    exact g_iret hx hb hr hlocks mZm hK hZ hG hS rfl dX5_up_18
  · have h := ite_f h c1
    refine lv_aload_n hx hb dX5_up_8 rfl (lv_at hl 0 rfl) ?_
    refine lv_iload_n hx hb dX5_up_9 rfl (lv_at hl 1 rfl) ?_
    refine lv_iload_n hx hb dX5_up_10 rfl (lv_at hl 1 rfl) ?_
    obtain ⟨q2, eq2, h⟩ := obind h
    refine g_endi (va_runV (As := [.int x1, .int x1]) (rest := []) ⟨hx, hb, hml, hown, hts⟩ (k_X5_fewestGoes l D cy ad hi I L x1 x1 q2 eq2) (cwV 2 hts gX5_up_X5_fewestGoes rfl rfl rfl cd_X5_fewestGoes ⟨Nat.le_of_ble_eq_true rfl, Nat.le_of_ble_eq_true rfl⟩) ⟨g_blind mZm, g_recv hK hG (k := 0) (by decide) (mE_5 _ _) vwCl_5, g_pre mZm hK hG hZ hS⟩ rfl rfl hl.1 rfl (lv_room (Nat.le_of_ble_eq_true rfl)) dX5_up_11 ⟨Nat.le_refl _, Nat.le_refl _⟩) hS (fun H locs hG hS => ?_)
    refine lv_goto (tgt := 18) hx hb dX5_up_14 (by decide) ?_
    have h := Option.some.inj h
    subst h
    subst hQ
    exact g_iret hx hb hr hlocks mZm hK hZ hG hS rfl dX5_up_18
def X5_down (I : xMem) (x1 : Int32) : Option (Int32 × xMem) := if (X5_areOnes I x1) = (0 : Int32) then (some ((-1 : Int32), I)) else ((X5_fewestGoes I x1 (0 : Int32)).bind fun q2 => some (q2.1, q2.2))
abbrev rm_X5_down : Room := { frames := 6, cells := 0, slots := 0, locals := 145 }
theorem cd_X5_down : yX5_down.cls = RX5 ∧ yX5_down.cls ≠ "java/lang/invoke/MethodHandle" ∧ yX5_down.cls ≠ "java/lang/invoke/VarHandle" ∧ (parseMethodDescriptor yX5_down.desc).map (fun d => d.parameters.length) = some 1 := by decide +kernel
set_option maxHeartbeats 4000000 in
set_option maxRecDepth 100000 in
theorem k_X5_down (l : Launch) (D : va_G) (cy : Nat → ClassId) (ad : Nat → Nat) (hi : gInj 18 ad) (I : xMem) (L : xLon) (x1 : Int32) (r : Int32 × xMem) (h : X5_down I x1 = some r) : Met l yX5_down wsX5_down rm_X5_down (va_Pc [.ref (ad 0), .int x1] (mW D cy ad I L)) (mPi D cy ad r.2 L r.1) 0 0 (gA 18 ad) := by
  refine g_met (own := RX5) (cc := cX5_down) (maxL := 2) (ret := (some .int)) (by decide) rfl (Nat.le_of_ble_eq_true rfl) rfl ?_
  intro p e s m args below meth c ls hx hb hml hr hlocks hown hts hG hK hZ hl
  generalize hQ : MQ below _ args s 0 0 _ = Q
  have hl : lv_has ls 2 [(0, .ref (ad 0)), (1, .int x1)] := hl
  have hS : va_S (gA 18 ad) s.heap s.heap [] := va_S.rf
  unfold X5_down at h
  refine lv_aload_n hx hb dX5_down_0 rfl (lv_at hl 0 rfl) ?_
  refine lv_iload_n hx hb dX5_down_1 rfl (lv_at hl 1 rfl) ?_
  refine g_endi (va_runV (As := [.int x1]) (rest := []) ⟨hx, hb, hml, hown, hts⟩ (k_X5_areOnes l D cy ad hi I L x1 _ rfl) (cwV 1 hts gX5_down_X5_areOnes rfl rfl rfl cd_X5_areOnes ⟨Nat.le_of_ble_eq_true rfl, Nat.le_of_ble_eq_true rfl⟩) ⟨g_blind mZm, g_recv hK hG (k := 0) (by decide) (mE_5 _ _) vwCl_5, g_pre mZm hK hG hZ hS⟩ rfl rfl hl.1 rfl (lv_room (Nat.le_of_ble_eq_true rfl)) dX5_down_2 ⟨Nat.le_refl _, Nat.le_refl _⟩) hS (fun H locs hG hS => ?_)
  refine lv_if_eq (tgt := 17) hx hb dX5_down_5 (by decide) (fun c1 => ?_) (fun c1 => ?_)
  · have h := ite_t h c1
    refine lv_iconst (v := (-1 : Int32)) hx hb dX5_down_17 (by decide) ?_
    have h := Option.some.inj h
    subst h
    subst hQ
    exact g_iret hx hb hr hlocks mZm hK hZ hG hS rfl dX5_down_18
  · have h := ite_f h c1
    refine lv_aload_n hx hb dX5_down_8 rfl (lv_at hl 0 rfl) ?_
    refine lv_iload_n hx hb dX5_down_9 rfl (lv_at hl 1 rfl) ?_
    refine lv_iconst (v := (0 : Int32)) hx hb dX5_down_10 (by decide) ?_
    obtain ⟨q2, eq2, h⟩ := obind h
    refine g_endi (va_runV (As := [.int x1, .int (0 : Int32)]) (rest := []) ⟨hx, hb, hml, hown, hts⟩ (k_X5_fewestGoes l D cy ad hi I L x1 (0 : Int32) q2 eq2) (cwV 2 hts gX5_down_X5_fewestGoes rfl rfl rfl cd_X5_fewestGoes ⟨Nat.le_of_ble_eq_true rfl, Nat.le_of_ble_eq_true rfl⟩) ⟨g_blind mZm, g_recv hK hG (k := 0) (by decide) (mE_5 _ _) vwCl_5, g_pre mZm hK hG hZ hS⟩ rfl rfl hl.1 rfl (lv_room (Nat.le_of_ble_eq_true rfl)) dX5_down_11 ⟨Nat.le_refl _, Nat.le_refl _⟩) hS (fun H locs hG hS => ?_)
    refine lv_goto (tgt := 18) hx hb dX5_down_14 (by decide) ?_
    have h := Option.some.inj h
    subst h
    subst hQ
    exact g_iret hx hb hr hlocks mZm hK hZ hG hS rfl dX5_down_18
def X5_ever_L1 (K5 : xMem → Option (Int32 × xMem)) : Nat → Int32 → xMem → Option (Int32 × xMem)
  | 0, _, _ => none
  | n6 + 1, x3_6, I7 => if (1024 : Int32) ≤ x3_6 then (K5 I7) else ((wrI I7 13 1024 x3_6 (9999 : Int32)).bind fun I10 => X5_ever_L1 K5 n6 (x3_6 + (1 : Int32)) I10)
def X5_ever_L2 (K14 : Int32 → xMem → Option (Int32 × xMem)) : Nat → Int32 → Int32 → xMem → Option (Int32 × xMem)
  | 0, _, _, _ => none
  | n15 + 1, x2_15, x3_15, I16 => if (I16 0 28) ≤ x3_15 then (K14 x2_15 I16) else ((rdI I16 14 1024 x3_15).bind fun v19 => (rdI I16 1 660 (2 : Int32)).bind fun v20 => (rdI I16 14 1024 x3_15).bind fun v21 => (X5_goOnFrom I16 v21).bind fun q22 => X5_ever_L2 K14 n15 (x2_15 ||| ((v19 >>> ((4 : Int32) &&& 31)) ^^^ v20)) (x3_15 + (1 : Int32)) q22)
def X5_ever (I : xMem) : Option (Int32 × xMem) := if (I 0 4) = (0 : Int32) then (some ((-4 : Int32), I)) else ((rdI I 1 660 (2 : Int32)).bind fun v2 => (rdI I 1 660 (3 : Int32)).bind fun v3 => (X5_layLoads I).bind fun q4 => X5_ever_L1 (fun (I8 : xMem) => (wrI I8 13 1024 (((16 : Int32) * v2) + v3) (0 : Int32)).bind fun I11 => (wrI I11 14 1024 (0 : Int32) (((16 : Int32) * v2) + v3)).bind fun I12 => (some (wr I12 0 28 (1 : Int32))).bind fun I13 => X5_ever_L2 (fun (z2_16 : Int32) (I17 : xMem) => some (z2_16, I17)) bigF (0 : Int32) (0 : Int32) I13) bigF (0 : Int32) q4)
abbrev rm_X5_ever : Room := { frames := 4, cells := 0, slots := 0, locals := 97 }
theorem cd_X5_ever : yX5_ever.cls = RX5 ∧ yX5_ever.cls ≠ "java/lang/invoke/MethodHandle" ∧ yX5_ever.cls ≠ "java/lang/invoke/VarHandle" ∧ (parseMethodDescriptor yX5_ever.desc).map (fun d => d.parameters.length) = some 0 := by decide +kernel
set_option maxHeartbeats 4000000 in
set_option maxRecDepth 100000 in
theorem k_X5_ever (l : Launch) (D : va_G) (cy : Nat → ClassId) (ad : Nat → Nat) (hi : gInj 18 ad) (I : xMem) (L : xLon)  (r : Int32 × xMem) (h : X5_ever I = some r) : Met l yX5_ever wsX5_ever rm_X5_ever (va_Pc [.ref (ad 0)] (mW D cy ad I L)) (mPi D cy ad r.2 L r.1) 0 0 (gA 18 ad) := by
  refine g_met (own := RX5) (cc := cX5_ever) (maxL := 4) (ret := (some .int)) (by decide) rfl (Nat.le_of_ble_eq_true rfl) rfl ?_
  intro p e s m args below meth c ls hx hb hml hr hlocks hown hts hG hK hZ hl
  generalize hQ : MQ below _ args s 0 0 _ = Q
  have hl : lv_has ls 4 [(0, .ref (ad 0))] := hl
  have hS : va_S (gA 18 ad) s.heap s.heap [] := va_S.rf
  have l5 : ∀ w ∈ wsX50, w.before args s = true := fun w h => hts w (List.mem_cons_of_mem _ (List.mem_append_right _ h))
  have k1 := hts (.fieldLink RX5 157 "PairStairsModel" "people" "I") (by decide +kernel)
  have k2 := hts (.fieldLink RX5 7 "PairStairsModel" "row" "[I") (by decide +kernel)
  have k3 := hts (.fieldLink RX5 51 "PairStairsModel" "far" "[I") (by decide +kernel)
  have k4 := hts (.fieldLink RX5 54 "PairStairsModel" "line" "[I") (by decide +kernel)
  have k5 := hts (.fieldLink RX5 254 "PairStairsModel" "lineEnd" "I") (by decide +kernel)
  unfold X5_ever at h
  refine lv_aload_n hx hb dX5_ever_0 rfl (lv_at hl 0 rfl) ?_
  refine g_get hx hb l5 hown hK hG (k := 0) (by decide) (mE_5 _ _) vwCl_5 4 (by decide) k1 (fun _ h9 => h9) rfl dX5_ever_1 ?_
  refine lv_if_ne (tgt := 10) hx hb dX5_ever_4 (by decide) (fun c1 => ?_) (fun c1 => ?_)
  · have h := ite_f h c1
    refine lv_bipush (v := (16 : Int32)) hx hb dX5_ever_10 (by decide) ?_
    refine lv_aload_n hx hb dX5_ever_12 rfl (lv_at hl 0 rfl) ?_
    refine g_get hx hb l5 hown hK hG (k := 0) (by decide) (mE_5 _ _) vwCl_5 0 (by decide) k2 (fun _ h9 => h9) rfl dX5_ever_13 ?_
    refine lv_iconst (v := (2 : Int32)) hx hb dX5_ever_16 (by decide) ?_
    refine g_ald hx hb hK hG (k := 1) (n := 660) (show mIA 1 660 from by decide +kernel).1.1 (mIA_e (show mIA 1 660 from by decide +kernel) _ _) 0 rfl h dX5_ever_17 (fun v2 h => ?_)
    refine lv_imul hx hb dX5_ever_18 ?_
    refine lv_aload_n hx hb dX5_ever_19 rfl (lv_at hl 0 rfl) ?_
    refine g_get hx hb l5 hown hK hG (k := 0) (by decide) (mE_5 _ _) vwCl_5 0 (by decide) k2 (fun _ h9 => h9) rfl dX5_ever_20 ?_
    refine lv_iconst (v := (3 : Int32)) hx hb dX5_ever_23 (by decide) ?_
    refine g_ald hx hb hK hG (k := 1) (n := 660) (show mIA 1 660 from by decide +kernel).1.1 (mIA_e (show mIA 1 660 from by decide +kernel) _ _) 0 rfl h dX5_ever_24 (fun v3 h => ?_)
    refine lv_iadd hx hb dX5_ever_25 ?_
    refine lv_istore_n (lv' := [(1, .int (((16 : Int32) * v2) + v3)), (0, .ref (ad 0))]) hx hb dX5_ever_26 rfl hl (by decide) rfl (fun ls hl => ?_)
    refine lv_iconst (v := (0 : Int32)) hx hb dX5_ever_27 (by decide) ?_
    refine lv_istore_n (lv' := [(2, .int (0 : Int32)), (1, .int (((16 : Int32) * v2) + v3)), (0, .ref (ad 0))]) hx hb dX5_ever_28 rfl hl (by decide) rfl (fun ls hl => ?_)
    refine lv_aload_n hx hb dX5_ever_29 rfl (lv_at hl 2 rfl) ?_
    obtain ⟨q4, eq4, h⟩ := obind h
    refine g_endv (va_runV (As := []) (rest := []) ⟨hx, hb, hml, hown, hts⟩ (k_X5_layLoads l D cy ad hi I L q4 eq4) (cwV 0 hts gX5_ever_X5_layLoads rfl rfl rfl cd_X5_layLoads ⟨Nat.le_of_ble_eq_true rfl, Nat.le_of_ble_eq_true rfl⟩) ⟨g_blind mZm, g_recv hK hG (k := 0) (by decide) (mE_5 _ _) vwCl_5, g_pre mZm hK hG hZ hS⟩ rfl rfl hl.1 rfl (lv_room (Nat.le_of_ble_eq_true rfl)) dX5_ever_30 ⟨Nat.le_refl _, Nat.le_refl _⟩) hS (fun H locs hG hS => ?_)
    refine lv_iconst (v := (0 : Int32)) hx hb dX5_ever_33 (by decide) ?_
    refine lv_istore_n (lv' := [(3, .int (0 : Int32)), (2, .int (0 : Int32)), (1, .int (((16 : Int32) * v2) + v3)), (0, .ref (ad 0))]) hx hb dX5_ever_34 rfl hl (by decide) rfl (fun ls hl => ?_)
    have keyK5 : ∀ (K5 : xMem → Option (Int32 × xMem)), (∀ (I8 : xMem) (H : Heap) (locs : List Loc) (ls : Array Slot), K5 I8 = some r → mG D cy ad I8 L H → va_S (gA 18 ad) s.heap H locs → lv_has ls 4 [(0, .ref (ad 0)), (1, .int (((16 : Int32) * v2) + v3)), (2, .int (0 : Int32))] → W p l e rm_X5_ever s m args below meth c H locs 0 0 Q (F0 m 57 ls [])) → ∀ (n6 : Nat) (x3_6 : Int32) (I7 : xMem) (H : Heap) (locs : List Loc) (ls : Array Slot), X5_ever_L1 K5 n6 x3_6 I7 = some r → mG D cy ad I7 L H → va_S (gA 18 ad) s.heap H locs → lv_has ls 4 [(0, .ref (ad 0)), (1, .int (((16 : Int32) * v2) + v3)), (2, .int (0 : Int32)), (3, .int x3_6)] → W p l e rm_X5_ever s m args below meth c H locs 0 0 Q (F0 m 35 ls []) := by
      intro K5 hkK5 n6
      induction n6 with
      | zero =>
        intro x3_6 I7 H locs ls h
        exact ono h
      | succ n6 ihn6 =>
        intro x3_6 I7 H locs ls h hG hS hl
        rw [X5_ever_L1] at h
        refine lv_iload_n hx hb dX5_ever_35 rfl (lv_at hl 3 rfl) ?_
        refine lv_sipush (v := (1024 : Int32)) hx hb dX5_ever_36 (by decide) ?_
        refine lv_icmp_ge (tgt := 57) hx hb dX5_ever_39 (by decide) (fun c9 => ?_) (fun c9 => ?_)
        · have h := ite_t h c9
          exact hkK5 I7 _ _ _ h hG hS (lv_sub hl [0, 1, 2] rfl)
        · have h := ite_f h c9
          refine lv_aload_n hx hb dX5_ever_42 rfl (lv_at hl 0 rfl) ?_
          refine g_get hx hb l5 hown hK hG (k := 0) (by decide) (mE_5 _ _) vwCl_5 26 (by decide) k3 (fun _ h9 => h9) rfl dX5_ever_43 ?_
          refine lv_iload_n hx hb dX5_ever_46 rfl (lv_at hl 3 rfl) ?_
          refine lv_sipush (v := (9999 : Int32)) hx hb dX5_ever_47 (by decide) ?_
          refine g_ast hx hb hK hG hi hS (k := 13) (n := 1024) (show mIA 13 1024 from by decide +kernel).1.1 (fun f => mIA_e (show mIA 13 1024 from by decide +kernel) f _) 0 rfl h dX5_ever_50 (fun I10 H locs h hG hS => ?_)
          refine lv_iinc (v := (x3_6 + (1 : Int32))) (lv' := [(3, .int (x3_6 + (1 : Int32))), (0, .ref (ad 0)), (1, .int (((16 : Int32) * v2) + v3)), (2, .int (0 : Int32))]) hx hb dX5_ever_51 hl (k := 3) rfl rfl (by decide) rfl (fun ls hl => ?_)
          refine lv_goto (tgt := 35) hx hb dX5_ever_54 (by decide) ?_
          exact ihn6 (x3_6 + (1 : Int32)) I10 _ _ _ h hG hS (lv_sub hl [1, 2, 3, 0] rfl)
    refine keyK5 _ (fun I8 H locs ls h hG hS hl => ?_) bigF (0 : Int32) q4 _ _ _ h hG hS (lv_sub hl [3, 2, 1, 0] rfl)
    clear keyK5
    refine lv_aload_n hx hb dX5_ever_57 rfl (lv_at hl 0 rfl) ?_
    refine g_get hx hb l5 hown hK hG (k := 0) (by decide) (mE_5 _ _) vwCl_5 26 (by decide) k3 (fun _ h9 => h9) rfl dX5_ever_58 ?_
    refine lv_iload_n hx hb dX5_ever_61 rfl (lv_at hl 1 rfl) ?_
    refine lv_iconst (v := (0 : Int32)) hx hb dX5_ever_62 (by decide) ?_
    refine g_ast hx hb hK hG hi hS (k := 13) (n := 1024) (show mIA 13 1024 from by decide +kernel).1.1 (fun f => mIA_e (show mIA 13 1024 from by decide +kernel) f _) 0 rfl h dX5_ever_63 (fun I11 H locs h hG hS => ?_)
    refine lv_aload_n hx hb dX5_ever_64 rfl (lv_at hl 0 rfl) ?_
    refine g_get hx hb l5 hown hK hG (k := 0) (by decide) (mE_5 _ _) vwCl_5 27 (by decide) k4 (fun _ h9 => h9) rfl dX5_ever_65 ?_
    refine lv_iconst (v := (0 : Int32)) hx hb dX5_ever_68 (by decide) ?_
    refine lv_iload_n hx hb dX5_ever_69 rfl (lv_at hl 1 rfl) ?_
    refine g_ast hx hb hK hG hi hS (k := 14) (n := 1024) (show mIA 14 1024 from by decide +kernel).1.1 (fun f => mIA_e (show mIA 14 1024 from by decide +kernel) f _) 0 rfl h dX5_ever_70 (fun I12 H locs h hG hS => ?_)
    refine lv_aload_n hx hb dX5_ever_71 rfl (lv_at hl 0 rfl) ?_
    refine lv_iconst (v := (1 : Int32)) hx hb dX5_ever_72 (by decide) ?_
    obtain ⟨I13, eI13, h⟩ := obind h
    refine g_put hx hb l5 tyX5_ok nmX5 hown hK hG hi hS (k := 0) (by decide) (mE_5 _ _) vwCl_5 28 (by decide) k5 (fun _ h9 => h9) rfl rfl (Nat.le_of_ble_eq_true rfl) (by rw [mE_5 _ _]; rfl) dX5_ever_73 (fun H locs hG hS => ?_)
    rw [Option.some.inj eI13] at hG
    refine lv_iconst (v := (0 : Int32)) hx hb dX5_ever_76 (by decide) ?_
    refine lv_istore_n (lv' := [(3, .int (0 : Int32)), (0, .ref (ad 0)), (1, .int (((16 : Int32) * v2) + v3)), (2, .int (0 : Int32))]) hx hb dX5_ever_77 rfl hl (by decide) rfl (fun ls hl => ?_)
    have keyK14 : ∀ (K14 : Int32 → xMem → Option (Int32 × xMem)), (∀ (z2_16 : Int32) (I17 : xMem) (H : Heap) (locs : List Loc) (ls : Array Slot), K14 z2_16 I17 = some r → mG D cy ad I17 L H → va_S (gA 18 ad) s.heap H locs → lv_has ls 4 [(2, .int z2_16)] → W p l e rm_X5_ever s m args below meth c H locs 0 0 Q (F0 m 120 ls [])) → ∀ (n15 : Nat) (x2_15 : Int32) (x3_15 : Int32) (I16 : xMem) (H : Heap) (locs : List Loc) (ls : Array Slot), X5_ever_L2 K14 n15 x2_15 x3_15 I16 = some r → mG D cy ad I16 L H → va_S (gA 18 ad) s.heap H locs → lv_has ls 4 [(0, .ref (ad 0)), (2, .int x2_15), (3, .int x3_15)] → W p l e rm_X5_ever s m args below meth c H locs 0 0 Q (F0 m 78 ls []) := by
      intro K14 hkK14 n15
      induction n15 with
      | zero =>
        intro x2_15 x3_15 I16 H locs ls h
        exact ono h
      | succ n15 ihn15 =>
        intro x2_15 x3_15 I16 H locs ls h hG hS hl
        rw [X5_ever_L2] at h
        refine lv_iload_n hx hb dX5_ever_78 rfl (lv_at hl 2 rfl) ?_
        refine lv_aload_n hx hb dX5_ever_79 rfl (lv_at hl 0 rfl) ?_
        refine g_get hx hb l5 hown hK hG (k := 0) (by decide) (mE_5 _ _) vwCl_5 28 (by decide) k5 (fun _ h9 => h9) rfl dX5_ever_80 ?_
        refine lv_icmp_ge (tgt := 120) hx hb dX5_ever_83 (by decide) (fun c18 => ?_) (fun c18 => ?_)
        · have h := ite_t h c18
          exact hkK14 x2_15 I16 _ _ _ h hG hS (lv_sub hl [1] rfl)
        · have h := ite_f h c18
          refine lv_iload_n hx hb dX5_ever_86 rfl (lv_at hl 1 rfl) ?_
          refine lv_aload_n hx hb dX5_ever_87 rfl (lv_at hl 0 rfl) ?_
          refine g_get hx hb l5 hown hK hG (k := 0) (by decide) (mE_5 _ _) vwCl_5 27 (by decide) k4 (fun _ h9 => h9) rfl dX5_ever_88 ?_
          refine lv_iload_n hx hb dX5_ever_91 rfl (lv_at hl 2 rfl) ?_
          refine g_ald hx hb hK hG (k := 14) (n := 1024) (show mIA 14 1024 from by decide +kernel).1.1 (mIA_e (show mIA 14 1024 from by decide +kernel) _ _) 0 rfl h dX5_ever_92 (fun v19 h => ?_)
          refine lv_iconst (v := (4 : Int32)) hx hb dX5_ever_93 (by decide) ?_
          refine lv_ishr hx hb dX5_ever_94 ?_
          refine lv_aload_n hx hb dX5_ever_95 rfl (lv_at hl 0 rfl) ?_
          refine g_get hx hb l5 hown hK hG (k := 0) (by decide) (mE_5 _ _) vwCl_5 0 (by decide) k2 (fun _ h9 => h9) rfl dX5_ever_96 ?_
          refine lv_iconst (v := (2 : Int32)) hx hb dX5_ever_99 (by decide) ?_
          refine g_ald hx hb hK hG (k := 1) (n := 660) (show mIA 1 660 from by decide +kernel).1.1 (mIA_e (show mIA 1 660 from by decide +kernel) _ _) 0 rfl h dX5_ever_100 (fun v20 h => ?_)
          refine lv_ixor hx hb dX5_ever_101 ?_
          refine lv_ior hx hb dX5_ever_102 ?_
          refine lv_istore_n (lv' := [(2, .int (x2_15 ||| ((v19 >>> ((4 : Int32) &&& 31)) ^^^ v20))), (0, .ref (ad 0)), (3, .int x3_15)]) hx hb dX5_ever_103 rfl hl (by decide) rfl (fun ls hl => ?_)
          refine lv_aload_n hx hb dX5_ever_104 rfl (lv_at hl 1 rfl) ?_
          refine lv_aload_n hx hb dX5_ever_105 rfl (lv_at hl 1 rfl) ?_
          refine g_get hx hb l5 hown hK hG (k := 0) (by decide) (mE_5 _ _) vwCl_5 27 (by decide) k4 (fun _ h9 => h9) rfl dX5_ever_106 ?_
          refine lv_iload_n hx hb dX5_ever_109 rfl (lv_at hl 2 rfl) ?_
          refine g_ald hx hb hK hG (k := 14) (n := 1024) (show mIA 14 1024 from by decide +kernel).1.1 (mIA_e (show mIA 14 1024 from by decide +kernel) _ _) 0 rfl h dX5_ever_110 (fun v21 h => ?_)
          obtain ⟨q22, eq22, h⟩ := obind h
          refine g_endv (va_runV (As := [.int v21]) (rest := []) ⟨hx, hb, hml, hown, hts⟩ (k_X5_goOnFrom l D cy ad hi I16 L v21 q22 eq22) (cwV 1 hts gX5_ever_X5_goOnFrom rfl rfl rfl cd_X5_goOnFrom ⟨Nat.le_of_ble_eq_true rfl, Nat.le_of_ble_eq_true rfl⟩) ⟨g_blind mZm, g_recv hK hG (k := 0) (by decide) (mE_5 _ _) vwCl_5, g_pre mZm hK hG hZ hS⟩ rfl rfl hl.1 rfl (lv_room (Nat.le_of_ble_eq_true rfl)) dX5_ever_111 ⟨Nat.le_refl _, Nat.le_refl _⟩) hS (fun H locs hG hS => ?_)
          refine lv_iinc (v := (x3_15 + (1 : Int32))) (lv' := [(3, .int (x3_15 + (1 : Int32))), (2, .int (x2_15 ||| ((v19 >>> ((4 : Int32) &&& 31)) ^^^ v20))), (0, .ref (ad 0))]) hx hb dX5_ever_114 hl (k := 2) rfl rfl (by decide) rfl (fun ls hl => ?_)
          refine lv_goto (tgt := 78) hx hb dX5_ever_117 (by decide) ?_
          exact ihn15 (x2_15 ||| ((v19 >>> ((4 : Int32) &&& 31)) ^^^ v20)) (x3_15 + (1 : Int32)) q22 _ _ _ h hG hS (lv_sub hl [2, 1, 0] rfl)
    refine keyK14 _ (fun z2_16 I17 H locs ls h hG hS hl => ?_) bigF (0 : Int32) (0 : Int32) I13 _ _ _ h hG hS (lv_sub hl [1, 3, 0] rfl)
    clear keyK14
    refine lv_iload_n hx hb dX5_ever_120 rfl (lv_at hl 0 rfl) ?_
    have h := Option.some.inj h
    subst h
    subst hQ
    exact g_iret hx hb hr hlocks mZm hK hZ hG hS rfl dX5_ever_121
  · have h := ite_t h c1
    refine lv_bipush (v := (-4 : Int32)) hx hb dX5_ever_7 (by decide) ?_
    have h := Option.some.inj h
    subst h
    subst hQ
    exact g_iret hx hb hr hlocks mZm hK hZ hG hS rfl dX5_ever_9
def X5_noPairs_L1 (I : xMem) (x1 : Int32) (x2 : Int32) (K8 : Int32 → Option (Int32 × xMem)) : Nat → Int32 → Int32 → Option (Int32 × xMem)
  | 0, _, _ => none
  | n9 + 1, x3_9, x4_9 => (rdI I 5 6 x2).bind fun v10 => if (((40 : Int32) * x2) + v10) ≤ x4_9 then (K8 x3_9) else (if x3_9 = (0 : Int32) then (X5_noPairs_L1 I x1 x2 K8 n9 (0 : Int32) (x4_9 + (2 : Int32))) else ((rdI I 6 240 x4_9).bind fun v13 => if (X5_areTwo I x1 v13) = (0 : Int32) then (X5_noPairs_L1 I x1 x2 K8 n9 (0 : Int32) (x4_9 + (2 : Int32))) else ((rdI I 6 240 (x4_9 + (1 : Int32))).bind fun v15 => if (X5_in v15.toInt64 (0 : Int64) (200 : Int64)) = (0 : Int32) then (X5_noPairs_L1 I x1 x2 K8 n9 (0 : Int32) (x4_9 + (2 : Int32))) else (X5_noPairs_L1 I x1 x2 K8 n9 (1 : Int32) (x4_9 + (2 : Int32))))))
def X5_noPairs (I : xMem) (x1 : Int32) (x2 : Int32) : Option (Int32 × xMem) := (rdI I 5 6 x2).bind fun v1 => if (0 : Int32) ≤ v1 then ((rdI I 5 6 x2).bind fun v3 => if (v3 - v3 / (2 : Int32) * (2 : Int32)) = (0 : Int32) then ((rdI I 5 6 x2).bind fun v6 => if v6 ≤ (16 : Int32) then (X5_noPairs_L1 I x1 x2 (fun (z3_9 : Int32) => if z3_9 = (0 : Int32) then ((X5_find I (3 : Int32)).bind fun q18 => some (q18.1, q18.2)) else (some ((0 : Int32), I))) bigF (1 : Int32) ((40 : Int32) * x2)) else ((X5_find I (5 : Int32)).bind fun q19 => some (q19.1, q19.2))) else ((X5_find I (5 : Int32)).bind fun q5 => some (q5.1, q5.2))) else ((X5_find I (1 : Int32)).bind fun q20 => some (q20.1, q20.2))
abbrev rm_X5_noPairs : Room := { frames := 3, cells := 0, slots := 0, locals := 68 }
theorem cd_X5_noPairs : yX5_noPairs.cls = RX5 ∧ yX5_noPairs.cls ≠ "java/lang/invoke/MethodHandle" ∧ yX5_noPairs.cls ≠ "java/lang/invoke/VarHandle" ∧ (parseMethodDescriptor yX5_noPairs.desc).map (fun d => d.parameters.length) = some 2 := by decide +kernel
set_option maxHeartbeats 4000000 in
set_option maxRecDepth 100000 in
theorem k_X5_noPairs (l : Launch) (D : va_G) (cy : Nat → ClassId) (ad : Nat → Nat) (hi : gInj 18 ad) (I : xMem) (L : xLon) (x1 : Int32) (x2 : Int32) (r : Int32 × xMem) (h : X5_noPairs I x1 x2 = some r) : Met l yX5_noPairs wsX5_noPairs rm_X5_noPairs (va_Pc [.ref (ad 0), .int x1, .int x2] (mW D cy ad I L)) (mPi D cy ad r.2 L r.1) 0 0 (gA 18 ad) := by
  refine g_met (own := RX5) (cc := cX5_noPairs) (maxL := 5) (ret := (some .int)) (by decide) rfl (Nat.le_of_ble_eq_true rfl) rfl ?_
  intro p e s m args below meth c ls hx hb hml hr hlocks hown hts hG hK hZ hl
  generalize hQ : MQ below _ args s 0 0 _ = Q
  have hl : lv_has ls 5 [(0, .ref (ad 0)), (1, .int x1), (2, .int x2)] := hl
  have hS : va_S (gA 18 ad) s.heap s.heap [] := va_S.rf
  have l5 : ∀ w ∈ wsX50, w.before args s = true := fun w h => hts w (List.mem_cons_of_mem _ (List.mem_append_right _ h))
  have k1 := hts (.fieldLink RX5 22 "PairStairsModel" "sizes" "[I") (by decide +kernel)
  have k2 := hts (.fieldLink RX5 25 "PairStairsModel" "items" "[I") (by decide +kernel)
  have k3 := hts (.constantLong RX5 273 (200)) (by decide +kernel)
  unfold X5_noPairs at h
  refine lv_aload_n hx hb dX5_noPairs_0 rfl (lv_at hl 0 rfl) ?_
  refine g_get hx hb l5 hown hK hG (k := 0) (by decide) (mE_5 _ _) vwCl_5 7 (by decide) k1 (fun _ h9 => h9) rfl dX5_noPairs_1 ?_
  refine lv_iload_n hx hb dX5_noPairs_4 rfl (lv_at hl 2 rfl) ?_
  refine g_ald hx hb hK hG (k := 5) (n := 6) (show mIA 5 6 from by decide +kernel).1.1 (mIA_e (show mIA 5 6 from by decide +kernel) _ _) 0 rfl h dX5_noPairs_5 (fun v1 h => ?_)
  refine lv_if_ge (tgt := 15) hx hb dX5_noPairs_6 (by decide) (fun c2 => ?_) (fun c2 => ?_)
  · have h := ite_t h c2
    refine lv_aload_n hx hb dX5_noPairs_15 rfl (lv_at hl 0 rfl) ?_
    refine g_get hx hb l5 hown hK hG (k := 0) (by decide) (mE_5 _ _) vwCl_5 7 (by decide) k1 (fun _ h9 => h9) rfl dX5_noPairs_16 ?_
    refine lv_iload_n hx hb dX5_noPairs_19 rfl (lv_at hl 2 rfl) ?_
    refine g_ald hx hb hK hG (k := 5) (n := 6) (show mIA 5 6 from by decide +kernel).1.1 (mIA_e (show mIA 5 6 from by decide +kernel) _ _) 0 rfl h dX5_noPairs_20 (fun v3 h => ?_)
    refine lv_iconst (v := (2 : Int32)) hx hb dX5_noPairs_21 (by decide) ?_
    refine lv_irem hx hb dX5_noPairs_22 (by decide) ?_
    refine lv_if_ne (tgt := 37) hx hb dX5_noPairs_23 (by decide) (fun c4 => ?_) (fun c4 => ?_)
    · have h := ite_f h c4
      refine lv_aload_n hx hb dX5_noPairs_37 rfl (lv_at hl 0 rfl) ?_
      refine lv_iconst (v := (5 : Int32)) hx hb dX5_noPairs_38 (by decide) ?_
      obtain ⟨q5, eq5, h⟩ := obind h
      refine g_endi (va_runV (As := [.int (5 : Int32)]) (rest := []) ⟨hx, hb, hml, hown, hts⟩ (k_X5_find l D cy ad hi I L (5 : Int32) q5 eq5) (cwV 1 hts gX5_noPairs_X5_find rfl rfl rfl cd_X5_find ⟨Nat.le_of_ble_eq_true rfl, Nat.le_of_ble_eq_true rfl⟩) ⟨g_blind mZm, g_recv hK hG (k := 0) (by decide) (mE_5 _ _) vwCl_5, g_pre mZm hK hG hZ hS⟩ rfl rfl hl.1 rfl (lv_room (Nat.le_of_ble_eq_true rfl)) dX5_noPairs_39 ⟨Nat.le_refl _, Nat.le_refl _⟩) hS (fun H locs hG hS => ?_)
      have h := Option.some.inj h
      subst h
      subst hQ
      exact g_iret hx hb hr hlocks mZm hK hZ hG hS rfl dX5_noPairs_42
    · have h := ite_t h c4
      refine lv_aload_n hx hb dX5_noPairs_26 rfl (lv_at hl 0 rfl) ?_
      refine g_get hx hb l5 hown hK hG (k := 0) (by decide) (mE_5 _ _) vwCl_5 7 (by decide) k1 (fun _ h9 => h9) rfl dX5_noPairs_27 ?_
      refine lv_iload_n hx hb dX5_noPairs_30 rfl (lv_at hl 2 rfl) ?_
      refine g_ald hx hb hK hG (k := 5) (n := 6) (show mIA 5 6 from by decide +kernel).1.1 (mIA_e (show mIA 5 6 from by decide +kernel) _ _) 0 rfl h dX5_noPairs_31 (fun v6 h => ?_)
      refine lv_bipush (v := (16 : Int32)) hx hb dX5_noPairs_32 (by decide) ?_
      refine lv_icmp_le (tgt := 43) hx hb dX5_noPairs_34 (by decide) (fun c7 => ?_) (fun c7 => ?_)
      · have h := ite_t h c7
        refine lv_iconst (v := (1 : Int32)) hx hb dX5_noPairs_43 (by decide) ?_
        refine lv_istore_n (lv' := [(3, .int (1 : Int32)), (0, .ref (ad 0)), (1, .int x1), (2, .int x2)]) hx hb dX5_noPairs_44 rfl hl (by decide) rfl (fun ls hl => ?_)
        refine lv_bipush (v := (40 : Int32)) hx hb dX5_noPairs_45 (by decide) ?_
        refine lv_iload_n hx hb dX5_noPairs_47 rfl (lv_at hl 3 rfl) ?_
        refine lv_imul hx hb dX5_noPairs_48 ?_
        refine lv_istore (lv' := [(4, .int ((40 : Int32) * x2)), (3, .int (1 : Int32)), (0, .ref (ad 0)), (1, .int x1), (2, .int x2)]) hx hb dX5_noPairs_49 hl (by decide) rfl (fun ls hl => ?_)
        have keyK8 : ∀ (K8 : Int32 → Option (Int32 × xMem)), (∀ (z3_9 : Int32) (H : Heap) (locs : List Loc) (ls : Array Slot), K8 z3_9 = some r → mG D cy ad I L H → va_S (gA 18 ad) s.heap H locs → lv_has ls 5 [(0, .ref (ad 0)), (3, .int z3_9)] → W p l e rm_X5_noPairs s m args below meth c H locs 0 0 Q (F0 m 118 ls [])) → ∀ (n9 : Nat) (x3_9 : Int32) (x4_9 : Int32) (H : Heap) (locs : List Loc) (ls : Array Slot), X5_noPairs_L1 I x1 x2 K8 n9 x3_9 x4_9 = some r → mG D cy ad I L H → va_S (gA 18 ad) s.heap H locs → lv_has ls 5 [(0, .ref (ad 0)), (1, .int x1), (2, .int x2), (3, .int x3_9), (4, .int x4_9)] → W p l e rm_X5_noPairs s m args below meth c H locs 0 0 Q (F0 m 51 ls []) := by
          intro K8 hkK8 n9
          induction n9 with
          | zero =>
            intro x3_9 x4_9 H locs ls h
            exact ono h
          | succ n9 ihn9 =>
            intro x3_9 x4_9 H locs ls h hG hS hl
            rw [X5_noPairs_L1] at h
            refine lv_iload hx hb dX5_noPairs_51 (lv_at hl 4 rfl) ?_
            refine lv_bipush (v := (40 : Int32)) hx hb dX5_noPairs_53 (by decide) ?_
            refine lv_iload_n hx hb dX5_noPairs_55 rfl (lv_at hl 2 rfl) ?_
            refine lv_imul hx hb dX5_noPairs_56 ?_
            refine lv_aload_n hx hb dX5_noPairs_57 rfl (lv_at hl 0 rfl) ?_
            refine g_get hx hb l5 hown hK hG (k := 0) (by decide) (mE_5 _ _) vwCl_5 7 (by decide) k1 (fun _ h9 => h9) rfl dX5_noPairs_58 ?_
            refine lv_iload_n hx hb dX5_noPairs_61 rfl (lv_at hl 2 rfl) ?_
            refine g_ald hx hb hK hG (k := 5) (n := 6) (show mIA 5 6 from by decide +kernel).1.1 (mIA_e (show mIA 5 6 from by decide +kernel) _ _) 0 rfl h dX5_noPairs_62 (fun v10 h => ?_)
            refine lv_iadd hx hb dX5_noPairs_63 ?_
            refine lv_icmp_ge (tgt := 118) hx hb dX5_noPairs_64 (by decide) (fun c11 => ?_) (fun c11 => ?_)
            · have h := ite_t h c11
              exact hkK8 x3_9 _ _ _ h hG hS (lv_sub hl [0, 3] rfl)
            · have h := ite_f h c11
              refine lv_iload_n hx hb dX5_noPairs_67 rfl (lv_at hl 3 rfl) ?_
              refine lv_if_eq (tgt := 110) hx hb dX5_noPairs_68 (by decide) (fun c12 => ?_) (fun c12 => ?_)
              · have h := ite_t h c12
                refine lv_iconst (v := (0 : Int32)) hx hb dX5_noPairs_110 (by decide) ?_
                refine lv_istore_n (lv' := [(3, .int (0 : Int32)), (0, .ref (ad 0)), (1, .int x1), (2, .int x2), (4, .int x4_9)]) hx hb dX5_noPairs_111 rfl hl (by decide) rfl (fun ls hl => ?_)
                refine lv_iinc (v := (x4_9 + (2 : Int32))) (lv' := [(4, .int (x4_9 + (2 : Int32))), (3, .int (0 : Int32)), (0, .ref (ad 0)), (1, .int x1), (2, .int x2)]) hx hb dX5_noPairs_112 hl (k := 4) rfl rfl (by decide) rfl (fun ls hl => ?_)
                refine lv_goto (tgt := 51) hx hb dX5_noPairs_115 (by decide) ?_
                exact ihn9 (0 : Int32) (x4_9 + (2 : Int32)) _ _ _ h hG hS (lv_sub hl [2, 3, 4, 1, 0] rfl)
              · have h := ite_f h c12
                refine lv_aload_n hx hb dX5_noPairs_71 rfl (lv_at hl 0 rfl) ?_
                refine lv_iload_n hx hb dX5_noPairs_72 rfl (lv_at hl 1 rfl) ?_
                refine lv_aload_n hx hb dX5_noPairs_73 rfl (lv_at hl 0 rfl) ?_
                refine g_get hx hb l5 hown hK hG (k := 0) (by decide) (mE_5 _ _) vwCl_5 8 (by decide) k2 (fun _ h9 => h9) rfl dX5_noPairs_74 ?_
                refine lv_iload hx hb dX5_noPairs_77 (lv_at hl 4 rfl) ?_
                refine g_ald hx hb hK hG (k := 6) (n := 240) (show mIA 6 240 from by decide +kernel).1.1 (mIA_e (show mIA 6 240 from by decide +kernel) _ _) 0 rfl h dX5_noPairs_79 (fun v13 h => ?_)
                refine g_endi (va_runV (As := [.int x1, .int v13]) (rest := []) ⟨hx, hb, hml, hown, hts⟩ (k_X5_areTwo l D cy ad hi I L x1 v13 _ rfl) (cwV 2 hts gX5_noPairs_X5_areTwo rfl rfl rfl cd_X5_areTwo ⟨Nat.le_of_ble_eq_true rfl, Nat.le_of_ble_eq_true rfl⟩) ⟨g_blind mZm, g_recv hK hG (k := 0) (by decide) (mE_5 _ _) vwCl_5, g_pre mZm hK hG hZ hS⟩ rfl rfl hl.1 rfl (lv_room (Nat.le_of_ble_eq_true rfl)) dX5_noPairs_80 ⟨Nat.le_refl _, Nat.le_refl _⟩) hS (fun H locs hG hS => ?_)
                refine lv_if_eq (tgt := 110) hx hb dX5_noPairs_83 (by decide) (fun c14 => ?_) (fun c14 => ?_)
                · have h := ite_t h c14
                  refine lv_iconst (v := (0 : Int32)) hx hb dX5_noPairs_110 (by decide) ?_
                  refine lv_istore_n (lv' := [(3, .int (0 : Int32)), (0, .ref (ad 0)), (1, .int x1), (2, .int x2), (4, .int x4_9)]) hx hb dX5_noPairs_111 rfl hl (by decide) rfl (fun ls hl => ?_)
                  refine lv_iinc (v := (x4_9 + (2 : Int32))) (lv' := [(4, .int (x4_9 + (2 : Int32))), (3, .int (0 : Int32)), (0, .ref (ad 0)), (1, .int x1), (2, .int x2)]) hx hb dX5_noPairs_112 hl (k := 4) rfl rfl (by decide) rfl (fun ls hl => ?_)
                  refine lv_goto (tgt := 51) hx hb dX5_noPairs_115 (by decide) ?_
                  exact ihn9 (0 : Int32) (x4_9 + (2 : Int32)) _ _ _ h hG hS (lv_sub hl [2, 3, 4, 1, 0] rfl)
                · have h := ite_f h c14
                  refine lv_aload_n hx hb dX5_noPairs_86 rfl (lv_at hl 0 rfl) ?_
                  refine g_get hx hb l5 hown hK hG (k := 0) (by decide) (mE_5 _ _) vwCl_5 8 (by decide) k2 (fun _ h9 => h9) rfl dX5_noPairs_87 ?_
                  refine lv_iload hx hb dX5_noPairs_90 (lv_at hl 4 rfl) ?_
                  refine lv_iconst (v := (1 : Int32)) hx hb dX5_noPairs_92 (by decide) ?_
                  refine lv_iadd hx hb dX5_noPairs_93 ?_
                  refine g_ald hx hb hK hG (k := 6) (n := 240) (show mIA 6 240 from by decide +kernel).1.1 (mIA_e (show mIA 6 240 from by decide +kernel) _ _) 0 rfl h dX5_noPairs_94 (fun v15 h => ?_)
                  refine lv_i2l hx hb dX5_noPairs_95 rfl ?_
                  refine lv_lconst (v := (0 : Int64)) hx hb dX5_noPairs_96 (by decide) ?_
                  refine lv_ldc2 (v := (200 : Int64)) hx hb hown k3 dX5_noPairs_97 ?_
                  refine g_endi (va_runS (As := [.long v15.toInt64, .long (0 : Int64), .long (200 : Int64)]) (rest := []) ⟨hx, hb, hml, hown, hts⟩ (k_X5_in l D cy ad hi I L v15.toInt64 (0 : Int64) (200 : Int64) _ rfl) (va_cwS 3 hts gX5_noPairs_X5_in rfl rfl rfl cd_X5_in.2 ⟨Nat.le_of_ble_eq_true rfl, Nat.le_of_ble_eq_true rfl⟩) ⟨g_blind mZm, g_pre mZm hK hG hZ hS⟩ rfl rfl hl.1 rfl (lv_room (Nat.le_of_ble_eq_true rfl)) dX5_noPairs_100 ⟨Nat.le_refl _, Nat.le_refl _⟩) hS (fun H locs hG hS => ?_)
                  refine lv_if_eq (tgt := 110) hx hb dX5_noPairs_103 (by decide) (fun c16 => ?_) (fun c16 => ?_)
                  · have h := ite_t h c16
                    refine lv_iconst (v := (0 : Int32)) hx hb dX5_noPairs_110 (by decide) ?_
                    refine lv_istore_n (lv' := [(3, .int (0 : Int32)), (0, .ref (ad 0)), (1, .int x1), (2, .int x2), (4, .int x4_9)]) hx hb dX5_noPairs_111 rfl hl (by decide) rfl (fun ls hl => ?_)
                    refine lv_iinc (v := (x4_9 + (2 : Int32))) (lv' := [(4, .int (x4_9 + (2 : Int32))), (3, .int (0 : Int32)), (0, .ref (ad 0)), (1, .int x1), (2, .int x2)]) hx hb dX5_noPairs_112 hl (k := 4) rfl rfl (by decide) rfl (fun ls hl => ?_)
                    refine lv_goto (tgt := 51) hx hb dX5_noPairs_115 (by decide) ?_
                    exact ihn9 (0 : Int32) (x4_9 + (2 : Int32)) _ _ _ h hG hS (lv_sub hl [2, 3, 4, 1, 0] rfl)
                  · have h := ite_f h c16
                    refine lv_iconst (v := (1 : Int32)) hx hb dX5_noPairs_106 (by decide) ?_
                    refine lv_goto (tgt := 111) hx hb dX5_noPairs_107 (by decide) ?_
                    refine lv_istore_n (lv' := [(3, .int (1 : Int32)), (0, .ref (ad 0)), (1, .int x1), (2, .int x2), (4, .int x4_9)]) hx hb dX5_noPairs_111 rfl hl (by decide) rfl (fun ls hl => ?_)
                    refine lv_iinc (v := (x4_9 + (2 : Int32))) (lv' := [(4, .int (x4_9 + (2 : Int32))), (3, .int (1 : Int32)), (0, .ref (ad 0)), (1, .int x1), (2, .int x2)]) hx hb dX5_noPairs_112 hl (k := 4) rfl rfl (by decide) rfl (fun ls hl => ?_)
                    refine lv_goto (tgt := 51) hx hb dX5_noPairs_115 (by decide) ?_
                    exact ihn9 (1 : Int32) (x4_9 + (2 : Int32)) _ _ _ h hG hS (lv_sub hl [2, 3, 4, 1, 0] rfl)
        refine keyK8 _ (fun z3_9 H locs ls h hG hS hl => ?_) bigF (1 : Int32) ((40 : Int32) * x2) _ _ _ h hG hS (lv_sub hl [2, 3, 4, 1, 0] rfl)
        clear keyK8
        refine lv_iload_n hx hb dX5_noPairs_118 rfl (lv_at hl 1 rfl) ?_
        refine lv_if_eq (tgt := 126) hx hb dX5_noPairs_119 (by decide) (fun c17 => ?_) (fun c17 => ?_)
        · have h := ite_t h c17
          refine lv_aload_n hx hb dX5_noPairs_126 rfl (lv_at hl 0 rfl) ?_
          refine lv_iconst (v := (3 : Int32)) hx hb dX5_noPairs_127 (by decide) ?_
          obtain ⟨q18, eq18, h⟩ := obind h
          refine g_endi (va_runV (As := [.int (3 : Int32)]) (rest := []) ⟨hx, hb, hml, hown, hts⟩ (k_X5_find l D cy ad hi I L (3 : Int32) q18 eq18) (cwV 1 hts gX5_noPairs_X5_find rfl rfl rfl cd_X5_find ⟨Nat.le_of_ble_eq_true rfl, Nat.le_of_ble_eq_true rfl⟩) ⟨g_blind mZm, g_recv hK hG (k := 0) (by decide) (mE_5 _ _) vwCl_5, g_pre mZm hK hG hZ hS⟩ rfl rfl hl.1 rfl (lv_room (Nat.le_of_ble_eq_true rfl)) dX5_noPairs_128 ⟨Nat.le_refl _, Nat.le_refl _⟩) hS (fun H locs hG hS => ?_)
          have h := Option.some.inj h
          subst h
          subst hQ
          exact g_iret hx hb hr hlocks mZm hK hZ hG hS rfl dX5_noPairs_131
        · have h := ite_f h c17
          refine lv_iconst (v := (0 : Int32)) hx hb dX5_noPairs_122 (by decide) ?_
          refine lv_goto (tgt := 131) hx hb dX5_noPairs_123 (by decide) ?_
          have h := Option.some.inj h
          subst h
          subst hQ
          exact g_iret hx hb hr hlocks mZm hK hZ hG hS rfl dX5_noPairs_131
      · have h := ite_f h c7
        refine lv_aload_n hx hb dX5_noPairs_37 rfl (lv_at hl 0 rfl) ?_
        refine lv_iconst (v := (5 : Int32)) hx hb dX5_noPairs_38 (by decide) ?_
        obtain ⟨q19, eq19, h⟩ := obind h
        refine g_endi (va_runV (As := [.int (5 : Int32)]) (rest := []) ⟨hx, hb, hml, hown, hts⟩ (k_X5_find l D cy ad hi I L (5 : Int32) q19 eq19) (cwV 1 hts gX5_noPairs_X5_find rfl rfl rfl cd_X5_find ⟨Nat.le_of_ble_eq_true rfl, Nat.le_of_ble_eq_true rfl⟩) ⟨g_blind mZm, g_recv hK hG (k := 0) (by decide) (mE_5 _ _) vwCl_5, g_pre mZm hK hG hZ hS⟩ rfl rfl hl.1 rfl (lv_room (Nat.le_of_ble_eq_true rfl)) dX5_noPairs_39 ⟨Nat.le_refl _, Nat.le_refl _⟩) hS (fun H locs hG hS => ?_)
        have h := Option.some.inj h
        subst h
        subst hQ
        exact g_iret hx hb hr hlocks mZm hK hZ hG hS rfl dX5_noPairs_42
  · have h := ite_f h c2
    refine lv_aload_n hx hb dX5_noPairs_9 rfl (lv_at hl 0 rfl) ?_
    refine lv_iconst (v := (1 : Int32)) hx hb dX5_noPairs_10 (by decide) ?_
    obtain ⟨q20, eq20, h⟩ := obind h
    refine g_endi (va_runV (As := [.int (1 : Int32)]) (rest := []) ⟨hx, hb, hml, hown, hts⟩ (k_X5_find l D cy ad hi I L (1 : Int32) q20 eq20) (cwV 1 hts gX5_noPairs_X5_find rfl rfl rfl cd_X5_find ⟨Nat.le_of_ble_eq_true rfl, Nat.le_of_ble_eq_true rfl⟩) ⟨g_blind mZm, g_recv hK hG (k := 0) (by decide) (mE_5 _ _) vwCl_5, g_pre mZm hK hG hZ hS⟩ rfl rfl hl.1 rfl (lv_room (Nat.le_of_ble_eq_true rfl)) dX5_noPairs_11 ⟨Nat.le_refl _, Nat.le_refl _⟩) hS (fun H locs hG hS => ?_)
    have h := Option.some.inj h
    subst h
    subst hQ
    exact g_iret hx hb hr hlocks mZm hK hZ hG hS rfl dX5_noPairs_14
def X5_sankUnder (I : xMem) (x1 : Int32) (x2 : Int32) (x3 : Int32) : Option (Int32) := (rdI I 1 660 (1 : Int32)).bind fun v1 => (X5_counts I x3).bind fun v2 => (X5_sinkUnder I x1 (X5_countsBy x1 x2 v1) x3 v2).bind fun v3 => some v3
abbrev rm_X5_sankUnder : Room := { frames := 2, cells := 0, slots := 0, locals := 46 }
theorem cd_X5_sankUnder : yX5_sankUnder.cls = RX5 ∧ yX5_sankUnder.cls ≠ "java/lang/invoke/MethodHandle" ∧ yX5_sankUnder.cls ≠ "java/lang/invoke/VarHandle" ∧ (parseMethodDescriptor yX5_sankUnder.desc).map (fun d => d.parameters.length) = some 3 := by decide +kernel
set_option maxHeartbeats 4000000 in
set_option maxRecDepth 100000 in
theorem k_X5_sankUnder (l : Launch) (D : va_G) (cy : Nat → ClassId) (ad : Nat → Nat) (hi : gInj 18 ad) (I : xMem) (L : xLon) (x1 : Int32) (x2 : Int32) (x3 : Int32) (r : Int32) (h : X5_sankUnder I x1 x2 x3 = some r) : Met l yX5_sankUnder wsX5_sankUnder rm_X5_sankUnder (va_Pc [.ref (ad 0), .int x1, .int x2, .int x3] (mW D cy ad I L)) (mPi D cy ad I L r) 0 0 (gA 18 ad) := by
  refine g_met (own := RX5) (cc := cX5_sankUnder) (maxL := 4) (ret := (some .int)) (by decide) rfl (Nat.le_of_ble_eq_true rfl) rfl ?_
  intro p e s m args below meth c ls hx hb hml hr hlocks hown hts hG hK hZ hl
  generalize hQ : MQ below _ args s 0 0 _ = Q
  have hl : lv_has ls 4 [(0, .ref (ad 0)), (1, .int x1), (2, .int x2), (3, .int x3)] := hl
  have hS : va_S (gA 18 ad) s.heap s.heap [] := va_S.rf
  have l5 : ∀ w ∈ wsX50, w.before args s = true := fun w h => hts w (List.mem_cons_of_mem _ (List.mem_append_right _ h))
  have k1 := hts (.fieldLink RX5 7 "PairStairsModel" "row" "[I") (by decide +kernel)
  unfold X5_sankUnder at h
  refine lv_aload_n hx hb dX5_sankUnder_0 rfl (lv_at hl 0 rfl) ?_
  refine lv_iload_n hx hb dX5_sankUnder_1 rfl (lv_at hl 1 rfl) ?_
  refine lv_iload_n hx hb dX5_sankUnder_2 rfl (lv_at hl 1 rfl) ?_
  refine lv_iload_n hx hb dX5_sankUnder_3 rfl (lv_at hl 2 rfl) ?_
  refine lv_aload_n hx hb dX5_sankUnder_4 rfl (lv_at hl 0 rfl) ?_
  refine g_get hx hb l5 hown hK hG (k := 0) (by decide) (mE_5 _ _) vwCl_5 0 (by decide) k1 (fun _ h9 => h9) rfl dX5_sankUnder_5 ?_
  refine lv_iconst (v := (1 : Int32)) hx hb dX5_sankUnder_8 (by decide) ?_
  refine g_ald hx hb hK hG (k := 1) (n := 660) (show mIA 1 660 from by decide +kernel).1.1 (mIA_e (show mIA 1 660 from by decide +kernel) _ _) 0 rfl h dX5_sankUnder_9 (fun v1 h => ?_)
  refine g_endi (va_runS (As := [.int x1, .int x2, .int v1]) (rest := [.int x1, .ref (ad 0)]) ⟨hx, hb, hml, hown, hts⟩ (k_X5_countsBy l D cy ad hi I L x1 x2 v1 _ rfl) (va_cwS 3 hts gX5_sankUnder_X5_countsBy rfl rfl rfl cd_X5_countsBy.2 ⟨Nat.le_of_ble_eq_true rfl, Nat.le_of_ble_eq_true rfl⟩) ⟨g_blind mZm, g_pre mZm hK hG hZ hS⟩ rfl rfl hl.1 rfl (lv_room (Nat.le_of_ble_eq_true rfl)) dX5_sankUnder_10 ⟨Nat.le_refl _, Nat.le_refl _⟩) hS (fun H locs hG hS => ?_)
  refine lv_iload_n hx hb dX5_sankUnder_13 rfl (lv_at hl 3 rfl) ?_
  refine lv_aload_n hx hb dX5_sankUnder_14 rfl (lv_at hl 0 rfl) ?_
  refine lv_iload_n hx hb dX5_sankUnder_15 rfl (lv_at hl 3 rfl) ?_
  obtain ⟨v2, ev2, h⟩ := obind h
  refine g_endi (va_runV (As := [.int x3]) (rest := [.int x3, .int (X5_countsBy x1 x2 v1), .int x1, .ref (ad 0)]) ⟨hx, hb, hml, hown, hts⟩ (k_X5_counts l D cy ad hi I L x3 v2 ev2) (cwV 1 hts gX5_sankUnder_X5_counts rfl rfl rfl cd_X5_counts ⟨Nat.le_of_ble_eq_true rfl, Nat.le_of_ble_eq_true rfl⟩) ⟨g_blind mZm, g_recv hK hG (k := 0) (by decide) (mE_5 _ _) vwCl_5, g_pre mZm hK hG hZ hS⟩ rfl rfl hl.1 rfl (lv_room (Nat.le_of_ble_eq_true rfl)) dX5_sankUnder_16 ⟨Nat.le_refl _, Nat.le_refl _⟩) hS (fun H locs hG hS => ?_)
  obtain ⟨v3, ev3, h⟩ := obind h
  refine g_endi (va_runV (As := [.int x1, .int (X5_countsBy x1 x2 v1), .int x3, .int v2]) (rest := []) ⟨hx, hb, hml, hown, hts⟩ (k_X5_sinkUnder l D cy ad hi I L x1 (X5_countsBy x1 x2 v1) x3 v2 v3 ev3) (cwV 4 hts gX5_sankUnder_X5_sinkUnder rfl rfl rfl cd_X5_sinkUnder ⟨Nat.le_of_ble_eq_true rfl, Nat.le_of_ble_eq_true rfl⟩) ⟨g_blind mZm, g_recv hK hG (k := 0) (by decide) (mE_5 _ _) vwCl_5, g_pre mZm hK hG hZ hS⟩ rfl rfl hl.1 rfl (lv_room (Nat.le_of_ble_eq_true rfl)) dX5_sankUnder_19 ⟨Nat.le_refl _, Nat.le_refl _⟩) hS (fun H locs hG hS => ?_)
  have h := Option.some.inj h
  subst h
  subst hQ
  exact g_iret hx hb hr hlocks mZm hK hZ hG hS rfl dX5_sankUnder_22
def X5_isSo_L1 (I : xMem) (x1 : Int32) (x2 : Int32) (x3 : Int32) (K1 : Int32 → Option (Int32)) : Nat → Int32 → Int32 → Option (Int32)
  | 0, _, _ => none
  | n2 + 1, x4_2, x5_2 => (rdI I 5 6 x1).bind fun v3 => if (((40 : Int32) * x1) + v3) ≤ x5_2 then (K1 x4_2) else (if x4_2 = (0 : Int32) then (X5_isSo_L1 I x1 x2 x3 K1 n2 (0 : Int32) (x5_2 + (2 : Int32))) else ((rdI I 6 240 x5_2).bind fun v6 => (X5_sankUnder I x2 x3 v6).bind fun v7 => (rdI I 6 240 (x5_2 + (1 : Int32))).bind fun v8 => if v7 = v8 then (X5_isSo_L1 I x1 x2 x3 K1 n2 (1 : Int32) (x5_2 + (2 : Int32))) else (X5_isSo_L1 I x1 x2 x3 K1 n2 (0 : Int32) (x5_2 + (2 : Int32)))))
def X5_isSo (I : xMem) (x1 : Int32) (x2 : Int32) (x3 : Int32) : Option (Int32) := X5_isSo_L1 I x1 x2 x3 (fun (z4_2 : Int32) => some (nz z4_2)) bigF (1 : Int32) ((40 : Int32) * x1)
abbrev rm_X5_isSo : Room := { frames := 3, cells := 0, slots := 0, locals := 69 }
theorem cd_X5_isSo : yX5_isSo.cls = RX5 ∧ yX5_isSo.cls ≠ "java/lang/invoke/MethodHandle" ∧ yX5_isSo.cls ≠ "java/lang/invoke/VarHandle" ∧ (parseMethodDescriptor yX5_isSo.desc).map (fun d => d.parameters.length) = some 3 := by decide +kernel
set_option maxHeartbeats 4000000 in
set_option maxRecDepth 100000 in
theorem k_X5_isSo (l : Launch) (D : va_G) (cy : Nat → ClassId) (ad : Nat → Nat) (hi : gInj 18 ad) (I : xMem) (L : xLon) (x1 : Int32) (x2 : Int32) (x3 : Int32) (r : Int32) (h : X5_isSo I x1 x2 x3 = some r) : Met l yX5_isSo wsX5_isSo rm_X5_isSo (va_Pc [.ref (ad 0), .int x1, .int x2, .int x3] (mW D cy ad I L)) (mPi D cy ad I L r) 0 0 (gA 18 ad) := by
  refine g_met (own := RX5) (cc := cX5_isSo) (maxL := 6) (ret := (some .boolean)) (by decide) rfl (Nat.le_of_ble_eq_true rfl) rfl ?_
  intro p e s m args below meth c ls hx hb hml hr hlocks hown hts hG hK hZ hl
  generalize hQ : MQ below _ args s 0 0 _ = Q
  have hl : lv_has ls 6 [(0, .ref (ad 0)), (1, .int x1), (2, .int x2), (3, .int x3)] := hl
  have hS : va_S (gA 18 ad) s.heap s.heap [] := va_S.rf
  have l5 : ∀ w ∈ wsX50, w.before args s = true := fun w h => hts w (List.mem_cons_of_mem _ (List.mem_append_right _ h))
  have k1 := hts (.fieldLink RX5 22 "PairStairsModel" "sizes" "[I") (by decide +kernel)
  have k2 := hts (.fieldLink RX5 25 "PairStairsModel" "items" "[I") (by decide +kernel)
  unfold X5_isSo at h
  refine lv_iconst (v := (1 : Int32)) hx hb dX5_isSo_0 (by decide) ?_
  refine lv_istore (lv' := [(4, .int (1 : Int32)), (0, .ref (ad 0)), (1, .int x1), (2, .int x2), (3, .int x3)]) hx hb dX5_isSo_1 hl (by decide) rfl (fun ls hl => ?_)
  refine lv_bipush (v := (40 : Int32)) hx hb dX5_isSo_3 (by decide) ?_
  refine lv_iload_n hx hb dX5_isSo_5 rfl (lv_at hl 2 rfl) ?_
  refine lv_imul hx hb dX5_isSo_6 ?_
  refine lv_istore (lv' := [(5, .int ((40 : Int32) * x1)), (4, .int (1 : Int32)), (0, .ref (ad 0)), (1, .int x1), (2, .int x2), (3, .int x3)]) hx hb dX5_isSo_7 hl (by decide) rfl (fun ls hl => ?_)
  have keyK1 : ∀ (K1 : Int32 → Option (Int32)), (∀ (z4_2 : Int32) (H : Heap) (locs : List Loc) (ls : Array Slot), K1 z4_2 = some r → mG D cy ad I L H → va_S (gA 18 ad) s.heap H locs → lv_has ls 6 [(4, .int z4_2)] → W p l e rm_X5_isSo s m args below meth c H locs 0 0 Q (F0 m 68 ls [])) → ∀ (n2 : Nat) (x4_2 : Int32) (x5_2 : Int32) (H : Heap) (locs : List Loc) (ls : Array Slot), X5_isSo_L1 I x1 x2 x3 K1 n2 x4_2 x5_2 = some r → mG D cy ad I L H → va_S (gA 18 ad) s.heap H locs → lv_has ls 6 [(0, .ref (ad 0)), (1, .int x1), (2, .int x2), (3, .int x3), (4, .int x4_2), (5, .int x5_2)] → W p l e rm_X5_isSo s m args below meth c H locs 0 0 Q (F0 m 9 ls []) := by
    intro K1 hkK1 n2
    induction n2 with
    | zero =>
      intro x4_2 x5_2 H locs ls h
      exact ono h
    | succ n2 ihn2 =>
      intro x4_2 x5_2 H locs ls h hG hS hl
      rw [X5_isSo_L1] at h
      refine lv_iload hx hb dX5_isSo_9 (lv_at hl 5 rfl) ?_
      refine lv_bipush (v := (40 : Int32)) hx hb dX5_isSo_11 (by decide) ?_
      refine lv_iload_n hx hb dX5_isSo_13 rfl (lv_at hl 1 rfl) ?_
      refine lv_imul hx hb dX5_isSo_14 ?_
      refine lv_aload_n hx hb dX5_isSo_15 rfl (lv_at hl 0 rfl) ?_
      refine g_get hx hb l5 hown hK hG (k := 0) (by decide) (mE_5 _ _) vwCl_5 7 (by decide) k1 (fun _ h9 => h9) rfl dX5_isSo_16 ?_
      refine lv_iload_n hx hb dX5_isSo_19 rfl (lv_at hl 1 rfl) ?_
      refine g_ald hx hb hK hG (k := 5) (n := 6) (show mIA 5 6 from by decide +kernel).1.1 (mIA_e (show mIA 5 6 from by decide +kernel) _ _) 0 rfl h dX5_isSo_20 (fun v3 h => ?_)
      refine lv_iadd hx hb dX5_isSo_21 ?_
      refine lv_icmp_ge (tgt := 68) hx hb dX5_isSo_22 (by decide) (fun c4 => ?_) (fun c4 => ?_)
      · have h := ite_t h c4
        exact hkK1 x4_2 _ _ _ h hG hS (lv_sub hl [4] rfl)
      · have h := ite_f h c4
        refine lv_iload hx hb dX5_isSo_25 (lv_at hl 4 rfl) ?_
        refine lv_if_eq (tgt := 59) hx hb dX5_isSo_27 (by decide) (fun c5 => ?_) (fun c5 => ?_)
        · have h := ite_t h c5
          refine lv_iconst (v := (0 : Int32)) hx hb dX5_isSo_59 (by decide) ?_
          refine lv_istore (lv' := [(4, .int (0 : Int32)), (0, .ref (ad 0)), (1, .int x1), (2, .int x2), (3, .int x3), (5, .int x5_2)]) hx hb dX5_isSo_60 hl (by decide) rfl (fun ls hl => ?_)
          refine lv_iinc (v := (x5_2 + (2 : Int32))) (lv' := [(5, .int (x5_2 + (2 : Int32))), (4, .int (0 : Int32)), (0, .ref (ad 0)), (1, .int x1), (2, .int x2), (3, .int x3)]) hx hb dX5_isSo_62 hl (k := 5) rfl rfl (by decide) rfl (fun ls hl => ?_)
          refine lv_goto (tgt := 9) hx hb dX5_isSo_65 (by decide) ?_
          exact ihn2 (0 : Int32) (x5_2 + (2 : Int32)) _ _ _ h hG hS (lv_sub hl [2, 3, 4, 5, 1, 0] rfl)
        · have h := ite_f h c5
          refine lv_aload_n hx hb dX5_isSo_30 rfl (lv_at hl 0 rfl) ?_
          refine lv_iload_n hx hb dX5_isSo_31 rfl (lv_at hl 2 rfl) ?_
          refine lv_iload_n hx hb dX5_isSo_32 rfl (lv_at hl 3 rfl) ?_
          refine lv_aload_n hx hb dX5_isSo_33 rfl (lv_at hl 0 rfl) ?_
          refine g_get hx hb l5 hown hK hG (k := 0) (by decide) (mE_5 _ _) vwCl_5 8 (by decide) k2 (fun _ h9 => h9) rfl dX5_isSo_34 ?_
          refine lv_iload hx hb dX5_isSo_37 (lv_at hl 5 rfl) ?_
          refine g_ald hx hb hK hG (k := 6) (n := 240) (show mIA 6 240 from by decide +kernel).1.1 (mIA_e (show mIA 6 240 from by decide +kernel) _ _) 0 rfl h dX5_isSo_39 (fun v6 h => ?_)
          obtain ⟨v7, ev7, h⟩ := obind h
          refine g_endi (va_runV (As := [.int x2, .int x3, .int v6]) (rest := []) ⟨hx, hb, hml, hown, hts⟩ (k_X5_sankUnder l D cy ad hi I L x2 x3 v6 v7 ev7) (cwV 3 hts gX5_isSo_X5_sankUnder rfl rfl rfl cd_X5_sankUnder ⟨Nat.le_of_ble_eq_true rfl, Nat.le_of_ble_eq_true rfl⟩) ⟨g_blind mZm, g_recv hK hG (k := 0) (by decide) (mE_5 _ _) vwCl_5, g_pre mZm hK hG hZ hS⟩ rfl rfl hl.1 rfl (lv_room (Nat.le_of_ble_eq_true rfl)) dX5_isSo_40 ⟨Nat.le_refl _, Nat.le_refl _⟩) hS (fun H locs hG hS => ?_)
          refine lv_aload_n hx hb dX5_isSo_43 rfl (lv_at hl 0 rfl) ?_
          refine g_get hx hb l5 hown hK hG (k := 0) (by decide) (mE_5 _ _) vwCl_5 8 (by decide) k2 (fun _ h9 => h9) rfl dX5_isSo_44 ?_
          refine lv_iload hx hb dX5_isSo_47 (lv_at hl 5 rfl) ?_
          refine lv_iconst (v := (1 : Int32)) hx hb dX5_isSo_49 (by decide) ?_
          refine lv_iadd hx hb dX5_isSo_50 ?_
          refine g_ald hx hb hK hG (k := 6) (n := 240) (show mIA 6 240 from by decide +kernel).1.1 (mIA_e (show mIA 6 240 from by decide +kernel) _ _) 0 rfl h dX5_isSo_51 (fun v8 h => ?_)
          refine lv_icmp_ne (tgt := 59) hx hb dX5_isSo_52 (by decide) (fun c9 => ?_) (fun c9 => ?_)
          · have h := ite_f h c9
            refine lv_iconst (v := (0 : Int32)) hx hb dX5_isSo_59 (by decide) ?_
            refine lv_istore (lv' := [(4, .int (0 : Int32)), (0, .ref (ad 0)), (1, .int x1), (2, .int x2), (3, .int x3), (5, .int x5_2)]) hx hb dX5_isSo_60 hl (by decide) rfl (fun ls hl => ?_)
            refine lv_iinc (v := (x5_2 + (2 : Int32))) (lv' := [(5, .int (x5_2 + (2 : Int32))), (4, .int (0 : Int32)), (0, .ref (ad 0)), (1, .int x1), (2, .int x2), (3, .int x3)]) hx hb dX5_isSo_62 hl (k := 5) rfl rfl (by decide) rfl (fun ls hl => ?_)
            refine lv_goto (tgt := 9) hx hb dX5_isSo_65 (by decide) ?_
            exact ihn2 (0 : Int32) (x5_2 + (2 : Int32)) _ _ _ h hG hS (lv_sub hl [2, 3, 4, 5, 1, 0] rfl)
          · have h := ite_t h c9
            refine lv_iconst (v := (1 : Int32)) hx hb dX5_isSo_55 (by decide) ?_
            refine lv_goto (tgt := 60) hx hb dX5_isSo_56 (by decide) ?_
            refine lv_istore (lv' := [(4, .int (1 : Int32)), (0, .ref (ad 0)), (1, .int x1), (2, .int x2), (3, .int x3), (5, .int x5_2)]) hx hb dX5_isSo_60 hl (by decide) rfl (fun ls hl => ?_)
            refine lv_iinc (v := (x5_2 + (2 : Int32))) (lv' := [(5, .int (x5_2 + (2 : Int32))), (4, .int (1 : Int32)), (0, .ref (ad 0)), (1, .int x1), (2, .int x2), (3, .int x3)]) hx hb dX5_isSo_62 hl (k := 5) rfl rfl (by decide) rfl (fun ls hl => ?_)
            refine lv_goto (tgt := 9) hx hb dX5_isSo_65 (by decide) ?_
            exact ihn2 (1 : Int32) (x5_2 + (2 : Int32)) _ _ _ h hG hS (lv_sub hl [2, 3, 4, 5, 1, 0] rfl)
  refine keyK1 _ (fun z4_2 H locs ls h hG hS hl => ?_) bigF (1 : Int32) ((40 : Int32) * x1) _ _ _ h hG hS (lv_sub hl [2, 3, 4, 5, 1, 0] rfl)
  clear keyK1
  refine lv_iload hx hb dX5_isSo_68 (lv_at hl 0 rfl) ?_
  have h := Option.some.inj h
  subst h
  subst hQ
  exact g_zret hx hb hr hlocks mZm hK hZ hG hS rfl dX5_isSo_70
def X5_pounds_L1 (x1 : Int32) (x2 : Int32) (K6 : Int32 → xMem → Option (Int32 × xMem)) : Nat → Int32 → Int32 → xMem → Option (Int32 × xMem)
  | 0, _, _, _ => none
  | n7 + 1, x4_7, x5_7, I8 => if x5_7 ≤ (0 : Int32) then (K6 x4_7 I8) else ((rdI I8 3 6 x1).bind fun v11 => (X5_isSo I8 x2 v11 x5_7).bind fun v12 => (if v12 = (0 : Int32) then (some (0 : Int32)) else (some (1 : Int32))).bind fun q13 => if v12 = (0 : Int32) then ((some (wr I8 0 11 (I8 0 11))).bind fun I16 => X5_pounds_L1 x1 x2 K6 n7 (x4_7 + q13) (x5_7 + (-1 : Int32)) I16) else ((some (wr I8 0 11 x5_7)).bind fun I17 => X5_pounds_L1 x1 x2 K6 n7 (x4_7 + q13) (x5_7 + (-1 : Int32)) I17))
def X5_pounds (I : xMem) (x1 : Int32) (x2 : Int32) : Option (Int32 × xMem) := if (X5_isOne I x1) = (0 : Int32) then (some ((-1 : Int32), I)) else (if (X5_isRow x2) = (0 : Int32) then (some ((-1 : Int32), I)) else ((X5_noPairs I x1 x2).bind fun q3 => if q3.1 = (0 : Int32) then ((some (wr q3.2 0 11 (-9 : Int32))).bind fun I5 => X5_pounds_L1 x1 x2 (fun (z4_8 : Int32) (I9 : xMem) => some (z4_8, I9)) bigF (0 : Int32) (99 : Int32) I5) else (some (q3.1, q3.2))))
abbrev rm_X5_pounds : Room := { frames := 4, cells := 0, slots := 0, locals := 94 }
theorem cd_X5_pounds : yX5_pounds.cls = RX5 ∧ yX5_pounds.cls ≠ "java/lang/invoke/MethodHandle" ∧ yX5_pounds.cls ≠ "java/lang/invoke/VarHandle" ∧ (parseMethodDescriptor yX5_pounds.desc).map (fun d => d.parameters.length) = some 2 := by decide +kernel
set_option maxHeartbeats 4000000 in
set_option maxRecDepth 100000 in
theorem k_X5_pounds (l : Launch) (D : va_G) (cy : Nat → ClassId) (ad : Nat → Nat) (hi : gInj 18 ad) (I : xMem) (L : xLon) (x1 : Int32) (x2 : Int32) (r : Int32 × xMem) (h : X5_pounds I x1 x2 = some r) : Met l yX5_pounds wsX5_pounds rm_X5_pounds (va_Pc [.ref (ad 0), .int x1, .int x2] (mW D cy ad I L)) (mPi D cy ad r.2 L r.1) 0 0 (gA 18 ad) := by
  refine g_met (own := RX5) (cc := cX5_pounds) (maxL := 7) (ret := (some .int)) (by decide) rfl (Nat.le_of_ble_eq_true rfl) rfl ?_
  intro p e s m args below meth c ls hx hb hml hr hlocks hown hts hG hK hZ hl
  generalize hQ : MQ below _ args s 0 0 _ = Q
  have hl : lv_has ls 7 [(0, .ref (ad 0)), (1, .int x1), (2, .int x2)] := hl
  have hS : va_S (gA 18 ad) s.heap s.heap [] := va_S.rf
  have l5 : ∀ w ∈ wsX50, w.before args s = true := fun w h => hts w (List.mem_cons_of_mem _ (List.mem_append_right _ h))
  have k1 := hts (.fieldLink RX5 70 "PairStairsModel" "asked" "I") (by decide +kernel)
  have k2 := hts (.fieldLink RX5 16 "PairStairsModel" "kinds" "[I") (by decide +kernel)
  unfold X5_pounds at h
  refine lv_aload_n hx hb dX5_pounds_0 rfl (lv_at hl 0 rfl) ?_
  refine lv_iload_n hx hb dX5_pounds_1 rfl (lv_at hl 1 rfl) ?_
  refine g_endi (va_runV (As := [.int x1]) (rest := []) ⟨hx, hb, hml, hown, hts⟩ (k_X5_isOne l D cy ad hi I L x1 _ rfl) (cwV 1 hts gX5_pounds_X5_isOne rfl rfl rfl cd_X5_isOne ⟨Nat.le_of_ble_eq_true rfl, Nat.le_of_ble_eq_true rfl⟩) ⟨g_blind mZm, g_recv hK hG (k := 0) (by decide) (mE_5 _ _) vwCl_5, g_pre mZm hK hG hZ hS⟩ rfl rfl hl.1 rfl (lv_room (Nat.le_of_ble_eq_true rfl)) dX5_pounds_2 ⟨Nat.le_refl _, Nat.le_refl _⟩) hS (fun H locs hG hS => ?_)
  refine lv_if_eq (tgt := 15) hx hb dX5_pounds_5 (by decide) (fun c1 => ?_) (fun c1 => ?_)
  · have h := ite_t h c1
    refine lv_iconst (v := (-1 : Int32)) hx hb dX5_pounds_15 (by decide) ?_
    have h := Option.some.inj h
    subst h
    subst hQ
    exact g_iret hx hb hr hlocks mZm hK hZ hG hS rfl dX5_pounds_16
  · have h := ite_f h c1
    refine lv_iload_n hx hb dX5_pounds_8 rfl (lv_at hl 2 rfl) ?_
    refine g_endi (va_runS (As := [.int x2]) (rest := []) ⟨hx, hb, hml, hown, hts⟩ (k_X5_isRow l D cy ad hi I L x2 _ rfl) (va_cwS 1 hts gX5_pounds_X5_isRow rfl rfl rfl cd_X5_isRow.2 ⟨Nat.le_of_ble_eq_true rfl, Nat.le_of_ble_eq_true rfl⟩) ⟨g_blind mZm, g_pre mZm hK hG hZ hS⟩ rfl rfl hl.1 rfl (lv_room (Nat.le_of_ble_eq_true rfl)) dX5_pounds_9 ⟨Nat.le_refl _, Nat.le_refl _⟩) hS (fun H locs hG hS => ?_)
    refine lv_if_ne (tgt := 17) hx hb dX5_pounds_12 (by decide) (fun c2 => ?_) (fun c2 => ?_)
    · have h := ite_f h c2
      refine lv_aload_n hx hb dX5_pounds_17 rfl (lv_at hl 0 rfl) ?_
      refine lv_iload_n hx hb dX5_pounds_18 rfl (lv_at hl 1 rfl) ?_
      refine lv_iload_n hx hb dX5_pounds_19 rfl (lv_at hl 2 rfl) ?_
      obtain ⟨q3, eq3, h⟩ := obind h
      refine g_endi (va_runV (As := [.int x1, .int x2]) (rest := []) ⟨hx, hb, hml, hown, hts⟩ (k_X5_noPairs l D cy ad hi I L x1 x2 q3 eq3) (cwV 2 hts gX5_pounds_X5_noPairs rfl rfl rfl cd_X5_noPairs ⟨Nat.le_of_ble_eq_true rfl, Nat.le_of_ble_eq_true rfl⟩) ⟨g_blind mZm, g_recv hK hG (k := 0) (by decide) (mE_5 _ _) vwCl_5, g_pre mZm hK hG hZ hS⟩ rfl rfl hl.1 rfl (lv_room (Nat.le_of_ble_eq_true rfl)) dX5_pounds_20 ⟨Nat.le_refl _, Nat.le_refl _⟩) hS (fun H locs hG hS => ?_)
      refine lv_istore_n (lv' := [(3, .int q3.1), (0, .ref (ad 0)), (1, .int x1), (2, .int x2)]) hx hb dX5_pounds_23 rfl hl (by decide) rfl (fun ls hl => ?_)
      refine lv_iload_n hx hb dX5_pounds_24 rfl (lv_at hl 0 rfl) ?_
      refine lv_if_eq (tgt := 30) hx hb dX5_pounds_25 (by decide) (fun c4 => ?_) (fun c4 => ?_)
      · have h := ite_t h c4
        refine lv_iconst (v := (0 : Int32)) hx hb dX5_pounds_30 (by decide) ?_
        refine lv_istore (lv' := [(4, .int (0 : Int32)), (3, .int q3.1), (0, .ref (ad 0)), (1, .int x1), (2, .int x2)]) hx hb dX5_pounds_31 hl (by decide) rfl (fun ls hl => ?_)
        refine lv_aload_n hx hb dX5_pounds_33 rfl (lv_at hl 2 rfl) ?_
        refine lv_bipush (v := (-9 : Int32)) hx hb dX5_pounds_34 (by decide) ?_
        obtain ⟨I5, eI5, h⟩ := obind h
        refine g_put hx hb l5 tyX5_ok nmX5 hown hK hG hi hS (k := 0) (by decide) (mE_5 _ _) vwCl_5 11 (by decide) k1 (fun _ h9 => h9) rfl rfl (Nat.le_of_ble_eq_true rfl) (by rw [mE_5 _ _]; rfl) dX5_pounds_36 (fun H locs hG hS => ?_)
        rw [Option.some.inj eI5] at hG
        refine lv_bipush (v := (99 : Int32)) hx hb dX5_pounds_39 (by decide) ?_
        refine lv_istore (lv' := [(5, .int (99 : Int32)), (4, .int (0 : Int32)), (3, .int q3.1), (0, .ref (ad 0)), (1, .int x1), (2, .int x2)]) hx hb dX5_pounds_41 hl (by decide) rfl (fun ls hl => ?_)
        have keyK6 : ∀ (K6 : Int32 → xMem → Option (Int32 × xMem)), (∀ (z4_8 : Int32) (I9 : xMem) (H : Heap) (locs : List Loc) (ls : Array Slot), K6 z4_8 I9 = some r → mG D cy ad I9 L H → va_S (gA 18 ad) s.heap H locs → lv_has ls 7 [(4, .int z4_8)] → W p l e rm_X5_pounds s m args below meth c H locs 0 0 Q (F0 m 102 ls [])) → ∀ (n7 : Nat) (x4_7 : Int32) (x5_7 : Int32) (I8 : xMem) (H : Heap) (locs : List Loc) (ls : Array Slot), X5_pounds_L1 x1 x2 K6 n7 x4_7 x5_7 I8 = some r → mG D cy ad I8 L H → va_S (gA 18 ad) s.heap H locs → lv_has ls 7 [(0, .ref (ad 0)), (1, .int x1), (2, .int x2), (4, .int x4_7), (5, .int x5_7)] → W p l e rm_X5_pounds s m args below meth c H locs 0 0 Q (F0 m 43 ls []) := by
          intro K6 hkK6 n7
          induction n7 with
          | zero =>
            intro x4_7 x5_7 I8 H locs ls h
            exact ono h
          | succ n7 ihn7 =>
            intro x4_7 x5_7 I8 H locs ls h hG hS hl
            rw [X5_pounds_L1] at h
            refine lv_iload hx hb dX5_pounds_43 (lv_at hl 4 rfl) ?_
            refine lv_if_le (tgt := 102) hx hb dX5_pounds_45 (by decide) (fun c10 => ?_) (fun c10 => ?_)
            · have h := ite_t h c10
              exact hkK6 x4_7 I8 _ _ _ h hG hS (lv_sub hl [3] rfl)
            · have h := ite_f h c10
              refine lv_aload_n hx hb dX5_pounds_48 rfl (lv_at hl 0 rfl) ?_
              refine lv_iload_n hx hb dX5_pounds_49 rfl (lv_at hl 2 rfl) ?_
              refine lv_aload_n hx hb dX5_pounds_50 rfl (lv_at hl 0 rfl) ?_
              refine g_get hx hb l5 hown hK hG (k := 0) (by decide) (mE_5 _ _) vwCl_5 5 (by decide) k2 (fun _ h9 => h9) rfl dX5_pounds_51 ?_
              refine lv_iload_n hx hb dX5_pounds_54 rfl (lv_at hl 1 rfl) ?_
              refine g_ald hx hb hK hG (k := 3) (n := 6) (show mIA 3 6 from by decide +kernel).1.1 (mIA_e (show mIA 3 6 from by decide +kernel) _ _) 0 rfl h dX5_pounds_55 (fun v11 h => ?_)
              refine lv_iload hx hb dX5_pounds_56 (lv_at hl 4 rfl) ?_
              obtain ⟨v12, ev12, h⟩ := obind h
              refine g_endi (va_runV (As := [.int x2, .int v11, .int x5_7]) (rest := []) ⟨hx, hb, hml, hown, hts⟩ (k_X5_isSo l D cy ad hi I8 L x2 v11 x5_7 v12 ev12) (cwV 3 hts gX5_pounds_X5_isSo rfl rfl rfl cd_X5_isSo ⟨Nat.le_of_ble_eq_true rfl, Nat.le_of_ble_eq_true rfl⟩) ⟨g_blind mZm, g_recv hK hG (k := 0) (by decide) (mE_5 _ _) vwCl_5, g_pre mZm hK hG hZ hS⟩ rfl rfl hl.1 rfl (lv_room (Nat.le_of_ble_eq_true rfl)) dX5_pounds_58 ⟨Nat.le_refl _, Nat.le_refl _⟩) hS (fun H locs hG hS => ?_)
              refine lv_istore (lv' := [(6, .int v12), (0, .ref (ad 0)), (1, .int x1), (2, .int x2), (4, .int x4_7), (5, .int x5_7)]) hx hb dX5_pounds_61 hl (by decide) rfl (fun ls hl => ?_)
              refine lv_iload hx hb dX5_pounds_63 (lv_at hl 4 rfl) ?_
              refine lv_iload hx hb dX5_pounds_65 (lv_at hl 0 rfl) ?_
              obtain ⟨q13, h9, h⟩ := obind h
              have hk_q13 : ∀ (H : Heap) (locs : List Loc) (ls : Array Slot), mG D cy ad I8 L H → va_S (gA 18 ad) s.heap H locs → lv_has ls 7 [(0, .ref (ad 0)), (1, .int x1), (2, .int x2), (5, .int x5_7), (6, .int v12)] → W p l e rm_X5_pounds s m args below meth c H locs 0 0 Q (F0 m 75 ls [.int q13, .int x4_7]) := by
                intro H locs ls hG hS hl
                refine lv_iadd hx hb dX5_pounds_75 ?_
                refine lv_istore (lv' := [(4, .int (x4_7 + q13)), (0, .ref (ad 0)), (1, .int x1), (2, .int x2), (5, .int x5_7), (6, .int v12)]) hx hb dX5_pounds_76 hl (by decide) rfl (fun ls hl => ?_)
                refine lv_aload_n hx hb dX5_pounds_78 rfl (lv_at hl 1 rfl) ?_
                refine lv_iload hx hb dX5_pounds_79 (lv_at hl 5 rfl) ?_
                refine lv_if_eq (tgt := 89) hx hb dX5_pounds_81 (by decide) (fun c15 => ?_) (fun c15 => ?_)
                · have h := ite_t h c15
                  refine lv_aload_n hx hb dX5_pounds_89 rfl (lv_at hl 1 rfl) ?_
                  refine g_get hx hb l5 hown hK hG (k := 0) (by decide) (mE_5 _ _) vwCl_5 11 (by decide) k1 (fun _ h9 => h9) rfl dX5_pounds_90 ?_
                  obtain ⟨I16, eI16, h⟩ := obind h
                  refine g_put hx hb l5 tyX5_ok nmX5 hown hK hG hi hS (k := 0) (by decide) (mE_5 _ _) vwCl_5 11 (by decide) k1 (fun _ h9 => h9) rfl rfl (Nat.le_of_ble_eq_true rfl) (by rw [mE_5 _ _]; rfl) dX5_pounds_93 (fun H locs hG hS => ?_)
                  rw [Option.some.inj eI16] at hG
                  refine lv_iinc (v := (x5_7 + (-1 : Int32))) (lv' := [(5, .int (x5_7 + (-1 : Int32))), (4, .int (x4_7 + q13)), (0, .ref (ad 0)), (1, .int x1), (2, .int x2), (6, .int v12)]) hx hb dX5_pounds_96 hl (k := 4) rfl rfl (by decide) rfl (fun ls hl => ?_)
                  refine lv_goto (tgt := 43) hx hb dX5_pounds_99 (by decide) ?_
                  exact ihn7 (x4_7 + q13) (x5_7 + (-1 : Int32)) I16 _ _ _ h hG hS (lv_sub hl [2, 3, 4, 1, 0] rfl)
                · have h := ite_f h c15
                  refine lv_iload hx hb dX5_pounds_84 (lv_at hl 4 rfl) ?_
                  refine lv_goto (tgt := 93) hx hb dX5_pounds_86 (by decide) ?_
                  obtain ⟨I17, eI17, h⟩ := obind h
                  refine g_put hx hb l5 tyX5_ok nmX5 hown hK hG hi hS (k := 0) (by decide) (mE_5 _ _) vwCl_5 11 (by decide) k1 (fun _ h9 => h9) rfl rfl (Nat.le_of_ble_eq_true rfl) (by rw [mE_5 _ _]; rfl) dX5_pounds_93 (fun H locs hG hS => ?_)
                  rw [Option.some.inj eI17] at hG
                  refine lv_iinc (v := (x5_7 + (-1 : Int32))) (lv' := [(5, .int (x5_7 + (-1 : Int32))), (4, .int (x4_7 + q13)), (0, .ref (ad 0)), (1, .int x1), (2, .int x2), (6, .int v12)]) hx hb dX5_pounds_96 hl (k := 4) rfl rfl (by decide) rfl (fun ls hl => ?_)
                  refine lv_goto (tgt := 43) hx hb dX5_pounds_99 (by decide) ?_
                  exact ihn7 (x4_7 + q13) (x5_7 + (-1 : Int32)) I17 _ _ _ h hG hS (lv_sub hl [2, 3, 4, 1, 0] rfl)
              clear h
              have h := h9
              clear h9
              refine lv_if_eq (tgt := 74) hx hb dX5_pounds_67 (by decide) (fun c14 => ?_) (fun c14 => ?_)
              · have h := ite_t h c14
                refine lv_iconst (v := (0 : Int32)) hx hb dX5_pounds_74 (by decide) ?_
                have h := Option.some.inj h
                subst h
                exact hk_q13 _ _ _ hG hS (lv_sub hl [1, 2, 3, 5, 0] rfl)
              · have h := ite_f h c14
                refine lv_iconst (v := (1 : Int32)) hx hb dX5_pounds_70 (by decide) ?_
                refine lv_goto (tgt := 75) hx hb dX5_pounds_71 (by decide) ?_
                have h := Option.some.inj h
                subst h
                exact hk_q13 _ _ _ hG hS (lv_sub hl [1, 2, 3, 5, 0] rfl)
        refine keyK6 _ (fun z4_8 I9 H locs ls h hG hS hl => ?_) bigF (0 : Int32) (99 : Int32) I5 _ _ _ h hG hS (lv_sub hl [3, 4, 5, 1, 0] rfl)
        clear keyK6
        refine lv_iload hx hb dX5_pounds_102 (lv_at hl 0 rfl) ?_
        have h := Option.some.inj h
        subst h
        subst hQ
        exact g_iret hx hb hr hlocks mZm hK hZ hG hS rfl dX5_pounds_104
      · have h := ite_f h c4
        refine lv_iload_n hx hb dX5_pounds_28 rfl (lv_at hl 0 rfl) ?_
        have h := Option.some.inj h
        subst h
        subst hQ
        exact g_iret hx hb hr hlocks mZm hK hZ hG hS rfl dX5_pounds_29
    · have h := ite_t h c2
      refine lv_iconst (v := (-1 : Int32)) hx hb dX5_pounds_15 (by decide) ?_
      have h := Option.some.inj h
      subst h
      subst hQ
      exact g_iret hx hb hr hlocks mZm hK hZ hG hS rfl dX5_pounds_16
def X5_kindsBy_L1 (I : xMem) (x1 : Int32) (x2 : Int32) (K1 : Int32 → Option (Int32)) : Nat → Int32 → Int32 → Option (Int32)
  | 0, _, _ => none
  | n2 + 1, x3_2, x4_2 => if (6 : Int32) ≤ x4_2 then (K1 x3_2) else ((rdI I 4 6 x1).bind fun v4 => (X5_isSo I x2 x4_2 v4).bind fun v5 => (if v5 = (0 : Int32) then (some (0 : Int32)) else (some ((1 : Int32) <<< (x4_2 &&& 31)))).bind fun q6 => X5_kindsBy_L1 I x1 x2 K1 n2 (x3_2 ||| q6) (x4_2 + (1 : Int32)))
def X5_kindsBy (I : xMem) (x1 : Int32) (x2 : Int32) : Option (Int32) := X5_kindsBy_L1 I x1 x2 (fun (z3_2 : Int32) => some z3_2) bigF (0 : Int32) (0 : Int32)
abbrev rm_X5_kindsBy : Room := { frames := 4, cells := 0, slots := 0, locals := 94 }
theorem cd_X5_kindsBy : yX5_kindsBy.cls = RX5 ∧ yX5_kindsBy.cls ≠ "java/lang/invoke/MethodHandle" ∧ yX5_kindsBy.cls ≠ "java/lang/invoke/VarHandle" ∧ (parseMethodDescriptor yX5_kindsBy.desc).map (fun d => d.parameters.length) = some 2 := by decide +kernel
set_option maxHeartbeats 4000000 in
set_option maxRecDepth 100000 in
theorem k_X5_kindsBy (l : Launch) (D : va_G) (cy : Nat → ClassId) (ad : Nat → Nat) (hi : gInj 18 ad) (I : xMem) (L : xLon) (x1 : Int32) (x2 : Int32) (r : Int32) (h : X5_kindsBy I x1 x2 = some r) : Met l yX5_kindsBy wsX5_kindsBy rm_X5_kindsBy (va_Pc [.ref (ad 0), .int x1, .int x2] (mW D cy ad I L)) (mPi D cy ad I L r) 0 0 (gA 18 ad) := by
  refine g_met (own := RX5) (cc := cX5_kindsBy) (maxL := 5) (ret := (some .int)) (by decide) rfl (Nat.le_of_ble_eq_true rfl) rfl ?_
  intro p e s m args below meth c ls hx hb hml hr hlocks hown hts hG hK hZ hl
  generalize hQ : MQ below _ args s 0 0 _ = Q
  have hl : lv_has ls 5 [(0, .ref (ad 0)), (1, .int x1), (2, .int x2)] := hl
  have hS : va_S (gA 18 ad) s.heap s.heap [] := va_S.rf
  have l5 : ∀ w ∈ wsX50, w.before args s = true := fun w h => hts w (List.mem_cons_of_mem _ (List.mem_append_right _ h))
  have k1 := hts (.fieldLink RX5 19 "PairStairsModel" "pounds" "[I") (by decide +kernel)
  unfold X5_kindsBy at h
  refine lv_iconst (v := (0 : Int32)) hx hb dX5_kindsBy_0 (by decide) ?_
  refine lv_istore_n (lv' := [(3, .int (0 : Int32)), (0, .ref (ad 0)), (1, .int x1), (2, .int x2)]) hx hb dX5_kindsBy_1 rfl hl (by decide) rfl (fun ls hl => ?_)
  refine lv_iconst (v := (0 : Int32)) hx hb dX5_kindsBy_2 (by decide) ?_
  refine lv_istore (lv' := [(4, .int (0 : Int32)), (3, .int (0 : Int32)), (0, .ref (ad 0)), (1, .int x1), (2, .int x2)]) hx hb dX5_kindsBy_3 hl (by decide) rfl (fun ls hl => ?_)
  have keyK1 : ∀ (K1 : Int32 → Option (Int32)), (∀ (z3_2 : Int32) (H : Heap) (locs : List Loc) (ls : Array Slot), K1 z3_2 = some r → mG D cy ad I L H → va_S (gA 18 ad) s.heap H locs → lv_has ls 5 [(3, .int z3_2)] → W p l e rm_X5_kindsBy s m args below meth c H locs 0 0 Q (F0 m 45 ls [])) → ∀ (n2 : Nat) (x3_2 : Int32) (x4_2 : Int32) (H : Heap) (locs : List Loc) (ls : Array Slot), X5_kindsBy_L1 I x1 x2 K1 n2 x3_2 x4_2 = some r → mG D cy ad I L H → va_S (gA 18 ad) s.heap H locs → lv_has ls 5 [(0, .ref (ad 0)), (1, .int x1), (2, .int x2), (3, .int x3_2), (4, .int x4_2)] → W p l e rm_X5_kindsBy s m args below meth c H locs 0 0 Q (F0 m 5 ls []) := by
    intro K1 hkK1 n2
    induction n2 with
    | zero =>
      intro x3_2 x4_2 H locs ls h
      exact ono h
    | succ n2 ihn2 =>
      intro x3_2 x4_2 H locs ls h hG hS hl
      rw [X5_kindsBy_L1] at h
      refine lv_iload hx hb dX5_kindsBy_5 (lv_at hl 4 rfl) ?_
      refine lv_bipush (v := (6 : Int32)) hx hb dX5_kindsBy_7 (by decide) ?_
      refine lv_icmp_ge (tgt := 45) hx hb dX5_kindsBy_9 (by decide) (fun c3 => ?_) (fun c3 => ?_)
      · have h := ite_t h c3
        exact hkK1 x3_2 _ _ _ h hG hS (lv_sub hl [3] rfl)
      · have h := ite_f h c3
        refine lv_iload_n hx hb dX5_kindsBy_12 rfl (lv_at hl 3 rfl) ?_
        refine lv_aload_n hx hb dX5_kindsBy_13 rfl (lv_at hl 0 rfl) ?_
        refine lv_iload_n hx hb dX5_kindsBy_14 rfl (lv_at hl 2 rfl) ?_
        refine lv_iload hx hb dX5_kindsBy_15 (lv_at hl 4 rfl) ?_
        refine lv_aload_n hx hb dX5_kindsBy_17 rfl (lv_at hl 0 rfl) ?_
        refine g_get hx hb l5 hown hK hG (k := 0) (by decide) (mE_5 _ _) vwCl_5 6 (by decide) k1 (fun _ h9 => h9) rfl dX5_kindsBy_18 ?_
        refine lv_iload_n hx hb dX5_kindsBy_21 rfl (lv_at hl 1 rfl) ?_
        refine g_ald hx hb hK hG (k := 4) (n := 6) (show mIA 4 6 from by decide +kernel).1.1 (mIA_e (show mIA 4 6 from by decide +kernel) _ _) 0 rfl h dX5_kindsBy_22 (fun v4 h => ?_)
        obtain ⟨v5, ev5, h⟩ := obind h
        refine g_endi (va_runV (As := [.int x2, .int x4_2, .int v4]) (rest := [.int x3_2]) ⟨hx, hb, hml, hown, hts⟩ (k_X5_isSo l D cy ad hi I L x2 x4_2 v4 v5 ev5) (cwV 3 hts gX5_kindsBy_X5_isSo rfl rfl rfl cd_X5_isSo ⟨Nat.le_of_ble_eq_true rfl, Nat.le_of_ble_eq_true rfl⟩) ⟨g_blind mZm, g_recv hK hG (k := 0) (by decide) (mE_5 _ _) vwCl_5, g_pre mZm hK hG hZ hS⟩ rfl rfl hl.1 rfl (lv_room (Nat.le_of_ble_eq_true rfl)) dX5_kindsBy_23 ⟨Nat.le_refl _, Nat.le_refl _⟩) hS (fun H locs hG hS => ?_)
        obtain ⟨q6, h9, h⟩ := obind h
        have hk_q6 : ∀ (H : Heap) (locs : List Loc) (ls : Array Slot), mG D cy ad I L H → va_S (gA 18 ad) s.heap H locs → lv_has ls 5 [(0, .ref (ad 0)), (1, .int x1), (2, .int x2), (4, .int x4_2)] → W p l e rm_X5_kindsBy s m args below meth c H locs 0 0 Q (F0 m 37 ls [.int q6, .int x3_2]) := by
          intro H locs ls hG hS hl
          refine lv_ior hx hb dX5_kindsBy_37 ?_
          refine lv_istore_n (lv' := [(3, .int (x3_2 ||| q6)), (0, .ref (ad 0)), (1, .int x1), (2, .int x2), (4, .int x4_2)]) hx hb dX5_kindsBy_38 rfl hl (by decide) rfl (fun ls hl => ?_)
          refine lv_iinc (v := (x4_2 + (1 : Int32))) (lv' := [(4, .int (x4_2 + (1 : Int32))), (3, .int (x3_2 ||| q6)), (0, .ref (ad 0)), (1, .int x1), (2, .int x2)]) hx hb dX5_kindsBy_39 hl (k := 4) rfl rfl (by decide) rfl (fun ls hl => ?_)
          refine lv_goto (tgt := 5) hx hb dX5_kindsBy_42 (by decide) ?_
          exact ihn2 (x3_2 ||| q6) (x4_2 + (1 : Int32)) _ _ _ h hG hS (lv_sub hl [2, 3, 4, 1, 0] rfl)
        clear h
        have h := h9
        clear h9
        refine lv_if_eq (tgt := 36) hx hb dX5_kindsBy_26 (by decide) (fun c7 => ?_) (fun c7 => ?_)
        · have h := ite_t h c7
          refine lv_iconst (v := (0 : Int32)) hx hb dX5_kindsBy_36 (by decide) ?_
          have h := Option.some.inj h
          subst h
          exact hk_q6 _ _ _ hG hS (lv_sub hl [0, 1, 2, 4] rfl)
        · have h := ite_f h c7
          refine lv_iconst (v := (1 : Int32)) hx hb dX5_kindsBy_29 (by decide) ?_
          refine lv_iload hx hb dX5_kindsBy_30 (lv_at hl 4 rfl) ?_
          refine lv_ishl hx hb dX5_kindsBy_32 ?_
          refine lv_goto (tgt := 37) hx hb dX5_kindsBy_33 (by decide) ?_
          have h := Option.some.inj h
          subst h
          exact hk_q6 _ _ _ hG hS (lv_sub hl [0, 1, 2, 4] rfl)
  refine keyK1 _ (fun z3_2 H locs ls h hG hS hl => ?_) bigF (0 : Int32) (0 : Int32) _ _ _ h hG hS (lv_sub hl [2, 3, 4, 1, 0] rfl)
  clear keyK1
  refine lv_iload_n hx hb dX5_kindsBy_45 rfl (lv_at hl 0 rfl) ?_
  have h := Option.some.inj h
  subst h
  subst hQ
  exact g_iret hx hb hr hlocks mZm hK hZ hG hS rfl dX5_kindsBy_46
def X5_kinds (I : xMem) (x1 : Int32) (x2 : Int32) : Option (Int32 × xMem) := if (X5_isOne I x1) = (0 : Int32) then (some ((-1 : Int32), I)) else (if (X5_isRow x2) = (0 : Int32) then (some ((-1 : Int32), I)) else ((X5_noPairs I x1 x2).bind fun q3 => if q3.1 = (0 : Int32) then ((X5_kindsBy q3.2 x1 x2).bind fun v5 => some (v5, q3.2)) else (some (q3.1, q3.2))))
abbrev rm_X5_kinds : Room := { frames := 5, cells := 0, slots := 0, locals := 118 }
theorem cd_X5_kinds : yX5_kinds.cls = RX5 ∧ yX5_kinds.cls ≠ "java/lang/invoke/MethodHandle" ∧ yX5_kinds.cls ≠ "java/lang/invoke/VarHandle" ∧ (parseMethodDescriptor yX5_kinds.desc).map (fun d => d.parameters.length) = some 2 := by decide +kernel
set_option maxHeartbeats 4000000 in
set_option maxRecDepth 100000 in
theorem k_X5_kinds (l : Launch) (D : va_G) (cy : Nat → ClassId) (ad : Nat → Nat) (hi : gInj 18 ad) (I : xMem) (L : xLon) (x1 : Int32) (x2 : Int32) (r : Int32 × xMem) (h : X5_kinds I x1 x2 = some r) : Met l yX5_kinds wsX5_kinds rm_X5_kinds (va_Pc [.ref (ad 0), .int x1, .int x2] (mW D cy ad I L)) (mPi D cy ad r.2 L r.1) 0 0 (gA 18 ad) := by
  refine g_met (own := RX5) (cc := cX5_kinds) (maxL := 4) (ret := (some .int)) (by decide) rfl (Nat.le_of_ble_eq_true rfl) rfl ?_
  intro p e s m args below meth c ls hx hb hml hr hlocks hown hts hG hK hZ hl
  generalize hQ : MQ below _ args s 0 0 _ = Q
  have hl : lv_has ls 4 [(0, .ref (ad 0)), (1, .int x1), (2, .int x2)] := hl
  have hS : va_S (gA 18 ad) s.heap s.heap [] := va_S.rf
  unfold X5_kinds at h
  refine lv_aload_n hx hb dX5_kinds_0 rfl (lv_at hl 0 rfl) ?_
  refine lv_iload_n hx hb dX5_kinds_1 rfl (lv_at hl 1 rfl) ?_
  refine g_endi (va_runV (As := [.int x1]) (rest := []) ⟨hx, hb, hml, hown, hts⟩ (k_X5_isOne l D cy ad hi I L x1 _ rfl) (cwV 1 hts gX5_kinds_X5_isOne rfl rfl rfl cd_X5_isOne ⟨Nat.le_of_ble_eq_true rfl, Nat.le_of_ble_eq_true rfl⟩) ⟨g_blind mZm, g_recv hK hG (k := 0) (by decide) (mE_5 _ _) vwCl_5, g_pre mZm hK hG hZ hS⟩ rfl rfl hl.1 rfl (lv_room (Nat.le_of_ble_eq_true rfl)) dX5_kinds_2 ⟨Nat.le_refl _, Nat.le_refl _⟩) hS (fun H locs hG hS => ?_)
  refine lv_if_eq (tgt := 15) hx hb dX5_kinds_5 (by decide) (fun c1 => ?_) (fun c1 => ?_)
  · have h := ite_t h c1
    refine lv_iconst (v := (-1 : Int32)) hx hb dX5_kinds_15 (by decide) ?_
    have h := Option.some.inj h
    subst h
    subst hQ
    exact g_iret hx hb hr hlocks mZm hK hZ hG hS rfl dX5_kinds_16
  · have h := ite_f h c1
    refine lv_iload_n hx hb dX5_kinds_8 rfl (lv_at hl 2 rfl) ?_
    refine g_endi (va_runS (As := [.int x2]) (rest := []) ⟨hx, hb, hml, hown, hts⟩ (k_X5_isRow l D cy ad hi I L x2 _ rfl) (va_cwS 1 hts gX5_kinds_X5_isRow rfl rfl rfl cd_X5_isRow.2 ⟨Nat.le_of_ble_eq_true rfl, Nat.le_of_ble_eq_true rfl⟩) ⟨g_blind mZm, g_pre mZm hK hG hZ hS⟩ rfl rfl hl.1 rfl (lv_room (Nat.le_of_ble_eq_true rfl)) dX5_kinds_9 ⟨Nat.le_refl _, Nat.le_refl _⟩) hS (fun H locs hG hS => ?_)
    refine lv_if_ne (tgt := 17) hx hb dX5_kinds_12 (by decide) (fun c2 => ?_) (fun c2 => ?_)
    · have h := ite_f h c2
      refine lv_aload_n hx hb dX5_kinds_17 rfl (lv_at hl 0 rfl) ?_
      refine lv_iload_n hx hb dX5_kinds_18 rfl (lv_at hl 1 rfl) ?_
      refine lv_iload_n hx hb dX5_kinds_19 rfl (lv_at hl 2 rfl) ?_
      obtain ⟨q3, eq3, h⟩ := obind h
      refine g_endi (va_runV (As := [.int x1, .int x2]) (rest := []) ⟨hx, hb, hml, hown, hts⟩ (k_X5_noPairs l D cy ad hi I L x1 x2 q3 eq3) (cwV 2 hts gX5_kinds_X5_noPairs rfl rfl rfl cd_X5_noPairs ⟨Nat.le_of_ble_eq_true rfl, Nat.le_of_ble_eq_true rfl⟩) ⟨g_blind mZm, g_recv hK hG (k := 0) (by decide) (mE_5 _ _) vwCl_5, g_pre mZm hK hG hZ hS⟩ rfl rfl hl.1 rfl (lv_room (Nat.le_of_ble_eq_true rfl)) dX5_kinds_20 ⟨Nat.le_refl _, Nat.le_refl _⟩) hS (fun H locs hG hS => ?_)
      refine lv_istore_n (lv' := [(3, .int q3.1), (0, .ref (ad 0)), (1, .int x1), (2, .int x2)]) hx hb dX5_kinds_23 rfl hl (by decide) rfl (fun ls hl => ?_)
      refine lv_iload_n hx hb dX5_kinds_24 rfl (lv_at hl 0 rfl) ?_
      refine lv_if_eq (tgt := 32) hx hb dX5_kinds_25 (by decide) (fun c4 => ?_) (fun c4 => ?_)
      · have h := ite_t h c4
        refine lv_aload_n hx hb dX5_kinds_32 rfl (lv_at hl 1 rfl) ?_
        refine lv_iload_n hx hb dX5_kinds_33 rfl (lv_at hl 2 rfl) ?_
        refine lv_iload_n hx hb dX5_kinds_34 rfl (lv_at hl 3 rfl) ?_
        obtain ⟨v5, ev5, h⟩ := obind h
        refine g_endi (va_runV (As := [.int x1, .int x2]) (rest := []) ⟨hx, hb, hml, hown, hts⟩ (k_X5_kindsBy l D cy ad hi q3.2 L x1 x2 v5 ev5) (cwV 2 hts gX5_kinds_X5_kindsBy rfl rfl rfl cd_X5_kindsBy ⟨Nat.le_of_ble_eq_true rfl, Nat.le_of_ble_eq_true rfl⟩) ⟨g_blind mZm, g_recv hK hG (k := 0) (by decide) (mE_5 _ _) vwCl_5, g_pre mZm hK hG hZ hS⟩ rfl rfl hl.1 rfl (lv_room (Nat.le_of_ble_eq_true rfl)) dX5_kinds_35 ⟨Nat.le_refl _, Nat.le_refl _⟩) hS (fun H locs hG hS => ?_)
        have h := Option.some.inj h
        subst h
        subst hQ
        exact g_iret hx hb hr hlocks mZm hK hZ hG hS rfl dX5_kinds_38
      · have h := ite_f h c4
        refine lv_iload_n hx hb dX5_kinds_28 rfl (lv_at hl 0 rfl) ?_
        refine lv_goto (tgt := 38) hx hb dX5_kinds_29 (by decide) ?_
        have h := Option.some.inj h
        subst h
        subst hQ
        exact g_iret hx hb hr hlocks mZm hK hZ hG hS rfl dX5_kinds_38
    · have h := ite_t h c2
      refine lv_iconst (v := (-1 : Int32)) hx hb dX5_kinds_15 (by decide) ?_
      have h := Option.some.inj h
      subst h
      subst hQ
      exact g_iret hx hb hr hlocks mZm hK hZ hG hS rfl dX5_kinds_16
def X5_greatestPart_L2 (I : xMem) (x1 : Int32) (x2 : Int32) (x3 : Int32) (x5_2 : Int32) (K4 : Int32 → Option (Int32)) : Nat → Int32 → Int32 → Option (Int32)
  | 0, _, _ => none
  | n5 + 1, x6_5, x7_5 => if (6 : Int32) ≤ x7_5 then (K4 x6_5) else ((if (X5_has x2 x5_2) = (0 : Int32) then (some (0 : Int32)) else (if (X5_has x2 x7_5) = (0 : Int32) then (some (0 : Int32)) else ((rdI I 4 6 x1).bind fun v10 => (X5_sankUnder I x5_2 v10 x3).bind fun v11 => (rdI I 4 6 x1).bind fun v12 => (X5_sankUnder I x7_5 v12 x3).bind fun v13 => if v11 = v13 then (some (1 : Int32)) else (some (0 : Int32))))).bind fun q7 => X5_greatestPart_L2 I x1 x2 x3 x5_2 K4 n5 (x6_5 + q7) (x7_5 + (1 : Int32)))
def X5_greatestPart_L1 (I : xMem) (x1 : Int32) (x2 : Int32) (x3 : Int32) (K1 : Int32 → Option (Int32)) : Nat → Int32 → Int32 → Option (Int32)
  | 0, _, _ => none
  | n2 + 1, x4_2, x5_2 => if (6 : Int32) ≤ x5_2 then (K1 x4_2) else (X5_greatestPart_L2 I x1 x2 x3 x5_2 (fun (z6_5 : Int32) => if z6_5 ≤ x4_2 then (X5_greatestPart_L1 I x1 x2 x3 K1 n2 x4_2 (x5_2 + (1 : Int32))) else (X5_greatestPart_L1 I x1 x2 x3 K1 n2 z6_5 (x5_2 + (1 : Int32)))) bigF (0 : Int32) (0 : Int32))
def X5_greatestPart (I : xMem) (x1 : Int32) (x2 : Int32) (x3 : Int32) : Option (Int32) := X5_greatestPart_L1 I x1 x2 x3 (fun (z4_2 : Int32) => some z4_2) bigF (0 : Int32) (0 : Int32)
abbrev rm_X5_greatestPart : Room := { frames := 3, cells := 0, slots := 0, locals := 69 }
theorem cd_X5_greatestPart : yX5_greatestPart.cls = RX5 ∧ yX5_greatestPart.cls ≠ "java/lang/invoke/MethodHandle" ∧ yX5_greatestPart.cls ≠ "java/lang/invoke/VarHandle" ∧ (parseMethodDescriptor yX5_greatestPart.desc).map (fun d => d.parameters.length) = some 3 := by decide +kernel
set_option maxHeartbeats 4000000 in
set_option maxRecDepth 100000 in
theorem k_X5_greatestPart (l : Launch) (D : va_G) (cy : Nat → ClassId) (ad : Nat → Nat) (hi : gInj 18 ad) (I : xMem) (L : xLon) (x1 : Int32) (x2 : Int32) (x3 : Int32) (r : Int32) (h : X5_greatestPart I x1 x2 x3 = some r) : Met l yX5_greatestPart wsX5_greatestPart rm_X5_greatestPart (va_Pc [.ref (ad 0), .int x1, .int x2, .int x3] (mW D cy ad I L)) (mPi D cy ad I L r) 0 0 (gA 18 ad) := by
  refine g_met (own := RX5) (cc := cX5_greatestPart) (maxL := 8) (ret := (some .int)) (by decide) rfl (Nat.le_of_ble_eq_true rfl) rfl ?_
  intro p e s m args below meth c ls hx hb hml hr hlocks hown hts hG hK hZ hl
  generalize hQ : MQ below _ args s 0 0 _ = Q
  have hl : lv_has ls 8 [(0, .ref (ad 0)), (1, .int x1), (2, .int x2), (3, .int x3)] := hl
  have hS : va_S (gA 18 ad) s.heap s.heap [] := va_S.rf
  have l5 : ∀ w ∈ wsX50, w.before args s = true := fun w h => hts w (List.mem_cons_of_mem _ (List.mem_append_right _ h))
  have k1 := hts (.fieldLink RX5 19 "PairStairsModel" "pounds" "[I") (by decide +kernel)
  unfold X5_greatestPart at h
  refine lv_iconst (v := (0 : Int32)) hx hb dX5_greatestPart_0 (by decide) ?_
  refine lv_istore (lv' := [(4, .int (0 : Int32)), (0, .ref (ad 0)), (1, .int x1), (2, .int x2), (3, .int x3)]) hx hb dX5_greatestPart_1 hl (by decide) rfl (fun ls hl => ?_)
  refine lv_iconst (v := (0 : Int32)) hx hb dX5_greatestPart_3 (by decide) ?_
  refine lv_istore (lv' := [(5, .int (0 : Int32)), (4, .int (0 : Int32)), (0, .ref (ad 0)), (1, .int x1), (2, .int x2), (3, .int x3)]) hx hb dX5_greatestPart_4 hl (by decide) rfl (fun ls hl => ?_)
  have keyK1 : ∀ (K1 : Int32 → Option (Int32)), (∀ (z4_2 : Int32) (H : Heap) (locs : List Loc) (ls : Array Slot), K1 z4_2 = some r → mG D cy ad I L H → va_S (gA 18 ad) s.heap H locs → lv_has ls 8 [(4, .int z4_2)] → W p l e rm_X5_greatestPart s m args below meth c H locs 0 0 Q (F0 m 111 ls [])) → ∀ (n2 : Nat) (x4_2 : Int32) (x5_2 : Int32) (H : Heap) (locs : List Loc) (ls : Array Slot), X5_greatestPart_L1 I x1 x2 x3 K1 n2 x4_2 x5_2 = some r → mG D cy ad I L H → va_S (gA 18 ad) s.heap H locs → lv_has ls 8 [(0, .ref (ad 0)), (1, .int x1), (2, .int x2), (3, .int x3), (4, .int x4_2), (5, .int x5_2)] → W p l e rm_X5_greatestPart s m args below meth c H locs 0 0 Q (F0 m 6 ls []) := by
    intro K1 hkK1 n2
    induction n2 with
    | zero =>
      intro x4_2 x5_2 H locs ls h
      exact ono h
    | succ n2 ihn2 =>
      intro x4_2 x5_2 H locs ls h hG hS hl
      rw [X5_greatestPart_L1] at h
      refine lv_iload hx hb dX5_greatestPart_6 (lv_at hl 5 rfl) ?_
      refine lv_bipush (v := (6 : Int32)) hx hb dX5_greatestPart_8 (by decide) ?_
      refine lv_icmp_ge (tgt := 111) hx hb dX5_greatestPart_10 (by decide) (fun c3 => ?_) (fun c3 => ?_)
      · have h := ite_t h c3
        exact hkK1 x4_2 _ _ _ h hG hS (lv_sub hl [4] rfl)
      · have h := ite_f h c3
        refine lv_iconst (v := (0 : Int32)) hx hb dX5_greatestPart_13 (by decide) ?_
        refine lv_istore (lv' := [(6, .int (0 : Int32)), (0, .ref (ad 0)), (1, .int x1), (2, .int x2), (3, .int x3), (4, .int x4_2), (5, .int x5_2)]) hx hb dX5_greatestPart_14 hl (by decide) rfl (fun ls hl => ?_)
        refine lv_iconst (v := (0 : Int32)) hx hb dX5_greatestPart_16 (by decide) ?_
        refine lv_istore (lv' := [(7, .int (0 : Int32)), (6, .int (0 : Int32)), (0, .ref (ad 0)), (1, .int x1), (2, .int x2), (3, .int x3), (4, .int x4_2), (5, .int x5_2)]) hx hb dX5_greatestPart_17 hl (by decide) rfl (fun ls hl => ?_)
        have keyK4 : ∀ (K4 : Int32 → Option (Int32)), (∀ (z6_5 : Int32) (H : Heap) (locs : List Loc) (ls : Array Slot), K4 z6_5 = some r → mG D cy ad I L H → va_S (gA 18 ad) s.heap H locs → lv_has ls 8 [(0, .ref (ad 0)), (1, .int x1), (2, .int x2), (3, .int x3), (4, .int x4_2), (5, .int x5_2), (6, .int z6_5)] → W p l e rm_X5_greatestPart s m args below meth c H locs 0 0 Q (F0 m 89 ls [])) → ∀ (n5 : Nat) (x6_5 : Int32) (x7_5 : Int32) (H : Heap) (locs : List Loc) (ls : Array Slot), X5_greatestPart_L2 I x1 x2 x3 x5_2 K4 n5 x6_5 x7_5 = some r → mG D cy ad I L H → va_S (gA 18 ad) s.heap H locs → lv_has ls 8 [(0, .ref (ad 0)), (1, .int x1), (2, .int x2), (3, .int x3), (4, .int x4_2), (5, .int x5_2), (6, .int x6_5), (7, .int x7_5)] → W p l e rm_X5_greatestPart s m args below meth c H locs 0 0 Q (F0 m 19 ls []) := by
          intro K4 hkK4 n5
          induction n5 with
          | zero =>
            intro x6_5 x7_5 H locs ls h
            exact ono h
          | succ n5 ihn5 =>
            intro x6_5 x7_5 H locs ls h hG hS hl
            rw [X5_greatestPart_L2] at h
            refine lv_iload hx hb dX5_greatestPart_19 (lv_at hl 7 rfl) ?_
            refine lv_bipush (v := (6 : Int32)) hx hb dX5_greatestPart_21 (by decide) ?_
            refine lv_icmp_ge (tgt := 89) hx hb dX5_greatestPart_23 (by decide) (fun c6 => ?_) (fun c6 => ?_)
            · have h := ite_t h c6
              exact hkK4 x6_5 _ _ _ h hG hS (lv_sub hl [0, 1, 2, 3, 4, 5, 6] rfl)
            · have h := ite_f h c6
              refine lv_iload hx hb dX5_greatestPart_26 (lv_at hl 6 rfl) ?_
              refine lv_iload_n hx hb dX5_greatestPart_28 rfl (lv_at hl 2 rfl) ?_
              refine lv_iload hx hb dX5_greatestPart_29 (lv_at hl 5 rfl) ?_
              refine g_endi (va_runS (As := [.int x2, .int x5_2]) (rest := [.int x6_5]) ⟨hx, hb, hml, hown, hts⟩ (k_X5_has l D cy ad hi I L x2 x5_2 _ rfl) (va_cwS 2 hts gX5_greatestPart_X5_has rfl rfl rfl cd_X5_has.2 ⟨Nat.le_of_ble_eq_true rfl, Nat.le_of_ble_eq_true rfl⟩) ⟨g_blind mZm, g_pre mZm hK hG hZ hS⟩ rfl rfl hl.1 rfl (lv_room (Nat.le_of_ble_eq_true rfl)) dX5_greatestPart_31 ⟨Nat.le_refl _, Nat.le_refl _⟩) hS (fun H locs hG hS => ?_)
              obtain ⟨q7, h9, h⟩ := obind h
              have hk_q7 : ∀ (H : Heap) (locs : List Loc) (ls : Array Slot), mG D cy ad I L H → va_S (gA 18 ad) s.heap H locs → lv_has ls 8 [(0, .ref (ad 0)), (1, .int x1), (2, .int x2), (3, .int x3), (4, .int x4_2), (5, .int x5_2), (7, .int x7_5)] → W p l e rm_X5_greatestPart s m args below meth c H locs 0 0 Q (F0 m 80 ls [.int q7, .int x6_5]) := by
                intro H locs ls hG hS hl
                refine lv_iadd hx hb dX5_greatestPart_80 ?_
                refine lv_istore (lv' := [(6, .int (x6_5 + q7)), (0, .ref (ad 0)), (1, .int x1), (2, .int x2), (3, .int x3), (4, .int x4_2), (5, .int x5_2), (7, .int x7_5)]) hx hb dX5_greatestPart_81 hl (by decide) rfl (fun ls hl => ?_)
                refine lv_iinc (v := (x7_5 + (1 : Int32))) (lv' := [(7, .int (x7_5 + (1 : Int32))), (6, .int (x6_5 + q7)), (0, .ref (ad 0)), (1, .int x1), (2, .int x2), (3, .int x3), (4, .int x4_2), (5, .int x5_2)]) hx hb dX5_greatestPart_83 hl (k := 7) rfl rfl (by decide) rfl (fun ls hl => ?_)
                refine lv_goto (tgt := 19) hx hb dX5_greatestPart_86 (by decide) ?_
                exact ihn5 (x6_5 + q7) (x7_5 + (1 : Int32)) _ _ _ h hG hS (lv_sub hl [2, 3, 4, 5, 6, 7, 1, 0] rfl)
              clear h
              have h := h9
              clear h9
              refine lv_if_eq (tgt := 79) hx hb dX5_greatestPart_34 (by decide) (fun c8 => ?_) (fun c8 => ?_)
              · have h := ite_t h c8
                refine lv_iconst (v := (0 : Int32)) hx hb dX5_greatestPart_79 (by decide) ?_
                have h := Option.some.inj h
                subst h
                exact hk_q7 _ _ _ hG hS (lv_sub hl [0, 1, 2, 3, 4, 5, 7] rfl)
              · have h := ite_f h c8
                refine lv_iload_n hx hb dX5_greatestPart_37 rfl (lv_at hl 2 rfl) ?_
                refine lv_iload hx hb dX5_greatestPart_38 (lv_at hl 7 rfl) ?_
                refine g_endi (va_runS (As := [.int x2, .int x7_5]) (rest := [.int x6_5]) ⟨hx, hb, hml, hown, hts⟩ (k_X5_has l D cy ad hi I L x2 x7_5 _ rfl) (va_cwS 2 hts gX5_greatestPart_X5_has rfl rfl rfl cd_X5_has.2 ⟨Nat.le_of_ble_eq_true rfl, Nat.le_of_ble_eq_true rfl⟩) ⟨g_blind mZm, g_pre mZm hK hG hZ hS⟩ rfl rfl hl.1 rfl (lv_room (Nat.le_of_ble_eq_true rfl)) dX5_greatestPart_40 ⟨Nat.le_refl _, Nat.le_refl _⟩) hS (fun H locs hG hS => ?_)
                refine lv_if_eq (tgt := 79) hx hb dX5_greatestPart_43 (by decide) (fun c9 => ?_) (fun c9 => ?_)
                · have h := ite_t h c9
                  refine lv_iconst (v := (0 : Int32)) hx hb dX5_greatestPart_79 (by decide) ?_
                  have h := Option.some.inj h
                  subst h
                  exact hk_q7 _ _ _ hG hS (lv_sub hl [0, 1, 2, 3, 4, 5, 7] rfl)
                · have h := ite_f h c9
                  refine lv_aload_n hx hb dX5_greatestPart_46 rfl (lv_at hl 0 rfl) ?_
                  refine lv_iload hx hb dX5_greatestPart_47 (lv_at hl 5 rfl) ?_
                  refine lv_aload_n hx hb dX5_greatestPart_49 rfl (lv_at hl 0 rfl) ?_
                  refine g_get hx hb l5 hown hK hG (k := 0) (by decide) (mE_5 _ _) vwCl_5 6 (by decide) k1 (fun _ h9 => h9) rfl dX5_greatestPart_50 ?_
                  refine lv_iload_n hx hb dX5_greatestPart_53 rfl (lv_at hl 1 rfl) ?_
                  refine g_ald hx hb hK hG (k := 4) (n := 6) (show mIA 4 6 from by decide +kernel).1.1 (mIA_e (show mIA 4 6 from by decide +kernel) _ _) 0 rfl h dX5_greatestPart_54 (fun v10 h => ?_)
                  refine lv_iload_n hx hb dX5_greatestPart_55 rfl (lv_at hl 3 rfl) ?_
                  obtain ⟨v11, ev11, h⟩ := obind h
                  refine g_endi (va_runV (As := [.int x5_2, .int v10, .int x3]) (rest := [.int x6_5]) ⟨hx, hb, hml, hown, hts⟩ (k_X5_sankUnder l D cy ad hi I L x5_2 v10 x3 v11 ev11) (cwV 3 hts gX5_greatestPart_X5_sankUnder rfl rfl rfl cd_X5_sankUnder ⟨Nat.le_of_ble_eq_true rfl, Nat.le_of_ble_eq_true rfl⟩) ⟨g_blind mZm, g_recv hK hG (k := 0) (by decide) (mE_5 _ _) vwCl_5, g_pre mZm hK hG hZ hS⟩ rfl rfl hl.1 rfl (lv_room (Nat.le_of_ble_eq_true rfl)) dX5_greatestPart_56 ⟨Nat.le_refl _, Nat.le_refl _⟩) hS (fun H locs hG hS => ?_)
                  refine lv_aload_n hx hb dX5_greatestPart_59 rfl (lv_at hl 0 rfl) ?_
                  refine lv_iload hx hb dX5_greatestPart_60 (lv_at hl 7 rfl) ?_
                  refine lv_aload_n hx hb dX5_greatestPart_62 rfl (lv_at hl 0 rfl) ?_
                  refine g_get hx hb l5 hown hK hG (k := 0) (by decide) (mE_5 _ _) vwCl_5 6 (by decide) k1 (fun _ h9 => h9) rfl dX5_greatestPart_63 ?_
                  refine lv_iload_n hx hb dX5_greatestPart_66 rfl (lv_at hl 1 rfl) ?_
                  refine g_ald hx hb hK hG (k := 4) (n := 6) (show mIA 4 6 from by decide +kernel).1.1 (mIA_e (show mIA 4 6 from by decide +kernel) _ _) 0 rfl h dX5_greatestPart_67 (fun v12 h => ?_)
                  refine lv_iload_n hx hb dX5_greatestPart_68 rfl (lv_at hl 3 rfl) ?_
                  obtain ⟨v13, ev13, h⟩ := obind h
                  refine g_endi (va_runV (As := [.int x7_5, .int v12, .int x3]) (rest := [.int v11, .int x6_5]) ⟨hx, hb, hml, hown, hts⟩ (k_X5_sankUnder l D cy ad hi I L x7_5 v12 x3 v13 ev13) (cwV 3 hts gX5_greatestPart_X5_sankUnder rfl rfl rfl cd_X5_sankUnder ⟨Nat.le_of_ble_eq_true rfl, Nat.le_of_ble_eq_true rfl⟩) ⟨g_blind mZm, g_recv hK hG (k := 0) (by decide) (mE_5 _ _) vwCl_5, g_pre mZm hK hG hZ hS⟩ rfl rfl hl.1 rfl (lv_room (Nat.le_of_ble_eq_true rfl)) dX5_greatestPart_69 ⟨Nat.le_refl _, Nat.le_refl _⟩) hS (fun H locs hG hS => ?_)
                  refine lv_icmp_ne (tgt := 79) hx hb dX5_greatestPart_72 (by decide) (fun c14 => ?_) (fun c14 => ?_)
                  · have h := ite_f h c14
                    refine lv_iconst (v := (0 : Int32)) hx hb dX5_greatestPart_79 (by decide) ?_
                    have h := Option.some.inj h
                    subst h
                    exact hk_q7 _ _ _ hG hS (lv_sub hl [0, 1, 2, 3, 4, 5, 7] rfl)
                  · have h := ite_t h c14
                    refine lv_iconst (v := (1 : Int32)) hx hb dX5_greatestPart_75 (by decide) ?_
                    refine lv_goto (tgt := 80) hx hb dX5_greatestPart_76 (by decide) ?_
                    have h := Option.some.inj h
                    subst h
                    exact hk_q7 _ _ _ hG hS (lv_sub hl [0, 1, 2, 3, 4, 5, 7] rfl)
        refine keyK4 _ (fun z6_5 H locs ls h hG hS hl => ?_) bigF (0 : Int32) (0 : Int32) _ _ _ h hG hS (lv_sub hl [2, 3, 4, 5, 6, 7, 1, 0] rfl)
        clear keyK4
        refine lv_iload hx hb dX5_greatestPart_89 (lv_at hl 6 rfl) ?_
        refine lv_iload hx hb dX5_greatestPart_91 (lv_at hl 4 rfl) ?_
        refine lv_icmp_le (tgt := 101) hx hb dX5_greatestPart_93 (by decide) (fun c15 => ?_) (fun c15 => ?_)
        · have h := ite_t h c15
          refine lv_iload hx hb dX5_greatestPart_101 (lv_at hl 4 rfl) ?_
          refine lv_istore (lv' := [(4, .int x4_2), (0, .ref (ad 0)), (1, .int x1), (2, .int x2), (3, .int x3), (5, .int x5_2), (6, .int z6_5)]) hx hb dX5_greatestPart_103 hl (by decide) rfl (fun ls hl => ?_)
          refine lv_iinc (v := (x5_2 + (1 : Int32))) (lv' := [(5, .int (x5_2 + (1 : Int32))), (4, .int x4_2), (0, .ref (ad 0)), (1, .int x1), (2, .int x2), (3, .int x3), (6, .int z6_5)]) hx hb dX5_greatestPart_105 hl (k := 5) rfl rfl (by decide) rfl (fun ls hl => ?_)
          refine lv_goto (tgt := 6) hx hb dX5_greatestPart_108 (by decide) ?_
          exact ihn2 x4_2 (x5_2 + (1 : Int32)) _ _ _ h hG hS (lv_sub hl [2, 3, 4, 5, 1, 0] rfl)
        · have h := ite_f h c15
          refine lv_iload hx hb dX5_greatestPart_96 (lv_at hl 6 rfl) ?_
          refine lv_goto (tgt := 103) hx hb dX5_greatestPart_98 (by decide) ?_
          refine lv_istore (lv' := [(4, .int z6_5), (0, .ref (ad 0)), (1, .int x1), (2, .int x2), (3, .int x3), (5, .int x5_2), (6, .int z6_5)]) hx hb dX5_greatestPart_103 hl (by decide) rfl (fun ls hl => ?_)
          refine lv_iinc (v := (x5_2 + (1 : Int32))) (lv' := [(5, .int (x5_2 + (1 : Int32))), (4, .int z6_5), (0, .ref (ad 0)), (1, .int x1), (2, .int x2), (3, .int x3), (6, .int z6_5)]) hx hb dX5_greatestPart_105 hl (k := 5) rfl rfl (by decide) rfl (fun ls hl => ?_)
          refine lv_goto (tgt := 6) hx hb dX5_greatestPart_108 (by decide) ?_
          exact ihn2 z6_5 (x5_2 + (1 : Int32)) _ _ _ h hG hS (lv_sub hl [2, 3, 4, 5, 1, 0] rfl)
  refine keyK1 _ (fun z4_2 H locs ls h hG hS hl => ?_) bigF (0 : Int32) (0 : Int32) _ _ _ h hG hS (lv_sub hl [2, 3, 4, 5, 1, 0] rfl)
  clear keyK1
  refine lv_iload hx hb dX5_greatestPart_111 (lv_at hl 0 rfl) ?_
  have h := Option.some.inj h
  subst h
  subst hQ
  exact g_iret hx hb hr hlocks mZm hK hZ hG hS rfl dX5_greatestPart_113
def X5_next_L1 (x1 : Int32) (q3 : Int32 × xMem) (v5 : Int32) (K7 : Int32 → Int32 → Option (Int32 × xMem)) : Nat → Int32 → Int32 → Int32 → Option (Int32 × xMem)
  | 0, _, _, _ => none
  | n8 + 1, x5_8, x6_8, x7_8 => if (q3.2 0 4) ≤ x7_8 then (K7 x5_8 x6_8) else ((if x7_8 = x1 then (some (9999 : Int32)) else ((X5_greatestPart q3.2 x1 v5 x7_8).bind fun v12 => some v12)).bind fun q10 => (if x6_8 ≤ q10 then (some x5_8) else (some x7_8)).bind fun q13 => if x6_8 ≤ q10 then (X5_next_L1 x1 q3 v5 K7 n8 q13 x6_8 (x7_8 + (1 : Int32))) else (X5_next_L1 x1 q3 v5 K7 n8 q13 q10 (x7_8 + (1 : Int32))))
def X5_next (I : xMem) (x1 : Int32) (x2 : Int32) : Option (Int32 × xMem) := if (X5_isOne I x1) = (0 : Int32) then (some ((-1 : Int32), I)) else (if (X5_isRow x2) = (0 : Int32) then (some ((-1 : Int32), I)) else ((X5_noPairs I x1 x2).bind fun q3 => if q3.1 = (0 : Int32) then ((X5_kindsBy q3.2 x1 x2).bind fun v5 => if v5 = (0 : Int32) then (some ((-9 : Int32), q3.2)) else (X5_next_L1 x1 q3 v5 (fun (z5_8 : Int32) (z6_8 : Int32) => (some (wr q3.2 0 11 z6_8)).bind fun I16 => some (z5_8, I16)) bigF (-9 : Int32) (9999 : Int32) (0 : Int32))) else (some (q3.1, q3.2))))
abbrev rm_X5_next : Room := { frames := 5, cells := 0, slots := 0, locals := 118 }
theorem cd_X5_next : yX5_next.cls = RX5 ∧ yX5_next.cls ≠ "java/lang/invoke/MethodHandle" ∧ yX5_next.cls ≠ "java/lang/invoke/VarHandle" ∧ (parseMethodDescriptor yX5_next.desc).map (fun d => d.parameters.length) = some 2 := by decide +kernel
set_option maxHeartbeats 4000000 in
set_option maxRecDepth 100000 in
theorem k_X5_next (l : Launch) (D : va_G) (cy : Nat → ClassId) (ad : Nat → Nat) (hi : gInj 18 ad) (I : xMem) (L : xLon) (x1 : Int32) (x2 : Int32) (r : Int32 × xMem) (h : X5_next I x1 x2 = some r) : Met l yX5_next wsX5_next rm_X5_next (va_Pc [.ref (ad 0), .int x1, .int x2] (mW D cy ad I L)) (mPi D cy ad r.2 L r.1) 0 0 (gA 18 ad) := by
  refine g_met (own := RX5) (cc := cX5_next) (maxL := 9) (ret := (some .int)) (by decide) rfl (Nat.le_of_ble_eq_true rfl) rfl ?_
  intro p e s m args below meth c ls hx hb hml hr hlocks hown hts hG hK hZ hl
  generalize hQ : MQ below _ args s 0 0 _ = Q
  have hl : lv_has ls 9 [(0, .ref (ad 0)), (1, .int x1), (2, .int x2)] := hl
  have hS : va_S (gA 18 ad) s.heap s.heap [] := va_S.rf
  have l5 : ∀ w ∈ wsX50, w.before args s = true := fun w h => hts w (List.mem_cons_of_mem _ (List.mem_append_right _ h))
  have k1 := hts (.fieldLink RX5 157 "PairStairsModel" "people" "I") (by decide +kernel)
  have k2 := hts (.fieldLink RX5 70 "PairStairsModel" "asked" "I") (by decide +kernel)
  unfold X5_next at h
  refine lv_aload_n hx hb dX5_next_0 rfl (lv_at hl 0 rfl) ?_
  refine lv_iload_n hx hb dX5_next_1 rfl (lv_at hl 1 rfl) ?_
  refine g_endi (va_runV (As := [.int x1]) (rest := []) ⟨hx, hb, hml, hown, hts⟩ (k_X5_isOne l D cy ad hi I L x1 _ rfl) (cwV 1 hts gX5_next_X5_isOne rfl rfl rfl cd_X5_isOne ⟨Nat.le_of_ble_eq_true rfl, Nat.le_of_ble_eq_true rfl⟩) ⟨g_blind mZm, g_recv hK hG (k := 0) (by decide) (mE_5 _ _) vwCl_5, g_pre mZm hK hG hZ hS⟩ rfl rfl hl.1 rfl (lv_room (Nat.le_of_ble_eq_true rfl)) dX5_next_2 ⟨Nat.le_refl _, Nat.le_refl _⟩) hS (fun H locs hG hS => ?_)
  refine lv_if_eq (tgt := 15) hx hb dX5_next_5 (by decide) (fun c1 => ?_) (fun c1 => ?_)
  · have h := ite_t h c1
    refine lv_iconst (v := (-1 : Int32)) hx hb dX5_next_15 (by decide) ?_
    have h := Option.some.inj h
    subst h
    subst hQ
    exact g_iret hx hb hr hlocks mZm hK hZ hG hS rfl dX5_next_16
  · have h := ite_f h c1
    refine lv_iload_n hx hb dX5_next_8 rfl (lv_at hl 2 rfl) ?_
    refine g_endi (va_runS (As := [.int x2]) (rest := []) ⟨hx, hb, hml, hown, hts⟩ (k_X5_isRow l D cy ad hi I L x2 _ rfl) (va_cwS 1 hts gX5_next_X5_isRow rfl rfl rfl cd_X5_isRow.2 ⟨Nat.le_of_ble_eq_true rfl, Nat.le_of_ble_eq_true rfl⟩) ⟨g_blind mZm, g_pre mZm hK hG hZ hS⟩ rfl rfl hl.1 rfl (lv_room (Nat.le_of_ble_eq_true rfl)) dX5_next_9 ⟨Nat.le_refl _, Nat.le_refl _⟩) hS (fun H locs hG hS => ?_)
    refine lv_if_ne (tgt := 17) hx hb dX5_next_12 (by decide) (fun c2 => ?_) (fun c2 => ?_)
    · have h := ite_f h c2
      refine lv_aload_n hx hb dX5_next_17 rfl (lv_at hl 0 rfl) ?_
      refine lv_iload_n hx hb dX5_next_18 rfl (lv_at hl 1 rfl) ?_
      refine lv_iload_n hx hb dX5_next_19 rfl (lv_at hl 2 rfl) ?_
      obtain ⟨q3, eq3, h⟩ := obind h
      refine g_endi (va_runV (As := [.int x1, .int x2]) (rest := []) ⟨hx, hb, hml, hown, hts⟩ (k_X5_noPairs l D cy ad hi I L x1 x2 q3 eq3) (cwV 2 hts gX5_next_X5_noPairs rfl rfl rfl cd_X5_noPairs ⟨Nat.le_of_ble_eq_true rfl, Nat.le_of_ble_eq_true rfl⟩) ⟨g_blind mZm, g_recv hK hG (k := 0) (by decide) (mE_5 _ _) vwCl_5, g_pre mZm hK hG hZ hS⟩ rfl rfl hl.1 rfl (lv_room (Nat.le_of_ble_eq_true rfl)) dX5_next_20 ⟨Nat.le_refl _, Nat.le_refl _⟩) hS (fun H locs hG hS => ?_)
      refine lv_istore_n (lv' := [(3, .int q3.1), (0, .ref (ad 0)), (1, .int x1), (2, .int x2)]) hx hb dX5_next_23 rfl hl (by decide) rfl (fun ls hl => ?_)
      refine lv_iload_n hx hb dX5_next_24 rfl (lv_at hl 0 rfl) ?_
      refine lv_if_eq (tgt := 30) hx hb dX5_next_25 (by decide) (fun c4 => ?_) (fun c4 => ?_)
      · have h := ite_t h c4
        refine lv_aload_n hx hb dX5_next_30 rfl (lv_at hl 1 rfl) ?_
        refine lv_iload_n hx hb dX5_next_31 rfl (lv_at hl 2 rfl) ?_
        refine lv_iload_n hx hb dX5_next_32 rfl (lv_at hl 3 rfl) ?_
        obtain ⟨v5, ev5, h⟩ := obind h
        refine g_endi (va_runV (As := [.int x1, .int x2]) (rest := []) ⟨hx, hb, hml, hown, hts⟩ (k_X5_kindsBy l D cy ad hi q3.2 L x1 x2 v5 ev5) (cwV 2 hts gX5_next_X5_kindsBy rfl rfl rfl cd_X5_kindsBy ⟨Nat.le_of_ble_eq_true rfl, Nat.le_of_ble_eq_true rfl⟩) ⟨g_blind mZm, g_recv hK hG (k := 0) (by decide) (mE_5 _ _) vwCl_5, g_pre mZm hK hG hZ hS⟩ rfl rfl hl.1 rfl (lv_room (Nat.le_of_ble_eq_true rfl)) dX5_next_33 ⟨Nat.le_refl _, Nat.le_refl _⟩) hS (fun H locs hG hS => ?_)
        refine lv_istore (lv' := [(4, .int v5), (3, .int q3.1), (0, .ref (ad 0)), (1, .int x1), (2, .int x2)]) hx hb dX5_next_36 hl (by decide) rfl (fun ls hl => ?_)
        refine lv_iload hx hb dX5_next_38 (lv_at hl 0 rfl) ?_
        refine lv_if_ne (tgt := 46) hx hb dX5_next_40 (by decide) (fun c6 => ?_) (fun c6 => ?_)
        · have h := ite_f h c6
          refine lv_bipush (v := (-9 : Int32)) hx hb dX5_next_46 (by decide) ?_
          refine lv_istore (lv' := [(5, .int (-9 : Int32)), (4, .int v5), (3, .int q3.1), (0, .ref (ad 0)), (1, .int x1), (2, .int x2)]) hx hb dX5_next_48 hl (by decide) rfl (fun ls hl => ?_)
          refine lv_sipush (v := (9999 : Int32)) hx hb dX5_next_50 (by decide) ?_
          refine lv_istore (lv' := [(6, .int (9999 : Int32)), (5, .int (-9 : Int32)), (4, .int v5), (3, .int q3.1), (0, .ref (ad 0)), (1, .int x1), (2, .int x2)]) hx hb dX5_next_53 hl (by decide) rfl (fun ls hl => ?_)
          refine lv_iconst (v := (0 : Int32)) hx hb dX5_next_55 (by decide) ?_
          refine lv_istore (lv' := [(7, .int (0 : Int32)), (6, .int (9999 : Int32)), (5, .int (-9 : Int32)), (4, .int v5), (3, .int q3.1), (0, .ref (ad 0)), (1, .int x1), (2, .int x2)]) hx hb dX5_next_56 hl (by decide) rfl (fun ls hl => ?_)
          have keyK7 : ∀ (K7 : Int32 → Int32 → Option (Int32 × xMem)), (∀ (z5_8 : Int32) (z6_8 : Int32) (H : Heap) (locs : List Loc) (ls : Array Slot), K7 z5_8 z6_8 = some r → mG D cy ad q3.2 L H → va_S (gA 18 ad) s.heap H locs → lv_has ls 9 [(0, .ref (ad 0)), (5, .int z5_8), (6, .int z6_8)] → W p l e rm_X5_next s m args below meth c H locs 0 0 Q (F0 m 128 ls [])) → ∀ (n8 : Nat) (x5_8 : Int32) (x6_8 : Int32) (x7_8 : Int32) (H : Heap) (locs : List Loc) (ls : Array Slot), X5_next_L1 x1 q3 v5 K7 n8 x5_8 x6_8 x7_8 = some r → mG D cy ad q3.2 L H → va_S (gA 18 ad) s.heap H locs → lv_has ls 9 [(0, .ref (ad 0)), (1, .int x1), (4, .int v5), (5, .int x5_8), (6, .int x6_8), (7, .int x7_8)] → W p l e rm_X5_next s m args below meth c H locs 0 0 Q (F0 m 58 ls []) := by
            intro K7 hkK7 n8
            induction n8 with
            | zero =>
              intro x5_8 x6_8 x7_8 H locs ls h
              exact ono h
            | succ n8 ihn8 =>
              intro x5_8 x6_8 x7_8 H locs ls h hG hS hl
              rw [X5_next_L1] at h
              refine lv_iload hx hb dX5_next_58 (lv_at hl 5 rfl) ?_
              refine lv_aload_n hx hb dX5_next_60 rfl (lv_at hl 0 rfl) ?_
              refine g_get hx hb l5 hown hK hG (k := 0) (by decide) (mE_5 _ _) vwCl_5 4 (by decide) k1 (fun _ h9 => h9) rfl dX5_next_61 ?_
              refine lv_icmp_ge (tgt := 128) hx hb dX5_next_64 (by decide) (fun c9 => ?_) (fun c9 => ?_)
              · have h := ite_t h c9
                exact hkK7 x5_8 x6_8 _ _ _ h hG hS (lv_sub hl [0, 3, 4] rfl)
              · have h := ite_f h c9
                refine lv_iload hx hb dX5_next_67 (lv_at hl 5 rfl) ?_
                refine lv_iload_n hx hb dX5_next_69 rfl (lv_at hl 1 rfl) ?_
                obtain ⟨q10, h9, h⟩ := obind h
                have hk_q10 : ∀ (H : Heap) (locs : List Loc) (ls : Array Slot), mG D cy ad q3.2 L H → va_S (gA 18 ad) s.heap H locs → lv_has ls 9 [(0, .ref (ad 0)), (1, .int x1), (4, .int v5), (5, .int x5_8), (6, .int x6_8), (7, .int x7_8)] → W p l e rm_X5_next s m args below meth c H locs 0 0 Q (F0 m 88 ls [.int q10]) := by
                  intro H locs ls hG hS hl
                  refine lv_istore (lv' := [(8, .int q10), (0, .ref (ad 0)), (1, .int x1), (4, .int v5), (5, .int x5_8), (6, .int x6_8), (7, .int x7_8)]) hx hb dX5_next_88 hl (by decide) rfl (fun ls hl => ?_)
                  refine lv_iload hx hb dX5_next_90 (lv_at hl 0 rfl) ?_
                  refine lv_iload hx hb dX5_next_92 (lv_at hl 5 rfl) ?_
                  obtain ⟨q13, h9, h⟩ := obind h
                  have hk_q13 : ∀ (H : Heap) (locs : List Loc) (ls : Array Slot), mG D cy ad q3.2 L H → va_S (gA 18 ad) s.heap H locs → lv_has ls 9 [(0, .ref (ad 0)), (1, .int x1), (4, .int v5), (6, .int x6_8), (7, .int x7_8), (8, .int q10)] → W p l e rm_X5_next s m args below meth c H locs 0 0 Q (F0 m 104 ls [.int q13]) := by
                    intro H locs ls hG hS hl
                    refine lv_istore (lv' := [(5, .int q13), (0, .ref (ad 0)), (1, .int x1), (4, .int v5), (6, .int x6_8), (7, .int x7_8), (8, .int q10)]) hx hb dX5_next_104 hl (by decide) rfl (fun ls hl => ?_)
                    refine lv_iload hx hb dX5_next_106 (lv_at hl 6 rfl) ?_
                    refine lv_iload hx hb dX5_next_108 (lv_at hl 4 rfl) ?_
                    refine lv_icmp_ge (tgt := 118) hx hb dX5_next_110 (by decide) (fun c15 => ?_) (fun c15 => ?_)
                    · have h := ite_t h c15
                      refine lv_iload hx hb dX5_next_118 (lv_at hl 4 rfl) ?_
                      refine lv_istore (lv' := [(6, .int x6_8), (5, .int q13), (0, .ref (ad 0)), (1, .int x1), (4, .int v5), (7, .int x7_8), (8, .int q10)]) hx hb dX5_next_120 hl (by decide) rfl (fun ls hl => ?_)
                      refine lv_iinc (v := (x7_8 + (1 : Int32))) (lv' := [(7, .int (x7_8 + (1 : Int32))), (6, .int x6_8), (5, .int q13), (0, .ref (ad 0)), (1, .int x1), (4, .int v5), (8, .int q10)]) hx hb dX5_next_122 hl (k := 5) rfl rfl (by decide) rfl (fun ls hl => ?_)
                      refine lv_goto (tgt := 58) hx hb dX5_next_125 (by decide) ?_
                      exact ihn8 q13 x6_8 (x7_8 + (1 : Int32)) _ _ _ h hG hS (lv_sub hl [3, 4, 5, 2, 1, 0] rfl)
                    · have h := ite_f h c15
                      refine lv_iload hx hb dX5_next_113 (lv_at hl 6 rfl) ?_
                      refine lv_goto (tgt := 120) hx hb dX5_next_115 (by decide) ?_
                      refine lv_istore (lv' := [(6, .int q10), (5, .int q13), (0, .ref (ad 0)), (1, .int x1), (4, .int v5), (7, .int x7_8), (8, .int q10)]) hx hb dX5_next_120 hl (by decide) rfl (fun ls hl => ?_)
                      refine lv_iinc (v := (x7_8 + (1 : Int32))) (lv' := [(7, .int (x7_8 + (1 : Int32))), (6, .int q10), (5, .int q13), (0, .ref (ad 0)), (1, .int x1), (4, .int v5), (8, .int q10)]) hx hb dX5_next_122 hl (k := 5) rfl rfl (by decide) rfl (fun ls hl => ?_)
                      refine lv_goto (tgt := 58) hx hb dX5_next_125 (by decide) ?_
                      exact ihn8 q13 q10 (x7_8 + (1 : Int32)) _ _ _ h hG hS (lv_sub hl [3, 4, 5, 2, 1, 0] rfl)
                  clear h
                  have h := h9
                  clear h9
                  refine lv_icmp_ge (tgt := 102) hx hb dX5_next_94 (by decide) (fun c14 => ?_) (fun c14 => ?_)
                  · have h := ite_t h c14
                    refine lv_iload hx hb dX5_next_102 (lv_at hl 4 rfl) ?_
                    have h := Option.some.inj h
                    subst h
                    exact hk_q13 _ _ _ hG hS (lv_sub hl [1, 2, 3, 5, 6, 0] rfl)
                  · have h := ite_f h c14
                    refine lv_iload hx hb dX5_next_97 (lv_at hl 6 rfl) ?_
                    refine lv_goto (tgt := 104) hx hb dX5_next_99 (by decide) ?_
                    have h := Option.some.inj h
                    subst h
                    exact hk_q13 _ _ _ hG hS (lv_sub hl [1, 2, 3, 5, 6, 0] rfl)
                clear h
                have h := h9
                clear h9
                refine lv_icmp_ne (tgt := 79) hx hb dX5_next_70 (by decide) (fun c11 => ?_) (fun c11 => ?_)
                · have h := ite_f h c11
                  refine lv_aload_n hx hb dX5_next_79 rfl (lv_at hl 0 rfl) ?_
                  refine lv_iload_n hx hb dX5_next_80 rfl (lv_at hl 1 rfl) ?_
                  refine lv_iload hx hb dX5_next_81 (lv_at hl 2 rfl) ?_
                  refine lv_iload hx hb dX5_next_83 (lv_at hl 5 rfl) ?_
                  obtain ⟨v12, ev12, h⟩ := obind h
                  refine g_endi (va_runV (As := [.int x1, .int v5, .int x7_8]) (rest := []) ⟨hx, hb, hml, hown, hts⟩ (k_X5_greatestPart l D cy ad hi q3.2 L x1 v5 x7_8 v12 ev12) (cwV 3 hts gX5_next_X5_greatestPart rfl rfl rfl cd_X5_greatestPart ⟨Nat.le_of_ble_eq_true rfl, Nat.le_of_ble_eq_true rfl⟩) ⟨g_blind mZm, g_recv hK hG (k := 0) (by decide) (mE_5 _ _) vwCl_5, g_pre mZm hK hG hZ hS⟩ rfl rfl hl.1 rfl (lv_room (Nat.le_of_ble_eq_true rfl)) dX5_next_85 ⟨Nat.le_refl _, Nat.le_refl _⟩) hS (fun H locs hG hS => ?_)
                  have h := Option.some.inj h
                  subst h
                  exact hk_q10 _ _ _ hG hS (lv_sub hl [0, 1, 2, 3, 4, 5] rfl)
                · have h := ite_t h c11
                  refine lv_sipush (v := (9999 : Int32)) hx hb dX5_next_73 (by decide) ?_
                  refine lv_goto (tgt := 88) hx hb dX5_next_76 (by decide) ?_
                  have h := Option.some.inj h
                  subst h
                  exact hk_q10 _ _ _ hG hS (lv_sub hl [0, 1, 2, 3, 4, 5] rfl)
          refine keyK7 _ (fun z5_8 z6_8 H locs ls h hG hS hl => ?_) bigF (-9 : Int32) (9999 : Int32) (0 : Int32) _ _ _ h hG hS (lv_sub hl [5, 6, 3, 2, 1, 0] rfl)
          clear keyK7
          refine lv_aload_n hx hb dX5_next_128 rfl (lv_at hl 0 rfl) ?_
          refine lv_iload hx hb dX5_next_129 (lv_at hl 2 rfl) ?_
          obtain ⟨I16, eI16, h⟩ := obind h
          refine g_put hx hb l5 tyX5_ok nmX5 hown hK hG hi hS (k := 0) (by decide) (mE_5 _ _) vwCl_5 11 (by decide) k2 (fun _ h9 => h9) rfl rfl (Nat.le_of_ble_eq_true rfl) (by rw [mE_5 _ _]; rfl) dX5_next_131 (fun H locs hG hS => ?_)
          rw [Option.some.inj eI16] at hG
          refine lv_iload hx hb dX5_next_134 (lv_at hl 1 rfl) ?_
          have h := Option.some.inj h
          subst h
          subst hQ
          exact g_iret hx hb hr hlocks mZm hK hZ hG hS rfl dX5_next_136
        · have h := ite_t h c6
          refine lv_bipush (v := (-9 : Int32)) hx hb dX5_next_43 (by decide) ?_
          have h := Option.some.inj h
          subst h
          subst hQ
          exact g_iret hx hb hr hlocks mZm hK hZ hG hS rfl dX5_next_45
      · have h := ite_f h c4
        refine lv_iload_n hx hb dX5_next_28 rfl (lv_at hl 0 rfl) ?_
        have h := Option.some.inj h
        subst h
        subst hQ
        exact g_iret hx hb hr hlocks mZm hK hZ hG hS rfl dX5_next_29
    · have h := ite_t h c2
      refine lv_iconst (v := (-1 : Int32)) hx hb dX5_next_15 (by decide) ?_
      have h := Option.some.inj h
      subst h
      subst hQ
      exact g_iret hx hb hr hlocks mZm hK hZ hG hS rfl dX5_next_16
def X5_maySend (I : xMem) (x1 : Int32) (x2 : Int32) (x3 : Int32) : Option (Int32) := if (X5_has x1 x2) = (X5_has x1 x3) then ((X5_sinkOf I x2 x3 (0 : Int32) (0 : Int32)).bind fun v2 => if (I 0 1) < v2 then (some (nz (0 : Int32))) else (some (nz (1 : Int32)))) else (some (nz (0 : Int32)))
abbrev rm_X5_maySend : Room := { frames := 3, cells := 0, slots := 0, locals := 70 }
theorem cd_X5_maySend : yX5_maySend.cls = RX5 ∧ yX5_maySend.cls ≠ "java/lang/invoke/MethodHandle" ∧ yX5_maySend.cls ≠ "java/lang/invoke/VarHandle" ∧ (parseMethodDescriptor yX5_maySend.desc).map (fun d => d.parameters.length) = some 3 := by decide +kernel
set_option maxHeartbeats 4000000 in
set_option maxRecDepth 100000 in
theorem k_X5_maySend (l : Launch) (D : va_G) (cy : Nat → ClassId) (ad : Nat → Nat) (hi : gInj 18 ad) (I : xMem) (L : xLon) (x1 : Int32) (x2 : Int32) (x3 : Int32) (r : Int32) (h : X5_maySend I x1 x2 x3 = some r) : Met l yX5_maySend wsX5_maySend rm_X5_maySend (va_Pc [.ref (ad 0), .int x1, .int x2, .int x3] (mW D cy ad I L)) (mPi D cy ad I L r) 0 0 (gA 18 ad) := by
  refine g_met (own := RX5) (cc := cX5_maySend) (maxL := 4) (ret := (some .boolean)) (by decide) rfl (Nat.le_of_ble_eq_true rfl) rfl ?_
  intro p e s m args below meth c ls hx hb hml hr hlocks hown hts hG hK hZ hl
  generalize hQ : MQ below _ args s 0 0 _ = Q
  have hl : lv_has ls 4 [(0, .ref (ad 0)), (1, .int x1), (2, .int x2), (3, .int x3)] := hl
  have hS : va_S (gA 18 ad) s.heap s.heap [] := va_S.rf
  have l5 : ∀ w ∈ wsX50, w.before args s = true := fun w h => hts w (List.mem_cons_of_mem _ (List.mem_append_right _ h))
  have k1 := hts (.fieldLink RX5 151 "PairStairsModel" "limit" "I") (by decide +kernel)
  unfold X5_maySend at h
  refine lv_iload_n hx hb dX5_maySend_0 rfl (lv_at hl 1 rfl) ?_
  refine lv_iload_n hx hb dX5_maySend_1 rfl (lv_at hl 2 rfl) ?_
  refine g_endi (va_runS (As := [.int x1, .int x2]) (rest := []) ⟨hx, hb, hml, hown, hts⟩ (k_X5_has l D cy ad hi I L x1 x2 _ rfl) (va_cwS 2 hts gX5_maySend_X5_has rfl rfl rfl cd_X5_has.2 ⟨Nat.le_of_ble_eq_true rfl, Nat.le_of_ble_eq_true rfl⟩) ⟨g_blind mZm, g_pre mZm hK hG hZ hS⟩ rfl rfl hl.1 rfl (lv_room (Nat.le_of_ble_eq_true rfl)) dX5_maySend_2 ⟨Nat.le_refl _, Nat.le_refl _⟩) hS (fun H locs hG hS => ?_)
  refine lv_iload_n hx hb dX5_maySend_5 rfl (lv_at hl 1 rfl) ?_
  refine lv_iload_n hx hb dX5_maySend_6 rfl (lv_at hl 3 rfl) ?_
  refine g_endi (va_runS (As := [.int x1, .int x3]) (rest := [.int (X5_has x1 x2)]) ⟨hx, hb, hml, hown, hts⟩ (k_X5_has l D cy ad hi I L x1 x3 _ rfl) (va_cwS 2 hts gX5_maySend_X5_has rfl rfl rfl cd_X5_has.2 ⟨Nat.le_of_ble_eq_true rfl, Nat.le_of_ble_eq_true rfl⟩) ⟨g_blind mZm, g_pre mZm hK hG hZ hS⟩ rfl rfl hl.1 rfl (lv_room (Nat.le_of_ble_eq_true rfl)) dX5_maySend_7 ⟨Nat.le_refl _, Nat.le_refl _⟩) hS (fun H locs hG hS => ?_)
  refine lv_icmp_ne (tgt := 32) hx hb dX5_maySend_10 (by decide) (fun c1 => ?_) (fun c1 => ?_)
  · have h := ite_f h c1
    refine lv_iconst (v := (0 : Int32)) hx hb dX5_maySend_32 (by decide) ?_
    have h := Option.some.inj h
    subst h
    subst hQ
    exact g_zret hx hb hr hlocks mZm hK hZ hG hS rfl dX5_maySend_33
  · have h := ite_t h c1
    refine lv_aload_n hx hb dX5_maySend_13 rfl (lv_at hl 0 rfl) ?_
    refine lv_iload_n hx hb dX5_maySend_14 rfl (lv_at hl 2 rfl) ?_
    refine lv_iload_n hx hb dX5_maySend_15 rfl (lv_at hl 3 rfl) ?_
    refine lv_iconst (v := (0 : Int32)) hx hb dX5_maySend_16 (by decide) ?_
    refine lv_iconst (v := (0 : Int32)) hx hb dX5_maySend_17 (by decide) ?_
    obtain ⟨v2, ev2, h⟩ := obind h
    refine g_endi (va_runV (As := [.int x2, .int x3, .int (0 : Int32), .int (0 : Int32)]) (rest := []) ⟨hx, hb, hml, hown, hts⟩ (k_X5_sinkOf l D cy ad hi I L x2 x3 (0 : Int32) (0 : Int32) v2 ev2) (cwV 4 hts gX5_maySend_X5_sinkOf rfl rfl rfl cd_X5_sinkOf ⟨Nat.le_of_ble_eq_true rfl, Nat.le_of_ble_eq_true rfl⟩) ⟨g_blind mZm, g_recv hK hG (k := 0) (by decide) (mE_5 _ _) vwCl_5, g_pre mZm hK hG hZ hS⟩ rfl rfl hl.1 rfl (lv_room (Nat.le_of_ble_eq_true rfl)) dX5_maySend_18 ⟨Nat.le_refl _, Nat.le_refl _⟩) hS (fun H locs hG hS => ?_)
    refine lv_aload_n hx hb dX5_maySend_21 rfl (lv_at hl 0 rfl) ?_
    refine g_get hx hb l5 hown hK hG (k := 0) (by decide) (mE_5 _ _) vwCl_5 1 (by decide) k1 (fun _ h9 => h9) rfl dX5_maySend_22 ?_
    refine lv_icmp_gt (tgt := 32) hx hb dX5_maySend_25 (by decide) (fun c3 => ?_) (fun c3 => ?_)
    · have h := ite_t h c3
      refine lv_iconst (v := (0 : Int32)) hx hb dX5_maySend_32 (by decide) ?_
      have h := Option.some.inj h
      subst h
      subst hQ
      exact g_zret hx hb hr hlocks mZm hK hZ hG hS rfl dX5_maySend_33
    · have h := ite_f h c3
      refine lv_iconst (v := (1 : Int32)) hx hb dX5_maySend_28 (by decide) ?_
      refine lv_goto (tgt := 33) hx hb dX5_maySend_29 (by decide) ?_
      have h := Option.some.inj h
      subst h
      subst hQ
      exact g_zret hx hb hr hlocks mZm hK hZ hG hS rfl dX5_maySend_33
def X5_bestSent_L2 (I : xMem) (x1 : Int32) (x2 : Int32) (x4_3 : Int32) (K5 : Int32 → Option (Int32)) : Nat → Int32 → Int32 → Option (Int32)
  | 0, _, _ => none
  | n6 + 1, x3_6, x5_6 => if (I 0 4) ≤ x5_6 then (K5 x3_6) else ((X5_maySend I x1 x4_3 x5_6).bind fun v8 => (if v8 = (0 : Int32) then (some x3_6) else ((rdI I 16 64 (x1 ^^^ (((1 : Int32) <<< (x4_3 &&& 31)) ||| ((1 : Int32) <<< (x5_6 &&& 31))))).bind fun v11 => some v11)).bind fun q9 => if x2 = (0 : Int32) then (if x3_6 ≤ q9 then (X5_bestSent_L2 I x1 x2 x4_3 K5 n6 x3_6 (x5_6 + (1 : Int32))) else (X5_bestSent_L2 I x1 x2 x4_3 K5 n6 q9 (x5_6 + (1 : Int32)))) else (if q9 ≤ x3_6 then (X5_bestSent_L2 I x1 x2 x4_3 K5 n6 x3_6 (x5_6 + (1 : Int32))) else (X5_bestSent_L2 I x1 x2 x4_3 K5 n6 q9 (x5_6 + (1 : Int32)))))
def X5_bestSent_L1 (I : xMem) (x1 : Int32) (x2 : Int32) (K2 : Int32 → Option (Int32)) : Nat → Int32 → Int32 → Option (Int32)
  | 0, _, _ => none
  | n3 + 1, x3_3, x4_3 => if (I 0 4) ≤ x4_3 then (K2 x3_3) else (X5_bestSent_L2 I x1 x2 x4_3 (fun (z3_6 : Int32) => X5_bestSent_L1 I x1 x2 K2 n3 z3_6 (x4_3 + (1 : Int32))) bigF x3_3 (x4_3 + (1 : Int32)))
def X5_bestSent (I : xMem) (x1 : Int32) (x2 : Int32) : Option (Int32) := (rdI I 16 64 x1).bind fun v1 => X5_bestSent_L1 I x1 x2 (fun (z3_3 : Int32) => some z3_3) bigF v1 (0 : Int32)
abbrev rm_X5_bestSent : Room := { frames := 4, cells := 0, slots := 0, locals := 93 }
theorem cd_X5_bestSent : yX5_bestSent.cls = RX5 ∧ yX5_bestSent.cls ≠ "java/lang/invoke/MethodHandle" ∧ yX5_bestSent.cls ≠ "java/lang/invoke/VarHandle" ∧ (parseMethodDescriptor yX5_bestSent.desc).map (fun d => d.parameters.length) = some 2 := by decide +kernel
set_option maxHeartbeats 4000000 in
set_option maxRecDepth 100000 in
theorem k_X5_bestSent (l : Launch) (D : va_G) (cy : Nat → ClassId) (ad : Nat → Nat) (hi : gInj 18 ad) (I : xMem) (L : xLon) (x1 : Int32) (x2 : Int32) (r : Int32) (h : X5_bestSent I x1 x2 = some r) : Met l yX5_bestSent wsX5_bestSent rm_X5_bestSent (va_Pc [.ref (ad 0), .int x1, .int x2] (mW D cy ad I L)) (mPi D cy ad I L r) 0 0 (gA 18 ad) := by
  refine g_met (own := RX5) (cc := cX5_bestSent) (maxL := 7) (ret := (some .int)) (by decide) rfl (Nat.le_of_ble_eq_true rfl) rfl ?_
  intro p e s m args below meth c ls hx hb hml hr hlocks hown hts hG hK hZ hl
  generalize hQ : MQ below _ args s 0 0 _ = Q
  have hl : lv_has ls 7 [(0, .ref (ad 0)), (1, .int x1), (2, .int x2)] := hl
  have hS : va_S (gA 18 ad) s.heap s.heap [] := va_S.rf
  have l5 : ∀ w ∈ wsX50, w.before args s = true := fun w h => hts w (List.mem_cons_of_mem _ (List.mem_append_right _ h))
  have k1 := hts (.fieldLink RX5 60 "PairStairsModel" "sent" "[I") (by decide +kernel)
  have k2 := hts (.fieldLink RX5 157 "PairStairsModel" "people" "I") (by decide +kernel)
  unfold X5_bestSent at h
  refine lv_aload_n hx hb dX5_bestSent_0 rfl (lv_at hl 0 rfl) ?_
  refine g_get hx hb l5 hown hK hG (k := 0) (by decide) (mE_5 _ _) vwCl_5 30 (by decide) k1 (fun _ h9 => h9) rfl dX5_bestSent_1 ?_
  refine lv_iload_n hx hb dX5_bestSent_4 rfl (lv_at hl 1 rfl) ?_
  refine g_ald hx hb hK hG (k := 16) (n := 64) (show mIA 16 64 from by decide +kernel).1.1 (mIA_e (show mIA 16 64 from by decide +kernel) _ _) 0 rfl h dX5_bestSent_5 (fun v1 h => ?_)
  refine lv_istore_n (lv' := [(3, .int v1), (0, .ref (ad 0)), (1, .int x1), (2, .int x2)]) hx hb dX5_bestSent_6 rfl hl (by decide) rfl (fun ls hl => ?_)
  refine lv_iconst (v := (0 : Int32)) hx hb dX5_bestSent_7 (by decide) ?_
  refine lv_istore (lv' := [(4, .int (0 : Int32)), (3, .int v1), (0, .ref (ad 0)), (1, .int x1), (2, .int x2)]) hx hb dX5_bestSent_8 hl (by decide) rfl (fun ls hl => ?_)
  have keyK2 : ∀ (K2 : Int32 → Option (Int32)), (∀ (z3_3 : Int32) (H : Heap) (locs : List Loc) (ls : Array Slot), K2 z3_3 = some r → mG D cy ad I L H → va_S (gA 18 ad) s.heap H locs → lv_has ls 7 [(3, .int z3_3)] → W p l e rm_X5_bestSent s m args below meth c H locs 0 0 Q (F0 m 112 ls [])) → ∀ (n3 : Nat) (x3_3 : Int32) (x4_3 : Int32) (H : Heap) (locs : List Loc) (ls : Array Slot), X5_bestSent_L1 I x1 x2 K2 n3 x3_3 x4_3 = some r → mG D cy ad I L H → va_S (gA 18 ad) s.heap H locs → lv_has ls 7 [(0, .ref (ad 0)), (1, .int x1), (2, .int x2), (3, .int x3_3), (4, .int x4_3)] → W p l e rm_X5_bestSent s m args below meth c H locs 0 0 Q (F0 m 10 ls []) := by
    intro K2 hkK2 n3
    induction n3 with
    | zero =>
      intro x3_3 x4_3 H locs ls h
      exact ono h
    | succ n3 ihn3 =>
      intro x3_3 x4_3 H locs ls h hG hS hl
      rw [X5_bestSent_L1] at h
      refine lv_iload hx hb dX5_bestSent_10 (lv_at hl 4 rfl) ?_
      refine lv_aload_n hx hb dX5_bestSent_12 rfl (lv_at hl 0 rfl) ?_
      refine g_get hx hb l5 hown hK hG (k := 0) (by decide) (mE_5 _ _) vwCl_5 4 (by decide) k2 (fun _ h9 => h9) rfl dX5_bestSent_13 ?_
      refine lv_icmp_ge (tgt := 112) hx hb dX5_bestSent_16 (by decide) (fun c4 => ?_) (fun c4 => ?_)
      · have h := ite_t h c4
        exact hkK2 x3_3 _ _ _ h hG hS (lv_sub hl [3] rfl)
      · have h := ite_f h c4
        refine lv_iload hx hb dX5_bestSent_19 (lv_at hl 4 rfl) ?_
        refine lv_iconst (v := (1 : Int32)) hx hb dX5_bestSent_21 (by decide) ?_
        refine lv_iadd hx hb dX5_bestSent_22 ?_
        refine lv_istore (lv' := [(5, .int (x4_3 + (1 : Int32))), (0, .ref (ad 0)), (1, .int x1), (2, .int x2), (3, .int x3_3), (4, .int x4_3)]) hx hb dX5_bestSent_23 hl (by decide) rfl (fun ls hl => ?_)
        have keyK5 : ∀ (K5 : Int32 → Option (Int32)), (∀ (z3_6 : Int32) (H : Heap) (locs : List Loc) (ls : Array Slot), K5 z3_6 = some r → mG D cy ad I L H → va_S (gA 18 ad) s.heap H locs → lv_has ls 7 [(0, .ref (ad 0)), (1, .int x1), (2, .int x2), (3, .int z3_6), (4, .int x4_3)] → W p l e rm_X5_bestSent s m args below meth c H locs 0 0 Q (F0 m 106 ls [])) → ∀ (n6 : Nat) (x3_6 : Int32) (x5_6 : Int32) (H : Heap) (locs : List Loc) (ls : Array Slot), X5_bestSent_L2 I x1 x2 x4_3 K5 n6 x3_6 x5_6 = some r → mG D cy ad I L H → va_S (gA 18 ad) s.heap H locs → lv_has ls 7 [(0, .ref (ad 0)), (1, .int x1), (2, .int x2), (3, .int x3_6), (4, .int x4_3), (5, .int x5_6)] → W p l e rm_X5_bestSent s m args below meth c H locs 0 0 Q (F0 m 25 ls []) := by
          intro K5 hkK5 n6
          induction n6 with
          | zero =>
            intro x3_6 x5_6 H locs ls h
            exact ono h
          | succ n6 ihn6 =>
            intro x3_6 x5_6 H locs ls h hG hS hl
            rw [X5_bestSent_L2] at h
            refine lv_iload hx hb dX5_bestSent_25 (lv_at hl 5 rfl) ?_
            refine lv_aload_n hx hb dX5_bestSent_27 rfl (lv_at hl 0 rfl) ?_
            refine g_get hx hb l5 hown hK hG (k := 0) (by decide) (mE_5 _ _) vwCl_5 4 (by decide) k2 (fun _ h9 => h9) rfl dX5_bestSent_28 ?_
            refine lv_icmp_ge (tgt := 106) hx hb dX5_bestSent_31 (by decide) (fun c7 => ?_) (fun c7 => ?_)
            · have h := ite_t h c7
              exact hkK5 x3_6 _ _ _ h hG hS (lv_sub hl [0, 1, 2, 3, 4] rfl)
            · have h := ite_f h c7
              refine lv_aload_n hx hb dX5_bestSent_34 rfl (lv_at hl 0 rfl) ?_
              refine lv_iload_n hx hb dX5_bestSent_35 rfl (lv_at hl 1 rfl) ?_
              refine lv_iload hx hb dX5_bestSent_36 (lv_at hl 4 rfl) ?_
              refine lv_iload hx hb dX5_bestSent_38 (lv_at hl 5 rfl) ?_
              obtain ⟨v8, ev8, h⟩ := obind h
              refine g_endi (va_runV (As := [.int x1, .int x4_3, .int x5_6]) (rest := []) ⟨hx, hb, hml, hown, hts⟩ (k_X5_maySend l D cy ad hi I L x1 x4_3 x5_6 v8 ev8) (cwV 3 hts gX5_bestSent_X5_maySend rfl rfl rfl cd_X5_maySend ⟨Nat.le_of_ble_eq_true rfl, Nat.le_of_ble_eq_true rfl⟩) ⟨g_blind mZm, g_recv hK hG (k := 0) (by decide) (mE_5 _ _) vwCl_5, g_pre mZm hK hG hZ hS⟩ rfl rfl hl.1 rfl (lv_room (Nat.le_of_ble_eq_true rfl)) dX5_bestSent_40 ⟨Nat.le_refl _, Nat.le_refl _⟩) hS (fun H locs hG hS => ?_)
              obtain ⟨q9, h9, h⟩ := obind h
              have hk_q9 : ∀ (H : Heap) (locs : List Loc) (ls : Array Slot), mG D cy ad I L H → va_S (gA 18 ad) s.heap H locs → lv_has ls 7 [(0, .ref (ad 0)), (1, .int x1), (2, .int x2), (3, .int x3_6), (4, .int x4_3), (5, .int x5_6)] → W p l e rm_X5_bestSent s m args below meth c H locs 0 0 Q (F0 m 66 ls [.int q9]) := by
                intro H locs ls hG hS hl
                refine lv_istore (lv' := [(6, .int q9), (0, .ref (ad 0)), (1, .int x1), (2, .int x2), (3, .int x3_6), (4, .int x4_3), (5, .int x5_6)]) hx hb dX5_bestSent_66 hl (by decide) rfl (fun ls hl => ?_)
                refine lv_iload_n hx hb dX5_bestSent_68 rfl (lv_at hl 3 rfl) ?_
                refine lv_if_eq (tgt := 87) hx hb dX5_bestSent_69 (by decide) (fun c12 => ?_) (fun c12 => ?_)
                · have h := ite_t h c12
                  refine lv_iload hx hb dX5_bestSent_87 (lv_at hl 0 rfl) ?_
                  refine lv_iload_n hx hb dX5_bestSent_89 rfl (lv_at hl 4 rfl) ?_
                  refine lv_icmp_ge (tgt := 98) hx hb dX5_bestSent_90 (by decide) (fun c13 => ?_) (fun c13 => ?_)
                  · have h := ite_t h c13
                    refine lv_iload_n hx hb dX5_bestSent_98 rfl (lv_at hl 4 rfl) ?_
                    refine lv_istore_n (lv' := [(3, .int x3_6), (6, .int q9), (0, .ref (ad 0)), (1, .int x1), (2, .int x2), (4, .int x4_3), (5, .int x5_6)]) hx hb dX5_bestSent_99 rfl hl (by decide) rfl (fun ls hl => ?_)
                    refine lv_iinc (v := (x5_6 + (1 : Int32))) (lv' := [(5, .int (x5_6 + (1 : Int32))), (3, .int x3_6), (6, .int q9), (0, .ref (ad 0)), (1, .int x1), (2, .int x2), (4, .int x4_3)]) hx hb dX5_bestSent_100 hl (k := 6) rfl rfl (by decide) rfl (fun ls hl => ?_)
                    refine lv_goto (tgt := 25) hx hb dX5_bestSent_103 (by decide) ?_
                    exact ihn6 x3_6 (x5_6 + (1 : Int32)) _ _ _ h hG hS (lv_sub hl [3, 4, 5, 1, 6, 0] rfl)
                  · have h := ite_f h c13
                    refine lv_iload hx hb dX5_bestSent_93 (lv_at hl 0 rfl) ?_
                    refine lv_goto (tgt := 99) hx hb dX5_bestSent_95 (by decide) ?_
                    refine lv_istore_n (lv' := [(3, .int q9), (6, .int q9), (0, .ref (ad 0)), (1, .int x1), (2, .int x2), (4, .int x4_3), (5, .int x5_6)]) hx hb dX5_bestSent_99 rfl hl (by decide) rfl (fun ls hl => ?_)
                    refine lv_iinc (v := (x5_6 + (1 : Int32))) (lv' := [(5, .int (x5_6 + (1 : Int32))), (3, .int q9), (6, .int q9), (0, .ref (ad 0)), (1, .int x1), (2, .int x2), (4, .int x4_3)]) hx hb dX5_bestSent_100 hl (k := 6) rfl rfl (by decide) rfl (fun ls hl => ?_)
                    refine lv_goto (tgt := 25) hx hb dX5_bestSent_103 (by decide) ?_
                    exact ihn6 q9 (x5_6 + (1 : Int32)) _ _ _ h hG hS (lv_sub hl [3, 4, 5, 1, 6, 0] rfl)
                · have h := ite_f h c12
                  refine lv_iload hx hb dX5_bestSent_72 (lv_at hl 0 rfl) ?_
                  refine lv_iload_n hx hb dX5_bestSent_74 rfl (lv_at hl 4 rfl) ?_
                  refine lv_icmp_le (tgt := 83) hx hb dX5_bestSent_75 (by decide) (fun c14 => ?_) (fun c14 => ?_)
                  · have h := ite_t h c14
                    refine lv_iload_n hx hb dX5_bestSent_83 rfl (lv_at hl 4 rfl) ?_
                    refine lv_goto (tgt := 99) hx hb dX5_bestSent_84 (by decide) ?_
                    refine lv_istore_n (lv' := [(3, .int x3_6), (6, .int q9), (0, .ref (ad 0)), (1, .int x1), (2, .int x2), (4, .int x4_3), (5, .int x5_6)]) hx hb dX5_bestSent_99 rfl hl (by decide) rfl (fun ls hl => ?_)
                    refine lv_iinc (v := (x5_6 + (1 : Int32))) (lv' := [(5, .int (x5_6 + (1 : Int32))), (3, .int x3_6), (6, .int q9), (0, .ref (ad 0)), (1, .int x1), (2, .int x2), (4, .int x4_3)]) hx hb dX5_bestSent_100 hl (k := 6) rfl rfl (by decide) rfl (fun ls hl => ?_)
                    refine lv_goto (tgt := 25) hx hb dX5_bestSent_103 (by decide) ?_
                    exact ihn6 x3_6 (x5_6 + (1 : Int32)) _ _ _ h hG hS (lv_sub hl [3, 4, 5, 1, 6, 0] rfl)
                  · have h := ite_f h c14
                    refine lv_iload hx hb dX5_bestSent_78 (lv_at hl 0 rfl) ?_
                    refine lv_goto (tgt := 99) hx hb dX5_bestSent_80 (by decide) ?_
                    refine lv_istore_n (lv' := [(3, .int q9), (6, .int q9), (0, .ref (ad 0)), (1, .int x1), (2, .int x2), (4, .int x4_3), (5, .int x5_6)]) hx hb dX5_bestSent_99 rfl hl (by decide) rfl (fun ls hl => ?_)
                    refine lv_iinc (v := (x5_6 + (1 : Int32))) (lv' := [(5, .int (x5_6 + (1 : Int32))), (3, .int q9), (6, .int q9), (0, .ref (ad 0)), (1, .int x1), (2, .int x2), (4, .int x4_3)]) hx hb dX5_bestSent_100 hl (k := 6) rfl rfl (by decide) rfl (fun ls hl => ?_)
                    refine lv_goto (tgt := 25) hx hb dX5_bestSent_103 (by decide) ?_
                    exact ihn6 q9 (x5_6 + (1 : Int32)) _ _ _ h hG hS (lv_sub hl [3, 4, 5, 1, 6, 0] rfl)
              clear h
              have h := h9
              clear h9
              refine lv_if_eq (tgt := 65) hx hb dX5_bestSent_43 (by decide) (fun c10 => ?_) (fun c10 => ?_)
              · have h := ite_t h c10
                refine lv_iload_n hx hb dX5_bestSent_65 rfl (lv_at hl 3 rfl) ?_
                have h := Option.some.inj h
                subst h
                exact hk_q9 _ _ _ hG hS (lv_sub hl [0, 1, 2, 3, 4, 5] rfl)
              · have h := ite_f h c10
                refine lv_aload_n hx hb dX5_bestSent_46 rfl (lv_at hl 0 rfl) ?_
                refine g_get hx hb l5 hown hK hG (k := 0) (by decide) (mE_5 _ _) vwCl_5 30 (by decide) k1 (fun _ h9 => h9) rfl dX5_bestSent_47 ?_
                refine lv_iload_n hx hb dX5_bestSent_50 rfl (lv_at hl 1 rfl) ?_
                refine lv_iconst (v := (1 : Int32)) hx hb dX5_bestSent_51 (by decide) ?_
                refine lv_iload hx hb dX5_bestSent_52 (lv_at hl 4 rfl) ?_
                refine lv_ishl hx hb dX5_bestSent_54 ?_
                refine lv_iconst (v := (1 : Int32)) hx hb dX5_bestSent_55 (by decide) ?_
                refine lv_iload hx hb dX5_bestSent_56 (lv_at hl 5 rfl) ?_
                refine lv_ishl hx hb dX5_bestSent_58 ?_
                refine lv_ior hx hb dX5_bestSent_59 ?_
                refine lv_ixor hx hb dX5_bestSent_60 ?_
                refine g_ald hx hb hK hG (k := 16) (n := 64) (show mIA 16 64 from by decide +kernel).1.1 (mIA_e (show mIA 16 64 from by decide +kernel) _ _) 0 rfl h dX5_bestSent_61 (fun v11 h => ?_)
                refine lv_goto (tgt := 66) hx hb dX5_bestSent_62 (by decide) ?_
                have h := Option.some.inj h
                subst h
                exact hk_q9 _ _ _ hG hS (lv_sub hl [0, 1, 2, 3, 4, 5] rfl)
        refine keyK5 _ (fun z3_6 H locs ls h hG hS hl => ?_) bigF x3_3 (x4_3 + (1 : Int32)) _ _ _ h hG hS (lv_sub hl [1, 2, 3, 4, 5, 0] rfl)
        clear keyK5
        refine lv_iinc (v := (x4_3 + (1 : Int32))) (lv' := [(4, .int (x4_3 + (1 : Int32))), (0, .ref (ad 0)), (1, .int x1), (2, .int x2), (3, .int z3_6)]) hx hb dX5_bestSent_106 hl (k := 4) rfl rfl (by decide) rfl (fun ls hl => ?_)
        refine lv_goto (tgt := 10) hx hb dX5_bestSent_109 (by decide) ?_
        exact ihn3 z3_6 (x4_3 + (1 : Int32)) _ _ _ h hG hS (lv_sub hl [1, 2, 3, 4, 0] rfl)
  refine keyK2 _ (fun z3_3 H locs ls h hG hS hl => ?_) bigF v1 (0 : Int32) _ _ _ h hG hS (lv_sub hl [2, 3, 4, 1, 0] rfl)
  clear keyK2
  refine lv_iload_n hx hb dX5_bestSent_112 rfl (lv_at hl 0 rfl) ?_
  have h := Option.some.inj h
  subst h
  subst hQ
  exact g_iret hx hb hr hlocks mZm hK hZ hG hS rfl dX5_bestSent_113
def X5_send_L1 (K3 : xMem → Option (Int32 × xMem)) : Nat → Int32 → xMem → Option (Int32 × xMem)
  | 0, _, _ => none
  | n4 + 1, x2_4, I5 => if (64 : Int32) ≤ x2_4 then (K3 I5) else ((X5_bits x2_4).bind fun v8 => (wrI I5 16 64 x2_4 v8).bind fun I9 => X5_send_L1 K3 n4 (x2_4 + (1 : Int32)) I9)
def X5_send_L3 (x2_11 : Int32) (K15 : xMem → Option (Int32 × xMem)) : Nat → Int32 → xMem → Option (Int32 × xMem)
  | 0, _, _ => none
  | n16 + 1, x3_16, I17 => if ((1 : Int32) <<< ((I17 0 4) &&& 31)) ≤ x3_16 then (K15 I17) else ((if (x2_11 - x2_11 / (2 : Int32) * (2 : Int32)) = (0 : Int32) then (some (1 : Int32)) else (some (0 : Int32))).bind fun q20 => (X5_bestSent I17 x3_16 q20).bind fun v22 => (wrI I17 17 64 x3_16 v22).bind fun I23 => X5_send_L3 x2_11 K15 n16 (x3_16 + (1 : Int32)) I23)
def X5_send_L4 (K24 : xMem → Option (Int32 × xMem)) : Nat → Int32 → xMem → Option (Int32 × xMem)
  | 0, _, _ => none
  | n25 + 1, x3_25, I26 => if ((1 : Int32) <<< ((I26 0 4) &&& 31)) ≤ x3_25 then (K24 I26) else ((rdI I26 17 64 x3_25).bind fun v29 => (wrI I26 16 64 x3_25 v29).bind fun I30 => X5_send_L4 K24 n25 (x3_25 + (1 : Int32)) I30)
def X5_send_L2 (K10 : xMem → Option (Int32 × xMem)) : Nat → Int32 → xMem → Option (Int32 × xMem)
  | 0, _, _ => none
  | n11 + 1, x2_11, I12 => if x2_11 < (0 : Int32) then (K10 I12) else (X5_send_L3 x2_11 (fun (I18 : xMem) => X5_send_L4 (fun (I27 : xMem) => X5_send_L2 K10 n11 (x2_11 + (-1 : Int32)) I27) bigF (0 : Int32) I18) bigF (0 : Int32) I12)
def X5_send (I : xMem) (x1 : Int32) : Option (Int32 × xMem) := if (X5_in x1.toInt64 (0 : Int64) (2 : Int64)) = (0 : Int32) then (some ((-1 : Int32), I)) else (if (I 0 4) = (0 : Int32) then (some ((-4 : Int32), I)) else (X5_send_L1 (fun (I6 : xMem) => X5_send_L2 (fun (I13 : xMem) => (rdI I13 1 660 (2 : Int32)).bind fun v31 => (rdI I13 16 64 v31).bind fun v32 => some (v32, I13)) bigF (((2 : Int32) * x1) - (1 : Int32)) I6) bigF (0 : Int32) I))
abbrev rm_X5_send : Room := { frames := 5, cells := 0, slots := 0, locals := 119 }
theorem cd_X5_send : yX5_send.cls = RX5 ∧ yX5_send.cls ≠ "java/lang/invoke/MethodHandle" ∧ yX5_send.cls ≠ "java/lang/invoke/VarHandle" ∧ (parseMethodDescriptor yX5_send.desc).map (fun d => d.parameters.length) = some 1 := by decide +kernel
set_option maxHeartbeats 4000000 in
set_option maxRecDepth 100000 in
theorem k_X5_send (l : Launch) (D : va_G) (cy : Nat → ClassId) (ad : Nat → Nat) (hi : gInj 18 ad) (I : xMem) (L : xLon) (x1 : Int32) (r : Int32 × xMem) (h : X5_send I x1 = some r) : Met l yX5_send wsX5_send rm_X5_send (va_Pc [.ref (ad 0), .int x1] (mW D cy ad I L)) (mPi D cy ad r.2 L r.1) 0 0 (gA 18 ad) := by
  refine g_met (own := RX5) (cc := cX5_send) (maxL := 4) (ret := (some .int)) (by decide) rfl (Nat.le_of_ble_eq_true rfl) rfl ?_
  intro p e s m args below meth c ls hx hb hml hr hlocks hown hts hG hK hZ hl
  generalize hQ : MQ below _ args s 0 0 _ = Q
  have hl : lv_has ls 4 [(0, .ref (ad 0)), (1, .int x1)] := hl
  have hS : va_S (gA 18 ad) s.heap s.heap [] := va_S.rf
  have l5 : ∀ w ∈ wsX50, w.before args s = true := fun w h => hts w (List.mem_cons_of_mem _ (List.mem_append_right _ h))
  have k1 := hts (.constantLong RX5 230 (2)) (by decide +kernel)
  have k2 := hts (.fieldLink RX5 157 "PairStairsModel" "people" "I") (by decide +kernel)
  have k3 := hts (.fieldLink RX5 60 "PairStairsModel" "sent" "[I") (by decide +kernel)
  have k4 := hts (.fieldLink RX5 63 "PairStairsModel" "ahead" "[I") (by decide +kernel)
  have k5 := hts (.fieldLink RX5 7 "PairStairsModel" "row" "[I") (by decide +kernel)
  unfold X5_send at h
  refine lv_iload_n hx hb dX5_send_0 rfl (lv_at hl 1 rfl) ?_
  refine lv_i2l hx hb dX5_send_1 rfl ?_
  refine lv_lconst (v := (0 : Int64)) hx hb dX5_send_2 (by decide) ?_
  refine lv_ldc2 (v := (2 : Int64)) hx hb hown k1 dX5_send_3 ?_
  refine g_endi (va_runS (As := [.long x1.toInt64, .long (0 : Int64), .long (2 : Int64)]) (rest := []) ⟨hx, hb, hml, hown, hts⟩ (k_X5_in l D cy ad hi I L x1.toInt64 (0 : Int64) (2 : Int64) _ rfl) (va_cwS 3 hts gX5_send_X5_in rfl rfl rfl cd_X5_in.2 ⟨Nat.le_of_ble_eq_true rfl, Nat.le_of_ble_eq_true rfl⟩) ⟨g_blind mZm, g_pre mZm hK hG hZ hS⟩ rfl rfl hl.1 rfl (lv_room (Nat.le_of_ble_eq_true rfl)) dX5_send_6 ⟨Nat.le_refl _, Nat.le_refl _⟩) hS (fun H locs hG hS => ?_)
  refine lv_if_ne (tgt := 14) hx hb dX5_send_9 (by decide) (fun c1 => ?_) (fun c1 => ?_)
  · have h := ite_f h c1
    refine lv_aload_n hx hb dX5_send_14 rfl (lv_at hl 0 rfl) ?_
    refine g_get hx hb l5 hown hK hG (k := 0) (by decide) (mE_5 _ _) vwCl_5 4 (by decide) k2 (fun _ h9 => h9) rfl dX5_send_15 ?_
    refine lv_if_ne (tgt := 24) hx hb dX5_send_18 (by decide) (fun c2 => ?_) (fun c2 => ?_)
    · have h := ite_f h c2
      refine lv_iconst (v := (0 : Int32)) hx hb dX5_send_24 (by decide) ?_
      refine lv_istore_n (lv' := [(2, .int (0 : Int32)), (0, .ref (ad 0)), (1, .int x1)]) hx hb dX5_send_25 rfl hl (by decide) rfl (fun ls hl => ?_)
      have keyK3 : ∀ (K3 : xMem → Option (Int32 × xMem)), (∀ (I6 : xMem) (H : Heap) (locs : List Loc) (ls : Array Slot), K3 I6 = some r → mG D cy ad I6 L H → va_S (gA 18 ad) s.heap H locs → lv_has ls 4 [(0, .ref (ad 0)), (1, .int x1)] → W p l e rm_X5_send s m args below meth c H locs 0 0 Q (F0 m 48 ls [])) → ∀ (n4 : Nat) (x2_4 : Int32) (I5 : xMem) (H : Heap) (locs : List Loc) (ls : Array Slot), X5_send_L1 K3 n4 x2_4 I5 = some r → mG D cy ad I5 L H → va_S (gA 18 ad) s.heap H locs → lv_has ls 4 [(0, .ref (ad 0)), (1, .int x1), (2, .int x2_4)] → W p l e rm_X5_send s m args below meth c H locs 0 0 Q (F0 m 26 ls []) := by
        intro K3 hkK3 n4
        induction n4 with
        | zero =>
          intro x2_4 I5 H locs ls h
          exact ono h
        | succ n4 ihn4 =>
          intro x2_4 I5 H locs ls h hG hS hl
          rw [X5_send_L1] at h
          refine lv_iload_n hx hb dX5_send_26 rfl (lv_at hl 2 rfl) ?_
          refine lv_bipush (v := (64 : Int32)) hx hb dX5_send_27 (by decide) ?_
          refine lv_icmp_ge (tgt := 48) hx hb dX5_send_29 (by decide) (fun c7 => ?_) (fun c7 => ?_)
          · have h := ite_t h c7
            exact hkK3 I5 _ _ _ h hG hS (lv_sub hl [0, 1] rfl)
          · have h := ite_f h c7
            refine lv_aload_n hx hb dX5_send_32 rfl (lv_at hl 0 rfl) ?_
            refine g_get hx hb l5 hown hK hG (k := 0) (by decide) (mE_5 _ _) vwCl_5 30 (by decide) k3 (fun _ h9 => h9) rfl dX5_send_33 ?_
            refine lv_iload_n hx hb dX5_send_36 rfl (lv_at hl 2 rfl) ?_
            refine lv_iload_n hx hb dX5_send_37 rfl (lv_at hl 2 rfl) ?_
            obtain ⟨v8, ev8, h⟩ := obind h
            refine g_endi (va_runS (As := [.int x2_4]) (rest := [.int x2_4, .ref (ad 16)]) ⟨hx, hb, hml, hown, hts⟩ (k_X5_bits l D cy ad hi I5 L x2_4 v8 ev8) (va_cwS 1 hts gX5_send_X5_bits rfl rfl rfl cd_X5_bits.2 ⟨Nat.le_of_ble_eq_true rfl, Nat.le_of_ble_eq_true rfl⟩) ⟨g_blind mZm, g_pre mZm hK hG hZ hS⟩ rfl rfl hl.1 rfl (lv_room (Nat.le_of_ble_eq_true rfl)) dX5_send_38 ⟨Nat.le_refl _, Nat.le_refl _⟩) hS (fun H locs hG hS => ?_)
            refine g_ast hx hb hK hG hi hS (k := 16) (n := 64) (show mIA 16 64 from by decide +kernel).1.1 (fun f => mIA_e (show mIA 16 64 from by decide +kernel) f _) 0 rfl h dX5_send_41 (fun I9 H locs h hG hS => ?_)
            refine lv_iinc (v := (x2_4 + (1 : Int32))) (lv' := [(2, .int (x2_4 + (1 : Int32))), (0, .ref (ad 0)), (1, .int x1)]) hx hb dX5_send_42 hl (k := 2) rfl rfl (by decide) rfl (fun ls hl => ?_)
            refine lv_goto (tgt := 26) hx hb dX5_send_45 (by decide) ?_
            exact ihn4 (x2_4 + (1 : Int32)) I9 _ _ _ h hG hS (lv_sub hl [1, 2, 0] rfl)
      refine keyK3 _ (fun I6 H locs ls h hG hS hl => ?_) bigF (0 : Int32) I _ _ _ h hG hS (lv_sub hl [1, 2, 0] rfl)
      clear keyK3
      refine lv_iconst (v := (2 : Int32)) hx hb dX5_send_48 (by decide) ?_
      refine lv_iload_n hx hb dX5_send_49 rfl (lv_at hl 1 rfl) ?_
      refine lv_imul hx hb dX5_send_50 ?_
      refine lv_iconst (v := (1 : Int32)) hx hb dX5_send_51 (by decide) ?_
      refine lv_isub hx hb dX5_send_52 ?_
      refine lv_istore_n (lv' := [(2, .int (((2 : Int32) * x1) - (1 : Int32))), (0, .ref (ad 0)), (1, .int x1)]) hx hb dX5_send_53 rfl hl (by decide) rfl (fun ls hl => ?_)
      have keyK10 : ∀ (K10 : xMem → Option (Int32 × xMem)), (∀ (I13 : xMem) (H : Heap) (locs : List Loc) (ls : Array Slot), K10 I13 = some r → mG D cy ad I13 L H → va_S (gA 18 ad) s.heap H locs → lv_has ls 4 [(0, .ref (ad 0))] → W p l e rm_X5_send s m args below meth c H locs 0 0 Q (F0 m 134 ls [])) → ∀ (n11 : Nat) (x2_11 : Int32) (I12 : xMem) (H : Heap) (locs : List Loc) (ls : Array Slot), X5_send_L2 K10 n11 x2_11 I12 = some r → mG D cy ad I12 L H → va_S (gA 18 ad) s.heap H locs → lv_has ls 4 [(0, .ref (ad 0)), (2, .int x2_11)] → W p l e rm_X5_send s m args below meth c H locs 0 0 Q (F0 m 54 ls []) := by
        intro K10 hkK10 n11
        induction n11 with
        | zero =>
          intro x2_11 I12 H locs ls h
          exact ono h
        | succ n11 ihn11 =>
          intro x2_11 I12 H locs ls h hG hS hl
          rw [X5_send_L2] at h
          refine lv_iload_n hx hb dX5_send_54 rfl (lv_at hl 1 rfl) ?_
          refine lv_if_lt (tgt := 134) hx hb dX5_send_55 (by decide) (fun c14 => ?_) (fun c14 => ?_)
          · have h := ite_t h c14
            exact hkK10 I12 _ _ _ h hG hS (lv_sub hl [0] rfl)
          · have h := ite_f h c14
            refine lv_iconst (v := (0 : Int32)) hx hb dX5_send_58 (by decide) ?_
            refine lv_istore_n (lv' := [(3, .int (0 : Int32)), (0, .ref (ad 0)), (2, .int x2_11)]) hx hb dX5_send_59 rfl hl (by decide) rfl (fun ls hl => ?_)
            have keyK15 : ∀ (K15 : xMem → Option (Int32 × xMem)), (∀ (I18 : xMem) (H : Heap) (locs : List Loc) (ls : Array Slot), K15 I18 = some r → mG D cy ad I18 L H → va_S (gA 18 ad) s.heap H locs → lv_has ls 4 [(0, .ref (ad 0)), (2, .int x2_11)] → W p l e rm_X5_send s m args below meth c H locs 0 0 Q (F0 m 98 ls [])) → ∀ (n16 : Nat) (x3_16 : Int32) (I17 : xMem) (H : Heap) (locs : List Loc) (ls : Array Slot), X5_send_L3 x2_11 K15 n16 x3_16 I17 = some r → mG D cy ad I17 L H → va_S (gA 18 ad) s.heap H locs → lv_has ls 4 [(0, .ref (ad 0)), (2, .int x2_11), (3, .int x3_16)] → W p l e rm_X5_send s m args below meth c H locs 0 0 Q (F0 m 60 ls []) := by
              intro K15 hkK15 n16
              induction n16 with
              | zero =>
                intro x3_16 I17 H locs ls h
                exact ono h
              | succ n16 ihn16 =>
                intro x3_16 I17 H locs ls h hG hS hl
                rw [X5_send_L3] at h
                refine lv_iload_n hx hb dX5_send_60 rfl (lv_at hl 2 rfl) ?_
                refine lv_iconst (v := (1 : Int32)) hx hb dX5_send_61 (by decide) ?_
                refine lv_aload_n hx hb dX5_send_62 rfl (lv_at hl 0 rfl) ?_
                refine g_get hx hb l5 hown hK hG (k := 0) (by decide) (mE_5 _ _) vwCl_5 4 (by decide) k2 (fun _ h9 => h9) rfl dX5_send_63 ?_
                refine lv_ishl hx hb dX5_send_66 ?_
                refine lv_icmp_ge (tgt := 98) hx hb dX5_send_67 (by decide) (fun c19 => ?_) (fun c19 => ?_)
                · have h := ite_t h c19
                  exact hkK15 I17 _ _ _ h hG hS (lv_sub hl [0, 1] rfl)
                · have h := ite_f h c19
                  refine lv_aload_n hx hb dX5_send_70 rfl (lv_at hl 0 rfl) ?_
                  refine g_get hx hb l5 hown hK hG (k := 0) (by decide) (mE_5 _ _) vwCl_5 31 (by decide) k4 (fun _ h9 => h9) rfl dX5_send_71 ?_
                  refine lv_iload_n hx hb dX5_send_74 rfl (lv_at hl 2 rfl) ?_
                  refine lv_aload_n hx hb dX5_send_75 rfl (lv_at hl 0 rfl) ?_
                  refine lv_iload_n hx hb dX5_send_76 rfl (lv_at hl 2 rfl) ?_
                  refine lv_iload_n hx hb dX5_send_77 rfl (lv_at hl 1 rfl) ?_
                  refine lv_iconst (v := (2 : Int32)) hx hb dX5_send_78 (by decide) ?_
                  refine lv_irem hx hb dX5_send_79 (by decide) ?_
                  obtain ⟨q20, h9, h⟩ := obind h
                  have hk_q20 : ∀ (H : Heap) (locs : List Loc) (ls : Array Slot), mG D cy ad I17 L H → va_S (gA 18 ad) s.heap H locs → lv_has ls 4 [(0, .ref (ad 0)), (2, .int x2_11), (3, .int x3_16)] → W p l e rm_X5_send s m args below meth c H locs 0 0 Q (F0 m 88 ls [.int q20, .int x3_16, .ref (ad 0), .int x3_16, .ref (ad 17)]) := by
                    intro H locs ls hG hS hl
                    obtain ⟨v22, ev22, h⟩ := obind h
                    refine g_endi (va_runV (As := [.int x3_16, .int q20]) (rest := [.int x3_16, .ref (ad 17)]) ⟨hx, hb, hml, hown, hts⟩ (k_X5_bestSent l D cy ad hi I17 L x3_16 q20 v22 ev22) (cwV 2 hts gX5_send_X5_bestSent rfl rfl rfl cd_X5_bestSent ⟨Nat.le_of_ble_eq_true rfl, Nat.le_of_ble_eq_true rfl⟩) ⟨g_blind mZm, g_recv hK hG (k := 0) (by decide) (mE_5 _ _) vwCl_5, g_pre mZm hK hG hZ hS⟩ rfl rfl hl.1 rfl (lv_room (Nat.le_of_ble_eq_true rfl)) dX5_send_88 ⟨Nat.le_refl _, Nat.le_refl _⟩) hS (fun H locs hG hS => ?_)
                    refine g_ast hx hb hK hG hi hS (k := 17) (n := 64) (show mIA 17 64 from by decide +kernel).1.1 (fun f => mIA_e (show mIA 17 64 from by decide +kernel) f _) 0 rfl h dX5_send_91 (fun I23 H locs h hG hS => ?_)
                    refine lv_iinc (v := (x3_16 + (1 : Int32))) (lv' := [(3, .int (x3_16 + (1 : Int32))), (0, .ref (ad 0)), (2, .int x2_11)]) hx hb dX5_send_92 hl (k := 2) rfl rfl (by decide) rfl (fun ls hl => ?_)
                    refine lv_goto (tgt := 60) hx hb dX5_send_95 (by decide) ?_
                    exact ihn16 (x3_16 + (1 : Int32)) I23 _ _ _ h hG hS (lv_sub hl [1, 2, 0] rfl)
                  clear h
                  have h := h9
                  clear h9
                  refine lv_if_ne (tgt := 87) hx hb dX5_send_80 (by decide) (fun c21 => ?_) (fun c21 => ?_)
                  · have h := ite_f h c21
                    refine lv_iconst (v := (0 : Int32)) hx hb dX5_send_87 (by decide) ?_
                    have h := Option.some.inj h
                    subst h
                    exact hk_q20 _ _ _ hG hS (lv_sub hl [0, 1, 2] rfl)
                  · have h := ite_t h c21
                    refine lv_iconst (v := (1 : Int32)) hx hb dX5_send_83 (by decide) ?_
                    refine lv_goto (tgt := 88) hx hb dX5_send_84 (by decide) ?_
                    have h := Option.some.inj h
                    subst h
                    exact hk_q20 _ _ _ hG hS (lv_sub hl [0, 1, 2] rfl)
            refine keyK15 _ (fun I18 H locs ls h hG hS hl => ?_) bigF (0 : Int32) I12 _ _ _ h hG hS (lv_sub hl [1, 2, 0] rfl)
            clear keyK15
            refine lv_iconst (v := (0 : Int32)) hx hb dX5_send_98 (by decide) ?_
            refine lv_istore_n (lv' := [(3, .int (0 : Int32)), (0, .ref (ad 0)), (2, .int x2_11)]) hx hb dX5_send_99 rfl hl (by decide) rfl (fun ls hl => ?_)
            have keyK24 : ∀ (K24 : xMem → Option (Int32 × xMem)), (∀ (I27 : xMem) (H : Heap) (locs : List Loc) (ls : Array Slot), K24 I27 = some r → mG D cy ad I27 L H → va_S (gA 18 ad) s.heap H locs → lv_has ls 4 [(0, .ref (ad 0)), (2, .int x2_11)] → W p l e rm_X5_send s m args below meth c H locs 0 0 Q (F0 m 128 ls [])) → ∀ (n25 : Nat) (x3_25 : Int32) (I26 : xMem) (H : Heap) (locs : List Loc) (ls : Array Slot), X5_send_L4 K24 n25 x3_25 I26 = some r → mG D cy ad I26 L H → va_S (gA 18 ad) s.heap H locs → lv_has ls 4 [(0, .ref (ad 0)), (2, .int x2_11), (3, .int x3_25)] → W p l e rm_X5_send s m args below meth c H locs 0 0 Q (F0 m 100 ls []) := by
              intro K24 hkK24 n25
              induction n25 with
              | zero =>
                intro x3_25 I26 H locs ls h
                exact ono h
              | succ n25 ihn25 =>
                intro x3_25 I26 H locs ls h hG hS hl
                rw [X5_send_L4] at h
                refine lv_iload_n hx hb dX5_send_100 rfl (lv_at hl 2 rfl) ?_
                refine lv_iconst (v := (1 : Int32)) hx hb dX5_send_101 (by decide) ?_
                refine lv_aload_n hx hb dX5_send_102 rfl (lv_at hl 0 rfl) ?_
                refine g_get hx hb l5 hown hK hG (k := 0) (by decide) (mE_5 _ _) vwCl_5 4 (by decide) k2 (fun _ h9 => h9) rfl dX5_send_103 ?_
                refine lv_ishl hx hb dX5_send_106 ?_
                refine lv_icmp_ge (tgt := 128) hx hb dX5_send_107 (by decide) (fun c28 => ?_) (fun c28 => ?_)
                · have h := ite_t h c28
                  exact hkK24 I26 _ _ _ h hG hS (lv_sub hl [0, 1] rfl)
                · have h := ite_f h c28
                  refine lv_aload_n hx hb dX5_send_110 rfl (lv_at hl 0 rfl) ?_
                  refine g_get hx hb l5 hown hK hG (k := 0) (by decide) (mE_5 _ _) vwCl_5 30 (by decide) k3 (fun _ h9 => h9) rfl dX5_send_111 ?_
                  refine lv_iload_n hx hb dX5_send_114 rfl (lv_at hl 2 rfl) ?_
                  refine lv_aload_n hx hb dX5_send_115 rfl (lv_at hl 0 rfl) ?_
                  refine g_get hx hb l5 hown hK hG (k := 0) (by decide) (mE_5 _ _) vwCl_5 31 (by decide) k4 (fun _ h9 => h9) rfl dX5_send_116 ?_
                  refine lv_iload_n hx hb dX5_send_119 rfl (lv_at hl 2 rfl) ?_
                  refine g_ald hx hb hK hG (k := 17) (n := 64) (show mIA 17 64 from by decide +kernel).1.1 (mIA_e (show mIA 17 64 from by decide +kernel) _ _) 0 rfl h dX5_send_120 (fun v29 h => ?_)
                  refine g_ast hx hb hK hG hi hS (k := 16) (n := 64) (show mIA 16 64 from by decide +kernel).1.1 (fun f => mIA_e (show mIA 16 64 from by decide +kernel) f _) 0 rfl h dX5_send_121 (fun I30 H locs h hG hS => ?_)
                  refine lv_iinc (v := (x3_25 + (1 : Int32))) (lv' := [(3, .int (x3_25 + (1 : Int32))), (0, .ref (ad 0)), (2, .int x2_11)]) hx hb dX5_send_122 hl (k := 2) rfl rfl (by decide) rfl (fun ls hl => ?_)
                  refine lv_goto (tgt := 100) hx hb dX5_send_125 (by decide) ?_
                  exact ihn25 (x3_25 + (1 : Int32)) I30 _ _ _ h hG hS (lv_sub hl [1, 2, 0] rfl)
            refine keyK24 _ (fun I27 H locs ls h hG hS hl => ?_) bigF (0 : Int32) I18 _ _ _ h hG hS (lv_sub hl [1, 2, 0] rfl)
            clear keyK24
            refine lv_iinc (v := (x2_11 + (-1 : Int32))) (lv' := [(2, .int (x2_11 + (-1 : Int32))), (0, .ref (ad 0))]) hx hb dX5_send_128 hl (k := 1) rfl rfl (by decide) rfl (fun ls hl => ?_)
            refine lv_goto (tgt := 54) hx hb dX5_send_131 (by decide) ?_
            exact ihn11 (x2_11 + (-1 : Int32)) I27 _ _ _ h hG hS (lv_sub hl [1, 0] rfl)
      refine keyK10 _ (fun I13 H locs ls h hG hS hl => ?_) bigF (((2 : Int32) * x1) - (1 : Int32)) I6 _ _ _ h hG hS (lv_sub hl [1, 0] rfl)
      clear keyK10
      refine lv_aload_n hx hb dX5_send_134 rfl (lv_at hl 0 rfl) ?_
      refine g_get hx hb l5 hown hK hG (k := 0) (by decide) (mE_5 _ _) vwCl_5 30 (by decide) k3 (fun _ h9 => h9) rfl dX5_send_135 ?_
      refine lv_aload_n hx hb dX5_send_138 rfl (lv_at hl 0 rfl) ?_
      refine g_get hx hb l5 hown hK hG (k := 0) (by decide) (mE_5 _ _) vwCl_5 0 (by decide) k5 (fun _ h9 => h9) rfl dX5_send_139 ?_
      refine lv_iconst (v := (2 : Int32)) hx hb dX5_send_142 (by decide) ?_
      refine g_ald hx hb hK hG (k := 1) (n := 660) (show mIA 1 660 from by decide +kernel).1.1 (mIA_e (show mIA 1 660 from by decide +kernel) _ _) 0 rfl h dX5_send_143 (fun v31 h => ?_)
      refine g_ald hx hb hK hG (k := 16) (n := 64) (show mIA 16 64 from by decide +kernel).1.1 (mIA_e (show mIA 16 64 from by decide +kernel) _ _) 0 rfl h dX5_send_144 (fun v32 h => ?_)
      have h := Option.some.inj h
      subst h
      subst hQ
      exact g_iret hx hb hr hlocks mZm hK hZ hG hS rfl dX5_send_145
    · have h := ite_t h c2
      refine lv_bipush (v := (-4 : Int32)) hx hb dX5_send_21 (by decide) ?_
      have h := Option.some.inj h
      subst h
      subst hQ
      exact g_iret hx hb hr hlocks mZm hK hZ hG hS rfl dX5_send_23
  · have h := ite_t h c1
    refine lv_iconst (v := (-1 : Int32)) hx hb dX5_send_12 (by decide) ?_
    have h := Option.some.inj h
    subst h
    subst hQ
    exact g_iret hx hb hr hlocks mZm hK hZ hG hS rfl dX5_send_13
def X5_tellParts_L1 (K1 : Int64 → Option (Int32 × xLon)) : Nat → Int64 → Int64 → Option (Int32 × xLon)
  | 0, _, _ => none
  | n2 + 1, x5_2, x7_2 => if (lg_cmp x7_2 (0 : Int64)) = (0 : Int32) then (K1 x5_2) else ((rmL x5_2 x7_2).bind fun v4 => X5_tellParts_L1 K1 n2 x7_2 v4)
def X5_tellParts (L : xLon) (x1 : Int64) (x2 : Int64) : Option (Int32 × xLon) := X5_tellParts_L1 (fun (z5_2 : Int64) => (dvL x1 z5_2).bind fun v5 => (some (wrL L 12 v5)).bind fun L6 => (dvL x2 z5_2).bind fun v7 => (some (wrL L6 13 v7)).bind fun L8 => some ((1 : Int32), L8)) bigF x1 x2
abbrev rm_X5_tellParts : Room := { frames := 0, cells := 0, slots := 0, locals := 0 }
theorem cd_X5_tellParts : yX5_tellParts.cls = RX5 ∧ yX5_tellParts.cls ≠ "java/lang/invoke/MethodHandle" ∧ yX5_tellParts.cls ≠ "java/lang/invoke/VarHandle" ∧ (parseMethodDescriptor yX5_tellParts.desc).map (fun d => d.parameters.length) = some 2 := by decide +kernel
set_option maxHeartbeats 4000000 in
set_option maxRecDepth 100000 in
theorem k_X5_tellParts (l : Launch) (D : va_G) (cy : Nat → ClassId) (ad : Nat → Nat) (hi : gInj 18 ad) (I : xMem) (L : xLon) (x1 : Int64) (x2 : Int64) (r : Int32 × xLon) (h : X5_tellParts L x1 x2 = some r) : Met l yX5_tellParts wsX5_tellParts rm_X5_tellParts (va_Pc [.ref (ad 0), .long x1, .long x2] (mW D cy ad I L)) (mPi D cy ad I r.2 r.1) 0 0 (gA 18 ad) := by
  refine g_met (own := RX5) (cc := cX5_tellParts) (maxL := 11) (ret := (some .int)) (by decide) rfl (Nat.le_of_ble_eq_true rfl) rfl ?_
  intro p e s m args below meth c ls hx hb hml hr hlocks hown hts hG hK hZ hl
  generalize hQ : MQ below _ args s 0 0 _ = Q
  have hl : lv_has ls 11 [(0, .ref (ad 0)), (1, .long x1), (3, .long x2)] := hl
  have hS : va_S (gA 18 ad) s.heap s.heap [] := va_S.rf
  have l5 : ∀ w ∈ wsX50, w.before args s = true := fun w h => hts w (List.mem_cons_of_mem _ (List.mem_append_right _ h))
  have k1 := hts (.fieldLink RX5 296 "PairStairsModel" "upper" "J") (by decide +kernel)
  have k2 := hts (.fieldLink RX5 34 "PairStairsModel" "lower" "J") (by decide +kernel)
  unfold X5_tellParts at h
  refine lv_lload_n hx hb dX5_tellParts_0 rfl (lv_at hl 1 rfl) ?_
  refine lv_lstore (lv' := [(5, .long x1), (0, .ref (ad 0)), (1, .long x1), (3, .long x2)]) hx hb dX5_tellParts_1 hl (by decide) rfl (fun ls hl => ?_)
  refine lv_lload_n hx hb dX5_tellParts_3 rfl (lv_at hl 3 rfl) ?_
  refine lv_lstore (lv' := [(7, .long x2), (5, .long x1), (0, .ref (ad 0)), (1, .long x1), (3, .long x2)]) hx hb dX5_tellParts_4 hl (by decide) rfl (fun ls hl => ?_)
  have keyK1 : ∀ (K1 : Int64 → Option (Int32 × xLon)), (∀ (z5_2 : Int64) (H : Heap) (locs : List Loc) (ls : Array Slot), K1 z5_2 = some r → mG D cy ad I L H → va_S (gA 18 ad) s.heap H locs → lv_has ls 11 [(0, .ref (ad 0)), (1, .long x1), (3, .long x2), (5, .long z5_2)] → W p l e rm_X5_tellParts s m args below meth c H locs 0 0 Q (F0 m 31 ls [])) → ∀ (n2 : Nat) (x5_2 : Int64) (x7_2 : Int64) (H : Heap) (locs : List Loc) (ls : Array Slot), X5_tellParts_L1 K1 n2 x5_2 x7_2 = some r → mG D cy ad I L H → va_S (gA 18 ad) s.heap H locs → lv_has ls 11 [(0, .ref (ad 0)), (1, .long x1), (3, .long x2), (5, .long x5_2), (7, .long x7_2)] → W p l e rm_X5_tellParts s m args below meth c H locs 0 0 Q (F0 m 6 ls []) := by
    intro K1 hkK1 n2
    induction n2 with
    | zero =>
      intro x5_2 x7_2 H locs ls h
      exact ono h
    | succ n2 ihn2 =>
      intro x5_2 x7_2 H locs ls h hG hS hl
      rw [X5_tellParts_L1] at h
      refine lv_lload hx hb dX5_tellParts_6 (lv_at hl 4 rfl) ?_
      refine lv_lconst (v := (0 : Int64)) hx hb dX5_tellParts_8 (by decide) ?_
      refine W.lcmp hx hb dX5_tellParts_9 ?_
      refine lv_if_eq (tgt := 31) hx hb dX5_tellParts_10 (by decide) (fun c3 => ?_) (fun c3 => ?_)
      · have h := ite_t h c3
        exact hkK1 x5_2 _ _ _ h hG hS (lv_sub hl [0, 1, 2, 3] rfl)
      · have h := ite_f h c3
        refine lv_lload hx hb dX5_tellParts_13 (lv_at hl 3 rfl) ?_
        refine lv_lload hx hb dX5_tellParts_15 (lv_at hl 4 rfl) ?_
        refine g_lrem hx hb h dX5_tellParts_17 (fun v4 h => ?_)
        refine lv_lstore (lv' := [(9, .long v4), (0, .ref (ad 0)), (1, .long x1), (3, .long x2), (5, .long x5_2), (7, .long x7_2)]) hx hb dX5_tellParts_18 hl (by decide) rfl (fun ls hl => ?_)
        refine lv_lload hx hb dX5_tellParts_20 (lv_at hl 5 rfl) ?_
        refine lv_lstore (lv' := [(5, .long x7_2), (9, .long v4), (0, .ref (ad 0)), (1, .long x1), (3, .long x2), (7, .long x7_2)]) hx hb dX5_tellParts_22 hl (by decide) rfl (fun ls hl => ?_)
        refine lv_lload hx hb dX5_tellParts_24 (lv_at hl 1 rfl) ?_
        refine lv_lstore (lv' := [(7, .long v4), (5, .long x7_2), (9, .long v4), (0, .ref (ad 0)), (1, .long x1), (3, .long x2)]) hx hb dX5_tellParts_26 hl (by decide) rfl (fun ls hl => ?_)
        refine lv_goto (tgt := 6) hx hb dX5_tellParts_28 (by decide) ?_
        exact ihn2 x7_2 v4 _ _ _ h hG hS (lv_sub hl [3, 4, 5, 1, 0] rfl)
  refine keyK1 _ (fun z5_2 H locs ls h hG hS hl => ?_) bigF x1 x2 _ _ _ h hG hS (lv_sub hl [2, 3, 4, 1, 0] rfl)
  clear keyK1
  refine lv_aload_n hx hb dX5_tellParts_31 rfl (lv_at hl 0 rfl) ?_
  refine lv_lload_n hx hb dX5_tellParts_32 rfl (lv_at hl 1 rfl) ?_
  refine lv_lload hx hb dX5_tellParts_33 (lv_at hl 3 rfl) ?_
  refine g_ldiv hx hb h dX5_tellParts_35 (fun v5 h => ?_)
  obtain ⟨L6, eL6, h⟩ := obind h
  refine g_putL hx hb l5 tyX5_ok nmX5 hown hK hG hi hS (k := 0) (by decide) (mE_5 _ _) vwCl_5 12 (by decide) k1 (fun _ h9 => h9) rfl rfl (Nat.le_of_ble_eq_true rfl) rfl (fun a ha => mE_L _ _ a _ ha) dX5_tellParts_36 (fun H locs hG hS => ?_)
  rw [Option.some.inj eL6] at hG
  refine lv_aload_n hx hb dX5_tellParts_39 rfl (lv_at hl 0 rfl) ?_
  refine lv_lload_n hx hb dX5_tellParts_40 rfl (lv_at hl 2 rfl) ?_
  refine lv_lload hx hb dX5_tellParts_41 (lv_at hl 3 rfl) ?_
  refine g_ldiv hx hb h dX5_tellParts_43 (fun v7 h => ?_)
  obtain ⟨L8, eL8, h⟩ := obind h
  refine g_putL hx hb l5 tyX5_ok nmX5 hown hK hG hi hS (k := 0) (by decide) (mE_5 _ _) vwCl_5 13 (by decide) k2 (fun _ h9 => h9) rfl rfl (Nat.le_of_ble_eq_true rfl) rfl (fun a ha => mE_L _ _ a _ ha) dX5_tellParts_44 (fun H locs hG hS => ?_)
  rw [Option.some.inj eL8] at hG
  refine lv_iconst (v := (1 : Int32)) hx hb dX5_tellParts_47 (by decide) ?_
  have h := Option.some.inj h
  subst h
  subst hQ
  exact g_iret hx hb hr hlocks mZm hK hZ hG hS rfl dX5_tellParts_48
def X5_tellLost_L2 (x3 : Int32) (v5 : Int32) (x10_7 : Int32) (K13 : Int64 → Option (Int32 × xMem × xLon)) : Nat → Int64 → Int32 → Option (Int32 × xMem × xLon)
  | 0, _, _ => none
  | n14 + 1, x11_14, x13_14 => if (4 : Int32) ≤ x13_14 then (K13 x11_14) else ((if (X5_has v5 x13_14) = (0 : Int32) then (some (1 : Int64)) else (if (X5_has x10_7 x13_14) = (0 : Int32) then (some (((12 : Int32) - x3).toInt64)) else (some x3.toInt64))).bind fun q16 => X5_tellLost_L2 x3 v5 x10_7 K13 n14 (x11_14 * q16) (x13_14 + (1 : Int32)))
def X5_tellLost_L1 (x1 : Int32) (x2 : Int32) (x3 : Int32) (x4 : Int32) (v5 : Int32) (K6 : Int64 → Int64 → xMem → Option (Int32 × xMem × xLon)) : Nat → Int64 → Int64 → Int32 → xMem → Option (Int32 × xMem × xLon)
  | 0, _, _, _, _ => none
  | n7 + 1, x6_7, x8_7, x10_7, I8 => if (16 : Int32) ≤ x10_7 then (K6 x6_7 x8_7 I8) else ((if (x10_7 &&& (v5 ^^^ (-1 : Int32))) = (0 : Int32) then (some (1 : Int64)) else (some (0 : Int64))).bind fun q11 => X5_tellLost_L2 x3 v5 x10_7 (fun (z11_14 : Int64) => (X5_leastSink I8 x1 x2 (v5 &&& (x10_7 ^^^ (-1 : Int32)))).bind fun q19 => (if x4 = (0 : Int32) then (if (q19.2 0 1) < q19.1 then (some (0 : Int64)) else (some z11_14)) else (some (z11_14 * q19.1.toInt64))).bind fun q20 => X5_tellLost_L1 x1 x2 x3 x4 v5 K6 n7 (x6_7 + q20) (x8_7 + z11_14) (x10_7 + (1 : Int32)) q19.2) bigF q11 (0 : Int32))
def X5_tellLost (I : xMem) (L : xLon) (x1 : Int32) (x2 : Int32) (x3 : Int32) (x4 : Int32) : Option (Int32 × xMem × xLon) := if (X5_areTwo I x1 x2) = (0 : Int32) then (some ((-1 : Int32), I, L)) else (if (X5_in x3.toInt64 (0 : Int64) (12 : Int64)) = (0 : Int32) then (some ((-1 : Int32), I, L)) else ((X5_areAtOneEnd I x1 x2).bind fun v3 => if v3 = (0 : Int32) then (some ((-4 : Int32), I, L)) else ((X5_stonesBy I x1).bind fun v5 => X5_tellLost_L1 x1 x2 x3 x4 v5 (fun (z6_8 : Int64) (z8_8 : Int64) (I9 : xMem) => (X5_tellParts L z6_8 z8_8).bind fun q23 => some (q23.1, I9, q23.2)) bigF (0 : Int64) (0 : Int64) (0 : Int32) I)))
abbrev rm_X5_tellLost : Room := { frames := 4, cells := 0, slots := 0, locals := 98 }
theorem cd_X5_tellLost : yX5_tellLost.cls = RX5 ∧ yX5_tellLost.cls ≠ "java/lang/invoke/MethodHandle" ∧ yX5_tellLost.cls ≠ "java/lang/invoke/VarHandle" ∧ (parseMethodDescriptor yX5_tellLost.desc).map (fun d => d.parameters.length) = some 4 := by decide +kernel
set_option maxHeartbeats 4000000 in
set_option maxRecDepth 100000 in
theorem k_X5_tellLost (l : Launch) (D : va_G) (cy : Nat → ClassId) (ad : Nat → Nat) (hi : gInj 18 ad) (I : xMem) (L : xLon) (x1 : Int32) (x2 : Int32) (x3 : Int32) (x4 : Int32) (r : Int32 × xMem × xLon) (h : X5_tellLost I L x1 x2 x3 x4 = some r) : Met l yX5_tellLost wsX5_tellLost rm_X5_tellLost (va_Pc [.ref (ad 0), .int x1, .int x2, .int x3, .int x4] (mW D cy ad I L)) (mPi D cy ad r.2.1 r.2.2 r.1) 0 0 (gA 18 ad) := by
  refine g_met (own := RX5) (cc := cX5_tellLost) (maxL := 14) (ret := (some .int)) (by decide) rfl (Nat.le_of_ble_eq_true rfl) rfl ?_
  intro p e s m args below meth c ls hx hb hml hr hlocks hown hts hG hK hZ hl
  generalize hQ : MQ below _ args s 0 0 _ = Q
  have hl : lv_has ls 14 [(0, .ref (ad 0)), (1, .int x1), (2, .int x2), (3, .int x3), (4, .int x4)] := hl
  have hS : va_S (gA 18 ad) s.heap s.heap [] := va_S.rf
  have l5 : ∀ w ∈ wsX50, w.before args s = true := fun w h => hts w (List.mem_cons_of_mem _ (List.mem_append_right _ h))
  have k1 := hts (.constantLong RX5 299 (12)) (by decide +kernel)
  have k2 := hts (.fieldLink RX5 151 "PairStairsModel" "limit" "I") (by decide +kernel)
  unfold X5_tellLost at h
  refine lv_aload_n hx hb dX5_tellLost_0 rfl (lv_at hl 0 rfl) ?_
  refine lv_iload_n hx hb dX5_tellLost_1 rfl (lv_at hl 1 rfl) ?_
  refine lv_iload_n hx hb dX5_tellLost_2 rfl (lv_at hl 2 rfl) ?_
  refine g_endi (va_runV (As := [.int x1, .int x2]) (rest := []) ⟨hx, hb, hml, hown, hts⟩ (k_X5_areTwo l D cy ad hi I L x1 x2 _ rfl) (cwV 2 hts gX5_tellLost_X5_areTwo rfl rfl rfl cd_X5_areTwo ⟨Nat.le_of_ble_eq_true rfl, Nat.le_of_ble_eq_true rfl⟩) ⟨g_blind mZm, g_recv hK hG (k := 0) (by decide) (mE_5 _ _) vwCl_5, g_pre mZm hK hG hZ hS⟩ rfl rfl hl.1 rfl (lv_room (Nat.le_of_ble_eq_true rfl)) dX5_tellLost_3 ⟨Nat.le_refl _, Nat.le_refl _⟩) hS (fun H locs hG hS => ?_)
  refine lv_if_eq (tgt := 21) hx hb dX5_tellLost_6 (by decide) (fun c1 => ?_) (fun c1 => ?_)
  · have h := ite_t h c1
    refine lv_iconst (v := (-1 : Int32)) hx hb dX5_tellLost_21 (by decide) ?_
    have h := Option.some.inj h
    subst h
    subst hQ
    exact g_iret hx hb hr hlocks mZm hK hZ hG hS rfl dX5_tellLost_22
  · have h := ite_f h c1
    refine lv_iload_n hx hb dX5_tellLost_9 rfl (lv_at hl 3 rfl) ?_
    refine lv_i2l hx hb dX5_tellLost_10 rfl ?_
    refine lv_lconst (v := (0 : Int64)) hx hb dX5_tellLost_11 (by decide) ?_
    refine lv_ldc2 (v := (12 : Int64)) hx hb hown k1 dX5_tellLost_12 ?_
    refine g_endi (va_runS (As := [.long x3.toInt64, .long (0 : Int64), .long (12 : Int64)]) (rest := []) ⟨hx, hb, hml, hown, hts⟩ (k_X5_in l D cy ad hi I L x3.toInt64 (0 : Int64) (12 : Int64) _ rfl) (va_cwS 3 hts gX5_tellLost_X5_in rfl rfl rfl cd_X5_in.2 ⟨Nat.le_of_ble_eq_true rfl, Nat.le_of_ble_eq_true rfl⟩) ⟨g_blind mZm, g_pre mZm hK hG hZ hS⟩ rfl rfl hl.1 rfl (lv_room (Nat.le_of_ble_eq_true rfl)) dX5_tellLost_15 ⟨Nat.le_refl _, Nat.le_refl _⟩) hS (fun H locs hG hS => ?_)
    refine lv_if_ne (tgt := 23) hx hb dX5_tellLost_18 (by decide) (fun c2 => ?_) (fun c2 => ?_)
    · have h := ite_f h c2
      refine lv_aload_n hx hb dX5_tellLost_23 rfl (lv_at hl 0 rfl) ?_
      refine lv_iload_n hx hb dX5_tellLost_24 rfl (lv_at hl 1 rfl) ?_
      refine lv_iload_n hx hb dX5_tellLost_25 rfl (lv_at hl 2 rfl) ?_
      obtain ⟨v3, ev3, h⟩ := obind h
      refine g_endi (va_runV (As := [.int x1, .int x2]) (rest := []) ⟨hx, hb, hml, hown, hts⟩ (k_X5_areAtOneEnd l D cy ad hi I L x1 x2 v3 ev3) (cwV 2 hts gX5_tellLost_X5_areAtOneEnd rfl rfl rfl cd_X5_areAtOneEnd ⟨Nat.le_of_ble_eq_true rfl, Nat.le_of_ble_eq_true rfl⟩) ⟨g_blind mZm, g_recv hK hG (k := 0) (by decide) (mE_5 _ _) vwCl_5, g_pre mZm hK hG hZ hS⟩ rfl rfl hl.1 rfl (lv_room (Nat.le_of_ble_eq_true rfl)) dX5_tellLost_26 ⟨Nat.le_refl _, Nat.le_refl _⟩) hS (fun H locs hG hS => ?_)
      refine lv_if_ne (tgt := 35) hx hb dX5_tellLost_29 (by decide) (fun c4 => ?_) (fun c4 => ?_)
      · have h := ite_f h c4
        refine lv_aload_n hx hb dX5_tellLost_35 rfl (lv_at hl 0 rfl) ?_
        refine lv_iload_n hx hb dX5_tellLost_36 rfl (lv_at hl 1 rfl) ?_
        obtain ⟨v5, ev5, h⟩ := obind h
        refine g_endi (va_runV (As := [.int x1]) (rest := []) ⟨hx, hb, hml, hown, hts⟩ (k_X5_stonesBy l D cy ad hi I L x1 v5 ev5) (cwV 1 hts gX5_tellLost_X5_stonesBy rfl rfl rfl cd_X5_stonesBy ⟨Nat.le_of_ble_eq_true rfl, Nat.le_of_ble_eq_true rfl⟩) ⟨g_blind mZm, g_recv hK hG (k := 0) (by decide) (mE_5 _ _) vwCl_5, g_pre mZm hK hG hZ hS⟩ rfl rfl hl.1 rfl (lv_room (Nat.le_of_ble_eq_true rfl)) dX5_tellLost_37 ⟨Nat.le_refl _, Nat.le_refl _⟩) hS (fun H locs hG hS => ?_)
        refine lv_istore (lv' := [(5, .int v5), (0, .ref (ad 0)), (1, .int x1), (2, .int x2), (3, .int x3), (4, .int x4)]) hx hb dX5_tellLost_40 hl (by decide) rfl (fun ls hl => ?_)
        refine lv_lconst (v := (0 : Int64)) hx hb dX5_tellLost_42 (by decide) ?_
        refine lv_lstore (lv' := [(6, .long (0 : Int64)), (5, .int v5), (0, .ref (ad 0)), (1, .int x1), (2, .int x2), (3, .int x3), (4, .int x4)]) hx hb dX5_tellLost_43 hl (by decide) rfl (fun ls hl => ?_)
        refine lv_lconst (v := (0 : Int64)) hx hb dX5_tellLost_45 (by decide) ?_
        refine lv_lstore (lv' := [(8, .long (0 : Int64)), (6, .long (0 : Int64)), (5, .int v5), (0, .ref (ad 0)), (1, .int x1), (2, .int x2), (3, .int x3), (4, .int x4)]) hx hb dX5_tellLost_46 hl (by decide) rfl (fun ls hl => ?_)
        refine lv_iconst (v := (0 : Int32)) hx hb dX5_tellLost_48 (by decide) ?_
        refine lv_istore (lv' := [(10, .int (0 : Int32)), (8, .long (0 : Int64)), (6, .long (0 : Int64)), (5, .int v5), (0, .ref (ad 0)), (1, .int x1), (2, .int x2), (3, .int x3), (4, .int x4)]) hx hb dX5_tellLost_49 hl (by decide) rfl (fun ls hl => ?_)
        have keyK6 : ∀ (K6 : Int64 → Int64 → xMem → Option (Int32 × xMem × xLon)), (∀ (z6_8 : Int64) (z8_8 : Int64) (I9 : xMem) (H : Heap) (locs : List Loc) (ls : Array Slot), K6 z6_8 z8_8 I9 = some r → mG D cy ad I9 L H → va_S (gA 18 ad) s.heap H locs → lv_has ls 14 [(0, .ref (ad 0)), (6, .long z6_8), (8, .long z8_8)] → W p l e rm_X5_tellLost s m args below meth c H locs 0 0 Q (F0 m 191 ls [])) → ∀ (n7 : Nat) (x6_7 : Int64) (x8_7 : Int64) (x10_7 : Int32) (I8 : xMem) (H : Heap) (locs : List Loc) (ls : Array Slot), X5_tellLost_L1 x1 x2 x3 x4 v5 K6 n7 x6_7 x8_7 x10_7 I8 = some r → mG D cy ad I8 L H → va_S (gA 18 ad) s.heap H locs → lv_has ls 14 [(0, .ref (ad 0)), (1, .int x1), (2, .int x2), (3, .int x3), (4, .int x4), (5, .int v5), (6, .long x6_7), (8, .long x8_7), (10, .int x10_7)] → W p l e rm_X5_tellLost s m args below meth c H locs 0 0 Q (F0 m 51 ls []) := by
          intro K6 hkK6 n7
          induction n7 with
          | zero =>
            intro x6_7 x8_7 x10_7 I8 H locs ls h
            exact ono h
          | succ n7 ihn7 =>
            intro x6_7 x8_7 x10_7 I8 H locs ls h hG hS hl
            rw [X5_tellLost_L1] at h
            refine lv_iload hx hb dX5_tellLost_51 (lv_at hl 8 rfl) ?_
            refine lv_bipush (v := (16 : Int32)) hx hb dX5_tellLost_53 (by decide) ?_
            refine lv_icmp_ge (tgt := 191) hx hb dX5_tellLost_55 (by decide) (fun c10 => ?_) (fun c10 => ?_)
            · have h := ite_t h c10
              exact hkK6 x6_7 x8_7 I8 _ _ _ h hG hS (lv_sub hl [0, 6, 7] rfl)
            · have h := ite_f h c10
              refine lv_iload hx hb dX5_tellLost_58 (lv_at hl 8 rfl) ?_
              refine lv_iload hx hb dX5_tellLost_60 (lv_at hl 5 rfl) ?_
              refine lv_iconst (v := (-1 : Int32)) hx hb dX5_tellLost_62 (by decide) ?_
              refine lv_ixor hx hb dX5_tellLost_63 ?_
              refine lv_iand hx hb dX5_tellLost_64 ?_
              obtain ⟨q11, h9, h⟩ := obind h
              have hk_q11 : ∀ (H : Heap) (locs : List Loc) (ls : Array Slot), mG D cy ad I8 L H → va_S (gA 18 ad) s.heap H locs → lv_has ls 14 [(0, .ref (ad 0)), (1, .int x1), (2, .int x2), (3, .int x3), (4, .int x4), (5, .int v5), (6, .long x6_7), (8, .long x8_7), (10, .int x10_7)] → W p l e rm_X5_tellLost s m args below meth c H locs 0 0 Q (F0 m 73 ls [.long q11]) := by
                intro H locs ls hG hS hl
                refine lv_lstore (lv' := [(11, .long q11), (0, .ref (ad 0)), (1, .int x1), (2, .int x2), (3, .int x3), (4, .int x4), (5, .int v5), (6, .long x6_7), (8, .long x8_7), (10, .int x10_7)]) hx hb dX5_tellLost_73 hl (by decide) rfl (fun ls hl => ?_)
                refine lv_iconst (v := (0 : Int32)) hx hb dX5_tellLost_75 (by decide) ?_
                refine lv_istore (lv' := [(13, .int (0 : Int32)), (11, .long q11), (0, .ref (ad 0)), (1, .int x1), (2, .int x2), (3, .int x3), (4, .int x4), (5, .int v5), (6, .long x6_7), (8, .long x8_7), (10, .int x10_7)]) hx hb dX5_tellLost_76 hl (by decide) rfl (fun ls hl => ?_)
                have keyK13 : ∀ (K13 : Int64 → Option (Int32 × xMem × xLon)), (∀ (z11_14 : Int64) (H : Heap) (locs : List Loc) (ls : Array Slot), K13 z11_14 = some r → mG D cy ad I8 L H → va_S (gA 18 ad) s.heap H locs → lv_has ls 14 [(0, .ref (ad 0)), (1, .int x1), (2, .int x2), (3, .int x3), (4, .int x4), (5, .int v5), (6, .long x6_7), (8, .long x8_7), (10, .int x10_7), (11, .long z11_14)] → W p l e rm_X5_tellLost s m args below meth c H locs 0 0 Q (F0 m 129 ls [])) → ∀ (n14 : Nat) (x11_14 : Int64) (x13_14 : Int32) (H : Heap) (locs : List Loc) (ls : Array Slot), X5_tellLost_L2 x3 v5 x10_7 K13 n14 x11_14 x13_14 = some r → mG D cy ad I8 L H → va_S (gA 18 ad) s.heap H locs → lv_has ls 14 [(0, .ref (ad 0)), (1, .int x1), (2, .int x2), (3, .int x3), (4, .int x4), (5, .int v5), (6, .long x6_7), (8, .long x8_7), (10, .int x10_7), (11, .long x11_14), (13, .int x13_14)] → W p l e rm_X5_tellLost s m args below meth c H locs 0 0 Q (F0 m 78 ls []) := by
                  intro K13 hkK13 n14
                  induction n14 with
                  | zero =>
                    intro x11_14 x13_14 H locs ls h
                    exact ono h
                  | succ n14 ihn14 =>
                    intro x11_14 x13_14 H locs ls h hG hS hl
                    rw [X5_tellLost_L2] at h
                    refine lv_iload hx hb dX5_tellLost_78 (lv_at hl 10 rfl) ?_
                    refine lv_iconst (v := (4 : Int32)) hx hb dX5_tellLost_80 (by decide) ?_
                    refine lv_icmp_ge (tgt := 129) hx hb dX5_tellLost_81 (by decide) (fun c15 => ?_) (fun c15 => ?_)
                    · have h := ite_t h c15
                      exact hkK13 x11_14 _ _ _ h hG hS (lv_sub hl [0, 1, 2, 3, 4, 5, 6, 7, 8, 9] rfl)
                    · have h := ite_f h c15
                      refine lv_lload hx hb dX5_tellLost_84 (lv_at hl 9 rfl) ?_
                      refine lv_iload hx hb dX5_tellLost_86 (lv_at hl 5 rfl) ?_
                      refine lv_iload hx hb dX5_tellLost_88 (lv_at hl 10 rfl) ?_
                      refine g_endi (va_runS (As := [.int v5, .int x13_14]) (rest := [.long x11_14]) ⟨hx, hb, hml, hown, hts⟩ (k_X5_has l D cy ad hi I8 L v5 x13_14 _ rfl) (va_cwS 2 hts gX5_tellLost_X5_has rfl rfl rfl cd_X5_has.2 ⟨Nat.le_of_ble_eq_true rfl, Nat.le_of_ble_eq_true rfl⟩) ⟨g_blind mZm, g_pre mZm hK hG hZ hS⟩ rfl rfl hl.1 rfl (lv_room (Nat.le_of_ble_eq_true rfl)) dX5_tellLost_90 ⟨Nat.le_refl _, Nat.le_refl _⟩) hS (fun H locs hG hS => ?_)
                      obtain ⟨q16, h9, h⟩ := obind h
                      have hk_q16 : ∀ (H : Heap) (locs : List Loc) (ls : Array Slot), mG D cy ad I8 L H → va_S (gA 18 ad) s.heap H locs → lv_has ls 14 [(0, .ref (ad 0)), (1, .int x1), (2, .int x2), (3, .int x3), (4, .int x4), (5, .int v5), (6, .long x6_7), (8, .long x8_7), (10, .int x10_7), (13, .int x13_14)] → W p l e rm_X5_tellLost s m args below meth c H locs 0 0 Q (F0 m 120 ls [.long q16, .long x11_14]) := by
                        intro H locs ls hG hS hl
                        refine lv_lmul hx hb dX5_tellLost_120 ?_
                        refine lv_lstore (lv' := [(11, .long (x11_14 * q16)), (0, .ref (ad 0)), (1, .int x1), (2, .int x2), (3, .int x3), (4, .int x4), (5, .int v5), (6, .long x6_7), (8, .long x8_7), (10, .int x10_7), (13, .int x13_14)]) hx hb dX5_tellLost_121 hl (by decide) rfl (fun ls hl => ?_)
                        refine lv_iinc (v := (x13_14 + (1 : Int32))) (lv' := [(13, .int (x13_14 + (1 : Int32))), (11, .long (x11_14 * q16)), (0, .ref (ad 0)), (1, .int x1), (2, .int x2), (3, .int x3), (4, .int x4), (5, .int v5), (6, .long x6_7), (8, .long x8_7), (10, .int x10_7)]) hx hb dX5_tellLost_123 hl (k := 10) rfl rfl (by decide) rfl (fun ls hl => ?_)
                        refine lv_goto (tgt := 78) hx hb dX5_tellLost_126 (by decide) ?_
                        exact ihn14 (x11_14 * q16) (x13_14 + (1 : Int32)) _ _ _ h hG hS (lv_sub hl [2, 3, 4, 5, 6, 7, 8, 9, 10, 1, 0] rfl)
                      clear h
                      have h := h9
                      clear h9
                      refine lv_if_eq (tgt := 119) hx hb dX5_tellLost_93 (by decide) (fun c17 => ?_) (fun c17 => ?_)
                      · have h := ite_t h c17
                        refine lv_lconst (v := (1 : Int64)) hx hb dX5_tellLost_119 (by decide) ?_
                        have h := Option.some.inj h
                        subst h
                        exact hk_q16 _ _ _ hG hS (lv_sub hl [0, 1, 2, 3, 4, 5, 6, 7, 8, 10] rfl)
                      · have h := ite_f h c17
                        refine lv_iload hx hb dX5_tellLost_96 (lv_at hl 8 rfl) ?_
                        refine lv_iload hx hb dX5_tellLost_98 (lv_at hl 10 rfl) ?_
                        refine g_endi (va_runS (As := [.int x10_7, .int x13_14]) (rest := [.long x11_14]) ⟨hx, hb, hml, hown, hts⟩ (k_X5_has l D cy ad hi I8 L x10_7 x13_14 _ rfl) (va_cwS 2 hts gX5_tellLost_X5_has rfl rfl rfl cd_X5_has.2 ⟨Nat.le_of_ble_eq_true rfl, Nat.le_of_ble_eq_true rfl⟩) ⟨g_blind mZm, g_pre mZm hK hG hZ hS⟩ rfl rfl hl.1 rfl (lv_room (Nat.le_of_ble_eq_true rfl)) dX5_tellLost_100 ⟨Nat.le_refl _, Nat.le_refl _⟩) hS (fun H locs hG hS => ?_)
                        refine lv_if_eq (tgt := 111) hx hb dX5_tellLost_103 (by decide) (fun c18 => ?_) (fun c18 => ?_)
                        · have h := ite_t h c18
                          refine lv_bipush (v := (12 : Int32)) hx hb dX5_tellLost_111 (by decide) ?_
                          refine lv_iload_n hx hb dX5_tellLost_113 rfl (lv_at hl 3 rfl) ?_
                          refine lv_isub hx hb dX5_tellLost_114 ?_
                          refine lv_i2l hx hb dX5_tellLost_115 rfl ?_
                          refine lv_goto (tgt := 120) hx hb dX5_tellLost_116 (by decide) ?_
                          have h := Option.some.inj h
                          subst h
                          exact hk_q16 _ _ _ hG hS (lv_sub hl [0, 1, 2, 3, 4, 5, 6, 7, 8, 10] rfl)
                        · have h := ite_f h c18
                          refine lv_iload_n hx hb dX5_tellLost_106 rfl (lv_at hl 3 rfl) ?_
                          refine lv_i2l hx hb dX5_tellLost_107 rfl ?_
                          refine lv_goto (tgt := 120) hx hb dX5_tellLost_108 (by decide) ?_
                          have h := Option.some.inj h
                          subst h
                          exact hk_q16 _ _ _ hG hS (lv_sub hl [0, 1, 2, 3, 4, 5, 6, 7, 8, 10] rfl)
                refine keyK13 _ (fun z11_14 H locs ls h hG hS hl => ?_) bigF q11 (0 : Int32) _ _ _ h hG hS (lv_sub hl [2, 3, 4, 5, 6, 7, 8, 9, 10, 1, 0] rfl)
                clear keyK13
                refine lv_aload_n hx hb dX5_tellLost_129 rfl (lv_at hl 0 rfl) ?_
                refine lv_iload_n hx hb dX5_tellLost_130 rfl (lv_at hl 1 rfl) ?_
                refine lv_iload_n hx hb dX5_tellLost_131 rfl (lv_at hl 2 rfl) ?_
                refine lv_iload hx hb dX5_tellLost_132 (lv_at hl 5 rfl) ?_
                refine lv_iload hx hb dX5_tellLost_134 (lv_at hl 8 rfl) ?_
                refine lv_iconst (v := (-1 : Int32)) hx hb dX5_tellLost_136 (by decide) ?_
                refine lv_ixor hx hb dX5_tellLost_137 ?_
                refine lv_iand hx hb dX5_tellLost_138 ?_
                obtain ⟨q19, eq19, h⟩ := obind h
                refine g_endi (va_runV (As := [.int x1, .int x2, .int (v5 &&& (x10_7 ^^^ (-1 : Int32)))]) (rest := []) ⟨hx, hb, hml, hown, hts⟩ (k_X5_leastSink l D cy ad hi I8 L x1 x2 (v5 &&& (x10_7 ^^^ (-1 : Int32))) q19 eq19) (cwV 3 hts gX5_tellLost_X5_leastSink rfl rfl rfl cd_X5_leastSink ⟨Nat.le_of_ble_eq_true rfl, Nat.le_of_ble_eq_true rfl⟩) ⟨g_blind mZm, g_recv hK hG (k := 0) (by decide) (mE_5 _ _) vwCl_5, g_pre mZm hK hG hZ hS⟩ rfl rfl hl.1 rfl (lv_room (Nat.le_of_ble_eq_true rfl)) dX5_tellLost_139 ⟨Nat.le_refl _, Nat.le_refl _⟩) hS (fun H locs hG hS => ?_)
                refine lv_istore (lv' := [(13, .int q19.1), (0, .ref (ad 0)), (1, .int x1), (2, .int x2), (3, .int x3), (4, .int x4), (5, .int v5), (6, .long x6_7), (8, .long x8_7), (10, .int x10_7), (11, .long z11_14)]) hx hb dX5_tellLost_142 hl (by decide) rfl (fun ls hl => ?_)
                refine lv_lload hx hb dX5_tellLost_144 (lv_at hl 7 rfl) ?_
                refine lv_iload hx hb dX5_tellLost_146 (lv_at hl 5 rfl) ?_
                obtain ⟨q20, h9, h⟩ := obind h
                have hk_q20 : ∀ (H : Heap) (locs : List Loc) (ls : Array Slot), mG D cy ad q19.2 L H → va_S (gA 18 ad) s.heap H locs → lv_has ls 14 [(0, .ref (ad 0)), (1, .int x1), (2, .int x2), (3, .int x3), (4, .int x4), (5, .int v5), (8, .long x8_7), (10, .int x10_7), (11, .long z11_14)] → W p l e rm_X5_tellLost s m args below meth c H locs 0 0 Q (F0 m 175 ls [.long q20, .long x6_7]) := by
                  intro H locs ls hG hS hl
                  refine lv_ladd hx hb dX5_tellLost_175 ?_
                  refine lv_lstore (lv' := [(6, .long (x6_7 + q20)), (0, .ref (ad 0)), (1, .int x1), (2, .int x2), (3, .int x3), (4, .int x4), (5, .int v5), (8, .long x8_7), (10, .int x10_7), (11, .long z11_14)]) hx hb dX5_tellLost_176 hl (by decide) rfl (fun ls hl => ?_)
                  refine lv_lload hx hb dX5_tellLost_178 (lv_at hl 7 rfl) ?_
                  refine lv_lload hx hb dX5_tellLost_180 (lv_at hl 9 rfl) ?_
                  refine lv_ladd hx hb dX5_tellLost_182 ?_
                  refine lv_lstore (lv' := [(8, .long (x8_7 + z11_14)), (6, .long (x6_7 + q20)), (0, .ref (ad 0)), (1, .int x1), (2, .int x2), (3, .int x3), (4, .int x4), (5, .int v5), (10, .int x10_7), (11, .long z11_14)]) hx hb dX5_tellLost_183 hl (by decide) rfl (fun ls hl => ?_)
                  refine lv_iinc (v := (x10_7 + (1 : Int32))) (lv' := [(10, .int (x10_7 + (1 : Int32))), (8, .long (x8_7 + z11_14)), (6, .long (x6_7 + q20)), (0, .ref (ad 0)), (1, .int x1), (2, .int x2), (3, .int x3), (4, .int x4), (5, .int v5), (11, .long z11_14)]) hx hb dX5_tellLost_185 hl (k := 8) rfl rfl (by decide) rfl (fun ls hl => ?_)
                  refine lv_goto (tgt := 51) hx hb dX5_tellLost_188 (by decide) ?_
                  exact ihn7 (x6_7 + q20) (x8_7 + z11_14) (x10_7 + (1 : Int32)) q19.2 _ _ _ h hG hS (lv_sub hl [3, 4, 5, 6, 7, 8, 2, 1, 0] rfl)
                clear h
                have h := h9
                clear h9
                refine lv_if_eq (tgt := 160) hx hb dX5_tellLost_148 (by decide) (fun c21 => ?_) (fun c21 => ?_)
                · have h := ite_t h c21
                  refine lv_iload hx hb dX5_tellLost_160 (lv_at hl 0 rfl) ?_
                  refine lv_aload_n hx hb dX5_tellLost_162 rfl (lv_at hl 1 rfl) ?_
                  refine g_get hx hb l5 hown hK hG (k := 0) (by decide) (mE_5 _ _) vwCl_5 1 (by decide) k2 (fun _ h9 => h9) rfl dX5_tellLost_163 ?_
                  refine lv_icmp_gt (tgt := 174) hx hb dX5_tellLost_166 (by decide) (fun c22 => ?_) (fun c22 => ?_)
                  · have h := ite_t h c22
                    refine lv_lconst (v := (0 : Int64)) hx hb dX5_tellLost_174 (by decide) ?_
                    have h := Option.some.inj h
                    subst h
                    exact hk_q20 _ _ _ hG hS (lv_sub hl [1, 2, 3, 4, 5, 6, 8, 9, 10] rfl)
                  · have h := ite_f h c22
                    refine lv_lload hx hb dX5_tellLost_169 (lv_at hl 10 rfl) ?_
                    refine lv_goto (tgt := 175) hx hb dX5_tellLost_171 (by decide) ?_
                    have h := Option.some.inj h
                    subst h
                    exact hk_q20 _ _ _ hG hS (lv_sub hl [1, 2, 3, 4, 5, 6, 8, 9, 10] rfl)
                · have h := ite_f h c21
                  refine lv_lload hx hb dX5_tellLost_151 (lv_at hl 10 rfl) ?_
                  refine lv_iload hx hb dX5_tellLost_153 (lv_at hl 0 rfl) ?_
                  refine lv_i2l hx hb dX5_tellLost_155 rfl ?_
                  refine lv_lmul hx hb dX5_tellLost_156 ?_
                  refine lv_goto (tgt := 175) hx hb dX5_tellLost_157 (by decide) ?_
                  have h := Option.some.inj h
                  subst h
                  exact hk_q20 _ _ _ hG hS (lv_sub hl [1, 2, 3, 4, 5, 6, 8, 9, 10] rfl)
              clear h
              have h := h9
              clear h9
              refine lv_if_ne (tgt := 72) hx hb dX5_tellLost_65 (by decide) (fun c12 => ?_) (fun c12 => ?_)
              · have h := ite_f h c12
                refine lv_lconst (v := (0 : Int64)) hx hb dX5_tellLost_72 (by decide) ?_
                have h := Option.some.inj h
                subst h
                exact hk_q11 _ _ _ hG hS (lv_sub hl [0, 1, 2, 3, 4, 5, 6, 7, 8] rfl)
              · have h := ite_t h c12
                refine lv_lconst (v := (1 : Int64)) hx hb dX5_tellLost_68 (by decide) ?_
                refine lv_goto (tgt := 73) hx hb dX5_tellLost_69 (by decide) ?_
                have h := Option.some.inj h
                subst h
                exact hk_q11 _ _ _ hG hS (lv_sub hl [0, 1, 2, 3, 4, 5, 6, 7, 8] rfl)
        refine keyK6 _ (fun z6_8 z8_8 I9 H locs ls h hG hS hl => ?_) bigF (0 : Int64) (0 : Int64) (0 : Int32) I _ _ _ h hG hS (lv_sub hl [4, 5, 6, 7, 8, 3, 2, 1, 0] rfl)
        clear keyK6
        refine lv_aload_n hx hb dX5_tellLost_191 rfl (lv_at hl 0 rfl) ?_
        refine lv_lload hx hb dX5_tellLost_192 (lv_at hl 1 rfl) ?_
        refine lv_lload hx hb dX5_tellLost_194 (lv_at hl 2 rfl) ?_
        obtain ⟨q23, eq23, h⟩ := obind h
        refine g_endi (va_runV (As := [.long z6_8, .long z8_8]) (rest := []) ⟨hx, hb, hml, hown, hts⟩ (k_X5_tellParts l D cy ad hi I9 L z6_8 z8_8 q23 eq23) (cwV 2 hts gX5_tellLost_X5_tellParts rfl rfl rfl cd_X5_tellParts ⟨Nat.le_of_ble_eq_true rfl, Nat.le_of_ble_eq_true rfl⟩) ⟨g_blind mZm, g_recv hK hG (k := 0) (by decide) (mE_5 _ _) vwCl_5, g_pre mZm hK hG hZ hS⟩ rfl rfl hl.1 rfl (lv_room (Nat.le_of_ble_eq_true rfl)) dX5_tellLost_196 ⟨Nat.le_refl _, Nat.le_refl _⟩) hS (fun H locs hG hS => ?_)
        have h := Option.some.inj h
        subst h
        subst hQ
        exact g_iret hx hb hr hlocks mZm hK hZ hG hS rfl dX5_tellLost_199
      · have h := ite_t h c4
        refine lv_bipush (v := (-4 : Int32)) hx hb dX5_tellLost_32 (by decide) ?_
        have h := Option.some.inj h
        subst h
        subst hQ
        exact g_iret hx hb hr hlocks mZm hK hZ hG hS rfl dX5_tellLost_34
    · have h := ite_t h c2
      refine lv_iconst (v := (-1 : Int32)) hx hb dX5_tellLost_21 (by decide) ?_
      have h := Option.some.inj h
      subst h
      subst hQ
      exact g_iret hx hb hr hlocks mZm hK hZ hG hS rfl dX5_tellLost_22
def X5_odds (I : xMem) (L : xLon) (x1 : Int32) (x2 : Int32) (x3 : Int32) : Option (Int32 × xMem × xLon) := (X5_tellLost I L x1 x2 x3 (0 : Int32)).bind fun q1 => some (q1.1, q1.2.1, q1.2.2)
abbrev rm_X5_odds : Room := { frames := 5, cells := 0, slots := 0, locals := 131 }
theorem cd_X5_odds : yX5_odds.cls = RX5 ∧ yX5_odds.cls ≠ "java/lang/invoke/MethodHandle" ∧ yX5_odds.cls ≠ "java/lang/invoke/VarHandle" ∧ (parseMethodDescriptor yX5_odds.desc).map (fun d => d.parameters.length) = some 3 := by decide +kernel
set_option maxHeartbeats 4000000 in
set_option maxRecDepth 100000 in
theorem k_X5_odds (l : Launch) (D : va_G) (cy : Nat → ClassId) (ad : Nat → Nat) (hi : gInj 18 ad) (I : xMem) (L : xLon) (x1 : Int32) (x2 : Int32) (x3 : Int32) (r : Int32 × xMem × xLon) (h : X5_odds I L x1 x2 x3 = some r) : Met l yX5_odds wsX5_odds rm_X5_odds (va_Pc [.ref (ad 0), .int x1, .int x2, .int x3] (mW D cy ad I L)) (mPi D cy ad r.2.1 r.2.2 r.1) 0 0 (gA 18 ad) := by
  refine g_met (own := RX5) (cc := cX5_odds) (maxL := 4) (ret := (some .int)) (by decide) rfl (Nat.le_of_ble_eq_true rfl) rfl ?_
  intro p e s m args below meth c ls hx hb hml hr hlocks hown hts hG hK hZ hl
  generalize hQ : MQ below _ args s 0 0 _ = Q
  have hl : lv_has ls 4 [(0, .ref (ad 0)), (1, .int x1), (2, .int x2), (3, .int x3)] := hl
  have hS : va_S (gA 18 ad) s.heap s.heap [] := va_S.rf
  unfold X5_odds at h
  refine lv_aload_n hx hb dX5_odds_0 rfl (lv_at hl 0 rfl) ?_
  refine lv_iload_n hx hb dX5_odds_1 rfl (lv_at hl 1 rfl) ?_
  refine lv_iload_n hx hb dX5_odds_2 rfl (lv_at hl 2 rfl) ?_
  refine lv_iload_n hx hb dX5_odds_3 rfl (lv_at hl 3 rfl) ?_
  refine lv_iconst (v := (0 : Int32)) hx hb dX5_odds_4 (by decide) ?_
  obtain ⟨q1, eq1, h⟩ := obind h
  refine g_endi (va_runV (As := [.int x1, .int x2, .int x3, .int (0 : Int32)]) (rest := []) ⟨hx, hb, hml, hown, hts⟩ (k_X5_tellLost l D cy ad hi I L x1 x2 x3 (0 : Int32) q1 eq1) (cwV 4 hts gX5_odds_X5_tellLost rfl rfl rfl cd_X5_tellLost ⟨Nat.le_of_ble_eq_true rfl, Nat.le_of_ble_eq_true rfl⟩) ⟨g_blind mZm, g_recv hK hG (k := 0) (by decide) (mE_5 _ _) vwCl_5, g_pre mZm hK hG hZ hS⟩ rfl rfl hl.1 rfl (lv_room (Nat.le_of_ble_eq_true rfl)) dX5_odds_5 ⟨Nat.le_refl _, Nat.le_refl _⟩) hS (fun H locs hG hS => ?_)
  have h := Option.some.inj h
  subst h
  subst hQ
  exact g_iret hx hb hr hlocks mZm hK hZ hG hS rfl dX5_odds_8
def X5_mid (I : xMem) (L : xLon) (x1 : Int32) (x2 : Int32) (x3 : Int32) : Option (Int32 × xMem × xLon) := (X5_tellLost I L x1 x2 x3 (1 : Int32)).bind fun q1 => some (q1.1, q1.2.1, q1.2.2)
abbrev rm_X5_mid : Room := { frames := 5, cells := 0, slots := 0, locals := 131 }
theorem cd_X5_mid : yX5_mid.cls = RX5 ∧ yX5_mid.cls ≠ "java/lang/invoke/MethodHandle" ∧ yX5_mid.cls ≠ "java/lang/invoke/VarHandle" ∧ (parseMethodDescriptor yX5_mid.desc).map (fun d => d.parameters.length) = some 3 := by decide +kernel
set_option maxHeartbeats 4000000 in
set_option maxRecDepth 100000 in
theorem k_X5_mid (l : Launch) (D : va_G) (cy : Nat → ClassId) (ad : Nat → Nat) (hi : gInj 18 ad) (I : xMem) (L : xLon) (x1 : Int32) (x2 : Int32) (x3 : Int32) (r : Int32 × xMem × xLon) (h : X5_mid I L x1 x2 x3 = some r) : Met l yX5_mid wsX5_mid rm_X5_mid (va_Pc [.ref (ad 0), .int x1, .int x2, .int x3] (mW D cy ad I L)) (mPi D cy ad r.2.1 r.2.2 r.1) 0 0 (gA 18 ad) := by
  refine g_met (own := RX5) (cc := cX5_mid) (maxL := 4) (ret := (some .int)) (by decide) rfl (Nat.le_of_ble_eq_true rfl) rfl ?_
  intro p e s m args below meth c ls hx hb hml hr hlocks hown hts hG hK hZ hl
  generalize hQ : MQ below _ args s 0 0 _ = Q
  have hl : lv_has ls 4 [(0, .ref (ad 0)), (1, .int x1), (2, .int x2), (3, .int x3)] := hl
  have hS : va_S (gA 18 ad) s.heap s.heap [] := va_S.rf
  unfold X5_mid at h
  refine lv_aload_n hx hb dX5_mid_0 rfl (lv_at hl 0 rfl) ?_
  refine lv_iload_n hx hb dX5_mid_1 rfl (lv_at hl 1 rfl) ?_
  refine lv_iload_n hx hb dX5_mid_2 rfl (lv_at hl 2 rfl) ?_
  refine lv_iload_n hx hb dX5_mid_3 rfl (lv_at hl 3 rfl) ?_
  refine lv_iconst (v := (1 : Int32)) hx hb dX5_mid_4 (by decide) ?_
  obtain ⟨q1, eq1, h⟩ := obind h
  refine g_endi (va_runV (As := [.int x1, .int x2, .int x3, .int (1 : Int32)]) (rest := []) ⟨hx, hb, hml, hown, hts⟩ (k_X5_tellLost l D cy ad hi I L x1 x2 x3 (1 : Int32) q1 eq1) (cwV 4 hts gX5_mid_X5_tellLost rfl rfl rfl cd_X5_tellLost ⟨Nat.le_of_ble_eq_true rfl, Nat.le_of_ble_eq_true rfl⟩) ⟨g_blind mZm, g_recv hK hG (k := 0) (by decide) (mE_5 _ _) vwCl_5, g_pre mZm hK hG hZ hS⟩ rfl rfl hl.1 rfl (lv_room (Nat.le_of_ble_eq_true rfl)) dX5_mid_5 ⟨Nat.le_refl _, Nat.le_refl _⟩) hS (fun H locs hG hS => ?_)
  have h := Option.some.inj h
  subst h
  subst hQ
  exact g_iret hx hb hr hlocks mZm hK hZ hG hS rfl dX5_mid_8
def X5_lots_L1 (x1 : Int32) (K6 : xMem → Option (Int32 × xMem)) : Nat → Int64 → Int32 → xMem → Option (Int32 × xMem)
  | 0, _, _, _ => none
  | n7 + 1, x3_7, x5_7, I8 => if x1 ≤ x5_7 then (K6 I8) else ((rmL ((x3_7 * (48271 : Int64)) - (x3_7 * (48271 : Int64)) / (2147483647 : Int64) * (2147483647 : Int64)) ((I8 0 4).toInt64)).bind fun v11 => (rmL (((x3_7 * (48271 : Int64)) - (x3_7 * (48271 : Int64)) / (2147483647 : Int64) * (2147483647 : Int64)) / (64 : Int64)) ((I8 0 4).toInt64)).bind fun v12 => (X5_keepPast I8).bind fun q13 => if (lg_cmp ((((x3_7 * (48271 : Int64)) - (x3_7 * (48271 : Int64)) / (2147483647 : Int64) * (2147483647 : Int64)) / (8 : Int64)) - (((x3_7 * (48271 : Int64)) - (x3_7 * (48271 : Int64)) / (2147483647 : Int64) * (2147483647 : Int64)) / (8 : Int64)) / (4 : Int64) * (4 : Int64)) (0 : Int64)) = (0 : Int32) then ((rdI q13 1 660 (1 : Int32)).bind fun v22 => (rdI q13 1 660 (1 : Int32)).bind fun v23 => (if (9 : Int32) ≤ v23 then (some (0 : Int32)) else (some (1 : Int32))).bind fun q24 => (wrI q13 1 660 (1 : Int32) (v22 + q24)).bind fun I26 => X5_lots_L1 x1 K6 n7 ((x3_7 * (48271 : Int64)) - (x3_7 * (48271 : Int64)) / (2147483647 : Int64) * (2147483647 : Int64)) (x5_7 + (1 : Int32)) I26) else (if v11.toInt32 = v12.toInt32 then (X5_lots_L1 x1 K6 n7 ((x3_7 * (48271 : Int64)) - (x3_7 * (48271 : Int64)) / (2147483647 : Int64) * (2147483647 : Int64)) (x5_7 + (1 : Int32)) q13) else ((X5_areAtOneEnd q13 v11.toInt32 v12.toInt32).bind fun v16 => if v16 = (0 : Int32) then (X5_lots_L1 x1 K6 n7 ((x3_7 * (48271 : Int64)) - (x3_7 * (48271 : Int64)) / (2147483647 : Int64) * (2147483647 : Int64)) (x5_7 + (1 : Int32)) q13) else ((X5_stonesBy q13 v11.toInt32).bind fun v18 => (X5_leastSink q13 v11.toInt32 v12.toInt32 v18).bind fun q19 => if (q19.2 0 1) < q19.1 then (X5_lots_L1 x1 K6 n7 ((x3_7 * (48271 : Int64)) - (x3_7 * (48271 : Int64)) / (2147483647 : Int64) * (2147483647 : Int64)) (x5_7 + (1 : Int32)) q19.2) else ((X5_goes q19.2 v11.toInt32 v12.toInt32 ((q19.2 0 24) / (16 : Int32)) ((q19.2 0 24) - (q19.2 0 24) / (16 : Int32) * (16 : Int32))).bind fun q21 => X5_lots_L1 x1 K6 n7 ((x3_7 * (48271 : Int64)) - (x3_7 * (48271 : Int64)) / (2147483647 : Int64) * (2147483647 : Int64)) (x5_7 + (1 : Int32)) q21)))))
def X5_lots (I : xMem) (x1 : Int32) (x2 : Int32) : Option (Int32 × xMem) := if (X5_in x1.toInt64 (1 : Int64) (20 : Int64)) = (0 : Int32) then (some ((-1 : Int32), I)) else (if (X5_in x2.toInt64 (1 : Int64) (2147483646 : Int64)) = (0 : Int32) then (some ((-1 : Int32), I)) else (if (I 0 4) = (0 : Int32) then (some ((-4 : Int32), I)) else ((rdI I 1 660 (0 : Int32)).bind fun v4 => if (v4 + x1) ≤ (40 : Int32) then (X5_lots_L1 x1 (fun (I9 : xMem) => (rdI I9 1 660 (2 : Int32)).bind fun v27 => (X5_bits v27).bind fun v28 => some (v28, I9)) bigF x2.toInt64 (0 : Int32) I) else (some ((-2 : Int32), I)))))
abbrev rm_X5_lots : Room := { frames := 4, cells := 0, slots := 0, locals := 98 }
theorem cd_X5_lots : yX5_lots.cls = RX5 ∧ yX5_lots.cls ≠ "java/lang/invoke/MethodHandle" ∧ yX5_lots.cls ≠ "java/lang/invoke/VarHandle" ∧ (parseMethodDescriptor yX5_lots.desc).map (fun d => d.parameters.length) = some 2 := by decide +kernel
set_option maxHeartbeats 4000000 in
set_option maxRecDepth 100000 in
theorem k_X5_lots (l : Launch) (D : va_G) (cy : Nat → ClassId) (ad : Nat → Nat) (hi : gInj 18 ad) (I : xMem) (L : xLon) (x1 : Int32) (x2 : Int32) (r : Int32 × xMem) (h : X5_lots I x1 x2 = some r) : Met l yX5_lots wsX5_lots rm_X5_lots (va_Pc [.ref (ad 0), .int x1, .int x2] (mW D cy ad I L)) (mPi D cy ad r.2 L r.1) 0 0 (gA 18 ad) := by
  refine g_met (own := RX5) (cc := cX5_lots) (maxL := 8) (ret := (some .int)) (by decide) rfl (Nat.le_of_ble_eq_true rfl) rfl ?_
  intro p e s m args below meth c ls hx hb hml hr hlocks hown hts hG hK hZ hl
  generalize hQ : MQ below _ args s 0 0 _ = Q
  have hl : lv_has ls 8 [(0, .ref (ad 0)), (1, .int x1), (2, .int x2)] := hl
  have hS : va_S (gA 18 ad) s.heap s.heap [] := va_S.rf
  have l5 : ∀ w ∈ wsX50, w.before args s = true := fun w h => hts w (List.mem_cons_of_mem _ (List.mem_append_right _ h))
  have k1 := hts (.constantLong RX5 309 (20)) (by decide +kernel)
  have k2 := hts (.constantLong RX5 311 (2147483646)) (by decide +kernel)
  have k3 := hts (.fieldLink RX5 157 "PairStairsModel" "people" "I") (by decide +kernel)
  have k4 := hts (.fieldLink RX5 7 "PairStairsModel" "row" "[I") (by decide +kernel)
  have k5 := hts (.constantLong RX5 313 (48271)) (by decide +kernel)
  have k6 := hts (.constantLong RX5 315 (2147483647)) (by decide +kernel)
  have k7 := hts (.constantLong RX5 317 (64)) (by decide +kernel)
  have k8 := hts (.constantLong RX5 319 (8)) (by decide +kernel)
  have k9 := hts (.constantLong RX5 205 (4)) (by decide +kernel)
  have k10 := hts (.fieldLink RX5 151 "PairStairsModel" "limit" "I") (by decide +kernel)
  have k11 := hts (.fieldLink RX5 190 "PairStairsModel" "bestSets" "I") (by decide +kernel)
  unfold X5_lots at h
  refine lv_iload_n hx hb dX5_lots_0 rfl (lv_at hl 1 rfl) ?_
  refine lv_i2l hx hb dX5_lots_1 rfl ?_
  refine lv_lconst (v := (1 : Int64)) hx hb dX5_lots_2 (by decide) ?_
  refine lv_ldc2 (v := (20 : Int64)) hx hb hown k1 dX5_lots_3 ?_
  refine g_endi (va_runS (As := [.long x1.toInt64, .long (1 : Int64), .long (20 : Int64)]) (rest := []) ⟨hx, hb, hml, hown, hts⟩ (k_X5_in l D cy ad hi I L x1.toInt64 (1 : Int64) (20 : Int64) _ rfl) (va_cwS 3 hts gX5_lots_X5_in rfl rfl rfl cd_X5_in.2 ⟨Nat.le_of_ble_eq_true rfl, Nat.le_of_ble_eq_true rfl⟩) ⟨g_blind mZm, g_pre mZm hK hG hZ hS⟩ rfl rfl hl.1 rfl (lv_room (Nat.le_of_ble_eq_true rfl)) dX5_lots_6 ⟨Nat.le_refl _, Nat.le_refl _⟩) hS (fun H locs hG hS => ?_)
  refine lv_if_eq (tgt := 24) hx hb dX5_lots_9 (by decide) (fun c1 => ?_) (fun c1 => ?_)
  · have h := ite_t h c1
    refine lv_iconst (v := (-1 : Int32)) hx hb dX5_lots_24 (by decide) ?_
    have h := Option.some.inj h
    subst h
    subst hQ
    exact g_iret hx hb hr hlocks mZm hK hZ hG hS rfl dX5_lots_25
  · have h := ite_f h c1
    refine lv_iload_n hx hb dX5_lots_12 rfl (lv_at hl 2 rfl) ?_
    refine lv_i2l hx hb dX5_lots_13 rfl ?_
    refine lv_lconst (v := (1 : Int64)) hx hb dX5_lots_14 (by decide) ?_
    refine lv_ldc2 (v := (2147483646 : Int64)) hx hb hown k2 dX5_lots_15 ?_
    refine g_endi (va_runS (As := [.long x2.toInt64, .long (1 : Int64), .long (2147483646 : Int64)]) (rest := []) ⟨hx, hb, hml, hown, hts⟩ (k_X5_in l D cy ad hi I L x2.toInt64 (1 : Int64) (2147483646 : Int64) _ rfl) (va_cwS 3 hts gX5_lots_X5_in rfl rfl rfl cd_X5_in.2 ⟨Nat.le_of_ble_eq_true rfl, Nat.le_of_ble_eq_true rfl⟩) ⟨g_blind mZm, g_pre mZm hK hG hZ hS⟩ rfl rfl hl.1 rfl (lv_room (Nat.le_of_ble_eq_true rfl)) dX5_lots_18 ⟨Nat.le_refl _, Nat.le_refl _⟩) hS (fun H locs hG hS => ?_)
    refine lv_if_ne (tgt := 26) hx hb dX5_lots_21 (by decide) (fun c2 => ?_) (fun c2 => ?_)
    · have h := ite_f h c2
      refine lv_aload_n hx hb dX5_lots_26 rfl (lv_at hl 0 rfl) ?_
      refine g_get hx hb l5 hown hK hG (k := 0) (by decide) (mE_5 _ _) vwCl_5 4 (by decide) k3 (fun _ h9 => h9) rfl dX5_lots_27 ?_
      refine lv_if_ne (tgt := 36) hx hb dX5_lots_30 (by decide) (fun c3 => ?_) (fun c3 => ?_)
      · have h := ite_f h c3
        refine lv_aload_n hx hb dX5_lots_36 rfl (lv_at hl 0 rfl) ?_
        refine g_get hx hb l5 hown hK hG (k := 0) (by decide) (mE_5 _ _) vwCl_5 0 (by decide) k4 (fun _ h9 => h9) rfl dX5_lots_37 ?_
        refine lv_iconst (v := (0 : Int32)) hx hb dX5_lots_40 (by decide) ?_
        refine g_ald hx hb hK hG (k := 1) (n := 660) (show mIA 1 660 from by decide +kernel).1.1 (mIA_e (show mIA 1 660 from by decide +kernel) _ _) 0 rfl h dX5_lots_41 (fun v4 h => ?_)
        refine lv_iload_n hx hb dX5_lots_42 rfl (lv_at hl 1 rfl) ?_
        refine lv_iadd hx hb dX5_lots_43 ?_
        refine lv_bipush (v := (40 : Int32)) hx hb dX5_lots_44 (by decide) ?_
        refine lv_icmp_le (tgt := 52) hx hb dX5_lots_46 (by decide) (fun c5 => ?_) (fun c5 => ?_)
        · have h := ite_t h c5
          refine lv_iload_n hx hb dX5_lots_52 rfl (lv_at hl 2 rfl) ?_
          refine lv_i2l hx hb dX5_lots_53 rfl ?_
          refine lv_lstore_n (lv' := [(3, .long x2.toInt64), (0, .ref (ad 0)), (1, .int x1), (2, .int x2)]) hx hb dX5_lots_54 rfl hl (by decide) rfl (fun ls hl => ?_)
          refine lv_iconst (v := (0 : Int32)) hx hb dX5_lots_55 (by decide) ?_
          refine lv_istore (lv' := [(5, .int (0 : Int32)), (3, .long x2.toInt64), (0, .ref (ad 0)), (1, .int x1), (2, .int x2)]) hx hb dX5_lots_56 hl (by decide) rfl (fun ls hl => ?_)
          have keyK6 : ∀ (K6 : xMem → Option (Int32 × xMem)), (∀ (I9 : xMem) (H : Heap) (locs : List Loc) (ls : Array Slot), K6 I9 = some r → mG D cy ad I9 L H → va_S (gA 18 ad) s.heap H locs → lv_has ls 8 [(0, .ref (ad 0))] → W p l e rm_X5_lots s m args below meth c H locs 0 0 Q (F0 m 211 ls [])) → ∀ (n7 : Nat) (x3_7 : Int64) (x5_7 : Int32) (I8 : xMem) (H : Heap) (locs : List Loc) (ls : Array Slot), X5_lots_L1 x1 K6 n7 x3_7 x5_7 I8 = some r → mG D cy ad I8 L H → va_S (gA 18 ad) s.heap H locs → lv_has ls 8 [(0, .ref (ad 0)), (1, .int x1), (3, .long x3_7), (5, .int x5_7)] → W p l e rm_X5_lots s m args below meth c H locs 0 0 Q (F0 m 58 ls []) := by
            intro K6 hkK6 n7
            induction n7 with
            | zero =>
              intro x3_7 x5_7 I8 H locs ls h
              exact ono h
            | succ n7 ihn7 =>
              intro x3_7 x5_7 I8 H locs ls h hG hS hl
              rw [X5_lots_L1] at h
              refine lv_iload hx hb dX5_lots_58 (lv_at hl 3 rfl) ?_
              refine lv_iload_n hx hb dX5_lots_60 rfl (lv_at hl 1 rfl) ?_
              refine lv_icmp_ge (tgt := 211) hx hb dX5_lots_61 (by decide) (fun c10 => ?_) (fun c10 => ?_)
              · have h := ite_t h c10
                exact hkK6 I8 _ _ _ h hG hS (lv_sub hl [0] rfl)
              · have h := ite_f h c10
                refine lv_lload_n hx hb dX5_lots_64 rfl (lv_at hl 2 rfl) ?_
                refine lv_ldc2 (v := (48271 : Int64)) hx hb hown k5 dX5_lots_65 ?_
                refine lv_lmul hx hb dX5_lots_68 ?_
                refine lv_ldc2 (v := (2147483647 : Int64)) hx hb hown k6 dX5_lots_69 ?_
                refine lv_lrem hx hb dX5_lots_72 (by decide) ?_
                refine lv_lstore_n (lv' := [(3, .long ((x3_7 * (48271 : Int64)) - (x3_7 * (48271 : Int64)) / (2147483647 : Int64) * (2147483647 : Int64))), (0, .ref (ad 0)), (1, .int x1), (5, .int x5_7)]) hx hb dX5_lots_73 rfl hl (by decide) rfl (fun ls hl => ?_)
                refine lv_lload_n hx hb dX5_lots_74 rfl (lv_at hl 0 rfl) ?_
                refine lv_aload_n hx hb dX5_lots_75 rfl (lv_at hl 1 rfl) ?_
                refine g_get hx hb l5 hown hK hG (k := 0) (by decide) (mE_5 _ _) vwCl_5 4 (by decide) k3 (fun _ h9 => h9) rfl dX5_lots_76 ?_
                refine lv_i2l hx hb dX5_lots_79 rfl ?_
                refine g_lrem hx hb h dX5_lots_80 (fun v11 h => ?_)
                refine lv_l2i hx hb dX5_lots_81 rfl ?_
                refine lv_istore (lv' := [(6, .int v11.toInt32), (3, .long ((x3_7 * (48271 : Int64)) - (x3_7 * (48271 : Int64)) / (2147483647 : Int64) * (2147483647 : Int64))), (0, .ref (ad 0)), (1, .int x1), (5, .int x5_7)]) hx hb dX5_lots_82 hl (by decide) rfl (fun ls hl => ?_)
                refine lv_lload_n hx hb dX5_lots_84 rfl (lv_at hl 1 rfl) ?_
                refine lv_ldc2 (v := (64 : Int64)) hx hb hown k7 dX5_lots_85 ?_
                refine lv_ldiv hx hb dX5_lots_88 (by decide) ?_
                refine lv_aload_n hx hb dX5_lots_89 rfl (lv_at hl 2 rfl) ?_
                refine g_get hx hb l5 hown hK hG (k := 0) (by decide) (mE_5 _ _) vwCl_5 4 (by decide) k3 (fun _ h9 => h9) rfl dX5_lots_90 ?_
                refine lv_i2l hx hb dX5_lots_93 rfl ?_
                refine g_lrem hx hb h dX5_lots_94 (fun v12 h => ?_)
                refine lv_l2i hx hb dX5_lots_95 rfl ?_
                refine lv_istore (lv' := [(7, .int v12.toInt32), (6, .int v11.toInt32), (3, .long ((x3_7 * (48271 : Int64)) - (x3_7 * (48271 : Int64)) / (2147483647 : Int64) * (2147483647 : Int64))), (0, .ref (ad 0)), (1, .int x1), (5, .int x5_7)]) hx hb dX5_lots_96 hl (by decide) rfl (fun ls hl => ?_)
                refine lv_aload_n hx hb dX5_lots_98 rfl (lv_at hl 3 rfl) ?_
                obtain ⟨q13, eq13, h⟩ := obind h
                refine g_endv (va_runV (As := []) (rest := []) ⟨hx, hb, hml, hown, hts⟩ (k_X5_keepPast l D cy ad hi I8 L q13 eq13) (cwV 0 hts gX5_lots_X5_keepPast rfl rfl rfl cd_X5_keepPast ⟨Nat.le_of_ble_eq_true rfl, Nat.le_of_ble_eq_true rfl⟩) ⟨g_blind mZm, g_recv hK hG (k := 0) (by decide) (mE_5 _ _) vwCl_5, g_pre mZm hK hG hZ hS⟩ rfl rfl hl.1 rfl (lv_room (Nat.le_of_ble_eq_true rfl)) dX5_lots_99 ⟨Nat.le_refl _, Nat.le_refl _⟩) hS (fun H locs hG hS => ?_)
                refine lv_lload_n hx hb dX5_lots_102 rfl (lv_at hl 2 rfl) ?_
                refine lv_ldc2 (v := (8 : Int64)) hx hb hown k8 dX5_lots_103 ?_
                refine lv_ldiv hx hb dX5_lots_106 (by decide) ?_
                refine lv_ldc2 (v := (4 : Int64)) hx hb hown k9 dX5_lots_107 ?_
                refine lv_lrem hx hb dX5_lots_110 (by decide) ?_
                refine lv_lconst (v := (0 : Int64)) hx hb dX5_lots_111 (by decide) ?_
                refine W.lcmp hx hb dX5_lots_112 ?_
                refine lv_if_ne (tgt := 144) hx hb dX5_lots_113 (by decide) (fun c14 => ?_) (fun c14 => ?_)
                · have h := ite_f h c14
                  refine lv_iload hx hb dX5_lots_144 (lv_at hl 1 rfl) ?_
                  refine lv_iload hx hb dX5_lots_146 (lv_at hl 0 rfl) ?_
                  refine lv_icmp_eq (tgt := 205) hx hb dX5_lots_148 (by decide) (fun c15 => ?_) (fun c15 => ?_)
                  · have h := ite_t h c15
                    refine lv_iinc (v := (x5_7 + (1 : Int32))) (lv' := [(5, .int (x5_7 + (1 : Int32))), (7, .int v12.toInt32), (6, .int v11.toInt32), (3, .long ((x3_7 * (48271 : Int64)) - (x3_7 * (48271 : Int64)) / (2147483647 : Int64) * (2147483647 : Int64))), (0, .ref (ad 0)), (1, .int x1)]) hx hb dX5_lots_205 hl (k := 5) rfl rfl (by decide) rfl (fun ls hl => ?_)
                    refine lv_goto (tgt := 58) hx hb dX5_lots_208 (by decide) ?_
                    exact ihn7 ((x3_7 * (48271 : Int64)) - (x3_7 * (48271 : Int64)) / (2147483647 : Int64) * (2147483647 : Int64)) (x5_7 + (1 : Int32)) q13 _ _ _ h hG hS (lv_sub hl [4, 5, 3, 0] rfl)
                  · have h := ite_f h c15
                    refine lv_aload_n hx hb dX5_lots_151 rfl (lv_at hl 3 rfl) ?_
                    refine lv_iload hx hb dX5_lots_152 (lv_at hl 1 rfl) ?_
                    refine lv_iload hx hb dX5_lots_154 (lv_at hl 0 rfl) ?_
                    obtain ⟨v16, ev16, h⟩ := obind h
                    refine g_endi (va_runV (As := [.int v11.toInt32, .int v12.toInt32]) (rest := []) ⟨hx, hb, hml, hown, hts⟩ (k_X5_areAtOneEnd l D cy ad hi q13 L v11.toInt32 v12.toInt32 v16 ev16) (cwV 2 hts gX5_lots_X5_areAtOneEnd rfl rfl rfl cd_X5_areAtOneEnd ⟨Nat.le_of_ble_eq_true rfl, Nat.le_of_ble_eq_true rfl⟩) ⟨g_blind mZm, g_recv hK hG (k := 0) (by decide) (mE_5 _ _) vwCl_5, g_pre mZm hK hG hZ hS⟩ rfl rfl hl.1 rfl (lv_room (Nat.le_of_ble_eq_true rfl)) dX5_lots_156 ⟨Nat.le_refl _, Nat.le_refl _⟩) hS (fun H locs hG hS => ?_)
                    refine lv_if_eq (tgt := 205) hx hb dX5_lots_159 (by decide) (fun c17 => ?_) (fun c17 => ?_)
                    · have h := ite_t h c17
                      refine lv_iinc (v := (x5_7 + (1 : Int32))) (lv' := [(5, .int (x5_7 + (1 : Int32))), (7, .int v12.toInt32), (6, .int v11.toInt32), (3, .long ((x3_7 * (48271 : Int64)) - (x3_7 * (48271 : Int64)) / (2147483647 : Int64) * (2147483647 : Int64))), (0, .ref (ad 0)), (1, .int x1)]) hx hb dX5_lots_205 hl (k := 5) rfl rfl (by decide) rfl (fun ls hl => ?_)
                      refine lv_goto (tgt := 58) hx hb dX5_lots_208 (by decide) ?_
                      exact ihn7 ((x3_7 * (48271 : Int64)) - (x3_7 * (48271 : Int64)) / (2147483647 : Int64) * (2147483647 : Int64)) (x5_7 + (1 : Int32)) q13 _ _ _ h hG hS (lv_sub hl [4, 5, 3, 0] rfl)
                    · have h := ite_f h c17
                      refine lv_aload_n hx hb dX5_lots_162 rfl (lv_at hl 3 rfl) ?_
                      refine lv_iload hx hb dX5_lots_163 (lv_at hl 1 rfl) ?_
                      refine lv_iload hx hb dX5_lots_165 (lv_at hl 0 rfl) ?_
                      refine lv_aload_n hx hb dX5_lots_167 rfl (lv_at hl 3 rfl) ?_
                      refine lv_iload hx hb dX5_lots_168 (lv_at hl 1 rfl) ?_
                      obtain ⟨v18, ev18, h⟩ := obind h
                      refine g_endi (va_runV (As := [.int v11.toInt32]) (rest := [.int v12.toInt32, .int v11.toInt32, .ref (ad 0)]) ⟨hx, hb, hml, hown, hts⟩ (k_X5_stonesBy l D cy ad hi q13 L v11.toInt32 v18 ev18) (cwV 1 hts gX5_lots_X5_stonesBy rfl rfl rfl cd_X5_stonesBy ⟨Nat.le_of_ble_eq_true rfl, Nat.le_of_ble_eq_true rfl⟩) ⟨g_blind mZm, g_recv hK hG (k := 0) (by decide) (mE_5 _ _) vwCl_5, g_pre mZm hK hG hZ hS⟩ rfl rfl hl.1 rfl (lv_room (Nat.le_of_ble_eq_true rfl)) dX5_lots_170 ⟨Nat.le_refl _, Nat.le_refl _⟩) hS (fun H locs hG hS => ?_)
                      obtain ⟨q19, eq19, h⟩ := obind h
                      refine g_endi (va_runV (As := [.int v11.toInt32, .int v12.toInt32, .int v18]) (rest := []) ⟨hx, hb, hml, hown, hts⟩ (k_X5_leastSink l D cy ad hi q13 L v11.toInt32 v12.toInt32 v18 q19 eq19) (cwV 3 hts gX5_lots_X5_leastSink rfl rfl rfl cd_X5_leastSink ⟨Nat.le_of_ble_eq_true rfl, Nat.le_of_ble_eq_true rfl⟩) ⟨g_blind mZm, g_recv hK hG (k := 0) (by decide) (mE_5 _ _) vwCl_5, g_pre mZm hK hG hZ hS⟩ rfl rfl hl.1 rfl (lv_room (Nat.le_of_ble_eq_true rfl)) dX5_lots_173 ⟨Nat.le_refl _, Nat.le_refl _⟩) hS (fun H locs hG hS => ?_)
                      refine lv_aload_n hx hb dX5_lots_176 rfl (lv_at hl 3 rfl) ?_
                      refine g_get hx hb l5 hown hK hG (k := 0) (by decide) (mE_5 _ _) vwCl_5 1 (by decide) k10 (fun _ h9 => h9) rfl dX5_lots_177 ?_
                      refine lv_icmp_gt (tgt := 205) hx hb dX5_lots_180 (by decide) (fun c20 => ?_) (fun c20 => ?_)
                      · have h := ite_t h c20
                        refine lv_iinc (v := (x5_7 + (1 : Int32))) (lv' := [(5, .int (x5_7 + (1 : Int32))), (7, .int v12.toInt32), (6, .int v11.toInt32), (3, .long ((x3_7 * (48271 : Int64)) - (x3_7 * (48271 : Int64)) / (2147483647 : Int64) * (2147483647 : Int64))), (0, .ref (ad 0)), (1, .int x1)]) hx hb dX5_lots_205 hl (k := 5) rfl rfl (by decide) rfl (fun ls hl => ?_)
                        refine lv_goto (tgt := 58) hx hb dX5_lots_208 (by decide) ?_
                        exact ihn7 ((x3_7 * (48271 : Int64)) - (x3_7 * (48271 : Int64)) / (2147483647 : Int64) * (2147483647 : Int64)) (x5_7 + (1 : Int32)) q19.2 _ _ _ h hG hS (lv_sub hl [4, 5, 3, 0] rfl)
                      · have h := ite_f h c20
                        refine lv_aload_n hx hb dX5_lots_183 rfl (lv_at hl 3 rfl) ?_
                        refine lv_iload hx hb dX5_lots_184 (lv_at hl 1 rfl) ?_
                        refine lv_iload hx hb dX5_lots_186 (lv_at hl 0 rfl) ?_
                        refine lv_aload_n hx hb dX5_lots_188 rfl (lv_at hl 3 rfl) ?_
                        refine g_get hx hb l5 hown hK hG (k := 0) (by decide) (mE_5 _ _) vwCl_5 24 (by decide) k11 (fun _ h9 => h9) rfl dX5_lots_189 ?_
                        refine lv_bipush (v := (16 : Int32)) hx hb dX5_lots_192 (by decide) ?_
                        refine lv_idiv hx hb dX5_lots_194 (by decide) ?_
                        refine lv_aload_n hx hb dX5_lots_195 rfl (lv_at hl 3 rfl) ?_
                        refine g_get hx hb l5 hown hK hG (k := 0) (by decide) (mE_5 _ _) vwCl_5 24 (by decide) k11 (fun _ h9 => h9) rfl dX5_lots_196 ?_
                        refine lv_bipush (v := (16 : Int32)) hx hb dX5_lots_199 (by decide) ?_
                        refine lv_irem hx hb dX5_lots_201 (by decide) ?_
                        obtain ⟨q21, eq21, h⟩ := obind h
                        refine g_endv (va_runV (As := [.int v11.toInt32, .int v12.toInt32, .int ((q19.2 0 24) / (16 : Int32)), .int ((q19.2 0 24) - (q19.2 0 24) / (16 : Int32) * (16 : Int32))]) (rest := []) ⟨hx, hb, hml, hown, hts⟩ (k_X5_goes l D cy ad hi q19.2 L v11.toInt32 v12.toInt32 ((q19.2 0 24) / (16 : Int32)) ((q19.2 0 24) - (q19.2 0 24) / (16 : Int32) * (16 : Int32)) q21 eq21) (cwV 4 hts gX5_lots_X5_goes rfl rfl rfl cd_X5_goes ⟨Nat.le_of_ble_eq_true rfl, Nat.le_of_ble_eq_true rfl⟩) ⟨g_blind mZm, g_recv hK hG (k := 0) (by decide) (mE_5 _ _) vwCl_5, g_pre mZm hK hG hZ hS⟩ rfl rfl hl.1 rfl (lv_room (Nat.le_of_ble_eq_true rfl)) dX5_lots_202 ⟨Nat.le_refl _, Nat.le_refl _⟩) hS (fun H locs hG hS => ?_)
                        refine lv_iinc (v := (x5_7 + (1 : Int32))) (lv' := [(5, .int (x5_7 + (1 : Int32))), (7, .int v12.toInt32), (6, .int v11.toInt32), (3, .long ((x3_7 * (48271 : Int64)) - (x3_7 * (48271 : Int64)) / (2147483647 : Int64) * (2147483647 : Int64))), (0, .ref (ad 0)), (1, .int x1)]) hx hb dX5_lots_205 hl (k := 5) rfl rfl (by decide) rfl (fun ls hl => ?_)
                        refine lv_goto (tgt := 58) hx hb dX5_lots_208 (by decide) ?_
                        exact ihn7 ((x3_7 * (48271 : Int64)) - (x3_7 * (48271 : Int64)) / (2147483647 : Int64) * (2147483647 : Int64)) (x5_7 + (1 : Int32)) q21 _ _ _ h hG hS (lv_sub hl [4, 5, 3, 0] rfl)
                · have h := ite_t h c14
                  refine lv_aload_n hx hb dX5_lots_116 rfl (lv_at hl 3 rfl) ?_
                  refine g_get hx hb l5 hown hK hG (k := 0) (by decide) (mE_5 _ _) vwCl_5 0 (by decide) k4 (fun _ h9 => h9) rfl dX5_lots_117 ?_
                  refine lv_iconst (v := (1 : Int32)) hx hb dX5_lots_120 (by decide) ?_
                  refine lv_dup2_11 hx hb dX5_lots_121 rfl rfl ?_
                  refine g_ald hx hb hK hG (k := 1) (n := 660) (show mIA 1 660 from by decide +kernel).1.1 (mIA_e (show mIA 1 660 from by decide +kernel) _ _) 0 rfl h dX5_lots_122 (fun v22 h => ?_)
                  refine lv_aload_n hx hb dX5_lots_123 rfl (lv_at hl 3 rfl) ?_
                  refine g_get hx hb l5 hown hK hG (k := 0) (by decide) (mE_5 _ _) vwCl_5 0 (by decide) k4 (fun _ h9 => h9) rfl dX5_lots_124 ?_
                  refine lv_iconst (v := (1 : Int32)) hx hb dX5_lots_127 (by decide) ?_
                  refine g_ald hx hb hK hG (k := 1) (n := 660) (show mIA 1 660 from by decide +kernel).1.1 (mIA_e (show mIA 1 660 from by decide +kernel) _ _) 0 rfl h dX5_lots_128 (fun v23 h => ?_)
                  refine lv_bipush (v := (9 : Int32)) hx hb dX5_lots_129 (by decide) ?_
                  obtain ⟨q24, h9, h⟩ := obind h
                  have hk_q24 : ∀ (H : Heap) (locs : List Loc) (ls : Array Slot), mG D cy ad q13 L H → va_S (gA 18 ad) s.heap H locs → lv_has ls 8 [(0, .ref (ad 0)), (1, .int x1), (3, .long ((x3_7 * (48271 : Int64)) - (x3_7 * (48271 : Int64)) / (2147483647 : Int64) * (2147483647 : Int64))), (5, .int x5_7)] → W p l e rm_X5_lots s m args below meth c H locs 0 0 Q (F0 m 139 ls [.int q24, .int v22, .int (1 : Int32), .ref (ad 1)]) := by
                    intro H locs ls hG hS hl
                    refine lv_iadd hx hb dX5_lots_139 ?_
                    refine g_ast hx hb hK hG hi hS (k := 1) (n := 660) (show mIA 1 660 from by decide +kernel).1.1 (fun f => mIA_e (show mIA 1 660 from by decide +kernel) f _) 0 rfl h dX5_lots_140 (fun I26 H locs h hG hS => ?_)
                    refine lv_goto (tgt := 205) hx hb dX5_lots_141 (by decide) ?_
                    refine lv_iinc (v := (x5_7 + (1 : Int32))) (lv' := [(5, .int (x5_7 + (1 : Int32))), (0, .ref (ad 0)), (1, .int x1), (3, .long ((x3_7 * (48271 : Int64)) - (x3_7 * (48271 : Int64)) / (2147483647 : Int64) * (2147483647 : Int64)))]) hx hb dX5_lots_205 hl (k := 3) rfl rfl (by decide) rfl (fun ls hl => ?_)
                    refine lv_goto (tgt := 58) hx hb dX5_lots_208 (by decide) ?_
                    exact ihn7 ((x3_7 * (48271 : Int64)) - (x3_7 * (48271 : Int64)) / (2147483647 : Int64) * (2147483647 : Int64)) (x5_7 + (1 : Int32)) I26 _ _ _ h hG hS (lv_sub hl [1, 2, 3, 0] rfl)
                  clear h
                  have h := h9
                  clear h9
                  refine lv_icmp_ge (tgt := 138) hx hb dX5_lots_131 (by decide) (fun c25 => ?_) (fun c25 => ?_)
                  · have h := ite_t h c25
                    refine lv_iconst (v := (0 : Int32)) hx hb dX5_lots_138 (by decide) ?_
                    have h := Option.some.inj h
                    subst h
                    exact hk_q24 _ _ _ hG hS (lv_sub hl [3, 4, 2, 5] rfl)
                  · have h := ite_f h c25
                    refine lv_iconst (v := (1 : Int32)) hx hb dX5_lots_134 (by decide) ?_
                    refine lv_goto (tgt := 139) hx hb dX5_lots_135 (by decide) ?_
                    have h := Option.some.inj h
                    subst h
                    exact hk_q24 _ _ _ hG hS (lv_sub hl [3, 4, 2, 5] rfl)
          refine keyK6 _ (fun I9 H locs ls h hG hS hl => ?_) bigF x2.toInt64 (0 : Int32) I _ _ _ h hG hS (lv_sub hl [2, 3, 1, 0] rfl)
          clear keyK6
          refine lv_aload_n hx hb dX5_lots_211 rfl (lv_at hl 0 rfl) ?_
          refine g_get hx hb l5 hown hK hG (k := 0) (by decide) (mE_5 _ _) vwCl_5 0 (by decide) k4 (fun _ h9 => h9) rfl dX5_lots_212 ?_
          refine lv_iconst (v := (2 : Int32)) hx hb dX5_lots_215 (by decide) ?_
          refine g_ald hx hb hK hG (k := 1) (n := 660) (show mIA 1 660 from by decide +kernel).1.1 (mIA_e (show mIA 1 660 from by decide +kernel) _ _) 0 rfl h dX5_lots_216 (fun v27 h => ?_)
          obtain ⟨v28, ev28, h⟩ := obind h
          refine g_endi (va_runS (As := [.int v27]) (rest := []) ⟨hx, hb, hml, hown, hts⟩ (k_X5_bits l D cy ad hi I9 L v27 v28 ev28) (va_cwS 1 hts gX5_lots_X5_bits rfl rfl rfl cd_X5_bits.2 ⟨Nat.le_of_ble_eq_true rfl, Nat.le_of_ble_eq_true rfl⟩) ⟨g_blind mZm, g_pre mZm hK hG hZ hS⟩ rfl rfl hl.1 rfl (lv_room (Nat.le_of_ble_eq_true rfl)) dX5_lots_217 ⟨Nat.le_refl _, Nat.le_refl _⟩) hS (fun H locs hG hS => ?_)
          have h := Option.some.inj h
          subst h
          subst hQ
          exact g_iret hx hb hr hlocks mZm hK hZ hG hS rfl dX5_lots_220
        · have h := ite_f h c5
          refine lv_bipush (v := (-2 : Int32)) hx hb dX5_lots_49 (by decide) ?_
          have h := Option.some.inj h
          subst h
          subst hQ
          exact g_iret hx hb hr hlocks mZm hK hZ hG hS rfl dX5_lots_51
      · have h := ite_t h c3
        refine lv_bipush (v := (-4 : Int32)) hx hb dX5_lots_33 (by decide) ?_
        have h := Option.some.inj h
        subst h
        subst hQ
        exact g_iret hx hb hr hlocks mZm hK hZ hG hS rfl dX5_lots_35
    · have h := ite_t h c2
      refine lv_iconst (v := (-1 : Int32)) hx hb dX5_lots_24 (by decide) ?_
      have h := Option.some.inj h
      subst h
      subst hQ
      exact g_iret hx hb hr hlocks mZm hK hZ hG hS rfl dX5_lots_25
def X5_asked (I : xMem) : Int32 := (I 0 11)
abbrev rm_X5_asked : Room := { frames := 0, cells := 0, slots := 0, locals := 0 }
theorem cd_X5_asked : yX5_asked.cls = RX5 ∧ yX5_asked.cls ≠ "java/lang/invoke/MethodHandle" ∧ yX5_asked.cls ≠ "java/lang/invoke/VarHandle" ∧ (parseMethodDescriptor yX5_asked.desc).map (fun d => d.parameters.length) = some 0 := by decide +kernel
set_option maxHeartbeats 4000000 in
set_option maxRecDepth 100000 in
theorem k_X5_asked (l : Launch) (D : va_G) (cy : Nat → ClassId) (ad : Nat → Nat) (hi : gInj 18 ad) (I : xMem) (L : xLon)  (r : Int32) (h : X5_asked I = r) : Met l yX5_asked wsX5_asked rm_X5_asked (va_Pc [.ref (ad 0)] (mW D cy ad I L)) (mPi D cy ad I L r) 0 0 (gA 18 ad) := by
  refine g_met (own := RX5) (cc := cX5_asked) (maxL := 1) (ret := (some .int)) (by decide) rfl (Nat.le_of_ble_eq_true rfl) rfl ?_
  intro p e s m args below meth c ls hx hb hml hr hlocks hown hts hG hK hZ hl
  generalize hQ : MQ below _ args s 0 0 _ = Q
  have hl : lv_has ls 1 [(0, .ref (ad 0))] := hl
  have hS : va_S (gA 18 ad) s.heap s.heap [] := va_S.rf
  have l5 : ∀ w ∈ wsX50, w.before args s = true := fun w h => hts w (List.mem_cons_of_mem _ (List.mem_append_right _ h))
  have k1 := hts (.fieldLink RX5 70 "PairStairsModel" "asked" "I") (by decide +kernel)
  unfold X5_asked at h
  refine lv_aload_n hx hb dX5_asked_0 rfl (lv_at hl 0 rfl) ?_
  refine g_get hx hb l5 hown hK hG (k := 0) (by decide) (mE_5 _ _) vwCl_5 11 (by decide) k1 (fun _ h9 => h9) rfl dX5_asked_1 ?_
  subst h
  subst hQ
  exact g_iret hx hb hr hlocks mZm hK hZ hG hS rfl dX5_asked_4
def X5_upper (L : xLon) : Int64 := (L 12)
abbrev rm_X5_upper : Room := { frames := 0, cells := 0, slots := 0, locals := 0 }
theorem cd_X5_upper : yX5_upper.cls = RX5 ∧ yX5_upper.cls ≠ "java/lang/invoke/MethodHandle" ∧ yX5_upper.cls ≠ "java/lang/invoke/VarHandle" ∧ (parseMethodDescriptor yX5_upper.desc).map (fun d => d.parameters.length) = some 0 := by decide +kernel
set_option maxHeartbeats 4000000 in
set_option maxRecDepth 100000 in
theorem k_X5_upper (l : Launch) (D : va_G) (cy : Nat → ClassId) (ad : Nat → Nat) (hi : gInj 18 ad) (I : xMem) (L : xLon)  (r : Int64) (h : X5_upper L = r) : Met l yX5_upper wsX5_upper rm_X5_upper (va_Pc [.ref (ad 0)] (mW D cy ad I L)) (mPl D cy ad I L r) 0 0 (gA 18 ad) := by
  refine g_met (own := RX5) (cc := cX5_upper) (maxL := 1) (ret := (some .long)) (by decide) rfl (Nat.le_of_ble_eq_true rfl) rfl ?_
  intro p e s m args below meth c ls hx hb hml hr hlocks hown hts hG hK hZ hl
  generalize hQ : MQ below _ args s 0 0 _ = Q
  have hl : lv_has ls 1 [(0, .ref (ad 0))] := hl
  have hS : va_S (gA 18 ad) s.heap s.heap [] := va_S.rf
  have l5 : ∀ w ∈ wsX50, w.before args s = true := fun w h => hts w (List.mem_cons_of_mem _ (List.mem_append_right _ h))
  have k1 := hts (.fieldLink RX5 296 "PairStairsModel" "upper" "J") (by decide +kernel)
  unfold X5_upper at h
  refine lv_aload_n hx hb dX5_upper_0 rfl (lv_at hl 0 rfl) ?_
  refine g_get hx hb l5 hown hK hG (k := 0) (by decide) (mE_5 _ _) vwCl_5 12 (by decide) k1 (fun _ h9 => h9) rfl dX5_upper_1 ?_
  subst h
  subst hQ
  exact g_lret hx hb hr hlocks mZm hK hZ hG hS rfl dX5_upper_4
def X5_lower (L : xLon) : Int64 := (L 13)
abbrev rm_X5_lower : Room := { frames := 0, cells := 0, slots := 0, locals := 0 }
theorem cd_X5_lower : yX5_lower.cls = RX5 ∧ yX5_lower.cls ≠ "java/lang/invoke/MethodHandle" ∧ yX5_lower.cls ≠ "java/lang/invoke/VarHandle" ∧ (parseMethodDescriptor yX5_lower.desc).map (fun d => d.parameters.length) = some 0 := by decide +kernel
set_option maxHeartbeats 4000000 in
set_option maxRecDepth 100000 in
theorem k_X5_lower (l : Launch) (D : va_G) (cy : Nat → ClassId) (ad : Nat → Nat) (hi : gInj 18 ad) (I : xMem) (L : xLon)  (r : Int64) (h : X5_lower L = r) : Met l yX5_lower wsX5_lower rm_X5_lower (va_Pc [.ref (ad 0)] (mW D cy ad I L)) (mPl D cy ad I L r) 0 0 (gA 18 ad) := by
  refine g_met (own := RX5) (cc := cX5_lower) (maxL := 1) (ret := (some .long)) (by decide) rfl (Nat.le_of_ble_eq_true rfl) rfl ?_
  intro p e s m args below meth c ls hx hb hml hr hlocks hown hts hG hK hZ hl
  generalize hQ : MQ below _ args s 0 0 _ = Q
  have hl : lv_has ls 1 [(0, .ref (ad 0))] := hl
  have hS : va_S (gA 18 ad) s.heap s.heap [] := va_S.rf
  have l5 : ∀ w ∈ wsX50, w.before args s = true := fun w h => hts w (List.mem_cons_of_mem _ (List.mem_append_right _ h))
  have k1 := hts (.fieldLink RX5 34 "PairStairsModel" "lower" "J") (by decide +kernel)
  unfold X5_lower at h
  refine lv_aload_n hx hb dX5_lower_0 rfl (lv_at hl 0 rfl) ?_
  refine g_get hx hb l5 hown hK hG (k := 0) (by decide) (mE_5 _ _) vwCl_5 13 (by decide) k1 (fun _ h9 => h9) rfl dX5_lower_1 ?_
  subst h
  subst hQ
  exact g_lret hx hb hr hlocks mZm hK hZ hG hS rfl dX5_lower_4
def X5_those_L1 (I : xMem) (x1 : Int32) (K1 : Int32 → Option (Int32)) : Nat → Int32 → Int32 → Option (Int32)
  | 0, _, _ => none
  | n2 + 1, x2_2, x3_2 => if (I 0 4) ≤ x3_2 then (K1 x2_2) else ((X5_isOf I x3_2 x1).bind fun v4 => (if v4 = (0 : Int32) then (some (0 : Int32)) else (some (1 : Int32))).bind fun q5 => X5_those_L1 I x1 K1 n2 (x2_2 + q5) (x3_2 + (1 : Int32)))
def X5_those (I : xMem) (x1 : Int32) : Option (Int32) := X5_those_L1 I x1 (fun (z2_2 : Int32) => some z2_2) bigF (0 : Int32) (0 : Int32)
abbrev rm_X5_those : Room := { frames := 1, cells := 0, slots := 0, locals := 23 }
theorem cd_X5_those : yX5_those.cls = RX5 ∧ yX5_those.cls ≠ "java/lang/invoke/MethodHandle" ∧ yX5_those.cls ≠ "java/lang/invoke/VarHandle" ∧ (parseMethodDescriptor yX5_those.desc).map (fun d => d.parameters.length) = some 1 := by decide +kernel
set_option maxHeartbeats 4000000 in
set_option maxRecDepth 100000 in
theorem k_X5_those (l : Launch) (D : va_G) (cy : Nat → ClassId) (ad : Nat → Nat) (hi : gInj 18 ad) (I : xMem) (L : xLon) (x1 : Int32) (r : Int32) (h : X5_those I x1 = some r) : Met l yX5_those wsX5_those rm_X5_those (va_Pc [.ref (ad 0), .int x1] (mW D cy ad I L)) (mPi D cy ad I L r) 0 0 (gA 18 ad) := by
  refine g_met (own := RX5) (cc := cX5_those) (maxL := 4) (ret := (some .int)) (by decide) rfl (Nat.le_of_ble_eq_true rfl) rfl ?_
  intro p e s m args below meth c ls hx hb hml hr hlocks hown hts hG hK hZ hl
  generalize hQ : MQ below _ args s 0 0 _ = Q
  have hl : lv_has ls 4 [(0, .ref (ad 0)), (1, .int x1)] := hl
  have hS : va_S (gA 18 ad) s.heap s.heap [] := va_S.rf
  have l5 : ∀ w ∈ wsX50, w.before args s = true := fun w h => hts w (List.mem_cons_of_mem _ (List.mem_append_right _ h))
  have k1 := hts (.fieldLink RX5 157 "PairStairsModel" "people" "I") (by decide +kernel)
  unfold X5_those at h
  refine lv_iconst (v := (0 : Int32)) hx hb dX5_those_0 (by decide) ?_
  refine lv_istore_n (lv' := [(2, .int (0 : Int32)), (0, .ref (ad 0)), (1, .int x1)]) hx hb dX5_those_1 rfl hl (by decide) rfl (fun ls hl => ?_)
  refine lv_iconst (v := (0 : Int32)) hx hb dX5_those_2 (by decide) ?_
  refine lv_istore_n (lv' := [(3, .int (0 : Int32)), (2, .int (0 : Int32)), (0, .ref (ad 0)), (1, .int x1)]) hx hb dX5_those_3 rfl hl (by decide) rfl (fun ls hl => ?_)
  have keyK1 : ∀ (K1 : Int32 → Option (Int32)), (∀ (z2_2 : Int32) (H : Heap) (locs : List Loc) (ls : Array Slot), K1 z2_2 = some r → mG D cy ad I L H → va_S (gA 18 ad) s.heap H locs → lv_has ls 4 [(2, .int z2_2)] → W p l e rm_X5_those s m args below meth c H locs 0 0 Q (F0 m 35 ls [])) → ∀ (n2 : Nat) (x2_2 : Int32) (x3_2 : Int32) (H : Heap) (locs : List Loc) (ls : Array Slot), X5_those_L1 I x1 K1 n2 x2_2 x3_2 = some r → mG D cy ad I L H → va_S (gA 18 ad) s.heap H locs → lv_has ls 4 [(0, .ref (ad 0)), (1, .int x1), (2, .int x2_2), (3, .int x3_2)] → W p l e rm_X5_those s m args below meth c H locs 0 0 Q (F0 m 4 ls []) := by
    intro K1 hkK1 n2
    induction n2 with
    | zero =>
      intro x2_2 x3_2 H locs ls h
      exact ono h
    | succ n2 ihn2 =>
      intro x2_2 x3_2 H locs ls h hG hS hl
      rw [X5_those_L1] at h
      refine lv_iload_n hx hb dX5_those_4 rfl (lv_at hl 3 rfl) ?_
      refine lv_aload_n hx hb dX5_those_5 rfl (lv_at hl 0 rfl) ?_
      refine g_get hx hb l5 hown hK hG (k := 0) (by decide) (mE_5 _ _) vwCl_5 4 (by decide) k1 (fun _ h9 => h9) rfl dX5_those_6 ?_
      refine lv_icmp_ge (tgt := 35) hx hb dX5_those_9 (by decide) (fun c3 => ?_) (fun c3 => ?_)
      · have h := ite_t h c3
        exact hkK1 x2_2 _ _ _ h hG hS (lv_sub hl [2] rfl)
      · have h := ite_f h c3
        refine lv_iload_n hx hb dX5_those_12 rfl (lv_at hl 2 rfl) ?_
        refine lv_aload_n hx hb dX5_those_13 rfl (lv_at hl 0 rfl) ?_
        refine lv_iload_n hx hb dX5_those_14 rfl (lv_at hl 3 rfl) ?_
        refine lv_iload_n hx hb dX5_those_15 rfl (lv_at hl 1 rfl) ?_
        obtain ⟨v4, ev4, h⟩ := obind h
        refine g_endi (va_runV (As := [.int x3_2, .int x1]) (rest := [.int x2_2]) ⟨hx, hb, hml, hown, hts⟩ (k_X5_isOf l D cy ad hi I L x3_2 x1 v4 ev4) (cwV 2 hts gX5_those_X5_isOf rfl rfl rfl cd_X5_isOf ⟨Nat.le_of_ble_eq_true rfl, Nat.le_of_ble_eq_true rfl⟩) ⟨g_blind mZm, g_recv hK hG (k := 0) (by decide) (mE_5 _ _) vwCl_5, g_pre mZm hK hG hZ hS⟩ rfl rfl hl.1 rfl (lv_room (Nat.le_of_ble_eq_true rfl)) dX5_those_16 ⟨Nat.le_refl _, Nat.le_refl _⟩) hS (fun H locs hG hS => ?_)
        obtain ⟨q5, h9, h⟩ := obind h
        have hk_q5 : ∀ (H : Heap) (locs : List Loc) (ls : Array Slot), mG D cy ad I L H → va_S (gA 18 ad) s.heap H locs → lv_has ls 4 [(0, .ref (ad 0)), (1, .int x1), (3, .int x3_2)] → W p l e rm_X5_those s m args below meth c H locs 0 0 Q (F0 m 27 ls [.int q5, .int x2_2]) := by
          intro H locs ls hG hS hl
          refine lv_iadd hx hb dX5_those_27 ?_
          refine lv_istore_n (lv' := [(2, .int (x2_2 + q5)), (0, .ref (ad 0)), (1, .int x1), (3, .int x3_2)]) hx hb dX5_those_28 rfl hl (by decide) rfl (fun ls hl => ?_)
          refine lv_iinc (v := (x3_2 + (1 : Int32))) (lv' := [(3, .int (x3_2 + (1 : Int32))), (2, .int (x2_2 + q5)), (0, .ref (ad 0)), (1, .int x1)]) hx hb dX5_those_29 hl (k := 3) rfl rfl (by decide) rfl (fun ls hl => ?_)
          refine lv_goto (tgt := 4) hx hb dX5_those_32 (by decide) ?_
          exact ihn2 (x2_2 + q5) (x3_2 + (1 : Int32)) _ _ _ h hG hS (lv_sub hl [2, 3, 1, 0] rfl)
        clear h
        have h := h9
        clear h9
        refine lv_if_eq (tgt := 26) hx hb dX5_those_19 (by decide) (fun c6 => ?_) (fun c6 => ?_)
        · have h := ite_t h c6
          refine lv_iconst (v := (0 : Int32)) hx hb dX5_those_26 (by decide) ?_
          have h := Option.some.inj h
          subst h
          exact hk_q5 _ _ _ hG hS (lv_sub hl [0, 1, 3] rfl)
        · have h := ite_f h c6
          refine lv_iconst (v := (1 : Int32)) hx hb dX5_those_22 (by decide) ?_
          refine lv_goto (tgt := 27) hx hb dX5_those_23 (by decide) ?_
          have h := Option.some.inj h
          subst h
          exact hk_q5 _ _ _ hG hS (lv_sub hl [0, 1, 3] rfl)
  refine keyK1 _ (fun z2_2 H locs ls h hG hS hl => ?_) bigF (0 : Int32) (0 : Int32) _ _ _ h hG hS (lv_sub hl [2, 3, 1, 0] rfl)
  clear keyK1
  refine lv_iload_n hx hb dX5_those_35 rfl (lv_at hl 0 rfl) ?_
  have h := Option.some.inj h
  subst h
  subst hQ
  exact g_iret hx hb hr hlocks mZm hK hZ hG hS rfl dX5_those_36
def X5_thereOf_L1 (I : xMem) (x1 : Int32) (K1 : Int32 → Option (Int32)) : Nat → Int32 → Int32 → Option (Int32)
  | 0, _, _ => none
  | n2 + 1, x2_2, x3_2 => if (6 : Int32) ≤ x3_2 then (K1 x2_2) else ((if x1 = (10 : Int32) then ((rdI I 5 6 x3_2).bind fun v13 => if (0 : Int32) ≤ v13 then (some (1 : Int32)) else (some (0 : Int32))) else (if x1 = (11 : Int32) then (if (4 : Int32) ≤ x3_2 then (some (0 : Int32)) else ((rdI I 7 4 x3_2).bind fun v11 => if v11 < (0 : Int32) then (some (0 : Int32)) else (some (1 : Int32)))) else (if (3 : Int32) ≤ x3_2 then (some (0 : Int32)) else ((rdI I 1 660 (((165 : Int32) * ((1 : Int32) + x3_2)) + (0 : Int32))).bind fun v8 => if v8 < (0 : Int32) then (some (0 : Int32)) else (some (1 : Int32)))))).bind fun q4 => X5_thereOf_L1 I x1 K1 n2 (x2_2 + q4) (x3_2 + (1 : Int32)))
def X5_thereOf (I : xMem) (x1 : Int32) : Option (Int32) := X5_thereOf_L1 I x1 (fun (z2_2 : Int32) => some z2_2) bigF (0 : Int32) (0 : Int32)
abbrev rm_X5_thereOf : Room := { frames := 0, cells := 0, slots := 0, locals := 0 }
theorem cd_X5_thereOf : yX5_thereOf.cls = RX5 ∧ yX5_thereOf.cls ≠ "java/lang/invoke/MethodHandle" ∧ yX5_thereOf.cls ≠ "java/lang/invoke/VarHandle" ∧ (parseMethodDescriptor yX5_thereOf.desc).map (fun d => d.parameters.length) = some 1 := by decide +kernel
set_option maxHeartbeats 4000000 in
set_option maxRecDepth 100000 in
theorem k_X5_thereOf (l : Launch) (D : va_G) (cy : Nat → ClassId) (ad : Nat → Nat) (hi : gInj 18 ad) (I : xMem) (L : xLon) (x1 : Int32) (r : Int32) (h : X5_thereOf I x1 = some r) : Met l yX5_thereOf wsX5_thereOf rm_X5_thereOf (va_Pc [.ref (ad 0), .int x1] (mW D cy ad I L)) (mPi D cy ad I L r) 0 0 (gA 18 ad) := by
  refine g_met (own := RX5) (cc := cX5_thereOf) (maxL := 4) (ret := (some .int)) (by decide) rfl (Nat.le_of_ble_eq_true rfl) rfl ?_
  intro p e s m args below meth c ls hx hb hml hr hlocks hown hts hG hK hZ hl
  generalize hQ : MQ below _ args s 0 0 _ = Q
  have hl : lv_has ls 4 [(0, .ref (ad 0)), (1, .int x1)] := hl
  have hS : va_S (gA 18 ad) s.heap s.heap [] := va_S.rf
  have l5 : ∀ w ∈ wsX50, w.before args s = true := fun w h => hts w (List.mem_cons_of_mem _ (List.mem_append_right _ h))
  have k1 := hts (.fieldLink RX5 7 "PairStairsModel" "row" "[I") (by decide +kernel)
  have k2 := hts (.fieldLink RX5 28 "PairStairsModel" "lengths" "[I") (by decide +kernel)
  have k3 := hts (.fieldLink RX5 22 "PairStairsModel" "sizes" "[I") (by decide +kernel)
  unfold X5_thereOf at h
  refine lv_iconst (v := (0 : Int32)) hx hb dX5_thereOf_0 (by decide) ?_
  refine lv_istore_n (lv' := [(2, .int (0 : Int32)), (0, .ref (ad 0)), (1, .int x1)]) hx hb dX5_thereOf_1 rfl hl (by decide) rfl (fun ls hl => ?_)
  refine lv_iconst (v := (0 : Int32)) hx hb dX5_thereOf_2 (by decide) ?_
  refine lv_istore_n (lv' := [(3, .int (0 : Int32)), (2, .int (0 : Int32)), (0, .ref (ad 0)), (1, .int x1)]) hx hb dX5_thereOf_3 rfl hl (by decide) rfl (fun ls hl => ?_)
  have keyK1 : ∀ (K1 : Int32 → Option (Int32)), (∀ (z2_2 : Int32) (H : Heap) (locs : List Loc) (ls : Array Slot), K1 z2_2 = some r → mG D cy ad I L H → va_S (gA 18 ad) s.heap H locs → lv_has ls 4 [(2, .int z2_2)] → W p l e rm_X5_thereOf s m args below meth c H locs 0 0 Q (F0 m 97 ls [])) → ∀ (n2 : Nat) (x2_2 : Int32) (x3_2 : Int32) (H : Heap) (locs : List Loc) (ls : Array Slot), X5_thereOf_L1 I x1 K1 n2 x2_2 x3_2 = some r → mG D cy ad I L H → va_S (gA 18 ad) s.heap H locs → lv_has ls 4 [(0, .ref (ad 0)), (1, .int x1), (2, .int x2_2), (3, .int x3_2)] → W p l e rm_X5_thereOf s m args below meth c H locs 0 0 Q (F0 m 4 ls []) := by
    intro K1 hkK1 n2
    induction n2 with
    | zero =>
      intro x2_2 x3_2 H locs ls h
      exact ono h
    | succ n2 ihn2 =>
      intro x2_2 x3_2 H locs ls h hG hS hl
      rw [X5_thereOf_L1] at h
      refine lv_iload_n hx hb dX5_thereOf_4 rfl (lv_at hl 3 rfl) ?_
      refine lv_bipush (v := (6 : Int32)) hx hb dX5_thereOf_5 (by decide) ?_
      refine lv_icmp_ge (tgt := 97) hx hb dX5_thereOf_7 (by decide) (fun c3 => ?_) (fun c3 => ?_)
      · have h := ite_t h c3
        exact hkK1 x2_2 _ _ _ h hG hS (lv_sub hl [2] rfl)
      · have h := ite_f h c3
        refine lv_iload_n hx hb dX5_thereOf_10 rfl (lv_at hl 2 rfl) ?_
        refine lv_iload_n hx hb dX5_thereOf_11 rfl (lv_at hl 1 rfl) ?_
        refine lv_bipush (v := (10 : Int32)) hx hb dX5_thereOf_12 (by decide) ?_
        obtain ⟨q4, h9, h⟩ := obind h
        have hk_q4 : ∀ (H : Heap) (locs : List Loc) (ls : Array Slot), mG D cy ad I L H → va_S (gA 18 ad) s.heap H locs → lv_has ls 4 [(0, .ref (ad 0)), (1, .int x1), (3, .int x3_2)] → W p l e rm_X5_thereOf s m args below meth c H locs 0 0 Q (F0 m 89 ls [.int q4, .int x2_2]) := by
          intro H locs ls hG hS hl
          refine lv_iadd hx hb dX5_thereOf_89 ?_
          refine lv_istore_n (lv' := [(2, .int (x2_2 + q4)), (0, .ref (ad 0)), (1, .int x1), (3, .int x3_2)]) hx hb dX5_thereOf_90 rfl hl (by decide) rfl (fun ls hl => ?_)
          refine lv_iinc (v := (x3_2 + (1 : Int32))) (lv' := [(3, .int (x3_2 + (1 : Int32))), (2, .int (x2_2 + q4)), (0, .ref (ad 0)), (1, .int x1)]) hx hb dX5_thereOf_91 hl (k := 3) rfl rfl (by decide) rfl (fun ls hl => ?_)
          refine lv_goto (tgt := 4) hx hb dX5_thereOf_94 (by decide) ?_
          exact ihn2 (x2_2 + q4) (x3_2 + (1 : Int32)) _ _ _ h hG hS (lv_sub hl [2, 3, 1, 0] rfl)
        clear h
        have h := h9
        clear h9
        refine lv_icmp_ne (tgt := 34) hx hb dX5_thereOf_14 (by decide) (fun c5 => ?_) (fun c5 => ?_)
        · have h := ite_f h c5
          refine lv_iload_n hx hb dX5_thereOf_34 rfl (lv_at hl 1 rfl) ?_
          refine lv_bipush (v := (11 : Int32)) hx hb dX5_thereOf_35 (by decide) ?_
          refine lv_icmp_ne (tgt := 62) hx hb dX5_thereOf_37 (by decide) (fun c6 => ?_) (fun c6 => ?_)
          · have h := ite_f h c6
            refine lv_iload_n hx hb dX5_thereOf_62 rfl (lv_at hl 3 rfl) ?_
            refine lv_iconst (v := (3 : Int32)) hx hb dX5_thereOf_63 (by decide) ?_
            refine lv_icmp_ge (tgt := 88) hx hb dX5_thereOf_64 (by decide) (fun c7 => ?_) (fun c7 => ?_)
            · have h := ite_t h c7
              refine lv_iconst (v := (0 : Int32)) hx hb dX5_thereOf_88 (by decide) ?_
              have h := Option.some.inj h
              subst h
              exact hk_q4 _ _ _ hG hS (lv_sub hl [0, 1, 3] rfl)
            · have h := ite_f h c7
              refine lv_aload_n hx hb dX5_thereOf_67 rfl (lv_at hl 0 rfl) ?_
              refine g_get hx hb l5 hown hK hG (k := 0) (by decide) (mE_5 _ _) vwCl_5 0 (by decide) k1 (fun _ h9 => h9) rfl dX5_thereOf_68 ?_
              refine lv_sipush (v := (165 : Int32)) hx hb dX5_thereOf_71 (by decide) ?_
              refine lv_iconst (v := (1 : Int32)) hx hb dX5_thereOf_74 (by decide) ?_
              refine lv_iload_n hx hb dX5_thereOf_75 rfl (lv_at hl 3 rfl) ?_
              refine lv_iadd hx hb dX5_thereOf_76 ?_
              refine lv_imul hx hb dX5_thereOf_77 ?_
              refine lv_iconst (v := (0 : Int32)) hx hb dX5_thereOf_78 (by decide) ?_
              refine lv_iadd hx hb dX5_thereOf_79 ?_
              refine g_ald hx hb hK hG (k := 1) (n := 660) (show mIA 1 660 from by decide +kernel).1.1 (mIA_e (show mIA 1 660 from by decide +kernel) _ _) 0 rfl h dX5_thereOf_80 (fun v8 h => ?_)
              refine lv_if_lt (tgt := 88) hx hb dX5_thereOf_81 (by decide) (fun c9 => ?_) (fun c9 => ?_)
              · have h := ite_t h c9
                refine lv_iconst (v := (0 : Int32)) hx hb dX5_thereOf_88 (by decide) ?_
                have h := Option.some.inj h
                subst h
                exact hk_q4 _ _ _ hG hS (lv_sub hl [0, 1, 3] rfl)
              · have h := ite_f h c9
                refine lv_iconst (v := (1 : Int32)) hx hb dX5_thereOf_84 (by decide) ?_
                refine lv_goto (tgt := 89) hx hb dX5_thereOf_85 (by decide) ?_
                have h := Option.some.inj h
                subst h
                exact hk_q4 _ _ _ hG hS (lv_sub hl [0, 1, 3] rfl)
          · have h := ite_t h c6
            refine lv_iload_n hx hb dX5_thereOf_40 rfl (lv_at hl 3 rfl) ?_
            refine lv_iconst (v := (4 : Int32)) hx hb dX5_thereOf_41 (by decide) ?_
            refine lv_icmp_ge (tgt := 58) hx hb dX5_thereOf_42 (by decide) (fun c10 => ?_) (fun c10 => ?_)
            · have h := ite_t h c10
              refine lv_iconst (v := (0 : Int32)) hx hb dX5_thereOf_58 (by decide) ?_
              refine lv_goto (tgt := 89) hx hb dX5_thereOf_59 (by decide) ?_
              have h := Option.some.inj h
              subst h
              exact hk_q4 _ _ _ hG hS (lv_sub hl [0, 1, 3] rfl)
            · have h := ite_f h c10
              refine lv_aload_n hx hb dX5_thereOf_45 rfl (lv_at hl 0 rfl) ?_
              refine g_get hx hb l5 hown hK hG (k := 0) (by decide) (mE_5 _ _) vwCl_5 9 (by decide) k2 (fun _ h9 => h9) rfl dX5_thereOf_46 ?_
              refine lv_iload_n hx hb dX5_thereOf_49 rfl (lv_at hl 3 rfl) ?_
              refine g_ald hx hb hK hG (k := 7) (n := 4) (show mIA 7 4 from by decide +kernel).1.1 (mIA_e (show mIA 7 4 from by decide +kernel) _ _) 0 rfl h dX5_thereOf_50 (fun v11 h => ?_)
              refine lv_if_lt (tgt := 58) hx hb dX5_thereOf_51 (by decide) (fun c12 => ?_) (fun c12 => ?_)
              · have h := ite_t h c12
                refine lv_iconst (v := (0 : Int32)) hx hb dX5_thereOf_58 (by decide) ?_
                refine lv_goto (tgt := 89) hx hb dX5_thereOf_59 (by decide) ?_
                have h := Option.some.inj h
                subst h
                exact hk_q4 _ _ _ hG hS (lv_sub hl [0, 1, 3] rfl)
              · have h := ite_f h c12
                refine lv_iconst (v := (1 : Int32)) hx hb dX5_thereOf_54 (by decide) ?_
                refine lv_goto (tgt := 89) hx hb dX5_thereOf_55 (by decide) ?_
                have h := Option.some.inj h
                subst h
                exact hk_q4 _ _ _ hG hS (lv_sub hl [0, 1, 3] rfl)
        · have h := ite_t h c5
          refine lv_aload_n hx hb dX5_thereOf_17 rfl (lv_at hl 0 rfl) ?_
          refine g_get hx hb l5 hown hK hG (k := 0) (by decide) (mE_5 _ _) vwCl_5 7 (by decide) k3 (fun _ h9 => h9) rfl dX5_thereOf_18 ?_
          refine lv_iload_n hx hb dX5_thereOf_21 rfl (lv_at hl 3 rfl) ?_
          refine g_ald hx hb hK hG (k := 5) (n := 6) (show mIA 5 6 from by decide +kernel).1.1 (mIA_e (show mIA 5 6 from by decide +kernel) _ _) 0 rfl h dX5_thereOf_22 (fun v13 h => ?_)
          refine lv_if_ge (tgt := 30) hx hb dX5_thereOf_23 (by decide) (fun c14 => ?_) (fun c14 => ?_)
          · have h := ite_t h c14
            refine lv_iconst (v := (1 : Int32)) hx hb dX5_thereOf_30 (by decide) ?_
            refine lv_goto (tgt := 89) hx hb dX5_thereOf_31 (by decide) ?_
            have h := Option.some.inj h
            subst h
            exact hk_q4 _ _ _ hG hS (lv_sub hl [0, 1, 3] rfl)
          · have h := ite_f h c14
            refine lv_iconst (v := (0 : Int32)) hx hb dX5_thereOf_26 (by decide) ?_
            refine lv_goto (tgt := 89) hx hb dX5_thereOf_27 (by decide) ?_
            have h := Option.some.inj h
            subst h
            exact hk_q4 _ _ _ hG hS (lv_sub hl [0, 1, 3] rfl)
  refine keyK1 _ (fun z2_2 H locs ls h hG hS hl => ?_) bigF (0 : Int32) (0 : Int32) _ _ _ h hG hS (lv_sub hl [2, 3, 1, 0] rfl)
  clear keyK1
  refine lv_iload_n hx hb dX5_thereOf_97 rfl (lv_at hl 0 rfl) ?_
  have h := Option.some.inj h
  subst h
  subst hQ
  exact g_iret hx hb hr hlocks mZm hK hZ hG hS rfl dX5_thereOf_98
def X5_countOf (I : xMem) (x1 : Int32) : Option (Int32) := if x1 = (0 : Int32) then (some (I 0 4)) else (if x1 = (1 : Int32) then (some (I 0 2)) else (if x1 = (2 : Int32) then ((rdI I 1 660 (0 : Int32)).bind fun v4 => some v4) else (if x1 = (3 : Int32) then ((rdI I 1 660 (1 : Int32)).bind fun v6 => some v6) else (if x1 = (4 : Int32) then ((rdI I 1 660 (2 : Int32)).bind fun v8 => some v8) else (if x1 = (5 : Int32) then ((rdI I 1 660 (3 : Int32)).bind fun v10 => some v10) else (if x1 = (6 : Int32) then (some (I 0 1)) else (if x1 = (7 : Int32) then ((rdI I 1 660 (4 : Int32)).bind fun v13 => some v13) else (if x1 = (8 : Int32) then ((X5_those I (2 : Int32)).bind fun v15 => some v15) else (if x1 = (9 : Int32) then ((X5_those I (3 : Int32)).bind fun v17 => some v17) else ((X5_thereOf I x1).bind fun v18 => some v18))))))))))
abbrev rm_X5_countOf : Room := { frames := 2, cells := 0, slots := 0, locals := 46 }
theorem cd_X5_countOf : yX5_countOf.cls = RX5 ∧ yX5_countOf.cls ≠ "java/lang/invoke/MethodHandle" ∧ yX5_countOf.cls ≠ "java/lang/invoke/VarHandle" ∧ (parseMethodDescriptor yX5_countOf.desc).map (fun d => d.parameters.length) = some 1 := by decide +kernel
set_option maxHeartbeats 4000000 in
set_option maxRecDepth 100000 in
theorem k_X5_countOf (l : Launch) (D : va_G) (cy : Nat → ClassId) (ad : Nat → Nat) (hi : gInj 18 ad) (I : xMem) (L : xLon) (x1 : Int32) (r : Int32) (h : X5_countOf I x1 = some r) : Met l yX5_countOf wsX5_countOf rm_X5_countOf (va_Pc [.ref (ad 0), .int x1] (mW D cy ad I L)) (mPi D cy ad I L r) 0 0 (gA 18 ad) := by
  refine g_met (own := RX5) (cc := cX5_countOf) (maxL := 2) (ret := (some .int)) (by decide) rfl (Nat.le_of_ble_eq_true rfl) rfl ?_
  intro p e s m args below meth c ls hx hb hml hr hlocks hown hts hG hK hZ hl
  generalize hQ : MQ below _ args s 0 0 _ = Q
  have hl : lv_has ls 2 [(0, .ref (ad 0)), (1, .int x1)] := hl
  have hS : va_S (gA 18 ad) s.heap s.heap [] := va_S.rf
  have l5 : ∀ w ∈ wsX50, w.before args s = true := fun w h => hts w (List.mem_cons_of_mem _ (List.mem_append_right _ h))
  have k1 := hts (.fieldLink RX5 157 "PairStairsModel" "people" "I") (by decide +kernel)
  have k2 := hts (.fieldLink RX5 154 "PairStairsModel" "stoneMany" "I") (by decide +kernel)
  have k3 := hts (.fieldLink RX5 7 "PairStairsModel" "row" "[I") (by decide +kernel)
  have k4 := hts (.fieldLink RX5 151 "PairStairsModel" "limit" "I") (by decide +kernel)
  unfold X5_countOf at h
  refine lv_iload_n hx hb dX5_countOf_0 rfl (lv_at hl 1 rfl) ?_
  by_cases c1 : x1 = (0 : Int32)
  · have h := ite_t h c1
    refine lv_tableIn (tgt := 56) hx hb dX5_countOf_1 (by rw [c1]; decide) (by rw [c1]; decide) (by rw [c1]; rfl) (by decide) ?_
    refine lv_aload_n hx hb dX5_countOf_56 rfl (lv_at hl 0 rfl) ?_
    refine g_get hx hb l5 hown hK hG (k := 0) (by decide) (mE_5 _ _) vwCl_5 4 (by decide) k1 (fun _ h9 => h9) rfl dX5_countOf_57 ?_
    have h := Option.some.inj h
    subst h
    subst hQ
    exact g_iret hx hb hr hlocks mZm hK hZ hG hS rfl dX5_countOf_60
  · have h := ite_f h c1
    by_cases c2 : x1 = (1 : Int32)
    · have h := ite_t h c2
      refine lv_tableIn (tgt := 61) hx hb dX5_countOf_1 (by rw [c2]; decide) (by rw [c2]; decide) (by rw [c2]; rfl) (by decide) ?_
      refine lv_aload_n hx hb dX5_countOf_61 rfl (lv_at hl 0 rfl) ?_
      refine g_get hx hb l5 hown hK hG (k := 0) (by decide) (mE_5 _ _) vwCl_5 2 (by decide) k2 (fun _ h9 => h9) rfl dX5_countOf_62 ?_
      have h := Option.some.inj h
      subst h
      subst hQ
      exact g_iret hx hb hr hlocks mZm hK hZ hG hS rfl dX5_countOf_65
    · have h := ite_f h c2
      by_cases c3 : x1 = (2 : Int32)
      · have h := ite_t h c3
        refine lv_tableIn (tgt := 66) hx hb dX5_countOf_1 (by rw [c3]; decide) (by rw [c3]; decide) (by rw [c3]; rfl) (by decide) ?_
        refine lv_aload_n hx hb dX5_countOf_66 rfl (lv_at hl 0 rfl) ?_
        refine g_get hx hb l5 hown hK hG (k := 0) (by decide) (mE_5 _ _) vwCl_5 0 (by decide) k3 (fun _ h9 => h9) rfl dX5_countOf_67 ?_
        refine lv_iconst (v := (0 : Int32)) hx hb dX5_countOf_70 (by decide) ?_
        refine g_ald hx hb hK hG (k := 1) (n := 660) (show mIA 1 660 from by decide +kernel).1.1 (mIA_e (show mIA 1 660 from by decide +kernel) _ _) 0 rfl h dX5_countOf_71 (fun v4 h => ?_)
        have h := Option.some.inj h
        subst h
        subst hQ
        exact g_iret hx hb hr hlocks mZm hK hZ hG hS rfl dX5_countOf_72
      · have h := ite_f h c3
        by_cases c5 : x1 = (3 : Int32)
        · have h := ite_t h c5
          refine lv_tableIn (tgt := 73) hx hb dX5_countOf_1 (by rw [c5]; decide) (by rw [c5]; decide) (by rw [c5]; rfl) (by decide) ?_
          refine lv_aload_n hx hb dX5_countOf_73 rfl (lv_at hl 0 rfl) ?_
          refine g_get hx hb l5 hown hK hG (k := 0) (by decide) (mE_5 _ _) vwCl_5 0 (by decide) k3 (fun _ h9 => h9) rfl dX5_countOf_74 ?_
          refine lv_iconst (v := (1 : Int32)) hx hb dX5_countOf_77 (by decide) ?_
          refine g_ald hx hb hK hG (k := 1) (n := 660) (show mIA 1 660 from by decide +kernel).1.1 (mIA_e (show mIA 1 660 from by decide +kernel) _ _) 0 rfl h dX5_countOf_78 (fun v6 h => ?_)
          have h := Option.some.inj h
          subst h
          subst hQ
          exact g_iret hx hb hr hlocks mZm hK hZ hG hS rfl dX5_countOf_79
        · have h := ite_f h c5
          by_cases c7 : x1 = (4 : Int32)
          · have h := ite_t h c7
            refine lv_tableIn (tgt := 80) hx hb dX5_countOf_1 (by rw [c7]; decide) (by rw [c7]; decide) (by rw [c7]; rfl) (by decide) ?_
            refine lv_aload_n hx hb dX5_countOf_80 rfl (lv_at hl 0 rfl) ?_
            refine g_get hx hb l5 hown hK hG (k := 0) (by decide) (mE_5 _ _) vwCl_5 0 (by decide) k3 (fun _ h9 => h9) rfl dX5_countOf_81 ?_
            refine lv_iconst (v := (2 : Int32)) hx hb dX5_countOf_84 (by decide) ?_
            refine g_ald hx hb hK hG (k := 1) (n := 660) (show mIA 1 660 from by decide +kernel).1.1 (mIA_e (show mIA 1 660 from by decide +kernel) _ _) 0 rfl h dX5_countOf_85 (fun v8 h => ?_)
            have h := Option.some.inj h
            subst h
            subst hQ
            exact g_iret hx hb hr hlocks mZm hK hZ hG hS rfl dX5_countOf_86
          · have h := ite_f h c7
            by_cases c9 : x1 = (5 : Int32)
            · have h := ite_t h c9
              refine lv_tableIn (tgt := 87) hx hb dX5_countOf_1 (by rw [c9]; decide) (by rw [c9]; decide) (by rw [c9]; rfl) (by decide) ?_
              refine lv_aload_n hx hb dX5_countOf_87 rfl (lv_at hl 0 rfl) ?_
              refine g_get hx hb l5 hown hK hG (k := 0) (by decide) (mE_5 _ _) vwCl_5 0 (by decide) k3 (fun _ h9 => h9) rfl dX5_countOf_88 ?_
              refine lv_iconst (v := (3 : Int32)) hx hb dX5_countOf_91 (by decide) ?_
              refine g_ald hx hb hK hG (k := 1) (n := 660) (show mIA 1 660 from by decide +kernel).1.1 (mIA_e (show mIA 1 660 from by decide +kernel) _ _) 0 rfl h dX5_countOf_92 (fun v10 h => ?_)
              have h := Option.some.inj h
              subst h
              subst hQ
              exact g_iret hx hb hr hlocks mZm hK hZ hG hS rfl dX5_countOf_93
            · have h := ite_f h c9
              by_cases c11 : x1 = (6 : Int32)
              · have h := ite_t h c11
                refine lv_tableIn (tgt := 94) hx hb dX5_countOf_1 (by rw [c11]; decide) (by rw [c11]; decide) (by rw [c11]; rfl) (by decide) ?_
                refine lv_aload_n hx hb dX5_countOf_94 rfl (lv_at hl 0 rfl) ?_
                refine g_get hx hb l5 hown hK hG (k := 0) (by decide) (mE_5 _ _) vwCl_5 1 (by decide) k4 (fun _ h9 => h9) rfl dX5_countOf_95 ?_
                have h := Option.some.inj h
                subst h
                subst hQ
                exact g_iret hx hb hr hlocks mZm hK hZ hG hS rfl dX5_countOf_98
              · have h := ite_f h c11
                by_cases c12 : x1 = (7 : Int32)
                · have h := ite_t h c12
                  refine lv_tableIn (tgt := 99) hx hb dX5_countOf_1 (by rw [c12]; decide) (by rw [c12]; decide) (by rw [c12]; rfl) (by decide) ?_
                  refine lv_aload_n hx hb dX5_countOf_99 rfl (lv_at hl 0 rfl) ?_
                  refine g_get hx hb l5 hown hK hG (k := 0) (by decide) (mE_5 _ _) vwCl_5 0 (by decide) k3 (fun _ h9 => h9) rfl dX5_countOf_100 ?_
                  refine lv_iconst (v := (4 : Int32)) hx hb dX5_countOf_103 (by decide) ?_
                  refine g_ald hx hb hK hG (k := 1) (n := 660) (show mIA 1 660 from by decide +kernel).1.1 (mIA_e (show mIA 1 660 from by decide +kernel) _ _) 0 rfl h dX5_countOf_104 (fun v13 h => ?_)
                  have h := Option.some.inj h
                  subst h
                  subst hQ
                  exact g_iret hx hb hr hlocks mZm hK hZ hG hS rfl dX5_countOf_105
                · have h := ite_f h c12
                  by_cases c14 : x1 = (8 : Int32)
                  · have h := ite_t h c14
                    refine lv_tableIn (tgt := 106) hx hb dX5_countOf_1 (by rw [c14]; decide) (by rw [c14]; decide) (by rw [c14]; rfl) (by decide) ?_
                    refine lv_aload_n hx hb dX5_countOf_106 rfl (lv_at hl 0 rfl) ?_
                    refine lv_iconst (v := (2 : Int32)) hx hb dX5_countOf_107 (by decide) ?_
                    obtain ⟨v15, ev15, h⟩ := obind h
                    refine g_endi (va_runV (As := [.int (2 : Int32)]) (rest := []) ⟨hx, hb, hml, hown, hts⟩ (k_X5_those l D cy ad hi I L (2 : Int32) v15 ev15) (cwV 1 hts gX5_countOf_X5_those rfl rfl rfl cd_X5_those ⟨Nat.le_of_ble_eq_true rfl, Nat.le_of_ble_eq_true rfl⟩) ⟨g_blind mZm, g_recv hK hG (k := 0) (by decide) (mE_5 _ _) vwCl_5, g_pre mZm hK hG hZ hS⟩ rfl rfl hl.1 rfl (lv_room (Nat.le_of_ble_eq_true rfl)) dX5_countOf_108 ⟨Nat.le_refl _, Nat.le_refl _⟩) hS (fun H locs hG hS => ?_)
                    have h := Option.some.inj h
                    subst h
                    subst hQ
                    exact g_iret hx hb hr hlocks mZm hK hZ hG hS rfl dX5_countOf_111
                  · have h := ite_f h c14
                    by_cases c16 : x1 = (9 : Int32)
                    · have h := ite_t h c16
                      refine lv_tableIn (tgt := 112) hx hb dX5_countOf_1 (by rw [c16]; decide) (by rw [c16]; decide) (by rw [c16]; rfl) (by decide) ?_
                      refine lv_aload_n hx hb dX5_countOf_112 rfl (lv_at hl 0 rfl) ?_
                      refine lv_iconst (v := (3 : Int32)) hx hb dX5_countOf_113 (by decide) ?_
                      obtain ⟨v17, ev17, h⟩ := obind h
                      refine g_endi (va_runV (As := [.int (3 : Int32)]) (rest := []) ⟨hx, hb, hml, hown, hts⟩ (k_X5_those l D cy ad hi I L (3 : Int32) v17 ev17) (cwV 1 hts gX5_countOf_X5_those rfl rfl rfl cd_X5_those ⟨Nat.le_of_ble_eq_true rfl, Nat.le_of_ble_eq_true rfl⟩) ⟨g_blind mZm, g_recv hK hG (k := 0) (by decide) (mE_5 _ _) vwCl_5, g_pre mZm hK hG hZ hS⟩ rfl rfl hl.1 rfl (lv_room (Nat.le_of_ble_eq_true rfl)) dX5_countOf_114 ⟨Nat.le_refl _, Nat.le_refl _⟩) hS (fun H locs hG hS => ?_)
                      have h := Option.some.inj h
                      subst h
                      subst hQ
                      exact g_iret hx hb hr hlocks mZm hK hZ hG hS rfl dX5_countOf_117
                    · have h := ite_f h c16
                      refine lv_tableOut (tgt := 118) hx hb dX5_countOf_1 (tsw_out 0 9 (fun k h1 h2 => ?_)) (by decide) ?_
                      · rcases (show k = 0 ∨ k = 1 ∨ k = 2 ∨ k = 3 ∨ k = 4 ∨ k = 5 ∨ k = 6 ∨ k = 7 ∨ k = 8 ∨ k = 9 by omega) with rfl | rfl | rfl | rfl | rfl | rfl | rfl | rfl | rfl | rfl
                        · exact c1
                        · exact c2
                        · exact c3
                        · exact c5
                        · exact c7
                        · exact c9
                        · exact c11
                        · exact c12
                        · exact c14
                        · exact c16
                      · refine lv_aload_n hx hb dX5_countOf_118 rfl (lv_at hl 0 rfl) ?_
                        refine lv_iload_n hx hb dX5_countOf_119 rfl (lv_at hl 1 rfl) ?_
                        obtain ⟨v18, ev18, h⟩ := obind h
                        refine g_endi (va_runV (As := [.int x1]) (rest := []) ⟨hx, hb, hml, hown, hts⟩ (k_X5_thereOf l D cy ad hi I L x1 v18 ev18) (cwV 1 hts gX5_countOf_X5_thereOf rfl rfl rfl cd_X5_thereOf ⟨Nat.le_of_ble_eq_true rfl, Nat.le_of_ble_eq_true rfl⟩) ⟨g_blind mZm, g_recv hK hG (k := 0) (by decide) (mE_5 _ _) vwCl_5, g_pre mZm hK hG hZ hS⟩ rfl rfl hl.1 rfl (lv_room (Nat.le_of_ble_eq_true rfl)) dX5_countOf_120 ⟨Nat.le_refl _, Nat.le_refl _⟩) hS (fun H locs hG hS => ?_)
                        have h := Option.some.inj h
                        subst h
                        subst hQ
                        exact g_iret hx hb hr hlocks mZm hK hZ hG hS rfl dX5_countOf_123
def X5_count (I : xMem) (x1 : Int32) : Option (Int32) := if (X5_in x1.toInt64 (0 : Int64) (12 : Int64)) = (0 : Int32) then (some (-1 : Int32)) else ((X5_countOf I x1).bind fun v2 => some v2)
abbrev rm_X5_count : Room := { frames := 3, cells := 0, slots := 0, locals := 67 }
theorem cd_X5_count : yX5_count.cls = RX5 ∧ yX5_count.cls ≠ "java/lang/invoke/MethodHandle" ∧ yX5_count.cls ≠ "java/lang/invoke/VarHandle" ∧ (parseMethodDescriptor yX5_count.desc).map (fun d => d.parameters.length) = some 1 := by decide +kernel
set_option maxHeartbeats 4000000 in
set_option maxRecDepth 100000 in
theorem k_X5_count (l : Launch) (D : va_G) (cy : Nat → ClassId) (ad : Nat → Nat) (hi : gInj 18 ad) (I : xMem) (L : xLon) (x1 : Int32) (r : Int32) (h : X5_count I x1 = some r) : Met l yX5_count wsX5_count rm_X5_count (va_Pc [.ref (ad 0), .int x1] (mW D cy ad I L)) (mPi D cy ad I L r) 0 0 (gA 18 ad) := by
  refine g_met (own := RX5) (cc := cX5_count) (maxL := 2) (ret := (some .int)) (by decide) rfl (Nat.le_of_ble_eq_true rfl) rfl ?_
  intro p e s m args below meth c ls hx hb hml hr hlocks hown hts hG hK hZ hl
  generalize hQ : MQ below _ args s 0 0 _ = Q
  have hl : lv_has ls 2 [(0, .ref (ad 0)), (1, .int x1)] := hl
  have hS : va_S (gA 18 ad) s.heap s.heap [] := va_S.rf
  have k1 := hts (.constantLong RX5 299 (12)) (by decide +kernel)
  unfold X5_count at h
  refine lv_iload_n hx hb dX5_count_0 rfl (lv_at hl 1 rfl) ?_
  refine lv_i2l hx hb dX5_count_1 rfl ?_
  refine lv_lconst (v := (0 : Int64)) hx hb dX5_count_2 (by decide) ?_
  refine lv_ldc2 (v := (12 : Int64)) hx hb hown k1 dX5_count_3 ?_
  refine g_endi (va_runS (As := [.long x1.toInt64, .long (0 : Int64), .long (12 : Int64)]) (rest := []) ⟨hx, hb, hml, hown, hts⟩ (k_X5_in l D cy ad hi I L x1.toInt64 (0 : Int64) (12 : Int64) _ rfl) (va_cwS 3 hts gX5_count_X5_in rfl rfl rfl cd_X5_in.2 ⟨Nat.le_of_ble_eq_true rfl, Nat.le_of_ble_eq_true rfl⟩) ⟨g_blind mZm, g_pre mZm hK hG hZ hS⟩ rfl rfl hl.1 rfl (lv_room (Nat.le_of_ble_eq_true rfl)) dX5_count_6 ⟨Nat.le_refl _, Nat.le_refl _⟩) hS (fun H locs hG hS => ?_)
  refine lv_if_eq (tgt := 20) hx hb dX5_count_9 (by decide) (fun c1 => ?_) (fun c1 => ?_)
  · have h := ite_t h c1
    refine lv_iconst (v := (-1 : Int32)) hx hb dX5_count_20 (by decide) ?_
    have h := Option.some.inj h
    subst h
    subst hQ
    exact g_iret hx hb hr hlocks mZm hK hZ hG hS rfl dX5_count_21
  · have h := ite_f h c1
    refine lv_aload_n hx hb dX5_count_12 rfl (lv_at hl 0 rfl) ?_
    refine lv_iload_n hx hb dX5_count_13 rfl (lv_at hl 1 rfl) ?_
    obtain ⟨v2, ev2, h⟩ := obind h
    refine g_endi (va_runV (As := [.int x1]) (rest := []) ⟨hx, hb, hml, hown, hts⟩ (k_X5_countOf l D cy ad hi I L x1 v2 ev2) (cwV 1 hts gX5_count_X5_countOf rfl rfl rfl cd_X5_countOf ⟨Nat.le_of_ble_eq_true rfl, Nat.le_of_ble_eq_true rfl⟩) ⟨g_blind mZm, g_recv hK hG (k := 0) (by decide) (mE_5 _ _) vwCl_5, g_pre mZm hK hG hZ hS⟩ rfl rfl hl.1 rfl (lv_room (Nat.le_of_ble_eq_true rfl)) dX5_count_14 ⟨Nat.le_refl _, Nat.le_refl _⟩) hS (fun H locs hG hS => ?_)
    refine lv_goto (tgt := 21) hx hb dX5_count_17 (by decide) ?_
    have h := Option.some.inj h
    subst h
    subst hQ
    exact g_iret hx hb hr hlocks mZm hK hZ hG hS rfl dX5_count_21
def X5_finding (I : xMem) : Int32 := (I 0 14)
abbrev rm_X5_finding : Room := { frames := 0, cells := 0, slots := 0, locals := 0 }
theorem cd_X5_finding : yX5_finding.cls = RX5 ∧ yX5_finding.cls ≠ "java/lang/invoke/MethodHandle" ∧ yX5_finding.cls ≠ "java/lang/invoke/VarHandle" ∧ (parseMethodDescriptor yX5_finding.desc).map (fun d => d.parameters.length) = some 0 := by decide +kernel
set_option maxHeartbeats 4000000 in
set_option maxRecDepth 100000 in
theorem k_X5_finding (l : Launch) (D : va_G) (cy : Nat → ClassId) (ad : Nat → Nat) (hi : gInj 18 ad) (I : xMem) (L : xLon)  (r : Int32) (h : X5_finding I = r) : Met l yX5_finding wsX5_finding rm_X5_finding (va_Pc [.ref (ad 0)] (mW D cy ad I L)) (mPi D cy ad I L r) 0 0 (gA 18 ad) := by
  refine g_met (own := RX5) (cc := cX5_finding) (maxL := 1) (ret := (some .int)) (by decide) rfl (Nat.le_of_ble_eq_true rfl) rfl ?_
  intro p e s m args below meth c ls hx hb hml hr hlocks hown hts hG hK hZ hl
  generalize hQ : MQ below _ args s 0 0 _ = Q
  have hl : lv_has ls 1 [(0, .ref (ad 0))] := hl
  have hS : va_S (gA 18 ad) s.heap s.heap [] := va_S.rf
  have l5 : ∀ w ∈ wsX50, w.before args s = true := fun w h => hts w (List.mem_cons_of_mem _ (List.mem_append_right _ h))
  have k1 := hts (.fieldLink RX5 66 "PairStairsModel" "finding" "I") (by decide +kernel)
  unfold X5_finding at h
  refine lv_aload_n hx hb dX5_finding_0 rfl (lv_at hl 0 rfl) ?_
  refine g_get hx hb l5 hown hK hG (k := 0) (by decide) (mE_5 _ _) vwCl_5 14 (by decide) k1 (fun _ h9 => h9) rfl dX5_finding_1 ?_
  subst h
  subst hQ
  exact g_iret hx hb hr hlocks mZm hK hZ hG hS rfl dX5_finding_4
def X5_findings (I : xMem) (x1 : Int32) : Option (Int32) := if (X5_in x1.toInt64 (1 : Int64) (5 : Int64)) = (0 : Int32) then (some (-1 : Int32)) else ((rdI I 9 6 x1).bind fun v2 => some v2)
abbrev rm_X5_findings : Room := { frames := 1, cells := 0, slots := 0, locals := 25 }
theorem cd_X5_findings : yX5_findings.cls = RX5 ∧ yX5_findings.cls ≠ "java/lang/invoke/MethodHandle" ∧ yX5_findings.cls ≠ "java/lang/invoke/VarHandle" ∧ (parseMethodDescriptor yX5_findings.desc).map (fun d => d.parameters.length) = some 1 := by decide +kernel
set_option maxHeartbeats 4000000 in
set_option maxRecDepth 100000 in
theorem k_X5_findings (l : Launch) (D : va_G) (cy : Nat → ClassId) (ad : Nat → Nat) (hi : gInj 18 ad) (I : xMem) (L : xLon) (x1 : Int32) (r : Int32) (h : X5_findings I x1 = some r) : Met l yX5_findings wsX5_findings rm_X5_findings (va_Pc [.ref (ad 0), .int x1] (mW D cy ad I L)) (mPi D cy ad I L r) 0 0 (gA 18 ad) := by
  refine g_met (own := RX5) (cc := cX5_findings) (maxL := 2) (ret := (some .int)) (by decide) rfl (Nat.le_of_ble_eq_true rfl) rfl ?_
  intro p e s m args below meth c ls hx hb hml hr hlocks hown hts hG hK hZ hl
  generalize hQ : MQ below _ args s 0 0 _ = Q
  have hl : lv_has ls 2 [(0, .ref (ad 0)), (1, .int x1)] := hl
  have hS : va_S (gA 18 ad) s.heap s.heap [] := va_S.rf
  have l5 : ∀ w ∈ wsX50, w.before args s = true := fun w h => hts w (List.mem_cons_of_mem _ (List.mem_append_right _ h))
  have k1 := hts (.constantLong RX5 73 (5)) (by decide +kernel)
  have k2 := hts (.fieldLink RX5 38 "PairStairsModel" "findings" "[I") (by decide +kernel)
  unfold X5_findings at h
  refine lv_iload_n hx hb dX5_findings_0 rfl (lv_at hl 1 rfl) ?_
  refine lv_i2l hx hb dX5_findings_1 rfl ?_
  refine lv_lconst (v := (1 : Int64)) hx hb dX5_findings_2 (by decide) ?_
  refine lv_ldc2 (v := (5 : Int64)) hx hb hown k1 dX5_findings_3 ?_
  refine g_endi (va_runS (As := [.long x1.toInt64, .long (1 : Int64), .long (5 : Int64)]) (rest := []) ⟨hx, hb, hml, hown, hts⟩ (k_X5_in l D cy ad hi I L x1.toInt64 (1 : Int64) (5 : Int64) _ rfl) (va_cwS 3 hts gX5_findings_X5_in rfl rfl rfl cd_X5_in.2 ⟨Nat.le_of_ble_eq_true rfl, Nat.le_of_ble_eq_true rfl⟩) ⟨g_blind mZm, g_pre mZm hK hG hZ hS⟩ rfl rfl hl.1 rfl (lv_room (Nat.le_of_ble_eq_true rfl)) dX5_findings_6 ⟨Nat.le_refl _, Nat.le_refl _⟩) hS (fun H locs hG hS => ?_)
  refine lv_if_eq (tgt := 21) hx hb dX5_findings_9 (by decide) (fun c1 => ?_) (fun c1 => ?_)
  · have h := ite_t h c1
    refine lv_iconst (v := (-1 : Int32)) hx hb dX5_findings_21 (by decide) ?_
    have h := Option.some.inj h
    subst h
    subst hQ
    exact g_iret hx hb hr hlocks mZm hK hZ hG hS rfl dX5_findings_22
  · have h := ite_f h c1
    refine lv_aload_n hx hb dX5_findings_12 rfl (lv_at hl 0 rfl) ?_
    refine g_get hx hb l5 hown hK hG (k := 0) (by decide) (mE_5 _ _) vwCl_5 15 (by decide) k2 (fun _ h9 => h9) rfl dX5_findings_13 ?_
    refine lv_iload_n hx hb dX5_findings_16 rfl (lv_at hl 1 rfl) ?_
    refine g_ald hx hb hK hG (k := 9) (n := 6) (show mIA 9 6 from by decide +kernel).1.1 (mIA_e (show mIA 9 6 from by decide +kernel) _ _) 0 rfl h dX5_findings_17 (fun v2 h => ?_)
    refine lv_goto (tgt := 22) hx hb dX5_findings_18 (by decide) ?_
    have h := Option.some.inj h
    subst h
    subst hQ
    exact g_iret hx hb hr hlocks mZm hK hZ hG hS rfl dX5_findings_22
def X5_digest_L1 (I : xMem) (K1 : Int64 → Option (Int64 × xMem)) : Nat → Int64 → Int32 → Option (Int64 × xMem)
  | 0, _, _ => none
  | n2 + 1, x1_2, x3_2 => if (13 : Int32) ≤ x3_2 then (K1 x1_2) else ((X5_countOf I x3_2).bind fun v4 => X5_digest_L1 I K1 n2 (((31 : Int64) * x1_2) + v4.toInt64) (x3_2 + (1 : Int32)))
def X5_digest_L2 (I : xMem) (K5 : Int64 → Option (Int64 × xMem)) : Nat → Int64 → Int32 → Option (Int64 × xMem)
  | 0, _, _ => none
  | n6 + 1, x1_6, x3_6 => if (I 0 2) ≤ x3_6 then (K5 x1_6) else ((rdI I 2 4 x3_6).bind fun v8 => X5_digest_L2 I K5 n6 (((31 : Int64) * x1_6) + v8.toInt64) (x3_6 + (1 : Int32)))
def X5_digest_L3 (K9 : Int64 → xMem → Option (Int64 × xMem)) : Nat → Int64 → Int32 → xMem → Option (Int64 × xMem)
  | 0, _, _, _ => none
  | n10 + 1, x1_10, x3_10, I11 => if ((5 : Int32) * (I11 0 4)) ≤ x3_10 then (K9 x1_10 I11) else ((X5_toldOf I11 (x3_10 / (5 : Int32)) (x3_10 - x3_10 / (5 : Int32) * (5 : Int32))).bind fun q14 => X5_digest_L3 K9 n10 (((31 : Int64) * x1_10) + q14.1.toInt64) (x3_10 + (1 : Int32)) q14.2)
def X5_digest_L4 (I12 : xMem) (K15 : Int64 → Option (Int64 × xMem)) : Nat → Int64 → Int32 → Option (Int64 × xMem)
  | 0, _, _ => none
  | n16 + 1, x1_16, x3_16 => if (4 : Int32) ≤ x3_16 then (K15 x1_16) else ((rdI I12 1 660 (((165 : Int32) * x3_16) + (0 : Int32))).bind fun v18 => X5_digest_L4 I12 K15 n16 (((31 : Int64) * x1_16) + v18.toInt64) (x3_16 + (1 : Int32)))
def X5_digest_L6 (I12 : xMem) (x3_20 : Int32) (K23 : Int64 → Option (Int64 × xMem)) : Nat → Int64 → Int32 → Option (Int64 × xMem)
  | 0, _, _ => none
  | n24 + 1, x1_24, x4_24 => (rdI I12 5 6 x3_20).bind fun v25 => if v25 ≤ x4_24 then (K23 x1_24) else ((rdI I12 6 240 (((40 : Int32) * x3_20) + x4_24)).bind fun v27 => X5_digest_L6 I12 x3_20 K23 n24 (((31 : Int64) * x1_24) + v27.toInt64) (x4_24 + (1 : Int32)))
def X5_digest_L5 (I12 : xMem) (K19 : Int64 → Option (Int64 × xMem)) : Nat → Int64 → Int32 → Option (Int64 × xMem)
  | 0, _, _ => none
  | n20 + 1, x1_20, x3_20 => if (6 : Int32) ≤ x3_20 then (K19 x1_20) else ((rdI I12 5 6 x3_20).bind fun v22 => X5_digest_L6 I12 x3_20 (fun (z1_24 : Int64) => X5_digest_L5 I12 K19 n20 z1_24 (x3_20 + (1 : Int32))) bigF (((31 : Int64) * x1_20) + v22.toInt64) (0 : Int32))
def X5_digest_L8 (I12 : xMem) (x3_29 : Int32) (K32 : Int64 → Option (Int64 × xMem)) : Nat → Int64 → Int32 → Option (Int64 × xMem)
  | 0, _, _ => none
  | n33 + 1, x1_33, x4_33 => (rdI I12 7 4 x3_29).bind fun v34 => if v34 ≤ x4_33 then (K32 x1_33) else ((rdI I12 8 240 (((60 : Int32) * x3_29) + x4_33)).bind fun v36 => X5_digest_L8 I12 x3_29 K32 n33 (((31 : Int64) * x1_33) + v36.toInt64) (x4_33 + (1 : Int32)))
def X5_digest_L7 (I12 : xMem) (K28 : Int64 → Option (Int64 × xMem)) : Nat → Int64 → Int32 → Option (Int64 × xMem)
  | 0, _, _ => none
  | n29 + 1, x1_29, x3_29 => if (4 : Int32) ≤ x3_29 then (K28 x1_29) else ((rdI I12 7 4 x3_29).bind fun v31 => X5_digest_L8 I12 x3_29 (fun (z1_33 : Int64) => X5_digest_L7 I12 K28 n29 z1_33 (x3_29 + (1 : Int32))) bigF (((31 : Int64) * x1_29) + v31.toInt64) (0 : Int32))
def X5_digest (I : xMem) : Option (Int64 × xMem) := X5_digest_L1 I (fun (z1_2 : Int64) => X5_digest_L2 I (fun (z1_6 : Int64) => X5_digest_L3 (fun (z1_11 : Int64) (I12 : xMem) => X5_digest_L4 I12 (fun (z1_16 : Int64) => X5_digest_L5 I12 (fun (z1_20 : Int64) => X5_digest_L7 I12 (fun (z1_29 : Int64) => some (z1_29, I12)) bigF z1_20 (0 : Int32)) bigF z1_16 (0 : Int32)) bigF z1_11 (1 : Int32)) bigF z1_6 (0 : Int32) I) bigF z1_2 (0 : Int32)) bigF (17 : Int64) (0 : Int32)
abbrev rm_X5_digest : Room := { frames := 6, cells := 0, slots := 0, locals := 145 }
theorem cd_X5_digest : yX5_digest.cls = RX5 ∧ yX5_digest.cls ≠ "java/lang/invoke/MethodHandle" ∧ yX5_digest.cls ≠ "java/lang/invoke/VarHandle" ∧ (parseMethodDescriptor yX5_digest.desc).map (fun d => d.parameters.length) = some 0 := by decide +kernel
set_option maxHeartbeats 4000000 in
set_option maxRecDepth 100000 in
theorem k_X5_digest (l : Launch) (D : va_G) (cy : Nat → ClassId) (ad : Nat → Nat) (hi : gInj 18 ad) (I : xMem) (L : xLon)  (r : Int64 × xMem) (h : X5_digest I = some r) : Met l yX5_digest wsX5_digest rm_X5_digest (va_Pc [.ref (ad 0)] (mW D cy ad I L)) (mPl D cy ad r.2 L r.1) 0 0 (gA 18 ad) := by
  refine g_met (own := RX5) (cc := cX5_digest) (maxL := 5) (ret := (some .long)) (by decide) rfl (Nat.le_of_ble_eq_true rfl) rfl ?_
  intro p e s m args below meth c ls hx hb hml hr hlocks hown hts hG hK hZ hl
  generalize hQ : MQ below _ args s 0 0 _ = Q
  have hl : lv_has ls 5 [(0, .ref (ad 0))] := hl
  have hS : va_S (gA 18 ad) s.heap s.heap [] := va_S.rf
  have l5 : ∀ w ∈ wsX50, w.before args s = true := fun w h => hts w (List.mem_cons_of_mem _ (List.mem_append_right _ h))
  have k1 := hts (.constantLong RX5 330 (17)) (by decide +kernel)
  have k2 := hts (.constantLong RX5 332 (31)) (by decide +kernel)
  have k3 := hts (.fieldLink RX5 154 "PairStairsModel" "stoneMany" "I") (by decide +kernel)
  have k4 := hts (.fieldLink RX5 13 "PairStairsModel" "stones" "[I") (by decide +kernel)
  have k5 := hts (.fieldLink RX5 157 "PairStairsModel" "people" "I") (by decide +kernel)
  have k6 := hts (.fieldLink RX5 7 "PairStairsModel" "row" "[I") (by decide +kernel)
  have k7 := hts (.fieldLink RX5 22 "PairStairsModel" "sizes" "[I") (by decide +kernel)
  have k8 := hts (.fieldLink RX5 25 "PairStairsModel" "items" "[I") (by decide +kernel)
  have k9 := hts (.fieldLink RX5 28 "PairStairsModel" "lengths" "[I") (by decide +kernel)
  have k10 := hts (.fieldLink RX5 31 "PairStairsModel" "bytes" "[I") (by decide +kernel)
  unfold X5_digest at h
  refine lv_ldc2 (v := (17 : Int64)) hx hb hown k1 dX5_digest_0 ?_
  refine lv_lstore_n (lv' := [(1, .long (17 : Int64)), (0, .ref (ad 0))]) hx hb dX5_digest_3 rfl hl (by decide) rfl (fun ls hl => ?_)
  refine lv_iconst (v := (0 : Int32)) hx hb dX5_digest_4 (by decide) ?_
  refine lv_istore_n (lv' := [(3, .int (0 : Int32)), (1, .long (17 : Int64)), (0, .ref (ad 0))]) hx hb dX5_digest_5 rfl hl (by decide) rfl (fun ls hl => ?_)
  have keyK1 : ∀ (K1 : Int64 → Option (Int64 × xMem)), (∀ (z1_2 : Int64) (H : Heap) (locs : List Loc) (ls : Array Slot), K1 z1_2 = some r → mG D cy ad I L H → va_S (gA 18 ad) s.heap H locs → lv_has ls 5 [(0, .ref (ad 0)), (1, .long z1_2)] → W p l e rm_X5_digest s m args below meth c H locs 0 0 Q (F0 m 31 ls [])) → ∀ (n2 : Nat) (x1_2 : Int64) (x3_2 : Int32) (H : Heap) (locs : List Loc) (ls : Array Slot), X5_digest_L1 I K1 n2 x1_2 x3_2 = some r → mG D cy ad I L H → va_S (gA 18 ad) s.heap H locs → lv_has ls 5 [(0, .ref (ad 0)), (1, .long x1_2), (3, .int x3_2)] → W p l e rm_X5_digest s m args below meth c H locs 0 0 Q (F0 m 6 ls []) := by
    intro K1 hkK1 n2
    induction n2 with
    | zero =>
      intro x1_2 x3_2 H locs ls h
      exact ono h
    | succ n2 ihn2 =>
      intro x1_2 x3_2 H locs ls h hG hS hl
      rw [X5_digest_L1] at h
      refine lv_iload_n hx hb dX5_digest_6 rfl (lv_at hl 2 rfl) ?_
      refine lv_bipush (v := (13 : Int32)) hx hb dX5_digest_7 (by decide) ?_
      refine lv_icmp_ge (tgt := 31) hx hb dX5_digest_9 (by decide) (fun c3 => ?_) (fun c3 => ?_)
      · have h := ite_t h c3
        exact hkK1 x1_2 _ _ _ h hG hS (lv_sub hl [0, 1] rfl)
      · have h := ite_f h c3
        refine lv_ldc2 (v := (31 : Int64)) hx hb hown k2 dX5_digest_12 ?_
        refine lv_lload_n hx hb dX5_digest_15 rfl (lv_at hl 1 rfl) ?_
        refine lv_lmul hx hb dX5_digest_16 ?_
        refine lv_aload_n hx hb dX5_digest_17 rfl (lv_at hl 0 rfl) ?_
        refine lv_iload_n hx hb dX5_digest_18 rfl (lv_at hl 2 rfl) ?_
        obtain ⟨v4, ev4, h⟩ := obind h
        refine g_endi (va_runV (As := [.int x3_2]) (rest := [.long ((31 : Int64) * x1_2)]) ⟨hx, hb, hml, hown, hts⟩ (k_X5_countOf l D cy ad hi I L x3_2 v4 ev4) (cwV 1 hts gX5_digest_X5_countOf rfl rfl rfl cd_X5_countOf ⟨Nat.le_of_ble_eq_true rfl, Nat.le_of_ble_eq_true rfl⟩) ⟨g_blind mZm, g_recv hK hG (k := 0) (by decide) (mE_5 _ _) vwCl_5, g_pre mZm hK hG hZ hS⟩ rfl rfl hl.1 rfl (lv_room (Nat.le_of_ble_eq_true rfl)) dX5_digest_19 ⟨Nat.le_refl _, Nat.le_refl _⟩) hS (fun H locs hG hS => ?_)
        refine lv_i2l hx hb dX5_digest_22 rfl ?_
        refine lv_ladd hx hb dX5_digest_23 ?_
        refine lv_lstore_n (lv' := [(1, .long (((31 : Int64) * x1_2) + v4.toInt64)), (0, .ref (ad 0)), (3, .int x3_2)]) hx hb dX5_digest_24 rfl hl (by decide) rfl (fun ls hl => ?_)
        refine lv_iinc (v := (x3_2 + (1 : Int32))) (lv' := [(3, .int (x3_2 + (1 : Int32))), (1, .long (((31 : Int64) * x1_2) + v4.toInt64)), (0, .ref (ad 0))]) hx hb dX5_digest_25 hl (k := 2) rfl rfl (by decide) rfl (fun ls hl => ?_)
        refine lv_goto (tgt := 6) hx hb dX5_digest_28 (by decide) ?_
        exact ihn2 (((31 : Int64) * x1_2) + v4.toInt64) (x3_2 + (1 : Int32)) _ _ _ h hG hS (lv_sub hl [2, 1, 0] rfl)
  refine keyK1 _ (fun z1_2 H locs ls h hG hS hl => ?_) bigF (17 : Int64) (0 : Int32) _ _ _ h hG hS (lv_sub hl [2, 1, 0] rfl)
  clear keyK1
  refine lv_iconst (v := (0 : Int32)) hx hb dX5_digest_31 (by decide) ?_
  refine lv_istore_n (lv' := [(3, .int (0 : Int32)), (0, .ref (ad 0)), (1, .long z1_2)]) hx hb dX5_digest_32 rfl hl (by decide) rfl (fun ls hl => ?_)
  have keyK5 : ∀ (K5 : Int64 → Option (Int64 × xMem)), (∀ (z1_6 : Int64) (H : Heap) (locs : List Loc) (ls : Array Slot), K5 z1_6 = some r → mG D cy ad I L H → va_S (gA 18 ad) s.heap H locs → lv_has ls 5 [(0, .ref (ad 0)), (1, .long z1_6)] → W p l e rm_X5_digest s m args below meth c H locs 0 0 Q (F0 m 61 ls [])) → ∀ (n6 : Nat) (x1_6 : Int64) (x3_6 : Int32) (H : Heap) (locs : List Loc) (ls : Array Slot), X5_digest_L2 I K5 n6 x1_6 x3_6 = some r → mG D cy ad I L H → va_S (gA 18 ad) s.heap H locs → lv_has ls 5 [(0, .ref (ad 0)), (1, .long x1_6), (3, .int x3_6)] → W p l e rm_X5_digest s m args below meth c H locs 0 0 Q (F0 m 33 ls []) := by
    intro K5 hkK5 n6
    induction n6 with
    | zero =>
      intro x1_6 x3_6 H locs ls h
      exact ono h
    | succ n6 ihn6 =>
      intro x1_6 x3_6 H locs ls h hG hS hl
      rw [X5_digest_L2] at h
      refine lv_iload_n hx hb dX5_digest_33 rfl (lv_at hl 2 rfl) ?_
      refine lv_aload_n hx hb dX5_digest_34 rfl (lv_at hl 0 rfl) ?_
      refine g_get hx hb l5 hown hK hG (k := 0) (by decide) (mE_5 _ _) vwCl_5 2 (by decide) k3 (fun _ h9 => h9) rfl dX5_digest_35 ?_
      refine lv_icmp_ge (tgt := 61) hx hb dX5_digest_38 (by decide) (fun c7 => ?_) (fun c7 => ?_)
      · have h := ite_t h c7
        exact hkK5 x1_6 _ _ _ h hG hS (lv_sub hl [0, 1] rfl)
      · have h := ite_f h c7
        refine lv_ldc2 (v := (31 : Int64)) hx hb hown k2 dX5_digest_41 ?_
        refine lv_lload_n hx hb dX5_digest_44 rfl (lv_at hl 1 rfl) ?_
        refine lv_lmul hx hb dX5_digest_45 ?_
        refine lv_aload_n hx hb dX5_digest_46 rfl (lv_at hl 0 rfl) ?_
        refine g_get hx hb l5 hown hK hG (k := 0) (by decide) (mE_5 _ _) vwCl_5 3 (by decide) k4 (fun _ h9 => h9) rfl dX5_digest_47 ?_
        refine lv_iload_n hx hb dX5_digest_50 rfl (lv_at hl 2 rfl) ?_
        refine g_ald hx hb hK hG (k := 2) (n := 4) (show mIA 2 4 from by decide +kernel).1.1 (mIA_e (show mIA 2 4 from by decide +kernel) _ _) 0 rfl h dX5_digest_51 (fun v8 h => ?_)
        refine lv_i2l hx hb dX5_digest_52 rfl ?_
        refine lv_ladd hx hb dX5_digest_53 ?_
        refine lv_lstore_n (lv' := [(1, .long (((31 : Int64) * x1_6) + v8.toInt64)), (0, .ref (ad 0)), (3, .int x3_6)]) hx hb dX5_digest_54 rfl hl (by decide) rfl (fun ls hl => ?_)
        refine lv_iinc (v := (x3_6 + (1 : Int32))) (lv' := [(3, .int (x3_6 + (1 : Int32))), (1, .long (((31 : Int64) * x1_6) + v8.toInt64)), (0, .ref (ad 0))]) hx hb dX5_digest_55 hl (k := 2) rfl rfl (by decide) rfl (fun ls hl => ?_)
        refine lv_goto (tgt := 33) hx hb dX5_digest_58 (by decide) ?_
        exact ihn6 (((31 : Int64) * x1_6) + v8.toInt64) (x3_6 + (1 : Int32)) _ _ _ h hG hS (lv_sub hl [2, 1, 0] rfl)
  refine keyK5 _ (fun z1_6 H locs ls h hG hS hl => ?_) bigF z1_2 (0 : Int32) _ _ _ h hG hS (lv_sub hl [1, 2, 0] rfl)
  clear keyK5
  refine lv_iconst (v := (0 : Int32)) hx hb dX5_digest_61 (by decide) ?_
  refine lv_istore_n (lv' := [(3, .int (0 : Int32)), (0, .ref (ad 0)), (1, .long z1_6)]) hx hb dX5_digest_62 rfl hl (by decide) rfl (fun ls hl => ?_)
  have keyK9 : ∀ (K9 : Int64 → xMem → Option (Int64 × xMem)), (∀ (z1_11 : Int64) (I12 : xMem) (H : Heap) (locs : List Loc) (ls : Array Slot), K9 z1_11 I12 = some r → mG D cy ad I12 L H → va_S (gA 18 ad) s.heap H locs → lv_has ls 5 [(0, .ref (ad 0)), (1, .long z1_11)] → W p l e rm_X5_digest s m args below meth c H locs 0 0 Q (F0 m 97 ls [])) → ∀ (n10 : Nat) (x1_10 : Int64) (x3_10 : Int32) (I11 : xMem) (H : Heap) (locs : List Loc) (ls : Array Slot), X5_digest_L3 K9 n10 x1_10 x3_10 I11 = some r → mG D cy ad I11 L H → va_S (gA 18 ad) s.heap H locs → lv_has ls 5 [(0, .ref (ad 0)), (1, .long x1_10), (3, .int x3_10)] → W p l e rm_X5_digest s m args below meth c H locs 0 0 Q (F0 m 63 ls []) := by
    intro K9 hkK9 n10
    induction n10 with
    | zero =>
      intro x1_10 x3_10 I11 H locs ls h
      exact ono h
    | succ n10 ihn10 =>
      intro x1_10 x3_10 I11 H locs ls h hG hS hl
      rw [X5_digest_L3] at h
      refine lv_iload_n hx hb dX5_digest_63 rfl (lv_at hl 2 rfl) ?_
      refine lv_iconst (v := (5 : Int32)) hx hb dX5_digest_64 (by decide) ?_
      refine lv_aload_n hx hb dX5_digest_65 rfl (lv_at hl 0 rfl) ?_
      refine g_get hx hb l5 hown hK hG (k := 0) (by decide) (mE_5 _ _) vwCl_5 4 (by decide) k5 (fun _ h9 => h9) rfl dX5_digest_66 ?_
      refine lv_imul hx hb dX5_digest_69 ?_
      refine lv_icmp_ge (tgt := 97) hx hb dX5_digest_70 (by decide) (fun c13 => ?_) (fun c13 => ?_)
      · have h := ite_t h c13
        exact hkK9 x1_10 I11 _ _ _ h hG hS (lv_sub hl [0, 1] rfl)
      · have h := ite_f h c13
        refine lv_ldc2 (v := (31 : Int64)) hx hb hown k2 dX5_digest_73 ?_
        refine lv_lload_n hx hb dX5_digest_76 rfl (lv_at hl 1 rfl) ?_
        refine lv_lmul hx hb dX5_digest_77 ?_
        refine lv_aload_n hx hb dX5_digest_78 rfl (lv_at hl 0 rfl) ?_
        refine lv_iload_n hx hb dX5_digest_79 rfl (lv_at hl 2 rfl) ?_
        refine lv_iconst (v := (5 : Int32)) hx hb dX5_digest_80 (by decide) ?_
        refine lv_idiv hx hb dX5_digest_81 (by decide) ?_
        refine lv_iload_n hx hb dX5_digest_82 rfl (lv_at hl 2 rfl) ?_
        refine lv_iconst (v := (5 : Int32)) hx hb dX5_digest_83 (by decide) ?_
        refine lv_irem hx hb dX5_digest_84 (by decide) ?_
        obtain ⟨q14, eq14, h⟩ := obind h
        refine g_endi (va_runV (As := [.int (x3_10 / (5 : Int32)), .int (x3_10 - x3_10 / (5 : Int32) * (5 : Int32))]) (rest := [.long ((31 : Int64) * x1_10)]) ⟨hx, hb, hml, hown, hts⟩ (k_X5_toldOf l D cy ad hi I11 L (x3_10 / (5 : Int32)) (x3_10 - x3_10 / (5 : Int32) * (5 : Int32)) q14 eq14) (cwV 2 hts gX5_digest_X5_toldOf rfl rfl rfl cd_X5_toldOf ⟨Nat.le_of_ble_eq_true rfl, Nat.le_of_ble_eq_true rfl⟩) ⟨g_blind mZm, g_recv hK hG (k := 0) (by decide) (mE_5 _ _) vwCl_5, g_pre mZm hK hG hZ hS⟩ rfl rfl hl.1 rfl (lv_room (Nat.le_of_ble_eq_true rfl)) dX5_digest_85 ⟨Nat.le_refl _, Nat.le_refl _⟩) hS (fun H locs hG hS => ?_)
        refine lv_i2l hx hb dX5_digest_88 rfl ?_
        refine lv_ladd hx hb dX5_digest_89 ?_
        refine lv_lstore_n (lv' := [(1, .long (((31 : Int64) * x1_10) + q14.1.toInt64)), (0, .ref (ad 0)), (3, .int x3_10)]) hx hb dX5_digest_90 rfl hl (by decide) rfl (fun ls hl => ?_)
        refine lv_iinc (v := (x3_10 + (1 : Int32))) (lv' := [(3, .int (x3_10 + (1 : Int32))), (1, .long (((31 : Int64) * x1_10) + q14.1.toInt64)), (0, .ref (ad 0))]) hx hb dX5_digest_91 hl (k := 2) rfl rfl (by decide) rfl (fun ls hl => ?_)
        refine lv_goto (tgt := 63) hx hb dX5_digest_94 (by decide) ?_
        exact ihn10 (((31 : Int64) * x1_10) + q14.1.toInt64) (x3_10 + (1 : Int32)) q14.2 _ _ _ h hG hS (lv_sub hl [2, 1, 0] rfl)
  refine keyK9 _ (fun z1_11 I12 H locs ls h hG hS hl => ?_) bigF z1_6 (0 : Int32) I _ _ _ h hG hS (lv_sub hl [1, 2, 0] rfl)
  clear keyK9
  refine lv_iconst (v := (1 : Int32)) hx hb dX5_digest_97 (by decide) ?_
  refine lv_istore_n (lv' := [(3, .int (1 : Int32)), (0, .ref (ad 0)), (1, .long z1_11)]) hx hb dX5_digest_98 rfl hl (by decide) rfl (fun ls hl => ?_)
  have keyK15 : ∀ (K15 : Int64 → Option (Int64 × xMem)), (∀ (z1_16 : Int64) (H : Heap) (locs : List Loc) (ls : Array Slot), K15 z1_16 = some r → mG D cy ad I12 L H → va_S (gA 18 ad) s.heap H locs → lv_has ls 5 [(0, .ref (ad 0)), (1, .long z1_16)] → W p l e rm_X5_digest s m args below meth c H locs 0 0 Q (F0 m 130 ls [])) → ∀ (n16 : Nat) (x1_16 : Int64) (x3_16 : Int32) (H : Heap) (locs : List Loc) (ls : Array Slot), X5_digest_L4 I12 K15 n16 x1_16 x3_16 = some r → mG D cy ad I12 L H → va_S (gA 18 ad) s.heap H locs → lv_has ls 5 [(0, .ref (ad 0)), (1, .long x1_16), (3, .int x3_16)] → W p l e rm_X5_digest s m args below meth c H locs 0 0 Q (F0 m 99 ls []) := by
    intro K15 hkK15 n16
    induction n16 with
    | zero =>
      intro x1_16 x3_16 H locs ls h
      exact ono h
    | succ n16 ihn16 =>
      intro x1_16 x3_16 H locs ls h hG hS hl
      rw [X5_digest_L4] at h
      refine lv_iload_n hx hb dX5_digest_99 rfl (lv_at hl 2 rfl) ?_
      refine lv_iconst (v := (4 : Int32)) hx hb dX5_digest_100 (by decide) ?_
      refine lv_icmp_ge (tgt := 130) hx hb dX5_digest_101 (by decide) (fun c17 => ?_) (fun c17 => ?_)
      · have h := ite_t h c17
        exact hkK15 x1_16 _ _ _ h hG hS (lv_sub hl [0, 1] rfl)
      · have h := ite_f h c17
        refine lv_ldc2 (v := (31 : Int64)) hx hb hown k2 dX5_digest_104 ?_
        refine lv_lload_n hx hb dX5_digest_107 rfl (lv_at hl 1 rfl) ?_
        refine lv_lmul hx hb dX5_digest_108 ?_
        refine lv_aload_n hx hb dX5_digest_109 rfl (lv_at hl 0 rfl) ?_
        refine g_get hx hb l5 hown hK hG (k := 0) (by decide) (mE_5 _ _) vwCl_5 0 (by decide) k6 (fun _ h9 => h9) rfl dX5_digest_110 ?_
        refine lv_sipush (v := (165 : Int32)) hx hb dX5_digest_113 (by decide) ?_
        refine lv_iload_n hx hb dX5_digest_116 rfl (lv_at hl 2 rfl) ?_
        refine lv_imul hx hb dX5_digest_117 ?_
        refine lv_iconst (v := (0 : Int32)) hx hb dX5_digest_118 (by decide) ?_
        refine lv_iadd hx hb dX5_digest_119 ?_
        refine g_ald hx hb hK hG (k := 1) (n := 660) (show mIA 1 660 from by decide +kernel).1.1 (mIA_e (show mIA 1 660 from by decide +kernel) _ _) 0 rfl h dX5_digest_120 (fun v18 h => ?_)
        refine lv_i2l hx hb dX5_digest_121 rfl ?_
        refine lv_ladd hx hb dX5_digest_122 ?_
        refine lv_lstore_n (lv' := [(1, .long (((31 : Int64) * x1_16) + v18.toInt64)), (0, .ref (ad 0)), (3, .int x3_16)]) hx hb dX5_digest_123 rfl hl (by decide) rfl (fun ls hl => ?_)
        refine lv_iinc (v := (x3_16 + (1 : Int32))) (lv' := [(3, .int (x3_16 + (1 : Int32))), (1, .long (((31 : Int64) * x1_16) + v18.toInt64)), (0, .ref (ad 0))]) hx hb dX5_digest_124 hl (k := 2) rfl rfl (by decide) rfl (fun ls hl => ?_)
        refine lv_goto (tgt := 99) hx hb dX5_digest_127 (by decide) ?_
        exact ihn16 (((31 : Int64) * x1_16) + v18.toInt64) (x3_16 + (1 : Int32)) _ _ _ h hG hS (lv_sub hl [2, 1, 0] rfl)
  refine keyK15 _ (fun z1_16 H locs ls h hG hS hl => ?_) bigF z1_11 (1 : Int32) _ _ _ h hG hS (lv_sub hl [1, 2, 0] rfl)
  clear keyK15
  refine lv_iconst (v := (0 : Int32)) hx hb dX5_digest_130 (by decide) ?_
  refine lv_istore_n (lv' := [(3, .int (0 : Int32)), (0, .ref (ad 0)), (1, .long z1_16)]) hx hb dX5_digest_131 rfl hl (by decide) rfl (fun ls hl => ?_)
  have keyK19 : ∀ (K19 : Int64 → Option (Int64 × xMem)), (∀ (z1_20 : Int64) (H : Heap) (locs : List Loc) (ls : Array Slot), K19 z1_20 = some r → mG D cy ad I12 L H → va_S (gA 18 ad) s.heap H locs → lv_has ls 5 [(0, .ref (ad 0)), (1, .long z1_20)] → W p l e rm_X5_digest s m args below meth c H locs 0 0 Q (F0 m 198 ls [])) → ∀ (n20 : Nat) (x1_20 : Int64) (x3_20 : Int32) (H : Heap) (locs : List Loc) (ls : Array Slot), X5_digest_L5 I12 K19 n20 x1_20 x3_20 = some r → mG D cy ad I12 L H → va_S (gA 18 ad) s.heap H locs → lv_has ls 5 [(0, .ref (ad 0)), (1, .long x1_20), (3, .int x3_20)] → W p l e rm_X5_digest s m args below meth c H locs 0 0 Q (F0 m 132 ls []) := by
    intro K19 hkK19 n20
    induction n20 with
    | zero =>
      intro x1_20 x3_20 H locs ls h
      exact ono h
    | succ n20 ihn20 =>
      intro x1_20 x3_20 H locs ls h hG hS hl
      rw [X5_digest_L5] at h
      refine lv_iload_n hx hb dX5_digest_132 rfl (lv_at hl 2 rfl) ?_
      refine lv_bipush (v := (6 : Int32)) hx hb dX5_digest_133 (by decide) ?_
      refine lv_icmp_ge (tgt := 198) hx hb dX5_digest_135 (by decide) (fun c21 => ?_) (fun c21 => ?_)
      · have h := ite_t h c21
        exact hkK19 x1_20 _ _ _ h hG hS (lv_sub hl [0, 1] rfl)
      · have h := ite_f h c21
        refine lv_ldc2 (v := (31 : Int64)) hx hb hown k2 dX5_digest_138 ?_
        refine lv_lload_n hx hb dX5_digest_141 rfl (lv_at hl 1 rfl) ?_
        refine lv_lmul hx hb dX5_digest_142 ?_
        refine lv_aload_n hx hb dX5_digest_143 rfl (lv_at hl 0 rfl) ?_
        refine g_get hx hb l5 hown hK hG (k := 0) (by decide) (mE_5 _ _) vwCl_5 7 (by decide) k7 (fun _ h9 => h9) rfl dX5_digest_144 ?_
        refine lv_iload_n hx hb dX5_digest_147 rfl (lv_at hl 2 rfl) ?_
        refine g_ald hx hb hK hG (k := 5) (n := 6) (show mIA 5 6 from by decide +kernel).1.1 (mIA_e (show mIA 5 6 from by decide +kernel) _ _) 0 rfl h dX5_digest_148 (fun v22 h => ?_)
        refine lv_i2l hx hb dX5_digest_149 rfl ?_
        refine lv_ladd hx hb dX5_digest_150 ?_
        refine lv_lstore_n (lv' := [(1, .long (((31 : Int64) * x1_20) + v22.toInt64)), (0, .ref (ad 0)), (3, .int x3_20)]) hx hb dX5_digest_151 rfl hl (by decide) rfl (fun ls hl => ?_)
        refine lv_iconst (v := (0 : Int32)) hx hb dX5_digest_152 (by decide) ?_
        refine lv_istore (lv' := [(4, .int (0 : Int32)), (1, .long (((31 : Int64) * x1_20) + v22.toInt64)), (0, .ref (ad 0)), (3, .int x3_20)]) hx hb dX5_digest_153 hl (by decide) rfl (fun ls hl => ?_)
        have keyK23 : ∀ (K23 : Int64 → Option (Int64 × xMem)), (∀ (z1_24 : Int64) (H : Heap) (locs : List Loc) (ls : Array Slot), K23 z1_24 = some r → mG D cy ad I12 L H → va_S (gA 18 ad) s.heap H locs → lv_has ls 5 [(0, .ref (ad 0)), (1, .long z1_24), (3, .int x3_20)] → W p l e rm_X5_digest s m args below meth c H locs 0 0 Q (F0 m 192 ls [])) → ∀ (n24 : Nat) (x1_24 : Int64) (x4_24 : Int32) (H : Heap) (locs : List Loc) (ls : Array Slot), X5_digest_L6 I12 x3_20 K23 n24 x1_24 x4_24 = some r → mG D cy ad I12 L H → va_S (gA 18 ad) s.heap H locs → lv_has ls 5 [(0, .ref (ad 0)), (1, .long x1_24), (3, .int x3_20), (4, .int x4_24)] → W p l e rm_X5_digest s m args below meth c H locs 0 0 Q (F0 m 155 ls []) := by
          intro K23 hkK23 n24
          induction n24 with
          | zero =>
            intro x1_24 x4_24 H locs ls h
            exact ono h
          | succ n24 ihn24 =>
            intro x1_24 x4_24 H locs ls h hG hS hl
            rw [X5_digest_L6] at h
            refine lv_iload hx hb dX5_digest_155 (lv_at hl 3 rfl) ?_
            refine lv_aload_n hx hb dX5_digest_157 rfl (lv_at hl 0 rfl) ?_
            refine g_get hx hb l5 hown hK hG (k := 0) (by decide) (mE_5 _ _) vwCl_5 7 (by decide) k7 (fun _ h9 => h9) rfl dX5_digest_158 ?_
            refine lv_iload_n hx hb dX5_digest_161 rfl (lv_at hl 2 rfl) ?_
            refine g_ald hx hb hK hG (k := 5) (n := 6) (show mIA 5 6 from by decide +kernel).1.1 (mIA_e (show mIA 5 6 from by decide +kernel) _ _) 0 rfl h dX5_digest_162 (fun v25 h => ?_)
            refine lv_icmp_ge (tgt := 192) hx hb dX5_digest_163 (by decide) (fun c26 => ?_) (fun c26 => ?_)
            · have h := ite_t h c26
              exact hkK23 x1_24 _ _ _ h hG hS (lv_sub hl [0, 1, 2] rfl)
            · have h := ite_f h c26
              refine lv_ldc2 (v := (31 : Int64)) hx hb hown k2 dX5_digest_166 ?_
              refine lv_lload_n hx hb dX5_digest_169 rfl (lv_at hl 1 rfl) ?_
              refine lv_lmul hx hb dX5_digest_170 ?_
              refine lv_aload_n hx hb dX5_digest_171 rfl (lv_at hl 0 rfl) ?_
              refine g_get hx hb l5 hown hK hG (k := 0) (by decide) (mE_5 _ _) vwCl_5 8 (by decide) k8 (fun _ h9 => h9) rfl dX5_digest_172 ?_
              refine lv_bipush (v := (40 : Int32)) hx hb dX5_digest_175 (by decide) ?_
              refine lv_iload_n hx hb dX5_digest_177 rfl (lv_at hl 2 rfl) ?_
              refine lv_imul hx hb dX5_digest_178 ?_
              refine lv_iload hx hb dX5_digest_179 (lv_at hl 3 rfl) ?_
              refine lv_iadd hx hb dX5_digest_181 ?_
              refine g_ald hx hb hK hG (k := 6) (n := 240) (show mIA 6 240 from by decide +kernel).1.1 (mIA_e (show mIA 6 240 from by decide +kernel) _ _) 0 rfl h dX5_digest_182 (fun v27 h => ?_)
              refine lv_i2l hx hb dX5_digest_183 rfl ?_
              refine lv_ladd hx hb dX5_digest_184 ?_
              refine lv_lstore_n (lv' := [(1, .long (((31 : Int64) * x1_24) + v27.toInt64)), (0, .ref (ad 0)), (3, .int x3_20), (4, .int x4_24)]) hx hb dX5_digest_185 rfl hl (by decide) rfl (fun ls hl => ?_)
              refine lv_iinc (v := (x4_24 + (1 : Int32))) (lv' := [(4, .int (x4_24 + (1 : Int32))), (1, .long (((31 : Int64) * x1_24) + v27.toInt64)), (0, .ref (ad 0)), (3, .int x3_20)]) hx hb dX5_digest_186 hl (k := 3) rfl rfl (by decide) rfl (fun ls hl => ?_)
              refine lv_goto (tgt := 155) hx hb dX5_digest_189 (by decide) ?_
              exact ihn24 (((31 : Int64) * x1_24) + v27.toInt64) (x4_24 + (1 : Int32)) _ _ _ h hG hS (lv_sub hl [2, 1, 3, 0] rfl)
        refine keyK23 _ (fun z1_24 H locs ls h hG hS hl => ?_) bigF (((31 : Int64) * x1_20) + v22.toInt64) (0 : Int32) _ _ _ h hG hS (lv_sub hl [2, 1, 3, 0] rfl)
        clear keyK23
        refine lv_iinc (v := (x3_20 + (1 : Int32))) (lv' := [(3, .int (x3_20 + (1 : Int32))), (0, .ref (ad 0)), (1, .long z1_24)]) hx hb dX5_digest_192 hl (k := 2) rfl rfl (by decide) rfl (fun ls hl => ?_)
        refine lv_goto (tgt := 132) hx hb dX5_digest_195 (by decide) ?_
        exact ihn20 z1_24 (x3_20 + (1 : Int32)) _ _ _ h hG hS (lv_sub hl [1, 2, 0] rfl)
  refine keyK19 _ (fun z1_20 H locs ls h hG hS hl => ?_) bigF z1_16 (0 : Int32) _ _ _ h hG hS (lv_sub hl [1, 2, 0] rfl)
  clear keyK19
  refine lv_iconst (v := (0 : Int32)) hx hb dX5_digest_198 (by decide) ?_
  refine lv_istore_n (lv' := [(3, .int (0 : Int32)), (0, .ref (ad 0)), (1, .long z1_20)]) hx hb dX5_digest_199 rfl hl (by decide) rfl (fun ls hl => ?_)
  have keyK28 : ∀ (K28 : Int64 → Option (Int64 × xMem)), (∀ (z1_29 : Int64) (H : Heap) (locs : List Loc) (ls : Array Slot), K28 z1_29 = some r → mG D cy ad I12 L H → va_S (gA 18 ad) s.heap H locs → lv_has ls 5 [(1, .long z1_29)] → W p l e rm_X5_digest s m args below meth c H locs 0 0 Q (F0 m 265 ls [])) → ∀ (n29 : Nat) (x1_29 : Int64) (x3_29 : Int32) (H : Heap) (locs : List Loc) (ls : Array Slot), X5_digest_L7 I12 K28 n29 x1_29 x3_29 = some r → mG D cy ad I12 L H → va_S (gA 18 ad) s.heap H locs → lv_has ls 5 [(0, .ref (ad 0)), (1, .long x1_29), (3, .int x3_29)] → W p l e rm_X5_digest s m args below meth c H locs 0 0 Q (F0 m 200 ls []) := by
    intro K28 hkK28 n29
    induction n29 with
    | zero =>
      intro x1_29 x3_29 H locs ls h
      exact ono h
    | succ n29 ihn29 =>
      intro x1_29 x3_29 H locs ls h hG hS hl
      rw [X5_digest_L7] at h
      refine lv_iload_n hx hb dX5_digest_200 rfl (lv_at hl 2 rfl) ?_
      refine lv_iconst (v := (4 : Int32)) hx hb dX5_digest_201 (by decide) ?_
      refine lv_icmp_ge (tgt := 265) hx hb dX5_digest_202 (by decide) (fun c30 => ?_) (fun c30 => ?_)
      · have h := ite_t h c30
        exact hkK28 x1_29 _ _ _ h hG hS (lv_sub hl [1] rfl)
      · have h := ite_f h c30
        refine lv_ldc2 (v := (31 : Int64)) hx hb hown k2 dX5_digest_205 ?_
        refine lv_lload_n hx hb dX5_digest_208 rfl (lv_at hl 1 rfl) ?_
        refine lv_lmul hx hb dX5_digest_209 ?_
        refine lv_aload_n hx hb dX5_digest_210 rfl (lv_at hl 0 rfl) ?_
        refine g_get hx hb l5 hown hK hG (k := 0) (by decide) (mE_5 _ _) vwCl_5 9 (by decide) k9 (fun _ h9 => h9) rfl dX5_digest_211 ?_
        refine lv_iload_n hx hb dX5_digest_214 rfl (lv_at hl 2 rfl) ?_
        refine g_ald hx hb hK hG (k := 7) (n := 4) (show mIA 7 4 from by decide +kernel).1.1 (mIA_e (show mIA 7 4 from by decide +kernel) _ _) 0 rfl h dX5_digest_215 (fun v31 h => ?_)
        refine lv_i2l hx hb dX5_digest_216 rfl ?_
        refine lv_ladd hx hb dX5_digest_217 ?_
        refine lv_lstore_n (lv' := [(1, .long (((31 : Int64) * x1_29) + v31.toInt64)), (0, .ref (ad 0)), (3, .int x3_29)]) hx hb dX5_digest_218 rfl hl (by decide) rfl (fun ls hl => ?_)
        refine lv_iconst (v := (0 : Int32)) hx hb dX5_digest_219 (by decide) ?_
        refine lv_istore (lv' := [(4, .int (0 : Int32)), (1, .long (((31 : Int64) * x1_29) + v31.toInt64)), (0, .ref (ad 0)), (3, .int x3_29)]) hx hb dX5_digest_220 hl (by decide) rfl (fun ls hl => ?_)
        have keyK32 : ∀ (K32 : Int64 → Option (Int64 × xMem)), (∀ (z1_33 : Int64) (H : Heap) (locs : List Loc) (ls : Array Slot), K32 z1_33 = some r → mG D cy ad I12 L H → va_S (gA 18 ad) s.heap H locs → lv_has ls 5 [(0, .ref (ad 0)), (1, .long z1_33), (3, .int x3_29)] → W p l e rm_X5_digest s m args below meth c H locs 0 0 Q (F0 m 259 ls [])) → ∀ (n33 : Nat) (x1_33 : Int64) (x4_33 : Int32) (H : Heap) (locs : List Loc) (ls : Array Slot), X5_digest_L8 I12 x3_29 K32 n33 x1_33 x4_33 = some r → mG D cy ad I12 L H → va_S (gA 18 ad) s.heap H locs → lv_has ls 5 [(0, .ref (ad 0)), (1, .long x1_33), (3, .int x3_29), (4, .int x4_33)] → W p l e rm_X5_digest s m args below meth c H locs 0 0 Q (F0 m 222 ls []) := by
          intro K32 hkK32 n33
          induction n33 with
          | zero =>
            intro x1_33 x4_33 H locs ls h
            exact ono h
          | succ n33 ihn33 =>
            intro x1_33 x4_33 H locs ls h hG hS hl
            rw [X5_digest_L8] at h
            refine lv_iload hx hb dX5_digest_222 (lv_at hl 3 rfl) ?_
            refine lv_aload_n hx hb dX5_digest_224 rfl (lv_at hl 0 rfl) ?_
            refine g_get hx hb l5 hown hK hG (k := 0) (by decide) (mE_5 _ _) vwCl_5 9 (by decide) k9 (fun _ h9 => h9) rfl dX5_digest_225 ?_
            refine lv_iload_n hx hb dX5_digest_228 rfl (lv_at hl 2 rfl) ?_
            refine g_ald hx hb hK hG (k := 7) (n := 4) (show mIA 7 4 from by decide +kernel).1.1 (mIA_e (show mIA 7 4 from by decide +kernel) _ _) 0 rfl h dX5_digest_229 (fun v34 h => ?_)
            refine lv_icmp_ge (tgt := 259) hx hb dX5_digest_230 (by decide) (fun c35 => ?_) (fun c35 => ?_)
            · have h := ite_t h c35
              exact hkK32 x1_33 _ _ _ h hG hS (lv_sub hl [0, 1, 2] rfl)
            · have h := ite_f h c35
              refine lv_ldc2 (v := (31 : Int64)) hx hb hown k2 dX5_digest_233 ?_
              refine lv_lload_n hx hb dX5_digest_236 rfl (lv_at hl 1 rfl) ?_
              refine lv_lmul hx hb dX5_digest_237 ?_
              refine lv_aload_n hx hb dX5_digest_238 rfl (lv_at hl 0 rfl) ?_
              refine g_get hx hb l5 hown hK hG (k := 0) (by decide) (mE_5 _ _) vwCl_5 10 (by decide) k10 (fun _ h9 => h9) rfl dX5_digest_239 ?_
              refine lv_bipush (v := (60 : Int32)) hx hb dX5_digest_242 (by decide) ?_
              refine lv_iload_n hx hb dX5_digest_244 rfl (lv_at hl 2 rfl) ?_
              refine lv_imul hx hb dX5_digest_245 ?_
              refine lv_iload hx hb dX5_digest_246 (lv_at hl 3 rfl) ?_
              refine lv_iadd hx hb dX5_digest_248 ?_
              refine g_ald hx hb hK hG (k := 8) (n := 240) (show mIA 8 240 from by decide +kernel).1.1 (mIA_e (show mIA 8 240 from by decide +kernel) _ _) 0 rfl h dX5_digest_249 (fun v36 h => ?_)
              refine lv_i2l hx hb dX5_digest_250 rfl ?_
              refine lv_ladd hx hb dX5_digest_251 ?_
              refine lv_lstore_n (lv' := [(1, .long (((31 : Int64) * x1_33) + v36.toInt64)), (0, .ref (ad 0)), (3, .int x3_29), (4, .int x4_33)]) hx hb dX5_digest_252 rfl hl (by decide) rfl (fun ls hl => ?_)
              refine lv_iinc (v := (x4_33 + (1 : Int32))) (lv' := [(4, .int (x4_33 + (1 : Int32))), (1, .long (((31 : Int64) * x1_33) + v36.toInt64)), (0, .ref (ad 0)), (3, .int x3_29)]) hx hb dX5_digest_253 hl (k := 3) rfl rfl (by decide) rfl (fun ls hl => ?_)
              refine lv_goto (tgt := 222) hx hb dX5_digest_256 (by decide) ?_
              exact ihn33 (((31 : Int64) * x1_33) + v36.toInt64) (x4_33 + (1 : Int32)) _ _ _ h hG hS (lv_sub hl [2, 1, 3, 0] rfl)
        refine keyK32 _ (fun z1_33 H locs ls h hG hS hl => ?_) bigF (((31 : Int64) * x1_29) + v31.toInt64) (0 : Int32) _ _ _ h hG hS (lv_sub hl [2, 1, 3, 0] rfl)
        clear keyK32
        refine lv_iinc (v := (x3_29 + (1 : Int32))) (lv' := [(3, .int (x3_29 + (1 : Int32))), (0, .ref (ad 0)), (1, .long z1_33)]) hx hb dX5_digest_259 hl (k := 2) rfl rfl (by decide) rfl (fun ls hl => ?_)
        refine lv_goto (tgt := 200) hx hb dX5_digest_262 (by decide) ?_
        exact ihn29 z1_33 (x3_29 + (1 : Int32)) _ _ _ h hG hS (lv_sub hl [1, 2, 0] rfl)
  refine keyK28 _ (fun z1_29 H locs ls h hG hS hl => ?_) bigF z1_20 (0 : Int32) _ _ _ h hG hS (lv_sub hl [1, 2, 0] rfl)
  clear keyK28
  refine lv_lload_n hx hb dX5_digest_265 rfl (lv_at hl 0 rfl) ?_
  have h := Option.some.inj h
  subst h
  subst hQ
  exact g_lret hx hb hr hlocks mZm hK hZ hG hS rfl dX5_digest_266
