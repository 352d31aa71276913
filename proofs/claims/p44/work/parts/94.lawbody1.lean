/-! THE LAW'S BODY IN PIECES -/
section LAWH
variable {p : Program} {l : Launch} {e : Env} {s : State} {m : MethodId} {args : Array Value} {below : List Frame} {meth : Method} {c : Code} {H : Heap} {locs : List Loc} {cells slots : Nat} {Q : State → Prop}
variable {pc : Nat} {ls : Array Slot} {rest st0 : List Value} {D : va_G} {R : Room}
theorem law_S0 {A : Nat → Prop} (hS : va_S (fun q : Nat => s.heap.size ≤ q) s.heap H locs) : va_S A s.heap H [] := ⟨hS.1, fun q h1 _ => hS.2.1 q h1 (Nat.not_le.mpr h1), fun _ h => absurd h List.not_mem_nil⟩
theorem lw_ci {K : Nat} {ad : Nat → Nat} {e0 : xEnt} {tys : List (ClassId × FieldType)} {Z : State → Heap → Prop} {I' : xMem} {L' : xLon} {v : Int32} {a : Array Value} (hr : va_Run p l e R s m args below meth c H locs cells slots 0 0 (F0 m pc ls st0) rest (g_Pi D vwCl K ad e0 tys Z I' L' v a) (gA K ad)) (hS : va_S (fun q : Nat => s.heap.size ≤ q) s.heap H locs) (hA : ∀ k, k < K → s.heap.size ≤ ad k)
    (kk : ∀ (H1 : Heap) (locs1 : List Loc), gG D vwCl K ad e0 I' L' H1 → va_S (fun q : Nat => s.heap.size ≤ q) s.heap H1 locs1 → W p l e R s m args below meth c H1 locs1 cells slots Q (F0 m (pc + 3) ls (.int v :: rest))) : W p l e R s m args below meth c H locs cells slots Q (F0 m pc ls st0) := by
  have hAA : ∀ q : Nat, gA K ad q → s.heap.size ≤ q := fun q ⟨k, h1, h2⟩ => by rw [← h2]; exact hA k h1
  refine va_calli hr hS (fun q _ h => hAA q h) (fun q h => hAA q h) (fun r u t H1 locs1 ht hvm hp hB hz hk hS1 => ?_)
  subst hp
  exact kk H1 locs1 (by rw [← ht]; exact hB.1) hS1
theorem lw_cl {K : Nat} {ad : Nat → Nat} {e0 : xEnt} {tys : List (ClassId × FieldType)} {Z : State → Heap → Prop} {I' : xMem} {L' : xLon} {v : Int64} {a : Array Value} (hr : va_Run p l e R s m args below meth c H locs cells slots 0 0 (F0 m pc ls st0) rest (g_Pl D vwCl K ad e0 tys Z I' L' v a) (gA K ad)) (hS : va_S (fun q : Nat => s.heap.size ≤ q) s.heap H locs) (hA : ∀ k, k < K → s.heap.size ≤ ad k)
    (kk : ∀ (H1 : Heap) (locs1 : List Loc), gG D vwCl K ad e0 I' L' H1 → va_S (fun q : Nat => s.heap.size ≤ q) s.heap H1 locs1 → W p l e R s m args below meth c H1 locs1 cells slots Q (F0 m (pc + 3) ls (.long v :: rest))) : W p l e R s m args below meth c H locs cells slots Q (F0 m pc ls st0) := by
  have hAA : ∀ q : Nat, gA K ad q → s.heap.size ≤ q := fun q ⟨k, h1, h2⟩ => by rw [← h2]; exact hA k h1
  refine va_calll hr hS (fun q _ h => hAA q h) (fun q h => hAA q h) (fun r u t H1 locs1 ht hvm hp hB hz hk hS1 => ?_)
  subst hp
  exact kk H1 locs1 (by rw [← ht]; exact hB.1) hS1
/-- what holds all through the law, and what is to come of its end -/
def LC (p : Program) (l : Launch) (e : Env) (s : State) (m : MethodId) (args : Array Value) (below : List Frame) (meth : Method) (c : Code) (Q : State → Prop) (D : va_G) (cy : Nat → ClassId) (ad : Nat → Nat) (tI : xTab) : Prop :=
  (p.tables.exec = Jvm.exec ∧ c.code = cL_law ∧ c.maxLocals = 43 ∧ s.vm.findClass RL = some m.cls ∧ (∀ w ∈ lw_tbl, w.before args s = true)) ∧ (va_K D vwCl (cTys cy) s ∧ cZ ad tI s s.heap) ∧ gInj 64 ad ∧ (∀ k, k < 64 → s.heap.size ≤ ad k) ∧
  ∀ (pc : Nat) (H : Heap) (locs : List Loc) (ls : Array Slot), decode cL_law pc = .ok (.ireturn, 1) → va_S (fun q : Nat => s.heap.size ≤ q) s.heap H locs → W p l e room_1 s m args below meth c H locs 600000 7302250 Q (F0 m pc ls [.int 1])
end LAWH
theorem cOk_pd {ad : Nat → Nat} {P Dr P' Dr' : Nat} (h : cOk ad P Dr) (e : (P' = P ∧ Dr' = Dr) ∨ (P' = Dr ∧ Dr' = P)) : cOk ad P' Dr' := by
  rcases e with ⟨rfl, rfl⟩ | ⟨rfl, rfl⟩
  · exact h
  · exact ⟨h.1, h.2.2, h.2.1⟩
section LAWC0
variable {p : Program} {l : Launch} {e : Env} {s : State} {m : MethodId} {args : Array Value} {below : List Frame} {meth : Method} {c : Code} {Q : State → Prop} {D : va_G} {cy : Nat → ClassId} {ad : Nat → Nat} {tI : xTab}
def XC_2591 (tI : xTab) (P Dr : Nat) (x4 : Int32) (x7 : Int64) (I : xMem) (L : xLon) : Option Int32 := (X4_tower P Dr I (0 : Int32)).bind fun q1 => if q1.1 = x4 then ((X4_digest q1.2.2.1 q1.2.1).bind fun v3 => if (lg_cmp v3 x7) = (0 : Int32) then (some (1 : Int32)) else (some (0 : Int32))) else (some (0 : Int32))
set_option maxHeartbeats 4000000 in
set_option maxRecDepth 100000 in
theorem kc_2591 (C0 : LC p l e s m args below meth c Q D cy ad tI) {P Dr : Nat} (hX : cOk ad P Dr) (x4 : Int32) (x7 : Int64) (I : xMem) (L : xLon) (H : Heap) (locs : List Loc) (ls : Array Slot) (h : XC_2591 tI P Dr x4 x7 I L = some 1) : cG D cy ad P Dr I L H → va_S (fun q : Nat => s.heap.size ≤ q) s.heap H locs → lv_has ls 43 [(1, .ref (ad 0)), (4, .int x4), (7, .long x7)] → W p l e room_1 s m args below meth c H locs 600000 7302250 Q (F0 m 2591 ls []) := by
  obtain ⟨⟨hx, hb, hml, hown, hts⟩, ⟨hK, hZ⟩, hi, hA, kr⟩ := id C0
  intro hG hS hl
  unfold XC_2591 at h
  refine lv_aload_n hx hb dL_law_2591 rfl (lv_at hl 0 rfl) ?_
  refine lv_iconst (v := (0 : Int32)) hx hb dL_law_2592 (by decide) ?_
  obtain ⟨q1, eq1, h⟩ := obind h
  refine lw_ci (va_runV (As := [.int (0 : Int32)]) (rest := []) ⟨hx, hb, hml, hown, hts⟩ (k_X4_tower l D cy ad P Dr tI hX I L (0 : Int32) q1 eq1) (cwV 1 hts (goodIn_up gL_law_X4_tower) rfl rfl rfl cd_X4_tower ⟨Nat.le_of_ble_eq_true rfl, Nat.le_of_ble_eq_true rfl⟩) ⟨g_blind cZm, g_recv hK hG (k := 0) (by decide) (cE_4 _ _) vwCl_4, g_pre cZm hK hG hZ (law_S0 hS)⟩ rfl rfl hl.1 rfl (lv_room (Nat.le_of_ble_eq_true rfl)) dL_law_2593 ⟨Nat.le_of_ble_eq_true rfl, Nat.le_of_ble_eq_true rfl⟩) hS hA (fun H locs hG hS => ?_)
  have hX := cOk_pd hX (pd_X4_tower eq1)
  refine lv_iload hx hb dL_law_2596 (lv_at hl 1 rfl) ?_
  refine lv_icmp_ne (tgt := 2615) hx hb dL_law_2598 (by decide) (fun c2 => ?_) (fun c2 => ?_)
  · have h := ite_f h c2
    refine lv_iconst (v := (0 : Int32)) hx hb dL_law_2615 (by decide) ?_
    have h := Option.some.inj h
    exact absurd h (by decide)
  · have h := ite_t h c2
    refine lv_aload_n hx hb dL_law_2601 rfl (lv_at hl 0 rfl) ?_
    obtain ⟨v3, ev3, h⟩ := obind h
    refine lw_cl (va_runV (As := []) (rest := []) ⟨hx, hb, hml, hown, hts⟩ (k_X4_digest l D cy ad q1.2.2.1 q1.2.2.2 tI hX q1.2.1 L v3 ev3) (cwV 0 hts (goodIn_up gL_law_X4_digest) rfl rfl rfl cd_X4_digest ⟨Nat.le_of_ble_eq_true rfl, Nat.le_of_ble_eq_true rfl⟩) ⟨g_blind cZm, g_recv hK hG (k := 0) (by decide) (cE_4 _ _) vwCl_4, g_pre cZm hK hG hZ (law_S0 hS)⟩ rfl rfl hl.1 rfl (lv_room (Nat.le_of_ble_eq_true rfl)) dL_law_2602 ⟨Nat.le_of_ble_eq_true rfl, Nat.le_of_ble_eq_true rfl⟩) hS hA (fun H locs hG hS => ?_)
    refine lv_lload hx hb dL_law_2605 (lv_at hl 2 rfl) ?_
    refine W.lcmp hx hb dL_law_2607 ?_
    refine lv_if_ne (tgt := 2615) hx hb dL_law_2608 (by decide) (fun c4 => ?_) (fun c4 => ?_)
    · have h := ite_f h c4
      refine lv_iconst (v := (0 : Int32)) hx hb dL_law_2615 (by decide) ?_
      have h := Option.some.inj h
      exact absurd h (by decide)
    · have h := ite_t h c4
      refine lv_iconst (v := (1 : Int32)) hx hb dL_law_2611 (by decide) ?_
      refine lv_goto (tgt := 2616) hx hb dL_law_2612 (by decide) ?_
      have h := Option.some.inj h
      exact kr 2616 H locs ls dL_law_2616 hS
def XC_2585 (tI : xTab) (P Dr : Nat) (B2555 : Int32 → Int64 → Int32 → xMem → xLon → Option Int32) (x4 : Int32) (x7 : Int64) (x10 : Int32) (I : xMem) (L : xLon) : Option Int32 := B2555 x4 x7 (x10 + (1 : Int32)) I L
set_option maxHeartbeats 4000000 in
set_option maxRecDepth 100000 in
theorem kc_2585 (C0 : LC p l e s m args below meth c Q D cy ad tI) {P Dr : Nat} (hX : cOk ad P Dr) {B2555 : Int32 → Int64 → Int32 → xMem → xLon → Option Int32} (hB2555 : ∀ (y4 : Int32) (y7 : Int64) (y10 : Int32) (I : xMem) (L : xLon) (H : Heap) (locs : List Loc) (ls : Array Slot), B2555 y4 y7 y10 I L = some 1 → cG D cy ad P Dr I L H → va_S (fun q : Nat => s.heap.size ≤ q) s.heap H locs → lv_has ls 43 [(1, .ref (ad 0)), (4, .int y4), (7, .long y7), (10, .int y10)] → W p l e room_1 s m args below meth c H locs 600000 7302250 Q (F0 m 2555 ls [])) (x4 : Int32) (x7 : Int64) (x10 : Int32) (I : xMem) (L : xLon) (H : Heap) (locs : List Loc) (ls : Array Slot) (h : XC_2585 tI P Dr B2555 x4 x7 x10 I L = some 1) : cG D cy ad P Dr I L H → va_S (fun q : Nat => s.heap.size ≤ q) s.heap H locs → lv_has ls 43 [(1, .ref (ad 0)), (4, .int x4), (7, .long x7), (10, .int x10)] → W p l e room_1 s m args below meth c H locs 600000 7302250 Q (F0 m 2585 ls []) := by
  obtain ⟨⟨hx, hb, hml, hown, hts⟩, ⟨hK, hZ⟩, hi, hA, kr⟩ := id C0
  intro hG hS hl
  unfold XC_2585 at h
  refine lv_iinc (v := (x10 + (1 : Int32))) (lv' := [(10, .int (x10 + (1 : Int32))), (1, .ref (ad 0)), (4, .int x4), (7, .long x7)]) hx hb dL_law_2585 hl (k := 3) rfl rfl (by decide) rfl (fun ls hl => ?_)
  refine lv_goto (tgt := 2555) hx hb dL_law_2588 (by decide) ?_
  exact hB2555 _ _ _ _ _ _ _ _ h hG hS (lv_sub hl [1, 2, 3, 0] rfl)
def XC_2555 (tI : xTab) (P Dr : Nat) : Nat → Int32 → Int64 → Int32 → xMem → xLon → Option Int32
  | 0, _, _, _, _, _ => none
  | n + 1, x4, x7, x10, I, L => if (6 : Int32) ≤ x10 then (XC_2591 tI P Dr x4 x7 I L) else ((X4_tear I x10).bind fun q2 => if q2.1 = (1 : Int32) then (XC_2585 tI P Dr (XC_2555 tI P Dr n) x4 x7 x10 q2.2 L) else (if q2.1 = (-3 : Int32) then (XC_2585 tI P Dr (XC_2555 tI P Dr n) x4 x7 x10 q2.2 L) else (some (0 : Int32))))
set_option maxHeartbeats 4000000 in
set_option maxRecDepth 100000 in
theorem kc_2555 (C0 : LC p l e s m args below meth c Q D cy ad tI) {P Dr : Nat} (hX : cOk ad P Dr) : ∀ (n : Nat) (x4 : Int32) (x7 : Int64) (x10 : Int32) (I : xMem) (L : xLon) (H : Heap) (locs : List Loc) (ls : Array Slot), XC_2555 tI P Dr n x4 x7 x10 I L = some 1 → cG D cy ad P Dr I L H → va_S (fun q : Nat => s.heap.size ≤ q) s.heap H locs → lv_has ls 43 [(1, .ref (ad 0)), (4, .int x4), (7, .long x7), (10, .int x10)] → W p l e room_1 s m args below meth c H locs 600000 7302250 Q (F0 m 2555 ls []) := by
  obtain ⟨⟨hx, hb, hml, hown, hts⟩, ⟨hK, hZ⟩, hi, hA, kr⟩ := id C0
  intro n
  induction n with
  | zero =>
    intro x4 x7 x10 I L H locs ls h
    exact ono h
  | succ n ih =>
    intro x4 x7 x10 I L H locs ls h hG hS hl
    rw [XC_2555] at h
    refine lv_iload hx hb dL_law_2555 (lv_at hl 3 rfl) ?_
    refine lv_bipush (v := (6 : Int32)) hx hb dL_law_2557 (by decide) ?_
    refine lv_icmp_ge (tgt := 2591) hx hb dL_law_2559 (by decide) (fun c1 => ?_) (fun c1 => ?_)
    · have h := ite_t h c1
      exact kc_2591 C0 hX _ _ _ _ _ _ _ h hG hS (lv_sub hl [0, 1, 2] rfl)
    · have h := ite_f h c1
      refine lv_aload_n hx hb dL_law_2562 rfl (lv_at hl 0 rfl) ?_
      refine lv_iload hx hb dL_law_2563 (lv_at hl 3 rfl) ?_
      obtain ⟨q2, eq2, h⟩ := obind h
      refine lw_ci (va_runV (As := [.int x10]) (rest := []) ⟨hx, hb, hml, hown, hts⟩ (k_X4_tear l D cy ad P Dr tI hX I L x10 q2 eq2) (cwV 1 hts (goodIn_up gL_law_X4_tear) rfl rfl rfl cd_X4_tear ⟨Nat.le_of_ble_eq_true rfl, Nat.le_of_ble_eq_true rfl⟩) ⟨g_blind cZm, g_recv hK hG (k := 0) (by decide) (cE_4 _ _) vwCl_4, g_pre cZm hK hG hZ (law_S0 hS)⟩ rfl rfl hl.1 rfl (lv_room (Nat.le_of_ble_eq_true rfl)) dL_law_2565 ⟨Nat.le_of_ble_eq_true rfl, Nat.le_of_ble_eq_true rfl⟩) hS hA (fun H locs hG hS => ?_)
      refine lv_istore (lv' := [(11, .int q2.1), (1, .ref (ad 0)), (4, .int x4), (7, .long x7), (10, .int x10)]) hx hb dL_law_2568 hl (by decide) rfl (fun ls hl => ?_)
      refine lv_iload hx hb dL_law_2570 (lv_at hl 0 rfl) ?_
      refine lv_iconst (v := (1 : Int32)) hx hb dL_law_2572 (by decide) ?_
      refine lv_icmp_eq (tgt := 2585) hx hb dL_law_2573 (by decide) (fun c3 => ?_) (fun c3 => ?_)
      · have h := ite_t h c3
        exact kc_2585 C0 hX ih _ _ _ _ _ _ _ _ h hG hS (lv_sub hl [1, 2, 3, 4] rfl)
      · have h := ite_f h c3
        refine lv_iload hx hb dL_law_2576 (lv_at hl 0 rfl) ?_
        refine lv_bipush (v := (-3 : Int32)) hx hb dL_law_2578 (by decide) ?_
        refine lv_icmp_eq (tgt := 2585) hx hb dL_law_2580 (by decide) (fun c4 => ?_) (fun c4 => ?_)
        · have h := ite_t h c4
          exact kc_2585 C0 hX ih _ _ _ _ _ _ _ _ h hG hS (lv_sub hl [1, 2, 3, 4] rfl)
        · have h := ite_f h c4
          refine lv_iconst (v := (0 : Int32)) hx hb dL_law_2583 (by decide) ?_
          have h := Option.some.inj h
          exact absurd h (by decide)
def XC_2488 (tI : xTab) (P Dr : Nat) (x4 : Int32) (x7 : Int64) (I : xMem) (L : xLon) : Option Int32 := (X4_count P I (2 : Int32)).bind fun v1 => (X4_keep P I (1 : Int32)).bind fun q2 => if q2.1 = v1 then ((X4_on q2.2 (0 : Int32)).bind fun q4 => if q4.1 = (0 : Int32) then ((X4_count P q4.2 (4 : Int32)).bind fun v6 => if v6 = (0 : Int32) then ((X4_on q4.2 (1 : Int32)).bind fun q8 => if q8.1 = v1 then ((X4_undo q8.2 (0 : Int32)).bind fun q10 => if q10.1 = v1 then ((X4_count P q10.2 (7 : Int32)).bind fun v12 => if v12 = (0 : Int32) then (XC_2555 tI P Dr bigF x4 x7 (0 : Int32) q10.2 L) else (some (0 : Int32))) else (some (0 : Int32))) else (some (0 : Int32))) else (some (0 : Int32))) else (some (0 : Int32))) else (some (0 : Int32))
set_option maxHeartbeats 4000000 in
set_option maxRecDepth 100000 in
theorem kc_2488 (C0 : LC p l e s m args below meth c Q D cy ad tI) {P Dr : Nat} (hX : cOk ad P Dr) (x4 : Int32) (x7 : Int64) (I : xMem) (L : xLon) (H : Heap) (locs : List Loc) (ls : Array Slot) (h : XC_2488 tI P Dr x4 x7 I L = some 1) : cG D cy ad P Dr I L H → va_S (fun q : Nat => s.heap.size ≤ q) s.heap H locs → lv_has ls 43 [(1, .ref (ad 0)), (4, .int x4), (7, .long x7)] → W p l e room_1 s m args below meth c H locs 600000 7302250 Q (F0 m 2488 ls []) := by
  obtain ⟨⟨hx, hb, hml, hown, hts⟩, ⟨hK, hZ⟩, hi, hA, kr⟩ := id C0
  intro hG hS hl
  unfold XC_2488 at h
  refine lv_aload_n hx hb dL_law_2488 rfl (lv_at hl 0 rfl) ?_
  refine lv_iconst (v := (2 : Int32)) hx hb dL_law_2489 (by decide) ?_
  obtain ⟨v1, ev1, h⟩ := obind h
  refine lw_ci (va_runV (As := [.int (2 : Int32)]) (rest := []) ⟨hx, hb, hml, hown, hts⟩ (k_X4_count l D cy ad P Dr tI hX I L (2 : Int32) v1 ev1) (cwV 1 hts (goodIn_up gL_law_X4_count) rfl rfl rfl cd_X4_count ⟨Nat.le_of_ble_eq_true rfl, Nat.le_of_ble_eq_true rfl⟩) ⟨g_blind cZm, g_recv hK hG (k := 0) (by decide) (cE_4 _ _) vwCl_4, g_pre cZm hK hG hZ (law_S0 hS)⟩ rfl rfl hl.1 rfl (lv_room (Nat.le_of_ble_eq_true rfl)) dL_law_2490 ⟨Nat.le_of_ble_eq_true rfl, Nat.le_of_ble_eq_true rfl⟩) hS hA (fun H locs hG hS => ?_)
  refine lv_istore (lv' := [(9, .int v1), (1, .ref (ad 0)), (4, .int x4), (7, .long x7)]) hx hb dL_law_2493 hl (by decide) rfl (fun ls hl => ?_)
  refine lv_aload_n hx hb dL_law_2495 rfl (lv_at hl 1 rfl) ?_
  refine lv_iconst (v := (1 : Int32)) hx hb dL_law_2496 (by decide) ?_
  obtain ⟨q2, eq2, h⟩ := obind h
  refine lw_ci (va_runV (As := [.int (1 : Int32)]) (rest := []) ⟨hx, hb, hml, hown, hts⟩ (k_X4_keep l D cy ad P Dr tI hX I L (1 : Int32) q2 eq2) (cwV 1 hts (goodIn_up gL_law_X4_keep) rfl rfl rfl cd_X4_keep ⟨Nat.le_of_ble_eq_true rfl, Nat.le_of_ble_eq_true rfl⟩) ⟨g_blind cZm, g_recv hK hG (k := 0) (by decide) (cE_4 _ _) vwCl_4, g_pre cZm hK hG hZ (law_S0 hS)⟩ rfl rfl hl.1 rfl (lv_room (Nat.le_of_ble_eq_true rfl)) dL_law_2497 ⟨Nat.le_of_ble_eq_true rfl, Nat.le_of_ble_eq_true rfl⟩) hS hA (fun H locs hG hS => ?_)
  refine lv_iload hx hb dL_law_2500 (lv_at hl 0 rfl) ?_
  refine lv_icmp_ne (tgt := 2550) hx hb dL_law_2502 (by decide) (fun c3 => ?_) (fun c3 => ?_)
  · have h := ite_f h c3
    refine lv_iconst (v := (0 : Int32)) hx hb dL_law_2550 (by decide) ?_
    have h := Option.some.inj h
    exact absurd h (by decide)
  · have h := ite_t h c3
    refine lv_aload_n hx hb dL_law_2505 rfl (lv_at hl 1 rfl) ?_
    refine lv_iconst (v := (0 : Int32)) hx hb dL_law_2506 (by decide) ?_
    obtain ⟨q4, eq4, h⟩ := obind h
    refine lw_ci (va_runV (As := [.int (0 : Int32)]) (rest := []) ⟨hx, hb, hml, hown, hts⟩ (k_X4_on l D cy ad P Dr tI hX q2.2 L (0 : Int32) q4 eq4) (cwV 1 hts (goodIn_up gL_law_X4_on) rfl rfl rfl cd_X4_on ⟨Nat.le_of_ble_eq_true rfl, Nat.le_of_ble_eq_true rfl⟩) ⟨g_blind cZm, g_recv hK hG (k := 0) (by decide) (cE_4 _ _) vwCl_4, g_pre cZm hK hG hZ (law_S0 hS)⟩ rfl rfl hl.1 rfl (lv_room (Nat.le_of_ble_eq_true rfl)) dL_law_2507 ⟨Nat.le_of_ble_eq_true rfl, Nat.le_of_ble_eq_true rfl⟩) hS hA (fun H locs hG hS => ?_)
    refine lv_if_ne (tgt := 2550) hx hb dL_law_2510 (by decide) (fun c5 => ?_) (fun c5 => ?_)
    · have h := ite_f h c5
      refine lv_iconst (v := (0 : Int32)) hx hb dL_law_2550 (by decide) ?_
      have h := Option.some.inj h
      exact absurd h (by decide)
    · have h := ite_t h c5
      refine lv_aload_n hx hb dL_law_2513 rfl (lv_at hl 1 rfl) ?_
      refine lv_iconst (v := (4 : Int32)) hx hb dL_law_2514 (by decide) ?_
      obtain ⟨v6, ev6, h⟩ := obind h
      refine lw_ci (va_runV (As := [.int (4 : Int32)]) (rest := []) ⟨hx, hb, hml, hown, hts⟩ (k_X4_count l D cy ad P Dr tI hX q4.2 L (4 : Int32) v6 ev6) (cwV 1 hts (goodIn_up gL_law_X4_count) rfl rfl rfl cd_X4_count ⟨Nat.le_of_ble_eq_true rfl, Nat.le_of_ble_eq_true rfl⟩) ⟨g_blind cZm, g_recv hK hG (k := 0) (by decide) (cE_4 _ _) vwCl_4, g_pre cZm hK hG hZ (law_S0 hS)⟩ rfl rfl hl.1 rfl (lv_room (Nat.le_of_ble_eq_true rfl)) dL_law_2515 ⟨Nat.le_of_ble_eq_true rfl, Nat.le_of_ble_eq_true rfl⟩) hS hA (fun H locs hG hS => ?_)
      refine lv_if_ne (tgt := 2550) hx hb dL_law_2518 (by decide) (fun c7 => ?_) (fun c7 => ?_)
      · have h := ite_f h c7
        refine lv_iconst (v := (0 : Int32)) hx hb dL_law_2550 (by decide) ?_
        have h := Option.some.inj h
        exact absurd h (by decide)
      · have h := ite_t h c7
        refine lv_aload_n hx hb dL_law_2521 rfl (lv_at hl 1 rfl) ?_
        refine lv_iconst (v := (1 : Int32)) hx hb dL_law_2522 (by decide) ?_
        obtain ⟨q8, eq8, h⟩ := obind h
        refine lw_ci (va_runV (As := [.int (1 : Int32)]) (rest := []) ⟨hx, hb, hml, hown, hts⟩ (k_X4_on l D cy ad P Dr tI hX q4.2 L (1 : Int32) q8 eq8) (cwV 1 hts (goodIn_up gL_law_X4_on) rfl rfl rfl cd_X4_on ⟨Nat.le_of_ble_eq_true rfl, Nat.le_of_ble_eq_true rfl⟩) ⟨g_blind cZm, g_recv hK hG (k := 0) (by decide) (cE_4 _ _) vwCl_4, g_pre cZm hK hG hZ (law_S0 hS)⟩ rfl rfl hl.1 rfl (lv_room (Nat.le_of_ble_eq_true rfl)) dL_law_2523 ⟨Nat.le_of_ble_eq_true rfl, Nat.le_of_ble_eq_true rfl⟩) hS hA (fun H locs hG hS => ?_)
        refine lv_iload hx hb dL_law_2526 (lv_at hl 0 rfl) ?_
        refine lv_icmp_ne (tgt := 2550) hx hb dL_law_2528 (by decide) (fun c9 => ?_) (fun c9 => ?_)
        · have h := ite_f h c9
          refine lv_iconst (v := (0 : Int32)) hx hb dL_law_2550 (by decide) ?_
          have h := Option.some.inj h
          exact absurd h (by decide)
        · have h := ite_t h c9
          refine lv_aload_n hx hb dL_law_2531 rfl (lv_at hl 1 rfl) ?_
          refine lv_iconst (v := (0 : Int32)) hx hb dL_law_2532 (by decide) ?_
          obtain ⟨q10, eq10, h⟩ := obind h
          refine lw_ci (va_runV (As := [.int (0 : Int32)]) (rest := []) ⟨hx, hb, hml, hown, hts⟩ (k_X4_undo l D cy ad P Dr tI hX q8.2 L (0 : Int32) q10 eq10) (cwV 1 hts (goodIn_up gL_law_X4_undo) rfl rfl rfl cd_X4_undo ⟨Nat.le_of_ble_eq_true rfl, Nat.le_of_ble_eq_true rfl⟩) ⟨g_blind cZm, g_recv hK hG (k := 0) (by decide) (cE_4 _ _) vwCl_4, g_pre cZm hK hG hZ (law_S0 hS)⟩ rfl rfl hl.1 rfl (lv_room (Nat.le_of_ble_eq_true rfl)) dL_law_2533 ⟨Nat.le_of_ble_eq_true rfl, Nat.le_of_ble_eq_true rfl⟩) hS hA (fun H locs hG hS => ?_)
          refine lv_iload hx hb dL_law_2536 (lv_at hl 0 rfl) ?_
          refine lv_icmp_ne (tgt := 2550) hx hb dL_law_2538 (by decide) (fun c11 => ?_) (fun c11 => ?_)
          · have h := ite_f h c11
            refine lv_iconst (v := (0 : Int32)) hx hb dL_law_2550 (by decide) ?_
            have h := Option.some.inj h
            exact absurd h (by decide)
          · have h := ite_t h c11
            refine lv_aload_n hx hb dL_law_2541 rfl (lv_at hl 1 rfl) ?_
            refine lv_bipush (v := (7 : Int32)) hx hb dL_law_2542 (by decide) ?_
            obtain ⟨v12, ev12, h⟩ := obind h
            refine lw_ci (va_runV (As := [.int (7 : Int32)]) (rest := []) ⟨hx, hb, hml, hown, hts⟩ (k_X4_count l D cy ad P Dr tI hX q10.2 L (7 : Int32) v12 ev12) (cwV 1 hts (goodIn_up gL_law_X4_count) rfl rfl rfl cd_X4_count ⟨Nat.le_of_ble_eq_true rfl, Nat.le_of_ble_eq_true rfl⟩) ⟨g_blind cZm, g_recv hK hG (k := 0) (by decide) (cE_4 _ _) vwCl_4, g_pre cZm hK hG hZ (law_S0 hS)⟩ rfl rfl hl.1 rfl (lv_room (Nat.le_of_ble_eq_true rfl)) dL_law_2544 ⟨Nat.le_of_ble_eq_true rfl, Nat.le_of_ble_eq_true rfl⟩) hS hA (fun H locs hG hS => ?_)
            refine lv_if_eq (tgt := 2552) hx hb dL_law_2547 (by decide) (fun c13 => ?_) (fun c13 => ?_)
            · have h := ite_t h c13
              refine lv_iconst (v := (0 : Int32)) hx hb dL_law_2552 (by decide) ?_
              refine lv_istore (lv' := [(10, .int (0 : Int32)), (9, .int v1), (1, .ref (ad 0)), (4, .int x4), (7, .long x7)]) hx hb dL_law_2553 hl (by decide) rfl (fun ls hl => ?_)
              exact kc_2555 C0 hX bigF _ _ _ _ _ _ _ _ h hG hS (lv_sub hl [2, 3, 4, 0] rfl)
            · have h := ite_f h c13
              refine lv_iconst (v := (0 : Int32)) hx hb dL_law_2550 (by decide) ?_
              have h := Option.some.inj h
              exact absurd h (by decide)
def XC_2439 (tI : xTab) (P Dr : Nat) (B67 : Int32 → Int32 → Int32 → Int64 → Int32 → xMem → xLon → Option Int32) (x4 : Int32) (x5 : Int32) (x6 : Int32) (x7 : Int64) (x9 : Int32) (x12 : Int32) (x13 : Int32) (x14 : Int32) (x15 : Int32) (I : xMem) (L : xLon) : Option Int32 := (X4_count P I (3 : Int32)).bind fun v1 => if v1 = x12 then ((X4_count P I (4 : Int32)).bind fun v3 => if v3 = x13 then ((X4_count P I (5 : Int32)).bind fun v5 => if v5 = x14 then ((X4_count P I (7 : Int32)).bind fun v7 => if v7 = x15 then (B67 x4 x5 x6 x7 (x9 + (1 : Int32)) I L) else (some (0 : Int32))) else (some (0 : Int32))) else (some (0 : Int32))) else (some (0 : Int32))
set_option maxHeartbeats 4000000 in
set_option maxRecDepth 100000 in
theorem kc_2439 (C0 : LC p l e s m args below meth c Q D cy ad tI) {P Dr : Nat} (hX : cOk ad P Dr) {B67 : Int32 → Int32 → Int32 → Int64 → Int32 → xMem → xLon → Option Int32} (hB67 : ∀ (y4 : Int32) (y5 : Int32) (y6 : Int32) (y7 : Int64) (y9 : Int32) (I : xMem) (L : xLon) (H : Heap) (locs : List Loc) (ls : Array Slot), B67 y4 y5 y6 y7 y9 I L = some 1 → cG D cy ad P Dr I L H → va_S (fun q : Nat => s.heap.size ≤ q) s.heap H locs → lv_has ls 43 [(0, .ref tI.2.1), (1, .ref (ad 0)), (2, .ref (ad 62)), (3, .ref (ad 63)), (4, .int y4), (5, .int y5), (6, .int y6), (7, .long y7), (9, .int y9)] → W p l e room_1 s m args below meth c H locs 600000 7302250 Q (F0 m 67 ls [])) (x4 : Int32) (x5 : Int32) (x6 : Int32) (x7 : Int64) (x9 : Int32) (x12 : Int32) (x13 : Int32) (x14 : Int32) (x15 : Int32) (I : xMem) (L : xLon) (H : Heap) (locs : List Loc) (ls : Array Slot) (h : XC_2439 tI P Dr B67 x4 x5 x6 x7 x9 x12 x13 x14 x15 I L = some 1) : cG D cy ad P Dr I L H → va_S (fun q : Nat => s.heap.size ≤ q) s.heap H locs → lv_has ls 43 [(0, .ref tI.2.1), (1, .ref (ad 0)), (2, .ref (ad 62)), (3, .ref (ad 63)), (4, .int x4), (5, .int x5), (6, .int x6), (7, .long x7), (9, .int x9), (12, .int x12), (13, .int x13), (14, .int x14), (15, .int x15)] → W p l e room_1 s m args below meth c H locs 600000 7302250 Q (F0 m 2439 ls []) := by
  obtain ⟨⟨hx, hb, hml, hown, hts⟩, ⟨hK, hZ⟩, hi, hA, kr⟩ := id C0
  intro hG hS hl
  unfold XC_2439 at h
  refine lv_aload_n hx hb dL_law_2439 rfl (lv_at hl 1 rfl) ?_
  refine lv_iconst (v := (3 : Int32)) hx hb dL_law_2440 (by decide) ?_
  obtain ⟨v1, ev1, h⟩ := obind h
  refine lw_ci (va_runV (As := [.int (3 : Int32)]) (rest := []) ⟨hx, hb, hml, hown, hts⟩ (k_X4_count l D cy ad P Dr tI hX I L (3 : Int32) v1 ev1) (cwV 1 hts (goodIn_up gL_law_X4_count) rfl rfl rfl cd_X4_count ⟨Nat.le_of_ble_eq_true rfl, Nat.le_of_ble_eq_true rfl⟩) ⟨g_blind cZm, g_recv hK hG (k := 0) (by decide) (cE_4 _ _) vwCl_4, g_pre cZm hK hG hZ (law_S0 hS)⟩ rfl rfl hl.1 rfl (lv_room (Nat.le_of_ble_eq_true rfl)) dL_law_2441 ⟨Nat.le_of_ble_eq_true rfl, Nat.le_of_ble_eq_true rfl⟩) hS hA (fun H locs hG hS => ?_)
  refine lv_iload hx hb dL_law_2444 (lv_at hl 9 rfl) ?_
  refine lv_icmp_ne (tgt := 2480) hx hb dL_law_2446 (by decide) (fun c2 => ?_) (fun c2 => ?_)
  · have h := ite_f h c2
    refine lv_iconst (v := (0 : Int32)) hx hb dL_law_2480 (by decide) ?_
    have h := Option.some.inj h
    exact absurd h (by decide)
  · have h := ite_t h c2
    refine lv_aload_n hx hb dL_law_2449 rfl (lv_at hl 1 rfl) ?_
    refine lv_iconst (v := (4 : Int32)) hx hb dL_law_2450 (by decide) ?_
    obtain ⟨v3, ev3, h⟩ := obind h
    refine lw_ci (va_runV (As := [.int (4 : Int32)]) (rest := []) ⟨hx, hb, hml, hown, hts⟩ (k_X4_count l D cy ad P Dr tI hX I L (4 : Int32) v3 ev3) (cwV 1 hts (goodIn_up gL_law_X4_count) rfl rfl rfl cd_X4_count ⟨Nat.le_of_ble_eq_true rfl, Nat.le_of_ble_eq_true rfl⟩) ⟨g_blind cZm, g_recv hK hG (k := 0) (by decide) (cE_4 _ _) vwCl_4, g_pre cZm hK hG hZ (law_S0 hS)⟩ rfl rfl hl.1 rfl (lv_room (Nat.le_of_ble_eq_true rfl)) dL_law_2451 ⟨Nat.le_of_ble_eq_true rfl, Nat.le_of_ble_eq_true rfl⟩) hS hA (fun H locs hG hS => ?_)
    refine lv_iload hx hb dL_law_2454 (lv_at hl 10 rfl) ?_
    refine lv_icmp_ne (tgt := 2480) hx hb dL_law_2456 (by decide) (fun c4 => ?_) (fun c4 => ?_)
    · have h := ite_f h c4
      refine lv_iconst (v := (0 : Int32)) hx hb dL_law_2480 (by decide) ?_
      have h := Option.some.inj h
      exact absurd h (by decide)
    · have h := ite_t h c4
      refine lv_aload_n hx hb dL_law_2459 rfl (lv_at hl 1 rfl) ?_
      refine lv_iconst (v := (5 : Int32)) hx hb dL_law_2460 (by decide) ?_
      obtain ⟨v5, ev5, h⟩ := obind h
      refine lw_ci (va_runV (As := [.int (5 : Int32)]) (rest := []) ⟨hx, hb, hml, hown, hts⟩ (k_X4_count l D cy ad P Dr tI hX I L (5 : Int32) v5 ev5) (cwV 1 hts (goodIn_up gL_law_X4_count) rfl rfl rfl cd_X4_count ⟨Nat.le_of_ble_eq_true rfl, Nat.le_of_ble_eq_true rfl⟩) ⟨g_blind cZm, g_recv hK hG (k := 0) (by decide) (cE_4 _ _) vwCl_4, g_pre cZm hK hG hZ (law_S0 hS)⟩ rfl rfl hl.1 rfl (lv_room (Nat.le_of_ble_eq_true rfl)) dL_law_2461 ⟨Nat.le_of_ble_eq_true rfl, Nat.le_of_ble_eq_true rfl⟩) hS hA (fun H locs hG hS => ?_)
      refine lv_iload hx hb dL_law_2464 (lv_at hl 11 rfl) ?_
      refine lv_icmp_ne (tgt := 2480) hx hb dL_law_2466 (by decide) (fun c6 => ?_) (fun c6 => ?_)
      · have h := ite_f h c6
        refine lv_iconst (v := (0 : Int32)) hx hb dL_law_2480 (by decide) ?_
        have h := Option.some.inj h
        exact absurd h (by decide)
      · have h := ite_t h c6
        refine lv_aload_n hx hb dL_law_2469 rfl (lv_at hl 1 rfl) ?_
        refine lv_bipush (v := (7 : Int32)) hx hb dL_law_2470 (by decide) ?_
        obtain ⟨v7, ev7, h⟩ := obind h
        refine lw_ci (va_runV (As := [.int (7 : Int32)]) (rest := []) ⟨hx, hb, hml, hown, hts⟩ (k_X4_count l D cy ad P Dr tI hX I L (7 : Int32) v7 ev7) (cwV 1 hts (goodIn_up gL_law_X4_count) rfl rfl rfl cd_X4_count ⟨Nat.le_of_ble_eq_true rfl, Nat.le_of_ble_eq_true rfl⟩) ⟨g_blind cZm, g_recv hK hG (k := 0) (by decide) (cE_4 _ _) vwCl_4, g_pre cZm hK hG hZ (law_S0 hS)⟩ rfl rfl hl.1 rfl (lv_room (Nat.le_of_ble_eq_true rfl)) dL_law_2472 ⟨Nat.le_of_ble_eq_true rfl, Nat.le_of_ble_eq_true rfl⟩) hS hA (fun H locs hG hS => ?_)
        refine lv_iload hx hb dL_law_2475 (lv_at hl 12 rfl) ?_
        refine lv_icmp_eq (tgt := 2482) hx hb dL_law_2477 (by decide) (fun c8 => ?_) (fun c8 => ?_)
        · have h := ite_t h c8
          refine lv_iinc (v := (x9 + (1 : Int32))) (lv' := [(9, .int (x9 + (1 : Int32))), (0, .ref tI.2.1), (1, .ref (ad 0)), (2, .ref (ad 62)), (3, .ref (ad 63)), (4, .int x4), (5, .int x5), (6, .int x6), (7, .long x7), (12, .int x12), (13, .int x13), (14, .int x14), (15, .int x15)]) hx hb dL_law_2482 hl (k := 8) rfl rfl (by decide) rfl (fun ls hl => ?_)
          refine lv_goto (tgt := 67) hx hb dL_law_2485 (by decide) ?_
          exact hB67 _ _ _ _ _ _ _ _ _ _ h hG hS (lv_sub hl [1, 2, 3, 4, 5, 6, 7, 8, 0] rfl)
        · have h := ite_f h c8
          refine lv_iconst (v := (0 : Int32)) hx hb dL_law_2480 (by decide) ?_
          have h := Option.some.inj h
          exact absurd h (by decide)
def XC_2367 (tI : xTab) (P Dr : Nat) (B67 : Int32 → Int32 → Int32 → Int64 → Int32 → xMem → xLon → Option Int32) (x4 : Int32) (x5 : Int32) (x6 : Int32) (x7 : Int64) (x9 : Int32) (x10 : Int32) (x11 : Int32) (x12 : Int32) (x13 : Int32) (x14 : Int32) (x15 : Int32) (I : xMem) (L : xLon) : Option Int32 := (X4_lots P I (4 : Int32) ((1 : Int32) + (x10 &&& (16777215 : Int32)))).bind fun q1 => if q1.1 < (0 : Int32) then (some (0 : Int32)) else (if x4 < q1.1 then (some (0 : Int32)) else ((X4_count P q1.2 (4 : Int32)).bind fun v4 => (L_bits v4).bind fun v5 => if q1.1 = v5 then ((X4_count P q1.2 (2 : Int32)).bind fun v7 => if v7 = (x11 + (4 : Int32)) then ((X4_count P q1.2 (7 : Int32)).bind fun v9 => if v9 < x15 then (some (0 : Int32)) else ((X4_undo q1.2 x11).bind fun q11 => if q11.1 = (4 : Int32) then (XC_2439 tI P Dr B67 x4 x5 x6 x7 x9 x12 x13 x14 x15 q11.2 L) else (some (0 : Int32)))) else (some (0 : Int32))) else (some (0 : Int32))))
set_option maxHeartbeats 4000000 in
set_option maxRecDepth 100000 in
theorem kc_2367 (C0 : LC p l e s m args below meth c Q D cy ad tI) {P Dr : Nat} (hX : cOk ad P Dr) {B67 : Int32 → Int32 → Int32 → Int64 → Int32 → xMem → xLon → Option Int32} (hB67 : ∀ (y4 : Int32) (y5 : Int32) (y6 : Int32) (y7 : Int64) (y9 : Int32) (I : xMem) (L : xLon) (H : Heap) (locs : List Loc) (ls : Array Slot), B67 y4 y5 y6 y7 y9 I L = some 1 → cG D cy ad P Dr I L H → va_S (fun q : Nat => s.heap.size ≤ q) s.heap H locs → lv_has ls 43 [(0, .ref tI.2.1), (1, .ref (ad 0)), (2, .ref (ad 62)), (3, .ref (ad 63)), (4, .int y4), (5, .int y5), (6, .int y6), (7, .long y7), (9, .int y9)] → W p l e room_1 s m args below meth c H locs 600000 7302250 Q (F0 m 67 ls [])) (x4 : Int32) (x5 : Int32) (x6 : Int32) (x7 : Int64) (x9 : Int32) (x10 : Int32) (x11 : Int32) (x12 : Int32) (x13 : Int32) (x14 : Int32) (x15 : Int32) (I : xMem) (L : xLon) (H : Heap) (locs : List Loc) (ls : Array Slot) (h : XC_2367 tI P Dr B67 x4 x5 x6 x7 x9 x10 x11 x12 x13 x14 x15 I L = some 1) : cG D cy ad P Dr I L H → va_S (fun q : Nat => s.heap.size ≤ q) s.heap H locs → lv_has ls 43 [(0, .ref tI.2.1), (1, .ref (ad 0)), (2, .ref (ad 62)), (3, .ref (ad 63)), (4, .int x4), (5, .int x5), (6, .int x6), (7, .long x7), (9, .int x9), (10, .int x10), (11, .int x11), (12, .int x12), (13, .int x13), (14, .int x14), (15, .int x15)] → W p l e room_1 s m args below meth c H locs 600000 7302250 Q (F0 m 2367 ls []) := by
  obtain ⟨⟨hx, hb, hml, hown, hts⟩, ⟨hK, hZ⟩, hi, hA, kr⟩ := id C0
  have k1 := hts (.constant RL 173 (16777215)) (by decide +kernel)
  intro hG hS hl
  unfold XC_2367 at h
  refine lv_aload_n hx hb dL_law_2367 rfl (lv_at hl 1 rfl) ?_
  refine lv_iconst (v := (4 : Int32)) hx hb dL_law_2368 (by decide) ?_
  refine lv_iconst (v := (1 : Int32)) hx hb dL_law_2369 (by decide) ?_
  refine lv_iload hx hb dL_law_2370 (lv_at hl 9 rfl) ?_
  refine lv_ldc (v := (16777215 : Int32)) hx hb hown k1 dL_law_2372 ?_
  refine lv_iand hx hb dL_law_2374 ?_
  refine lv_iadd hx hb dL_law_2375 ?_
  obtain ⟨q1, eq1, h⟩ := obind h
  refine lw_ci (va_runV (As := [.int (4 : Int32), .int ((1 : Int32) + (x10 &&& (16777215 : Int32)))]) (rest := []) ⟨hx, hb, hml, hown, hts⟩ (k_X4_lots l D cy ad P Dr tI hX I L (4 : Int32) ((1 : Int32) + (x10 &&& (16777215 : Int32))) q1 eq1) (cwV 2 hts (goodIn_up gL_law_X4_lots) rfl rfl rfl cd_X4_lots ⟨Nat.le_of_ble_eq_true rfl, Nat.le_of_ble_eq_true rfl⟩) ⟨g_blind cZm, g_recv hK hG (k := 0) (by decide) (cE_4 _ _) vwCl_4, g_pre cZm hK hG hZ (law_S0 hS)⟩ rfl rfl hl.1 rfl (lv_room (Nat.le_of_ble_eq_true rfl)) dL_law_2376 ⟨Nat.le_of_ble_eq_true rfl, Nat.le_of_ble_eq_true rfl⟩) hS hA (fun H locs hG hS => ?_)
  refine lv_istore (lv' := [(42, .int q1.1), (0, .ref tI.2.1), (1, .ref (ad 0)), (2, .ref (ad 62)), (3, .ref (ad 63)), (4, .int x4), (5, .int x5), (6, .int x6), (7, .long x7), (9, .int x9), (10, .int x10), (11, .int x11), (12, .int x12), (13, .int x13), (14, .int x14), (15, .int x15)]) hx hb dL_law_2379 hl (by decide) rfl (fun ls hl => ?_)
  refine lv_iload hx hb dL_law_2381 (lv_at hl 0 rfl) ?_
  refine lv_if_lt (tgt := 2480) hx hb dL_law_2383 (by decide) (fun c2 => ?_) (fun c2 => ?_)
  · have h := ite_t h c2
    refine lv_iconst (v := (0 : Int32)) hx hb dL_law_2480 (by decide) ?_
    have h := Option.some.inj h
    exact absurd h (by decide)
  · have h := ite_f h c2
    refine lv_iload hx hb dL_law_2386 (lv_at hl 0 rfl) ?_
    refine lv_iload hx hb dL_law_2388 (lv_at hl 5 rfl) ?_
    refine lv_icmp_gt (tgt := 2480) hx hb dL_law_2390 (by decide) (fun c3 => ?_) (fun c3 => ?_)
    · have h := ite_t h c3
      refine lv_iconst (v := (0 : Int32)) hx hb dL_law_2480 (by decide) ?_
      have h := Option.some.inj h
      exact absurd h (by decide)
    · have h := ite_f h c3
      refine lv_iload hx hb dL_law_2393 (lv_at hl 0 rfl) ?_
      refine lv_aload_n hx hb dL_law_2395 rfl (lv_at hl 2 rfl) ?_
      refine lv_iconst (v := (4 : Int32)) hx hb dL_law_2396 (by decide) ?_
      obtain ⟨v4, ev4, h⟩ := obind h
      refine lw_ci (va_runV (As := [.int (4 : Int32)]) (rest := [.int q1.1]) ⟨hx, hb, hml, hown, hts⟩ (k_X4_count l D cy ad P Dr tI hX q1.2 L (4 : Int32) v4 ev4) (cwV 1 hts (goodIn_up gL_law_X4_count) rfl rfl rfl cd_X4_count ⟨Nat.le_of_ble_eq_true rfl, Nat.le_of_ble_eq_true rfl⟩) ⟨g_blind cZm, g_recv hK hG (k := 0) (by decide) (cE_4 _ _) vwCl_4, g_pre cZm hK hG hZ (law_S0 hS)⟩ rfl rfl hl.1 rfl (lv_room (Nat.le_of_ble_eq_true rfl)) dL_law_2397 ⟨Nat.le_of_ble_eq_true rfl, Nat.le_of_ble_eq_true rfl⟩) hS hA (fun H locs hG hS => ?_)
      obtain ⟨v5, ev5, h⟩ := obind h
      refine lw_ci (va_runS (As := [.int v4]) (rest := [.int q1.1]) ⟨hx, hb, hml, hown, hts⟩ (k_L_bits l D cy ad P Dr tI hX q1.2 L v4 v5 ev5) (va_cwS 1 hts (goodIn_up gL_law_L_bits) rfl rfl rfl cd_L_bits.2 ⟨Nat.le_of_ble_eq_true rfl, Nat.le_of_ble_eq_true rfl⟩) ⟨g_blind cZm, g_pre cZm hK hG hZ (law_S0 hS)⟩ rfl rfl hl.1 rfl (lv_room (Nat.le_of_ble_eq_true rfl)) dL_law_2400 ⟨Nat.le_of_ble_eq_true rfl, Nat.le_of_ble_eq_true rfl⟩) hS hA (fun H locs hG hS => ?_)
      refine lv_icmp_ne (tgt := 2480) hx hb dL_law_2403 (by decide) (fun c6 => ?_) (fun c6 => ?_)
      · have h := ite_f h c6
        refine lv_iconst (v := (0 : Int32)) hx hb dL_law_2480 (by decide) ?_
        have h := Option.some.inj h
        exact absurd h (by decide)
      · have h := ite_t h c6
        refine lv_aload_n hx hb dL_law_2406 rfl (lv_at hl 2 rfl) ?_
        refine lv_iconst (v := (2 : Int32)) hx hb dL_law_2407 (by decide) ?_
        obtain ⟨v7, ev7, h⟩ := obind h
        refine lw_ci (va_runV (As := [.int (2 : Int32)]) (rest := []) ⟨hx, hb, hml, hown, hts⟩ (k_X4_count l D cy ad P Dr tI hX q1.2 L (2 : Int32) v7 ev7) (cwV 1 hts (goodIn_up gL_law_X4_count) rfl rfl rfl cd_X4_count ⟨Nat.le_of_ble_eq_true rfl, Nat.le_of_ble_eq_true rfl⟩) ⟨g_blind cZm, g_recv hK hG (k := 0) (by decide) (cE_4 _ _) vwCl_4, g_pre cZm hK hG hZ (law_S0 hS)⟩ rfl rfl hl.1 rfl (lv_room (Nat.le_of_ble_eq_true rfl)) dL_law_2408 ⟨Nat.le_of_ble_eq_true rfl, Nat.le_of_ble_eq_true rfl⟩) hS hA (fun H locs hG hS => ?_)
        refine lv_iload hx hb dL_law_2411 (lv_at hl 11 rfl) ?_
        refine lv_iconst (v := (4 : Int32)) hx hb dL_law_2413 (by decide) ?_
        refine lv_iadd hx hb dL_law_2414 ?_
        refine lv_icmp_ne (tgt := 2480) hx hb dL_law_2415 (by decide) (fun c8 => ?_) (fun c8 => ?_)
        · have h := ite_f h c8
          refine lv_iconst (v := (0 : Int32)) hx hb dL_law_2480 (by decide) ?_
          have h := Option.some.inj h
          exact absurd h (by decide)
        · have h := ite_t h c8
          refine lv_aload_n hx hb dL_law_2418 rfl (lv_at hl 2 rfl) ?_
          refine lv_bipush (v := (7 : Int32)) hx hb dL_law_2419 (by decide) ?_
          obtain ⟨v9, ev9, h⟩ := obind h
          refine lw_ci (va_runV (As := [.int (7 : Int32)]) (rest := []) ⟨hx, hb, hml, hown, hts⟩ (k_X4_count l D cy ad P Dr tI hX q1.2 L (7 : Int32) v9 ev9) (cwV 1 hts (goodIn_up gL_law_X4_count) rfl rfl rfl cd_X4_count ⟨Nat.le_of_ble_eq_true rfl, Nat.le_of_ble_eq_true rfl⟩) ⟨g_blind cZm, g_recv hK hG (k := 0) (by decide) (cE_4 _ _) vwCl_4, g_pre cZm hK hG hZ (law_S0 hS)⟩ rfl rfl hl.1 rfl (lv_room (Nat.le_of_ble_eq_true rfl)) dL_law_2421 ⟨Nat.le_of_ble_eq_true rfl, Nat.le_of_ble_eq_true rfl⟩) hS hA (fun H locs hG hS => ?_)
          refine lv_iload hx hb dL_law_2424 (lv_at hl 15 rfl) ?_
          refine lv_icmp_lt (tgt := 2480) hx hb dL_law_2426 (by decide) (fun c10 => ?_) (fun c10 => ?_)
          · have h := ite_t h c10
            refine lv_iconst (v := (0 : Int32)) hx hb dL_law_2480 (by decide) ?_
            have h := Option.some.inj h
            exact absurd h (by decide)
          · have h := ite_f h c10
            refine lv_aload_n hx hb dL_law_2429 rfl (lv_at hl 2 rfl) ?_
            refine lv_iload hx hb dL_law_2430 (lv_at hl 11 rfl) ?_
            obtain ⟨q11, eq11, h⟩ := obind h
            refine lw_ci (va_runV (As := [.int x11]) (rest := []) ⟨hx, hb, hml, hown, hts⟩ (k_X4_undo l D cy ad P Dr tI hX q1.2 L x11 q11 eq11) (cwV 1 hts (goodIn_up gL_law_X4_undo) rfl rfl rfl cd_X4_undo ⟨Nat.le_of_ble_eq_true rfl, Nat.le_of_ble_eq_true rfl⟩) ⟨g_blind cZm, g_recv hK hG (k := 0) (by decide) (cE_4 _ _) vwCl_4, g_pre cZm hK hG hZ (law_S0 hS)⟩ rfl rfl hl.1 rfl (lv_room (Nat.le_of_ble_eq_true rfl)) dL_law_2432 ⟨Nat.le_of_ble_eq_true rfl, Nat.le_of_ble_eq_true rfl⟩) hS hA (fun H locs hG hS => ?_)
            refine lv_iconst (v := (4 : Int32)) hx hb dL_law_2435 (by decide) ?_
            refine lv_icmp_ne (tgt := 2480) hx hb dL_law_2436 (by decide) (fun c12 => ?_) (fun c12 => ?_)
            · have h := ite_f h c12
              refine lv_iconst (v := (0 : Int32)) hx hb dL_law_2480 (by decide) ?_
              have h := Option.some.inj h
              exact absurd h (by decide)
            · have h := ite_t h c12
              exact kc_2439 C0 hX hB67 _ _ _ _ _ _ _ _ _ _ _ _ _ _ h hG hS (lv_sub hl [1, 2, 3, 4, 5, 6, 7, 8, 9, 12, 13, 14, 15] rfl)
def XC_2311 (tI : xTab) (P Dr : Nat) (B67 : Int32 → Int32 → Int32 → Int64 → Int32 → xMem → xLon → Option Int32) (x4 : Int32) (x5 : Int32) (x6 : Int32) (x7 : Int64) (x9 : Int32) (x10 : Int32) (x11 : Int32) (x12 : Int32) (x13 : Int32) (x14 : Int32) (x15 : Int32) (x29 : Int32) (x30 : Int32) (x38 : Int32) (x41 : Int32) (I : xMem) (L : xLon) : Option Int32 := (X4_mid P I L x29 x30 x38).bind fun q1 => if q1.1 = (1 : Int32) then (if (lg_cmp (X4_upper q1.2) (x41.toInt64 * (X4_lower q1.2))) < (0 : Int32) then (some (0 : Int32)) else ((X4_sink P I x29 x30 (0 : Int32) (0 : Int32)).bind fun v4 => if (lg_cmp (X4_upper q1.2) (v4.toInt64 * (X4_lower q1.2))) ≤ (0 : Int32) then (XC_2367 tI P Dr B67 x4 x5 x6 x7 x9 x10 x11 x12 x13 x14 x15 I q1.2) else (some (0 : Int32)))) else (some (0 : Int32))
set_option maxHeartbeats 4000000 in
set_option maxRecDepth 100000 in
theorem kc_2311 (C0 : LC p l e s m args below meth c Q D cy ad tI) {P Dr : Nat} (hX : cOk ad P Dr) {B67 : Int32 → Int32 → Int32 → Int64 → Int32 → xMem → xLon → Option Int32} (hB67 : ∀ (y4 : Int32) (y5 : Int32) (y6 : Int32) (y7 : Int64) (y9 : Int32) (I : xMem) (L : xLon) (H : Heap) (locs : List Loc) (ls : Array Slot), B67 y4 y5 y6 y7 y9 I L = some 1 → cG D cy ad P Dr I L H → va_S (fun q : Nat => s.heap.size ≤ q) s.heap H locs → lv_has ls 43 [(0, .ref tI.2.1), (1, .ref (ad 0)), (2, .ref (ad 62)), (3, .ref (ad 63)), (4, .int y4), (5, .int y5), (6, .int y6), (7, .long y7), (9, .int y9)] → W p l e room_1 s m args below meth c H locs 600000 7302250 Q (F0 m 67 ls [])) (x4 : Int32) (x5 : Int32) (x6 : Int32) (x7 : Int64) (x9 : Int32) (x10 : Int32) (x11 : Int32) (x12 : Int32) (x13 : Int32) (x14 : Int32) (x15 : Int32) (x29 : Int32) (x30 : Int32) (x38 : Int32) (x41 : Int32) (I : xMem) (L : xLon) (H : Heap) (locs : List Loc) (ls : Array Slot) (h : XC_2311 tI P Dr B67 x4 x5 x6 x7 x9 x10 x11 x12 x13 x14 x15 x29 x30 x38 x41 I L = some 1) : cG D cy ad P Dr I L H → va_S (fun q : Nat => s.heap.size ≤ q) s.heap H locs → lv_has ls 43 [(0, .ref tI.2.1), (1, .ref (ad 0)), (2, .ref (ad 62)), (3, .ref (ad 63)), (4, .int x4), (5, .int x5), (6, .int x6), (7, .long x7), (9, .int x9), (10, .int x10), (11, .int x11), (12, .int x12), (13, .int x13), (14, .int x14), (15, .int x15), (29, .int x29), (30, .int x30), (38, .int x38), (41, .int x41)] → W p l e room_1 s m args below meth c H locs 600000 7302250 Q (F0 m 2311 ls []) := by
  obtain ⟨⟨hx, hb, hml, hown, hts⟩, ⟨hK, hZ⟩, hi, hA, kr⟩ := id C0
  intro hG hS hl
  unfold XC_2311 at h
  refine lv_aload_n hx hb dL_law_2311 rfl (lv_at hl 1 rfl) ?_
  refine lv_iload hx hb dL_law_2312 (lv_at hl 15 rfl) ?_
  refine lv_iload hx hb dL_law_2314 (lv_at hl 16 rfl) ?_
  refine lv_iload hx hb dL_law_2316 (lv_at hl 17 rfl) ?_
  obtain ⟨q1, eq1, h⟩ := obind h
  refine lw_ci (va_runV (As := [.int x29, .int x30, .int x38]) (rest := []) ⟨hx, hb, hml, hown, hts⟩ (k_X4_mid l D cy ad P Dr tI hX I L x29 x30 x38 q1 eq1) (cwV 3 hts (goodIn_up gL_law_X4_mid) rfl rfl rfl cd_X4_mid ⟨Nat.le_of_ble_eq_true rfl, Nat.le_of_ble_eq_true rfl⟩) ⟨g_blind cZm, g_recv hK hG (k := 0) (by decide) (cE_4 _ _) vwCl_4, g_pre cZm hK hG hZ (law_S0 hS)⟩ rfl rfl hl.1 rfl (lv_room (Nat.le_of_ble_eq_true rfl)) dL_law_2318 ⟨Nat.le_of_ble_eq_true rfl, Nat.le_of_ble_eq_true rfl⟩) hS hA (fun H locs hG hS => ?_)
  refine lv_iconst (v := (1 : Int32)) hx hb dL_law_2321 (by decide) ?_
  refine lv_icmp_ne (tgt := 2365) hx hb dL_law_2322 (by decide) (fun c2 => ?_) (fun c2 => ?_)
  · have h := ite_f h c2
    refine lv_iconst (v := (0 : Int32)) hx hb dL_law_2365 (by decide) ?_
    have h := Option.some.inj h
    exact absurd h (by decide)
  · have h := ite_t h c2
    refine lv_aload_n hx hb dL_law_2325 rfl (lv_at hl 1 rfl) ?_
    refine lw_cl (va_runV (As := []) (rest := []) ⟨hx, hb, hml, hown, hts⟩ (k_X4_upper l D cy ad P Dr tI hX I q1.2 _ rfl) (cwV 0 hts (goodIn_up gL_law_X4_upper) rfl rfl rfl cd_X4_upper ⟨Nat.le_of_ble_eq_true rfl, Nat.le_of_ble_eq_true rfl⟩) ⟨g_blind cZm, g_recv hK hG (k := 0) (by decide) (cE_4 _ _) vwCl_4, g_pre cZm hK hG hZ (law_S0 hS)⟩ rfl rfl hl.1 rfl (lv_room (Nat.le_of_ble_eq_true rfl)) dL_law_2326 ⟨Nat.le_of_ble_eq_true rfl, Nat.le_of_ble_eq_true rfl⟩) hS hA (fun H locs hG hS => ?_)
    refine lv_iload hx hb dL_law_2329 (lv_at hl 18 rfl) ?_
    refine lv_i2l hx hb dL_law_2331 rfl ?_
    refine lv_aload_n hx hb dL_law_2332 rfl (lv_at hl 1 rfl) ?_
    refine lw_cl (va_runV (As := []) (rest := [.long x41.toInt64, .long (X4_upper q1.2)]) ⟨hx, hb, hml, hown, hts⟩ (k_X4_lower l D cy ad P Dr tI hX I q1.2 _ rfl) (cwV 0 hts (goodIn_up gL_law_X4_lower) rfl rfl rfl cd_X4_lower ⟨Nat.le_of_ble_eq_true rfl, Nat.le_of_ble_eq_true rfl⟩) ⟨g_blind cZm, g_recv hK hG (k := 0) (by decide) (cE_4 _ _) vwCl_4, g_pre cZm hK hG hZ (law_S0 hS)⟩ rfl rfl hl.1 rfl (lv_room (Nat.le_of_ble_eq_true rfl)) dL_law_2333 ⟨Nat.le_of_ble_eq_true rfl, Nat.le_of_ble_eq_true rfl⟩) hS hA (fun H locs hG hS => ?_)
    refine lv_lmul hx hb dL_law_2336 ?_
    refine W.lcmp hx hb dL_law_2337 ?_
    refine lv_if_lt (tgt := 2365) hx hb dL_law_2338 (by decide) (fun c3 => ?_) (fun c3 => ?_)
    · have h := ite_t h c3
      refine lv_iconst (v := (0 : Int32)) hx hb dL_law_2365 (by decide) ?_
      have h := Option.some.inj h
      exact absurd h (by decide)
    · have h := ite_f h c3
      refine lv_aload_n hx hb dL_law_2341 rfl (lv_at hl 1 rfl) ?_
      refine lw_cl (va_runV (As := []) (rest := []) ⟨hx, hb, hml, hown, hts⟩ (k_X4_upper l D cy ad P Dr tI hX I q1.2 _ rfl) (cwV 0 hts (goodIn_up gL_law_X4_upper) rfl rfl rfl cd_X4_upper ⟨Nat.le_of_ble_eq_true rfl, Nat.le_of_ble_eq_true rfl⟩) ⟨g_blind cZm, g_recv hK hG (k := 0) (by decide) (cE_4 _ _) vwCl_4, g_pre cZm hK hG hZ (law_S0 hS)⟩ rfl rfl hl.1 rfl (lv_room (Nat.le_of_ble_eq_true rfl)) dL_law_2342 ⟨Nat.le_of_ble_eq_true rfl, Nat.le_of_ble_eq_true rfl⟩) hS hA (fun H locs hG hS => ?_)
      refine lv_aload_n hx hb dL_law_2345 rfl (lv_at hl 1 rfl) ?_
      refine lv_iload hx hb dL_law_2346 (lv_at hl 15 rfl) ?_
      refine lv_iload hx hb dL_law_2348 (lv_at hl 16 rfl) ?_
      refine lv_iconst (v := (0 : Int32)) hx hb dL_law_2350 (by decide) ?_
      refine lv_iconst (v := (0 : Int32)) hx hb dL_law_2351 (by decide) ?_
      obtain ⟨v4, ev4, h⟩ := obind h
      refine lw_ci (va_runV (As := [.int x29, .int x30, .int (0 : Int32), .int (0 : Int32)]) (rest := [.long (X4_upper q1.2)]) ⟨hx, hb, hml, hown, hts⟩ (k_X4_sink l D cy ad P Dr tI hX I q1.2 x29 x30 (0 : Int32) (0 : Int32) v4 ev4) (cwV 4 hts (goodIn_up gL_law_X4_sink) rfl rfl rfl cd_X4_sink ⟨Nat.le_of_ble_eq_true rfl, Nat.le_of_ble_eq_true rfl⟩) ⟨g_blind cZm, g_recv hK hG (k := 0) (by decide) (cE_4 _ _) vwCl_4, g_pre cZm hK hG hZ (law_S0 hS)⟩ rfl rfl hl.1 rfl (lv_room (Nat.le_of_ble_eq_true rfl)) dL_law_2352 ⟨Nat.le_of_ble_eq_true rfl, Nat.le_of_ble_eq_true rfl⟩) hS hA (fun H locs hG hS => ?_)
      refine lv_i2l hx hb dL_law_2355 rfl ?_
      refine lv_aload_n hx hb dL_law_2356 rfl (lv_at hl 1 rfl) ?_
      refine lw_cl (va_runV (As := []) (rest := [.long v4.toInt64, .long (X4_upper q1.2)]) ⟨hx, hb, hml, hown, hts⟩ (k_X4_lower l D cy ad P Dr tI hX I q1.2 _ rfl) (cwV 0 hts (goodIn_up gL_law_X4_lower) rfl rfl rfl cd_X4_lower ⟨Nat.le_of_ble_eq_true rfl, Nat.le_of_ble_eq_true rfl⟩) ⟨g_blind cZm, g_recv hK hG (k := 0) (by decide) (cE_4 _ _) vwCl_4, g_pre cZm hK hG hZ (law_S0 hS)⟩ rfl rfl hl.1 rfl (lv_room (Nat.le_of_ble_eq_true rfl)) dL_law_2357 ⟨Nat.le_of_ble_eq_true rfl, Nat.le_of_ble_eq_true rfl⟩) hS hA (fun H locs hG hS => ?_)
      refine lv_lmul hx hb dL_law_2360 ?_
      refine W.lcmp hx hb dL_law_2361 ?_
      refine lv_if_le (tgt := 2367) hx hb dL_law_2362 (by decide) (fun c5 => ?_) (fun c5 => ?_)
      · have h := ite_t h c5
        exact kc_2367 C0 hX hB67 _ _ _ _ _ _ _ _ _ _ _ _ _ _ _ _ h hG hS (lv_sub hl [0, 1, 2, 3, 4, 5, 6, 7, 8, 9, 10, 11, 12, 13, 14] rfl)
      · have h := ite_f h c5
        refine lv_iconst (v := (0 : Int32)) hx hb dL_law_2365 (by decide) ?_
        have h := Option.some.inj h
        exact absurd h (by decide)
def XC_2233 (tI : xTab) (P Dr : Nat) (B67 : Int32 → Int32 → Int32 → Int64 → Int32 → xMem → xLon → Option Int32) (x4 : Int32) (x5 : Int32) (x6 : Int32) (x7 : Int64) (x9 : Int32) (x10 : Int32) (x11 : Int32) (x12 : Int32) (x13 : Int32) (x14 : Int32) (x15 : Int32) (x29 : Int32) (x30 : Int32) (x38 : Int32) (x41 : Int32) (I : xMem) (L : xLon) : Option Int32 := if (0 : Int32) < (lg_cmp (X4_upper L) (X4_lower L)) then (some (0 : Int32)) else ((X4_mid P I L x29 x30 (0 : Int32)).bind fun q2 => if q2.1 = (1 : Int32) then (if (lg_cmp (X4_upper q2.2) x41.toInt64) = (0 : Int32) then (if (lg_cmp (X4_lower q2.2) (1 : Int64)) = (0 : Int32) then ((X4_mid P I q2.2 x29 x30 (12 : Int32)).bind fun q6 => if q6.1 = (1 : Int32) then ((X4_sink P I x29 x30 (0 : Int32) (0 : Int32)).bind fun v8 => if (lg_cmp (X4_upper q6.2) v8.toInt64) = (0 : Int32) then (XC_2311 tI P Dr B67 x4 x5 x6 x7 x9 x10 x11 x12 x13 x14 x15 x29 x30 x38 x41 I q6.2) else (some (0 : Int32))) else (some (0 : Int32))) else (some (0 : Int32))) else (some (0 : Int32))) else (some (0 : Int32)))
set_option maxHeartbeats 4000000 in
set_option maxRecDepth 100000 in
theorem kc_2233 (C0 : LC p l e s m args below meth c Q D cy ad tI) {P Dr : Nat} (hX : cOk ad P Dr) {B67 : Int32 → Int32 → Int32 → Int64 → Int32 → xMem → xLon → Option Int32} (hB67 : ∀ (y4 : Int32) (y5 : Int32) (y6 : Int32) (y7 : Int64) (y9 : Int32) (I : xMem) (L : xLon) (H : Heap) (locs : List Loc) (ls : Array Slot), B67 y4 y5 y6 y7 y9 I L = some 1 → cG D cy ad P Dr I L H → va_S (fun q : Nat => s.heap.size ≤ q) s.heap H locs → lv_has ls 43 [(0, .ref tI.2.1), (1, .ref (ad 0)), (2, .ref (ad 62)), (3, .ref (ad 63)), (4, .int y4), (5, .int y5), (6, .int y6), (7, .long y7), (9, .int y9)] → W p l e room_1 s m args below meth c H locs 600000 7302250 Q (F0 m 67 ls [])) (x4 : Int32) (x5 : Int32) (x6 : Int32) (x7 : Int64) (x9 : Int32) (x10 : Int32) (x11 : Int32) (x12 : Int32) (x13 : Int32) (x14 : Int32) (x15 : Int32) (x29 : Int32) (x30 : Int32) (x38 : Int32) (x41 : Int32) (I : xMem) (L : xLon) (H : Heap) (locs : List Loc) (ls : Array Slot) (h : XC_2233 tI P Dr B67 x4 x5 x6 x7 x9 x10 x11 x12 x13 x14 x15 x29 x30 x38 x41 I L = some 1) : cG D cy ad P Dr I L H → va_S (fun q : Nat => s.heap.size ≤ q) s.heap H locs → lv_has ls 43 [(0, .ref tI.2.1), (1, .ref (ad 0)), (2, .ref (ad 62)), (3, .ref (ad 63)), (4, .int x4), (5, .int x5), (6, .int x6), (7, .long x7), (9, .int x9), (10, .int x10), (11, .int x11), (12, .int x12), (13, .int x13), (14, .int x14), (15, .int x15), (29, .int x29), (30, .int x30), (38, .int x38), (41, .int x41)] → W p l e room_1 s m args below meth c H locs 600000 7302250 Q (F0 m 2233 ls []) := by
  obtain ⟨⟨hx, hb, hml, hown, hts⟩, ⟨hK, hZ⟩, hi, hA, kr⟩ := id C0
  intro hG hS hl
  unfold XC_2233 at h
  refine lv_aload_n hx hb dL_law_2233 rfl (lv_at hl 1 rfl) ?_
  refine lw_cl (va_runV (As := []) (rest := []) ⟨hx, hb, hml, hown, hts⟩ (k_X4_upper l D cy ad P Dr tI hX I L _ rfl) (cwV 0 hts (goodIn_up gL_law_X4_upper) rfl rfl rfl cd_X4_upper ⟨Nat.le_of_ble_eq_true rfl, Nat.le_of_ble_eq_true rfl⟩) ⟨g_blind cZm, g_recv hK hG (k := 0) (by decide) (cE_4 _ _) vwCl_4, g_pre cZm hK hG hZ (law_S0 hS)⟩ rfl rfl hl.1 rfl (lv_room (Nat.le_of_ble_eq_true rfl)) dL_law_2234 ⟨Nat.le_of_ble_eq_true rfl, Nat.le_of_ble_eq_true rfl⟩) hS hA (fun H locs hG hS => ?_)
  refine lv_aload_n hx hb dL_law_2237 rfl (lv_at hl 1 rfl) ?_
  refine lw_cl (va_runV (As := []) (rest := [.long (X4_upper L)]) ⟨hx, hb, hml, hown, hts⟩ (k_X4_lower l D cy ad P Dr tI hX I L _ rfl) (cwV 0 hts (goodIn_up gL_law_X4_lower) rfl rfl rfl cd_X4_lower ⟨Nat.le_of_ble_eq_true rfl, Nat.le_of_ble_eq_true rfl⟩) ⟨g_blind cZm, g_recv hK hG (k := 0) (by decide) (cE_4 _ _) vwCl_4, g_pre cZm hK hG hZ (law_S0 hS)⟩ rfl rfl hl.1 rfl (lv_room (Nat.le_of_ble_eq_true rfl)) dL_law_2238 ⟨Nat.le_of_ble_eq_true rfl, Nat.le_of_ble_eq_true rfl⟩) hS hA (fun H locs hG hS => ?_)
  refine W.lcmp hx hb dL_law_2241 ?_
  refine lv_if_gt (tgt := 2365) hx hb dL_law_2242 (by decide) (fun c1 => ?_) (fun c1 => ?_)
  · have h := ite_t h c1
    refine lv_iconst (v := (0 : Int32)) hx hb dL_law_2365 (by decide) ?_
    have h := Option.some.inj h
    exact absurd h (by decide)
  · have h := ite_f h c1
    refine lv_aload_n hx hb dL_law_2245 rfl (lv_at hl 1 rfl) ?_
    refine lv_iload hx hb dL_law_2246 (lv_at hl 15 rfl) ?_
    refine lv_iload hx hb dL_law_2248 (lv_at hl 16 rfl) ?_
    refine lv_iconst (v := (0 : Int32)) hx hb dL_law_2250 (by decide) ?_
    obtain ⟨q2, eq2, h⟩ := obind h
    refine lw_ci (va_runV (As := [.int x29, .int x30, .int (0 : Int32)]) (rest := []) ⟨hx, hb, hml, hown, hts⟩ (k_X4_mid l D cy ad P Dr tI hX I L x29 x30 (0 : Int32) q2 eq2) (cwV 3 hts (goodIn_up gL_law_X4_mid) rfl rfl rfl cd_X4_mid ⟨Nat.le_of_ble_eq_true rfl, Nat.le_of_ble_eq_true rfl⟩) ⟨g_blind cZm, g_recv hK hG (k := 0) (by decide) (cE_4 _ _) vwCl_4, g_pre cZm hK hG hZ (law_S0 hS)⟩ rfl rfl hl.1 rfl (lv_room (Nat.le_of_ble_eq_true rfl)) dL_law_2251 ⟨Nat.le_of_ble_eq_true rfl, Nat.le_of_ble_eq_true rfl⟩) hS hA (fun H locs hG hS => ?_)
    refine lv_iconst (v := (1 : Int32)) hx hb dL_law_2254 (by decide) ?_
    refine lv_icmp_ne (tgt := 2365) hx hb dL_law_2255 (by decide) (fun c3 => ?_) (fun c3 => ?_)
    · have h := ite_f h c3
      refine lv_iconst (v := (0 : Int32)) hx hb dL_law_2365 (by decide) ?_
      have h := Option.some.inj h
      exact absurd h (by decide)
    · have h := ite_t h c3
      refine lv_aload_n hx hb dL_law_2258 rfl (lv_at hl 1 rfl) ?_
      refine lw_cl (va_runV (As := []) (rest := []) ⟨hx, hb, hml, hown, hts⟩ (k_X4_upper l D cy ad P Dr tI hX I q2.2 _ rfl) (cwV 0 hts (goodIn_up gL_law_X4_upper) rfl rfl rfl cd_X4_upper ⟨Nat.le_of_ble_eq_true rfl, Nat.le_of_ble_eq_true rfl⟩) ⟨g_blind cZm, g_recv hK hG (k := 0) (by decide) (cE_4 _ _) vwCl_4, g_pre cZm hK hG hZ (law_S0 hS)⟩ rfl rfl hl.1 rfl (lv_room (Nat.le_of_ble_eq_true rfl)) dL_law_2259 ⟨Nat.le_of_ble_eq_true rfl, Nat.le_of_ble_eq_true rfl⟩) hS hA (fun H locs hG hS => ?_)
      refine lv_iload hx hb dL_law_2262 (lv_at hl 18 rfl) ?_
      refine lv_i2l hx hb dL_law_2264 rfl ?_
      refine W.lcmp hx hb dL_law_2265 ?_
      refine lv_if_ne (tgt := 2365) hx hb dL_law_2266 (by decide) (fun c4 => ?_) (fun c4 => ?_)
      · have h := ite_f h c4
        refine lv_iconst (v := (0 : Int32)) hx hb dL_law_2365 (by decide) ?_
        have h := Option.some.inj h
        exact absurd h (by decide)
      · have h := ite_t h c4
        refine lv_aload_n hx hb dL_law_2269 rfl (lv_at hl 1 rfl) ?_
        refine lw_cl (va_runV (As := []) (rest := []) ⟨hx, hb, hml, hown, hts⟩ (k_X4_lower l D cy ad P Dr tI hX I q2.2 _ rfl) (cwV 0 hts (goodIn_up gL_law_X4_lower) rfl rfl rfl cd_X4_lower ⟨Nat.le_of_ble_eq_true rfl, Nat.le_of_ble_eq_true rfl⟩) ⟨g_blind cZm, g_recv hK hG (k := 0) (by decide) (cE_4 _ _) vwCl_4, g_pre cZm hK hG hZ (law_S0 hS)⟩ rfl rfl hl.1 rfl (lv_room (Nat.le_of_ble_eq_true rfl)) dL_law_2270 ⟨Nat.le_of_ble_eq_true rfl, Nat.le_of_ble_eq_true rfl⟩) hS hA (fun H locs hG hS => ?_)
        refine lv_lconst (v := (1 : Int64)) hx hb dL_law_2273 (by decide) ?_
        refine W.lcmp hx hb dL_law_2274 ?_
        refine lv_if_ne (tgt := 2365) hx hb dL_law_2275 (by decide) (fun c5 => ?_) (fun c5 => ?_)
        · have h := ite_f h c5
          refine lv_iconst (v := (0 : Int32)) hx hb dL_law_2365 (by decide) ?_
          have h := Option.some.inj h
          exact absurd h (by decide)
        · have h := ite_t h c5
          refine lv_aload_n hx hb dL_law_2278 rfl (lv_at hl 1 rfl) ?_
          refine lv_iload hx hb dL_law_2279 (lv_at hl 15 rfl) ?_
          refine lv_iload hx hb dL_law_2281 (lv_at hl 16 rfl) ?_
          refine lv_bipush (v := (12 : Int32)) hx hb dL_law_2283 (by decide) ?_
          obtain ⟨q6, eq6, h⟩ := obind h
          refine lw_ci (va_runV (As := [.int x29, .int x30, .int (12 : Int32)]) (rest := []) ⟨hx, hb, hml, hown, hts⟩ (k_X4_mid l D cy ad P Dr tI hX I q2.2 x29 x30 (12 : Int32) q6 eq6) (cwV 3 hts (goodIn_up gL_law_X4_mid) rfl rfl rfl cd_X4_mid ⟨Nat.le_of_ble_eq_true rfl, Nat.le_of_ble_eq_true rfl⟩) ⟨g_blind cZm, g_recv hK hG (k := 0) (by decide) (cE_4 _ _) vwCl_4, g_pre cZm hK hG hZ (law_S0 hS)⟩ rfl rfl hl.1 rfl (lv_room (Nat.le_of_ble_eq_true rfl)) dL_law_2285 ⟨Nat.le_of_ble_eq_true rfl, Nat.le_of_ble_eq_true rfl⟩) hS hA (fun H locs hG hS => ?_)
          refine lv_iconst (v := (1 : Int32)) hx hb dL_law_2288 (by decide) ?_
          refine lv_icmp_ne (tgt := 2365) hx hb dL_law_2289 (by decide) (fun c7 => ?_) (fun c7 => ?_)
          · have h := ite_f h c7
            refine lv_iconst (v := (0 : Int32)) hx hb dL_law_2365 (by decide) ?_
            have h := Option.some.inj h
            exact absurd h (by decide)
          · have h := ite_t h c7
            refine lv_aload_n hx hb dL_law_2292 rfl (lv_at hl 1 rfl) ?_
            refine lw_cl (va_runV (As := []) (rest := []) ⟨hx, hb, hml, hown, hts⟩ (k_X4_upper l D cy ad P Dr tI hX I q6.2 _ rfl) (cwV 0 hts (goodIn_up gL_law_X4_upper) rfl rfl rfl cd_X4_upper ⟨Nat.le_of_ble_eq_true rfl, Nat.le_of_ble_eq_true rfl⟩) ⟨g_blind cZm, g_recv hK hG (k := 0) (by decide) (cE_4 _ _) vwCl_4, g_pre cZm hK hG hZ (law_S0 hS)⟩ rfl rfl hl.1 rfl (lv_room (Nat.le_of_ble_eq_true rfl)) dL_law_2293 ⟨Nat.le_of_ble_eq_true rfl, Nat.le_of_ble_eq_true rfl⟩) hS hA (fun H locs hG hS => ?_)
            refine lv_aload_n hx hb dL_law_2296 rfl (lv_at hl 1 rfl) ?_
            refine lv_iload hx hb dL_law_2297 (lv_at hl 15 rfl) ?_
            refine lv_iload hx hb dL_law_2299 (lv_at hl 16 rfl) ?_
            refine lv_iconst (v := (0 : Int32)) hx hb dL_law_2301 (by decide) ?_
            refine lv_iconst (v := (0 : Int32)) hx hb dL_law_2302 (by decide) ?_
            obtain ⟨v8, ev8, h⟩ := obind h
            refine lw_ci (va_runV (As := [.int x29, .int x30, .int (0 : Int32), .int (0 : Int32)]) (rest := [.long (X4_upper q6.2)]) ⟨hx, hb, hml, hown, hts⟩ (k_X4_sink l D cy ad P Dr tI hX I q6.2 x29 x30 (0 : Int32) (0 : Int32) v8 ev8) (cwV 4 hts (goodIn_up gL_law_X4_sink) rfl rfl rfl cd_X4_sink ⟨Nat.le_of_ble_eq_true rfl, Nat.le_of_ble_eq_true rfl⟩) ⟨g_blind cZm, g_recv hK hG (k := 0) (by decide) (cE_4 _ _) vwCl_4, g_pre cZm hK hG hZ (law_S0 hS)⟩ rfl rfl hl.1 rfl (lv_room (Nat.le_of_ble_eq_true rfl)) dL_law_2303 ⟨Nat.le_of_ble_eq_true rfl, Nat.le_of_ble_eq_true rfl⟩) hS hA (fun H locs hG hS => ?_)
            refine lv_i2l hx hb dL_law_2306 rfl ?_
            refine W.lcmp hx hb dL_law_2307 ?_
            refine lv_if_ne (tgt := 2365) hx hb dL_law_2308 (by decide) (fun c9 => ?_) (fun c9 => ?_)
            · have h := ite_f h c9
              refine lv_iconst (v := (0 : Int32)) hx hb dL_law_2365 (by decide) ?_
              have h := Option.some.inj h
              exact absurd h (by decide)
            · have h := ite_t h c9
              exact kc_2311 C0 hX hB67 _ _ _ _ _ _ _ _ _ _ _ _ _ _ _ _ _ _ _ _ h hG hS (lv_sub hl [0, 1, 2, 3, 4, 5, 6, 7, 8, 9, 10, 11, 12, 13, 14, 15, 16, 17, 18] rfl)
def XC_2159 (tI : xTab) (P Dr : Nat) (B67 : Int32 → Int32 → Int32 → Int64 → Int32 → xMem → xLon → Option Int32) (x4 : Int32) (x5 : Int32) (x6 : Int32) (x7 : Int64) (x9 : Int32) (x10 : Int32) (x11 : Int32) (x12 : Int32) (x13 : Int32) (x14 : Int32) (x15 : Int32) (x29 : Int32) (x30 : Int32) (x38 : Int32) (x41 : Int32) (I : xMem) (L : xLon) : Option Int32 := if (lg_cmp (X4_lower L) (1 : Int64)) = (0 : Int32) then ((X4_odds P I L x29 x30 (12 : Int32)).bind fun q2 => if q2.1 = (1 : Int32) then ((X4_sink P I x29 x30 (0 : Int32) (0 : Int32)).bind fun v4 => (if x5 < v4 then (some (0 : Int64)) else (some (1 : Int64))).bind fun q5 => if (lg_cmp (X4_upper q2.2) q5) = (0 : Int32) then ((X4_odds P I q2.2 x29 x30 x38).bind fun q8 => if q8.1 = (1 : Int32) then (if (lg_cmp (X4_upper q8.2) (0 : Int64)) < (0 : Int32) then (some (0 : Int32)) else (XC_2233 tI P Dr B67 x4 x5 x6 x7 x9 x10 x11 x12 x13 x14 x15 x29 x30 x38 x41 I q8.2)) else (some (0 : Int32))) else (some (0 : Int32))) else (some (0 : Int32))) else (some (0 : Int32))
set_option maxHeartbeats 4000000 in
set_option maxRecDepth 100000 in
theorem kc_2159 (C0 : LC p l e s m args below meth c Q D cy ad tI) {P Dr : Nat} (hX : cOk ad P Dr) {B67 : Int32 → Int32 → Int32 → Int64 → Int32 → xMem → xLon → Option Int32} (hB67 : ∀ (y4 : Int32) (y5 : Int32) (y6 : Int32) (y7 : Int64) (y9 : Int32) (I : xMem) (L : xLon) (H : Heap) (locs : List Loc) (ls : Array Slot), B67 y4 y5 y6 y7 y9 I L = some 1 → cG D cy ad P Dr I L H → va_S (fun q : Nat => s.heap.size ≤ q) s.heap H locs → lv_has ls 43 [(0, .ref tI.2.1), (1, .ref (ad 0)), (2, .ref (ad 62)), (3, .ref (ad 63)), (4, .int y4), (5, .int y5), (6, .int y6), (7, .long y7), (9, .int y9)] → W p l e room_1 s m args below meth c H locs 600000 7302250 Q (F0 m 67 ls [])) (x4 : Int32) (x5 : Int32) (x6 : Int32) (x7 : Int64) (x9 : Int32) (x10 : Int32) (x11 : Int32) (x12 : Int32) (x13 : Int32) (x14 : Int32) (x15 : Int32) (x29 : Int32) (x30 : Int32) (x38 : Int32) (x41 : Int32) (I : xMem) (L : xLon) (H : Heap) (locs : List Loc) (ls : Array Slot) (h : XC_2159 tI P Dr B67 x4 x5 x6 x7 x9 x10 x11 x12 x13 x14 x15 x29 x30 x38 x41 I L = some 1) : cG D cy ad P Dr I L H → va_S (fun q : Nat => s.heap.size ≤ q) s.heap H locs → lv_has ls 43 [(0, .ref tI.2.1), (1, .ref (ad 0)), (2, .ref (ad 62)), (3, .ref (ad 63)), (4, .int x4), (5, .int x5), (6, .int x6), (7, .long x7), (9, .int x9), (10, .int x10), (11, .int x11), (12, .int x12), (13, .int x13), (14, .int x14), (15, .int x15), (29, .int x29), (30, .int x30), (38, .int x38), (41, .int x41)] → W p l e room_1 s m args below meth c H locs 600000 7302250 Q (F0 m 2159 ls []) := by
  obtain ⟨⟨hx, hb, hml, hown, hts⟩, ⟨hK, hZ⟩, hi, hA, kr⟩ := id C0
  intro hG hS hl
  unfold XC_2159 at h
  refine lv_aload_n hx hb dL_law_2159 rfl (lv_at hl 1 rfl) ?_
  refine lw_cl (va_runV (As := []) (rest := []) ⟨hx, hb, hml, hown, hts⟩ (k_X4_lower l D cy ad P Dr tI hX I L _ rfl) (cwV 0 hts (goodIn_up gL_law_X4_lower) rfl rfl rfl cd_X4_lower ⟨Nat.le_of_ble_eq_true rfl, Nat.le_of_ble_eq_true rfl⟩) ⟨g_blind cZm, g_recv hK hG (k := 0) (by decide) (cE_4 _ _) vwCl_4, g_pre cZm hK hG hZ (law_S0 hS)⟩ rfl rfl hl.1 rfl (lv_room (Nat.le_of_ble_eq_true rfl)) dL_law_2160 ⟨Nat.le_of_ble_eq_true rfl, Nat.le_of_ble_eq_true rfl⟩) hS hA (fun H locs hG hS => ?_)
  refine lv_lconst (v := (1 : Int64)) hx hb dL_law_2163 (by decide) ?_
  refine W.lcmp hx hb dL_law_2164 ?_
  refine lv_if_ne (tgt := 2365) hx hb dL_law_2165 (by decide) (fun c1 => ?_) (fun c1 => ?_)
  · have h := ite_f h c1
    refine lv_iconst (v := (0 : Int32)) hx hb dL_law_2365 (by decide) ?_
    have h := Option.some.inj h
    exact absurd h (by decide)
  · have h := ite_t h c1
    refine lv_aload_n hx hb dL_law_2168 rfl (lv_at hl 1 rfl) ?_
    refine lv_iload hx hb dL_law_2169 (lv_at hl 15 rfl) ?_
    refine lv_iload hx hb dL_law_2171 (lv_at hl 16 rfl) ?_
    refine lv_bipush (v := (12 : Int32)) hx hb dL_law_2173 (by decide) ?_
    obtain ⟨q2, eq2, h⟩ := obind h
    refine lw_ci (va_runV (As := [.int x29, .int x30, .int (12 : Int32)]) (rest := []) ⟨hx, hb, hml, hown, hts⟩ (k_X4_odds l D cy ad P Dr tI hX I L x29 x30 (12 : Int32) q2 eq2) (cwV 3 hts (goodIn_up gL_law_X4_odds) rfl rfl rfl cd_X4_odds ⟨Nat.le_of_ble_eq_true rfl, Nat.le_of_ble_eq_true rfl⟩) ⟨g_blind cZm, g_recv hK hG (k := 0) (by decide) (cE_4 _ _) vwCl_4, g_pre cZm hK hG hZ (law_S0 hS)⟩ rfl rfl hl.1 rfl (lv_room (Nat.le_of_ble_eq_true rfl)) dL_law_2175 ⟨Nat.le_of_ble_eq_true rfl, Nat.le_of_ble_eq_true rfl⟩) hS hA (fun H locs hG hS => ?_)
    refine lv_iconst (v := (1 : Int32)) hx hb dL_law_2178 (by decide) ?_
    refine lv_icmp_ne (tgt := 2365) hx hb dL_law_2179 (by decide) (fun c3 => ?_) (fun c3 => ?_)
    · have h := ite_f h c3
      refine lv_iconst (v := (0 : Int32)) hx hb dL_law_2365 (by decide) ?_
      have h := Option.some.inj h
      exact absurd h (by decide)
    · have h := ite_t h c3
      refine lv_aload_n hx hb dL_law_2182 rfl (lv_at hl 1 rfl) ?_
      refine lw_cl (va_runV (As := []) (rest := []) ⟨hx, hb, hml, hown, hts⟩ (k_X4_upper l D cy ad P Dr tI hX I q2.2 _ rfl) (cwV 0 hts (goodIn_up gL_law_X4_upper) rfl rfl rfl cd_X4_upper ⟨Nat.le_of_ble_eq_true rfl, Nat.le_of_ble_eq_true rfl⟩) ⟨g_blind cZm, g_recv hK hG (k := 0) (by decide) (cE_4 _ _) vwCl_4, g_pre cZm hK hG hZ (law_S0 hS)⟩ rfl rfl hl.1 rfl (lv_room (Nat.le_of_ble_eq_true rfl)) dL_law_2183 ⟨Nat.le_of_ble_eq_true rfl, Nat.le_of_ble_eq_true rfl⟩) hS hA (fun H locs hG hS => ?_)
      refine lv_aload_n hx hb dL_law_2186 rfl (lv_at hl 1 rfl) ?_
      refine lv_iload hx hb dL_law_2187 (lv_at hl 15 rfl) ?_
      refine lv_iload hx hb dL_law_2189 (lv_at hl 16 rfl) ?_
      refine lv_iconst (v := (0 : Int32)) hx hb dL_law_2191 (by decide) ?_
      refine lv_iconst (v := (0 : Int32)) hx hb dL_law_2192 (by decide) ?_
      obtain ⟨v4, ev4, h⟩ := obind h
      refine lw_ci (va_runV (As := [.int x29, .int x30, .int (0 : Int32), .int (0 : Int32)]) (rest := [.long (X4_upper q2.2)]) ⟨hx, hb, hml, hown, hts⟩ (k_X4_sink l D cy ad P Dr tI hX I q2.2 x29 x30 (0 : Int32) (0 : Int32) v4 ev4) (cwV 4 hts (goodIn_up gL_law_X4_sink) rfl rfl rfl cd_X4_sink ⟨Nat.le_of_ble_eq_true rfl, Nat.le_of_ble_eq_true rfl⟩) ⟨g_blind cZm, g_recv hK hG (k := 0) (by decide) (cE_4 _ _) vwCl_4, g_pre cZm hK hG hZ (law_S0 hS)⟩ rfl rfl hl.1 rfl (lv_room (Nat.le_of_ble_eq_true rfl)) dL_law_2193 ⟨Nat.le_of_ble_eq_true rfl, Nat.le_of_ble_eq_true rfl⟩) hS hA (fun H locs hG hS => ?_)
      refine lv_iload hx hb dL_law_2196 (lv_at hl 5 rfl) ?_
      obtain ⟨q5, h9, h⟩ := obind h
      have hk_q5 : ∀ (H : Heap) (locs : List Loc) (ls : Array Slot), cG D cy ad P Dr I q2.2 H → va_S (fun q : Nat => s.heap.size ≤ q) s.heap H locs → lv_has ls 43 [(0, .ref tI.2.1), (1, .ref (ad 0)), (2, .ref (ad 62)), (3, .ref (ad 63)), (4, .int x4), (5, .int x5), (6, .int x6), (7, .long x7), (9, .int x9), (10, .int x10), (11, .int x11), (12, .int x12), (13, .int x13), (14, .int x14), (15, .int x15), (29, .int x29), (30, .int x30), (38, .int x38), (41, .int x41)] → W p l e room_1 s m args below meth c H locs 600000 7302250 Q (F0 m 2206 ls [.long q5, .long (X4_upper q2.2)]) := by
        intro H locs ls hG hS hl
        refine W.lcmp hx hb dL_law_2206 ?_
        refine lv_if_ne (tgt := 2365) hx hb dL_law_2207 (by decide) (fun c7 => ?_) (fun c7 => ?_)
        · have h := ite_f h c7
          refine lv_iconst (v := (0 : Int32)) hx hb dL_law_2365 (by decide) ?_
          have h := Option.some.inj h
          exact absurd h (by decide)
        · have h := ite_t h c7
          refine lv_aload_n hx hb dL_law_2210 rfl (lv_at hl 1 rfl) ?_
          refine lv_iload hx hb dL_law_2211 (lv_at hl 15 rfl) ?_
          refine lv_iload hx hb dL_law_2213 (lv_at hl 16 rfl) ?_
          refine lv_iload hx hb dL_law_2215 (lv_at hl 17 rfl) ?_
          obtain ⟨q8, eq8, h⟩ := obind h
          refine lw_ci (va_runV (As := [.int x29, .int x30, .int x38]) (rest := []) ⟨hx, hb, hml, hown, hts⟩ (k_X4_odds l D cy ad P Dr tI hX I q2.2 x29 x30 x38 q8 eq8) (cwV 3 hts (goodIn_up gL_law_X4_odds) rfl rfl rfl cd_X4_odds ⟨Nat.le_of_ble_eq_true rfl, Nat.le_of_ble_eq_true rfl⟩) ⟨g_blind cZm, g_recv hK hG (k := 0) (by decide) (cE_4 _ _) vwCl_4, g_pre cZm hK hG hZ (law_S0 hS)⟩ rfl rfl hl.1 rfl (lv_room (Nat.le_of_ble_eq_true rfl)) dL_law_2217 ⟨Nat.le_of_ble_eq_true rfl, Nat.le_of_ble_eq_true rfl⟩) hS hA (fun H locs hG hS => ?_)
          refine lv_iconst (v := (1 : Int32)) hx hb dL_law_2220 (by decide) ?_
          refine lv_icmp_ne (tgt := 2365) hx hb dL_law_2221 (by decide) (fun c9 => ?_) (fun c9 => ?_)
          · have h := ite_f h c9
            refine lv_iconst (v := (0 : Int32)) hx hb dL_law_2365 (by decide) ?_
            have h := Option.some.inj h
            exact absurd h (by decide)
          · have h := ite_t h c9
            refine lv_aload_n hx hb dL_law_2224 rfl (lv_at hl 1 rfl) ?_
            refine lw_cl (va_runV (As := []) (rest := []) ⟨hx, hb, hml, hown, hts⟩ (k_X4_upper l D cy ad P Dr tI hX I q8.2 _ rfl) (cwV 0 hts (goodIn_up gL_law_X4_upper) rfl rfl rfl cd_X4_upper ⟨Nat.le_of_ble_eq_true rfl, Nat.le_of_ble_eq_true rfl⟩) ⟨g_blind cZm, g_recv hK hG (k := 0) (by decide) (cE_4 _ _) vwCl_4, g_pre cZm hK hG hZ (law_S0 hS)⟩ rfl rfl hl.1 rfl (lv_room (Nat.le_of_ble_eq_true rfl)) dL_law_2225 ⟨Nat.le_of_ble_eq_true rfl, Nat.le_of_ble_eq_true rfl⟩) hS hA (fun H locs hG hS => ?_)
            refine lv_lconst (v := (0 : Int64)) hx hb dL_law_2228 (by decide) ?_
            refine W.lcmp hx hb dL_law_2229 ?_
            refine lv_if_lt (tgt := 2365) hx hb dL_law_2230 (by decide) (fun c10 => ?_) (fun c10 => ?_)
            · have h := ite_t h c10
              refine lv_iconst (v := (0 : Int32)) hx hb dL_law_2365 (by decide) ?_
              have h := Option.some.inj h
              exact absurd h (by decide)
            · have h := ite_f h c10
              exact kc_2233 C0 hX hB67 _ _ _ _ _ _ _ _ _ _ _ _ _ _ _ _ _ _ _ _ h hG hS (lv_sub hl [0, 1, 2, 3, 4, 5, 6, 7, 8, 9, 10, 11, 12, 13, 14, 15, 16, 17, 18] rfl)
      clear h
      have h := h9
      clear h9
      refine lv_icmp_gt (tgt := 2205) hx hb dL_law_2198 (by decide) (fun c6 => ?_) (fun c6 => ?_)
      · have h := ite_t h c6
        refine lv_lconst (v := (0 : Int64)) hx hb dL_law_2205 (by decide) ?_
        have h := Option.some.inj h
        subst h
        exact hk_q5 _ _ _ hG hS (lv_sub hl [0, 1, 2, 3, 4, 5, 6, 7, 8, 9, 10, 11, 12, 13, 14, 15, 16, 17, 18] rfl)
      · have h := ite_f h c6
        refine lv_lconst (v := (1 : Int64)) hx hb dL_law_2201 (by decide) ?_
        refine lv_goto (tgt := 2206) hx hb dL_law_2202 (by decide) ?_
        have h := Option.some.inj h
        subst h
        exact hk_q5 _ _ _ hG hS (lv_sub hl [0, 1, 2, 3, 4, 5, 6, 7, 8, 9, 10, 11, 12, 13, 14, 15, 16, 17, 18] rfl)
def XC_2080 (tI : xTab) (P Dr : Nat) (B67 : Int32 → Int32 → Int32 → Int64 → Int32 → xMem → xLon → Option Int32) (x4 : Int32) (x5 : Int32) (x6 : Int32) (x7 : Int64) (x9 : Int32) (x10 : Int32) (x11 : Int32) (x12 : Int32) (x13 : Int32) (x14 : Int32) (x15 : Int32) (x29 : Int32) (x30 : Int32) (x38 : Int32) (x39 : Int32) (I : xMem) (L : xLon) : Option Int32 := (L_told P I x29 (4 : Int32)).bind fun q1 => (if ((q1.1 >>> (x30 &&& 31)) &&& (1 : Int32)) = (1 : Int32) then (some (1 : Int32)) else (some (0 : Int32))).bind fun q2 => (X4_best P q1.2 x29 x30).bind fun q4 => (X4_odds P q4.2 L x29 x30 (0 : Int32)).bind fun q5 => (if x39 = (0 : Int32) then (some (-4 : Int32)) else (some (1 : Int32))).bind fun q6 => if q5.1 = q6 then (if x39 = (0 : Int32) then (XC_2367 tI P Dr B67 x4 x5 x6 x7 x9 x10 x11 x12 x13 x14 x15 q4.2 q5.2) else ((if q2 = (0 : Int32) then (some (0 : Int64)) else (some (1 : Int64))).bind fun q10 => if (lg_cmp (X4_upper q5.2) q10) = (0 : Int32) then (XC_2159 tI P Dr B67 x4 x5 x6 x7 x9 x10 x11 x12 x13 x14 x15 x29 x30 x38 q4.1 q4.2 q5.2) else (some (0 : Int32)))) else (some (0 : Int32))
set_option maxHeartbeats 4000000 in
set_option maxRecDepth 100000 in
theorem kc_2080 (C0 : LC p l e s m args below meth c Q D cy ad tI) {P Dr : Nat} (hX : cOk ad P Dr) {B67 : Int32 → Int32 → Int32 → Int64 → Int32 → xMem → xLon → Option Int32} (hB67 : ∀ (y4 : Int32) (y5 : Int32) (y6 : Int32) (y7 : Int64) (y9 : Int32) (I : xMem) (L : xLon) (H : Heap) (locs : List Loc) (ls : Array Slot), B67 y4 y5 y6 y7 y9 I L = some 1 → cG D cy ad P Dr I L H → va_S (fun q : Nat => s.heap.size ≤ q) s.heap H locs → lv_has ls 43 [(0, .ref tI.2.1), (1, .ref (ad 0)), (2, .ref (ad 62)), (3, .ref (ad 63)), (4, .int y4), (5, .int y5), (6, .int y6), (7, .long y7), (9, .int y9)] → W p l e room_1 s m args below meth c H locs 600000 7302250 Q (F0 m 67 ls [])) (x4 : Int32) (x5 : Int32) (x6 : Int32) (x7 : Int64) (x9 : Int32) (x10 : Int32) (x11 : Int32) (x12 : Int32) (x13 : Int32) (x14 : Int32) (x15 : Int32) (x29 : Int32) (x30 : Int32) (x38 : Int32) (x39 : Int32) (I : xMem) (L : xLon) (H : Heap) (locs : List Loc) (ls : Array Slot) (h : XC_2080 tI P Dr B67 x4 x5 x6 x7 x9 x10 x11 x12 x13 x14 x15 x29 x30 x38 x39 I L = some 1) : cG D cy ad P Dr I L H → va_S (fun q : Nat => s.heap.size ≤ q) s.heap H locs → lv_has ls 43 [(0, .ref tI.2.1), (1, .ref (ad 0)), (2, .ref (ad 62)), (3, .ref (ad 63)), (4, .int x4), (5, .int x5), (6, .int x6), (7, .long x7), (9, .int x9), (10, .int x10), (11, .int x11), (12, .int x12), (13, .int x13), (14, .int x14), (15, .int x15), (29, .int x29), (30, .int x30), (38, .int x38), (39, .int x39)] → W p l e room_1 s m args below meth c H locs 600000 7302250 Q (F0 m 2080 ls []) := by
  obtain ⟨⟨hx, hb, hml, hown, hts⟩, ⟨hK, hZ⟩, hi, hA, kr⟩ := id C0
  intro hG hS hl
  unfold XC_2080 at h
  refine lv_aload_n hx hb dL_law_2080 rfl (lv_at hl 1 rfl) ?_
  refine lv_iload hx hb dL_law_2081 (lv_at hl 15 rfl) ?_
  refine lv_iconst (v := (4 : Int32)) hx hb dL_law_2083 (by decide) ?_
  obtain ⟨q1, eq1, h⟩ := obind h
  refine lw_ci (va_runS (As := [.ref (ad 0), .int x29, .int (4 : Int32)]) (rest := []) ⟨hx, hb, hml, hown, hts⟩ (k_L_told l D cy ad P Dr tI hX I L x29 (4 : Int32) q1 eq1) (va_cwS 3 hts (goodIn_up gL_law_L_told) rfl rfl rfl cd_L_told.2 ⟨Nat.le_of_ble_eq_true rfl, Nat.le_of_ble_eq_true rfl⟩) ⟨g_blind cZm, g_pre cZm hK hG hZ (law_S0 hS)⟩ rfl rfl hl.1 rfl (lv_room (Nat.le_of_ble_eq_true rfl)) dL_law_2084 ⟨Nat.le_of_ble_eq_true rfl, Nat.le_of_ble_eq_true rfl⟩) hS hA (fun H locs hG hS => ?_)
  refine lv_iload hx hb dL_law_2087 (lv_at hl 16 rfl) ?_
  refine lv_ishr hx hb dL_law_2089 ?_
  refine lv_iconst (v := (1 : Int32)) hx hb dL_law_2090 (by decide) ?_
  refine lv_iand hx hb dL_law_2091 ?_
  refine lv_iconst (v := (1 : Int32)) hx hb dL_law_2092 (by decide) ?_
  obtain ⟨q2, h9, h⟩ := obind h
  have hk_q2 : ∀ (H : Heap) (locs : List Loc) (ls : Array Slot), cG D cy ad P Dr q1.2 L H → va_S (fun q : Nat => s.heap.size ≤ q) s.heap H locs → lv_has ls 43 [(0, .ref tI.2.1), (1, .ref (ad 0)), (2, .ref (ad 62)), (3, .ref (ad 63)), (4, .int x4), (5, .int x5), (6, .int x6), (7, .long x7), (9, .int x9), (10, .int x10), (11, .int x11), (12, .int x12), (13, .int x13), (14, .int x14), (15, .int x15), (29, .int x29), (30, .int x30), (38, .int x38), (39, .int x39)] → W p l e room_1 s m args below meth c H locs 600000 7302250 Q (F0 m 2101 ls [.int q2]) := by
    intro H locs ls hG hS hl
    refine lv_istore (lv' := [(40, .int q2), (0, .ref tI.2.1), (1, .ref (ad 0)), (2, .ref (ad 62)), (3, .ref (ad 63)), (4, .int x4), (5, .int x5), (6, .int x6), (7, .long x7), (9, .int x9), (10, .int x10), (11, .int x11), (12, .int x12), (13, .int x13), (14, .int x14), (15, .int x15), (29, .int x29), (30, .int x30), (38, .int x38), (39, .int x39)]) hx hb dL_law_2101 hl (by decide) rfl (fun ls hl => ?_)
    refine lv_aload_n hx hb dL_law_2103 rfl (lv_at hl 2 rfl) ?_
    refine lv_iload hx hb dL_law_2104 (lv_at hl 16 rfl) ?_
    refine lv_iload hx hb dL_law_2106 (lv_at hl 17 rfl) ?_
    obtain ⟨q4, eq4, h⟩ := obind h
    refine lw_ci (va_runV (As := [.int x29, .int x30]) (rest := []) ⟨hx, hb, hml, hown, hts⟩ (k_X4_best l D cy ad P Dr tI hX q1.2 L x29 x30 q4 eq4) (cwV 2 hts (goodIn_up gL_law_X4_best) rfl rfl rfl cd_X4_best ⟨Nat.le_of_ble_eq_true rfl, Nat.le_of_ble_eq_true rfl⟩) ⟨g_blind cZm, g_recv hK hG (k := 0) (by decide) (cE_4 _ _) vwCl_4, g_pre cZm hK hG hZ (law_S0 hS)⟩ rfl rfl hl.1 rfl (lv_room (Nat.le_of_ble_eq_true rfl)) dL_law_2108 ⟨Nat.le_of_ble_eq_true rfl, Nat.le_of_ble_eq_true rfl⟩) hS hA (fun H locs hG hS => ?_)
    refine lv_istore (lv' := [(41, .int q4.1), (40, .int q2), (0, .ref tI.2.1), (1, .ref (ad 0)), (2, .ref (ad 62)), (3, .ref (ad 63)), (4, .int x4), (5, .int x5), (6, .int x6), (7, .long x7), (9, .int x9), (10, .int x10), (11, .int x11), (12, .int x12), (13, .int x13), (14, .int x14), (15, .int x15), (29, .int x29), (30, .int x30), (38, .int x38), (39, .int x39)]) hx hb dL_law_2111 hl (by decide) rfl (fun ls hl => ?_)
    refine lv_aload_n hx hb dL_law_2113 rfl (lv_at hl 3 rfl) ?_
    refine lv_iload hx hb dL_law_2114 (lv_at hl 17 rfl) ?_
    refine lv_iload hx hb dL_law_2116 (lv_at hl 18 rfl) ?_
    refine lv_iconst (v := (0 : Int32)) hx hb dL_law_2118 (by decide) ?_
    obtain ⟨q5, eq5, h⟩ := obind h
    refine lw_ci (va_runV (As := [.int x29, .int x30, .int (0 : Int32)]) (rest := []) ⟨hx, hb, hml, hown, hts⟩ (k_X4_odds l D cy ad P Dr tI hX q4.2 L x29 x30 (0 : Int32) q5 eq5) (cwV 3 hts (goodIn_up gL_law_X4_odds) rfl rfl rfl cd_X4_odds ⟨Nat.le_of_ble_eq_true rfl, Nat.le_of_ble_eq_true rfl⟩) ⟨g_blind cZm, g_recv hK hG (k := 0) (by decide) (cE_4 _ _) vwCl_4, g_pre cZm hK hG hZ (law_S0 hS)⟩ rfl rfl hl.1 rfl (lv_room (Nat.le_of_ble_eq_true rfl)) dL_law_2119 ⟨Nat.le_of_ble_eq_true rfl, Nat.le_of_ble_eq_true rfl⟩) hS hA (fun H locs hG hS => ?_)
    refine lv_iload hx hb dL_law_2122 (lv_at hl 20 rfl) ?_
    obtain ⟨q6, h9, h⟩ := obind h
    have hk_q6 : ∀ (H : Heap) (locs : List Loc) (ls : Array Slot), cG D cy ad P Dr q4.2 q5.2 H → va_S (fun q : Nat => s.heap.size ≤ q) s.heap H locs → lv_has ls 43 [(0, .ref tI.2.1), (1, .ref (ad 0)), (2, .ref (ad 62)), (3, .ref (ad 63)), (4, .int x4), (5, .int x5), (6, .int x6), (7, .long x7), (9, .int x9), (10, .int x10), (11, .int x11), (12, .int x12), (13, .int x13), (14, .int x14), (15, .int x15), (29, .int x29), (30, .int x30), (38, .int x38), (39, .int x39), (40, .int q2), (41, .int q4.1)] → W p l e room_1 s m args below meth c H locs 600000 7302250 Q (F0 m 2133 ls [.int q6, .int q5.1]) := by
      intro H locs ls hG hS hl
      refine lv_icmp_ne (tgt := 2365) hx hb dL_law_2133 (by decide) (fun c8 => ?_) (fun c8 => ?_)
      · have h := ite_f h c8
        refine lv_iconst (v := (0 : Int32)) hx hb dL_law_2365 (by decide) ?_
        have h := Option.some.inj h
        exact absurd h (by decide)
      · have h := ite_t h c8
        refine lv_iload hx hb dL_law_2136 (lv_at hl 18 rfl) ?_
        refine lv_if_eq (tgt := 2367) hx hb dL_law_2138 (by decide) (fun c9 => ?_) (fun c9 => ?_)
        · have h := ite_t h c9
          exact kc_2367 C0 hX hB67 _ _ _ _ _ _ _ _ _ _ _ _ _ _ _ _ h hG hS (lv_sub hl [0, 1, 2, 3, 4, 5, 6, 7, 8, 9, 10, 11, 12, 13, 14] rfl)
        · have h := ite_f h c9
          refine lv_aload_n hx hb dL_law_2141 rfl (lv_at hl 1 rfl) ?_
          refine lw_cl (va_runV (As := []) (rest := []) ⟨hx, hb, hml, hown, hts⟩ (k_X4_upper l D cy ad P Dr tI hX q4.2 q5.2 _ rfl) (cwV 0 hts (goodIn_up gL_law_X4_upper) rfl rfl rfl cd_X4_upper ⟨Nat.le_of_ble_eq_true rfl, Nat.le_of_ble_eq_true rfl⟩) ⟨g_blind cZm, g_recv hK hG (k := 0) (by decide) (cE_4 _ _) vwCl_4, g_pre cZm hK hG hZ (law_S0 hS)⟩ rfl rfl hl.1 rfl (lv_room (Nat.le_of_ble_eq_true rfl)) dL_law_2142 ⟨Nat.le_of_ble_eq_true rfl, Nat.le_of_ble_eq_true rfl⟩) hS hA (fun H locs hG hS => ?_)
          refine lv_iload hx hb dL_law_2145 (lv_at hl 19 rfl) ?_
          obtain ⟨q10, h9, h⟩ := obind h
          have hk_q10 : ∀ (H : Heap) (locs : List Loc) (ls : Array Slot), cG D cy ad P Dr q4.2 q5.2 H → va_S (fun q : Nat => s.heap.size ≤ q) s.heap H locs → lv_has ls 43 [(0, .ref tI.2.1), (1, .ref (ad 0)), (2, .ref (ad 62)), (3, .ref (ad 63)), (4, .int x4), (5, .int x5), (6, .int x6), (7, .long x7), (9, .int x9), (10, .int x10), (11, .int x11), (12, .int x12), (13, .int x13), (14, .int x14), (15, .int x15), (29, .int x29), (30, .int x30), (38, .int x38), (41, .int q4.1)] → W p l e room_1 s m args below meth c H locs 600000 7302250 Q (F0 m 2155 ls [.long q10, .long (X4_upper q5.2)]) := by
            intro H locs ls hG hS hl
            refine W.lcmp hx hb dL_law_2155 ?_
            refine lv_if_ne (tgt := 2365) hx hb dL_law_2156 (by decide) (fun c12 => ?_) (fun c12 => ?_)
            · have h := ite_f h c12
              refine lv_iconst (v := (0 : Int32)) hx hb dL_law_2365 (by decide) ?_
              have h := Option.some.inj h
              exact absurd h (by decide)
            · have h := ite_t h c12
              exact kc_2159 C0 hX hB67 _ _ _ _ _ _ _ _ _ _ _ _ _ _ _ _ _ _ _ _ h hG hS (lv_sub hl [0, 1, 2, 3, 4, 5, 6, 7, 8, 9, 10, 11, 12, 13, 14, 15, 16, 17, 18] rfl)
          clear h
          have h := h9
          clear h9
          refine lv_if_eq (tgt := 2154) hx hb dL_law_2147 (by decide) (fun c11 => ?_) (fun c11 => ?_)
          · have h := ite_t h c11
            refine lv_lconst (v := (0 : Int64)) hx hb dL_law_2154 (by decide) ?_
            have h := Option.some.inj h
            subst h
            exact hk_q10 _ _ _ hG hS (lv_sub hl [0, 1, 2, 3, 4, 5, 6, 7, 8, 9, 10, 11, 12, 13, 14, 15, 16, 17, 20] rfl)
          · have h := ite_f h c11
            refine lv_lconst (v := (1 : Int64)) hx hb dL_law_2150 (by decide) ?_
            refine lv_goto (tgt := 2155) hx hb dL_law_2151 (by decide) ?_
            have h := Option.some.inj h
            subst h
            exact hk_q10 _ _ _ hG hS (lv_sub hl [0, 1, 2, 3, 4, 5, 6, 7, 8, 9, 10, 11, 12, 13, 14, 15, 16, 17, 20] rfl)
    clear h
    have h := h9
    clear h9
    refine lv_if_eq (tgt := 2131) hx hb dL_law_2124 (by decide) (fun c7 => ?_) (fun c7 => ?_)
    · have h := ite_t h c7
      refine lv_bipush (v := (-4 : Int32)) hx hb dL_law_2131 (by decide) ?_
      have h := Option.some.inj h
      subst h
      exact hk_q6 _ _ _ hG hS (lv_sub hl [2, 3, 4, 5, 6, 7, 8, 9, 10, 11, 12, 13, 14, 15, 16, 17, 18, 19, 20, 1, 0] rfl)
    · have h := ite_f h c7
      refine lv_iconst (v := (1 : Int32)) hx hb dL_law_2127 (by decide) ?_
      refine lv_goto (tgt := 2133) hx hb dL_law_2128 (by decide) ?_
      have h := Option.some.inj h
      subst h
      exact hk_q6 _ _ _ hG hS (lv_sub hl [2, 3, 4, 5, 6, 7, 8, 9, 10, 11, 12, 13, 14, 15, 16, 17, 18, 19, 20, 1, 0] rfl)
  clear h
  have h := h9
  clear h9
  refine lv_icmp_ne (tgt := 2100) hx hb dL_law_2093 (by decide) (fun c3 => ?_) (fun c3 => ?_)
  · have h := ite_f h c3
    refine lv_iconst (v := (0 : Int32)) hx hb dL_law_2100 (by decide) ?_
    have h := Option.some.inj h
    subst h
    exact hk_q2 _ _ _ hG hS (lv_sub hl [0, 1, 2, 3, 4, 5, 6, 7, 8, 9, 10, 11, 12, 13, 14, 15, 16, 17, 18] rfl)
  · have h := ite_t h c3
    refine lv_iconst (v := (1 : Int32)) hx hb dL_law_2096 (by decide) ?_
    refine lv_goto (tgt := 2101) hx hb dL_law_2097 (by decide) ?_
    have h := Option.some.inj h
    subst h
    exact hk_q2 _ _ _ hG hS (lv_sub hl [0, 1, 2, 3, 4, 5, 6, 7, 8, 9, 10, 11, 12, 13, 14, 15, 16, 17, 18] rfl)
def XC_1997 (tI : xTab) (P Dr : Nat) (B67 : Int32 → Int32 → Int32 → Int64 → Int32 → xMem → xLon → Option Int32) (x4 : Int32) (x5 : Int32) (x6 : Int32) (x7 : Int64) (x9 : Int32) (x10 : Int32) (x11 : Int32) (x12 : Int32) (x13 : Int32) (x14 : Int32) (x15 : Int32) (x29 : Int32) (x30 : Int32) (x36 : Int32) (x37 : Int32) (I : xMem) (L : xLon) : Option Int32 := if x4 < x36 then (some (0 : Int32)) else (if (x36 - x36 / (2 : Int32) * (2 : Int32)) = (0 : Int32) then ((L_bits x13).bind fun v3 => if (v3 + (2 : Int32)) < x36 then (some (0 : Int32)) else (if x37 < (0 : Int32) then (some (0 : Int32)) else (if x4 < x37 then (some (0 : Int32)) else (if (x37 - x37 / (2 : Int32) * (2 : Int32)) = (0 : Int32) then ((L_low (x10 >>> ((17 : Int32) &&& 31)) (13 : Int32)).bind fun v8 => (if ((x13 >>> (x29 &&& 31)) &&& (1 : Int32)) = ((x13 >>> (x30 &&& 31)) &&& (1 : Int32)) then (some (1 : Int32)) else (some (0 : Int32))).bind fun q9 => XC_2080 tI P Dr B67 x4 x5 x6 x7 x9 x10 x11 x12 x13 x14 x15 x29 x30 v8 q9 I L) else (some (0 : Int32)))))) else (some (0 : Int32)))
set_option maxHeartbeats 4000000 in
set_option maxRecDepth 100000 in
theorem kc_1997 (C0 : LC p l e s m args below meth c Q D cy ad tI) {P Dr : Nat} (hX : cOk ad P Dr) {B67 : Int32 → Int32 → Int32 → Int64 → Int32 → xMem → xLon → Option Int32} (hB67 : ∀ (y4 : Int32) (y5 : Int32) (y6 : Int32) (y7 : Int64) (y9 : Int32) (I : xMem) (L : xLon) (H : Heap) (locs : List Loc) (ls : Array Slot), B67 y4 y5 y6 y7 y9 I L = some 1 → cG D cy ad P Dr I L H → va_S (fun q : Nat => s.heap.size ≤ q) s.heap H locs → lv_has ls 43 [(0, .ref tI.2.1), (1, .ref (ad 0)), (2, .ref (ad 62)), (3, .ref (ad 63)), (4, .int y4), (5, .int y5), (6, .int y6), (7, .long y7), (9, .int y9)] → W p l e room_1 s m args below meth c H locs 600000 7302250 Q (F0 m 67 ls [])) (x4 : Int32) (x5 : Int32) (x6 : Int32) (x7 : Int64) (x9 : Int32) (x10 : Int32) (x11 : Int32) (x12 : Int32) (x13 : Int32) (x14 : Int32) (x15 : Int32) (x29 : Int32) (x30 : Int32) (x36 : Int32) (x37 : Int32) (I : xMem) (L : xLon) (H : Heap) (locs : List Loc) (ls : Array Slot) (h : XC_1997 tI P Dr B67 x4 x5 x6 x7 x9 x10 x11 x12 x13 x14 x15 x29 x30 x36 x37 I L = some 1) : cG D cy ad P Dr I L H → va_S (fun q : Nat => s.heap.size ≤ q) s.heap H locs → lv_has ls 43 [(0, .ref tI.2.1), (1, .ref (ad 0)), (2, .ref (ad 62)), (3, .ref (ad 63)), (4, .int x4), (5, .int x5), (6, .int x6), (7, .long x7), (9, .int x9), (10, .int x10), (11, .int x11), (12, .int x12), (13, .int x13), (14, .int x14), (15, .int x15), (29, .int x29), (30, .int x30), (36, .int x36), (37, .int x37)] → W p l e room_1 s m args below meth c H locs 600000 7302250 Q (F0 m 1997 ls []) := by
  obtain ⟨⟨hx, hb, hml, hown, hts⟩, ⟨hK, hZ⟩, hi, hA, kr⟩ := id C0
  intro hG hS hl
  unfold XC_1997 at h
  refine lv_iload hx hb dL_law_1997 (lv_at hl 17 rfl) ?_
  refine lv_iload hx hb dL_law_1999 (lv_at hl 4 rfl) ?_
  refine lv_icmp_gt (tgt := 2042) hx hb dL_law_2001 (by decide) (fun c1 => ?_) (fun c1 => ?_)
  · have h := ite_t h c1
    refine lv_iconst (v := (0 : Int32)) hx hb dL_law_2042 (by decide) ?_
    have h := Option.some.inj h
    exact absurd h (by decide)
  · have h := ite_f h c1
    refine lv_iload hx hb dL_law_2004 (lv_at hl 17 rfl) ?_
    refine lv_iconst (v := (2 : Int32)) hx hb dL_law_2006 (by decide) ?_
    refine lv_irem hx hb dL_law_2007 (by decide) ?_
    refine lv_if_ne (tgt := 2042) hx hb dL_law_2008 (by decide) (fun c2 => ?_) (fun c2 => ?_)
    · have h := ite_f h c2
      refine lv_iconst (v := (0 : Int32)) hx hb dL_law_2042 (by decide) ?_
      have h := Option.some.inj h
      exact absurd h (by decide)
    · have h := ite_t h c2
      refine lv_iload hx hb dL_law_2011 (lv_at hl 17 rfl) ?_
      refine lv_iload hx hb dL_law_2013 (lv_at hl 12 rfl) ?_
      obtain ⟨v3, ev3, h⟩ := obind h
      refine lw_ci (va_runS (As := [.int x13]) (rest := [.int x36]) ⟨hx, hb, hml, hown, hts⟩ (k_L_bits l D cy ad P Dr tI hX I L x13 v3 ev3) (va_cwS 1 hts (goodIn_up gL_law_L_bits) rfl rfl rfl cd_L_bits.2 ⟨Nat.le_of_ble_eq_true rfl, Nat.le_of_ble_eq_true rfl⟩) ⟨g_blind cZm, g_pre cZm hK hG hZ (law_S0 hS)⟩ rfl rfl hl.1 rfl (lv_room (Nat.le_of_ble_eq_true rfl)) dL_law_2015 ⟨Nat.le_of_ble_eq_true rfl, Nat.le_of_ble_eq_true rfl⟩) hS hA (fun H locs hG hS => ?_)
      refine lv_iconst (v := (2 : Int32)) hx hb dL_law_2018 (by decide) ?_
      refine lv_iadd hx hb dL_law_2019 ?_
      refine lv_icmp_gt (tgt := 2042) hx hb dL_law_2020 (by decide) (fun c4 => ?_) (fun c4 => ?_)
      · have h := ite_t h c4
        refine lv_iconst (v := (0 : Int32)) hx hb dL_law_2042 (by decide) ?_
        have h := Option.some.inj h
        exact absurd h (by decide)
      · have h := ite_f h c4
        refine lv_iload hx hb dL_law_2023 (lv_at hl 18 rfl) ?_
        refine lv_if_lt (tgt := 2042) hx hb dL_law_2025 (by decide) (fun c5 => ?_) (fun c5 => ?_)
        · have h := ite_t h c5
          refine lv_iconst (v := (0 : Int32)) hx hb dL_law_2042 (by decide) ?_
          have h := Option.some.inj h
          exact absurd h (by decide)
        · have h := ite_f h c5
          refine lv_iload hx hb dL_law_2028 (lv_at hl 18 rfl) ?_
          refine lv_iload hx hb dL_law_2030 (lv_at hl 4 rfl) ?_
          refine lv_icmp_gt (tgt := 2042) hx hb dL_law_2032 (by decide) (fun c6 => ?_) (fun c6 => ?_)
          · have h := ite_t h c6
            refine lv_iconst (v := (0 : Int32)) hx hb dL_law_2042 (by decide) ?_
            have h := Option.some.inj h
            exact absurd h (by decide)
          · have h := ite_f h c6
            refine lv_iload hx hb dL_law_2035 (lv_at hl 18 rfl) ?_
            refine lv_iconst (v := (2 : Int32)) hx hb dL_law_2037 (by decide) ?_
            refine lv_irem hx hb dL_law_2038 (by decide) ?_
            refine lv_if_eq (tgt := 2044) hx hb dL_law_2039 (by decide) (fun c7 => ?_) (fun c7 => ?_)
            · have h := ite_t h c7
              refine lv_iload hx hb dL_law_2044 (lv_at hl 9 rfl) ?_
              refine lv_bipush (v := (17 : Int32)) hx hb dL_law_2046 (by decide) ?_
              refine lv_ishr hx hb dL_law_2048 ?_
              refine lv_bipush (v := (13 : Int32)) hx hb dL_law_2049 (by decide) ?_
              obtain ⟨v8, ev8, h⟩ := obind h
              refine lw_ci (va_runS (As := [.int (x10 >>> ((17 : Int32) &&& 31)), .int (13 : Int32)]) (rest := []) ⟨hx, hb, hml, hown, hts⟩ (k_L_low l D cy ad P Dr tI hX I L (x10 >>> ((17 : Int32) &&& 31)) (13 : Int32) v8 ev8) (va_cwS 2 hts (goodIn_up gL_law_L_low) rfl rfl rfl cd_L_low.2 ⟨Nat.le_of_ble_eq_true rfl, Nat.le_of_ble_eq_true rfl⟩) ⟨g_blind cZm, g_pre cZm hK hG hZ (law_S0 hS)⟩ rfl rfl hl.1 rfl (lv_room (Nat.le_of_ble_eq_true rfl)) dL_law_2051 ⟨Nat.le_of_ble_eq_true rfl, Nat.le_of_ble_eq_true rfl⟩) hS hA (fun H locs hG hS => ?_)
              refine lv_istore (lv' := [(38, .int v8), (0, .ref tI.2.1), (1, .ref (ad 0)), (2, .ref (ad 62)), (3, .ref (ad 63)), (4, .int x4), (5, .int x5), (6, .int x6), (7, .long x7), (9, .int x9), (10, .int x10), (11, .int x11), (12, .int x12), (13, .int x13), (14, .int x14), (15, .int x15), (29, .int x29), (30, .int x30), (36, .int x36), (37, .int x37)]) hx hb dL_law_2054 hl (by decide) rfl (fun ls hl => ?_)
              refine lv_iload hx hb dL_law_2056 (lv_at hl 13 rfl) ?_
              refine lv_iload hx hb dL_law_2058 (lv_at hl 16 rfl) ?_
              refine lv_ishr hx hb dL_law_2060 ?_
              refine lv_iconst (v := (1 : Int32)) hx hb dL_law_2061 (by decide) ?_
              refine lv_iand hx hb dL_law_2062 ?_
              refine lv_iload hx hb dL_law_2063 (lv_at hl 13 rfl) ?_
              refine lv_iload hx hb dL_law_2065 (lv_at hl 17 rfl) ?_
              refine lv_ishr hx hb dL_law_2067 ?_
              refine lv_iconst (v := (1 : Int32)) hx hb dL_law_2068 (by decide) ?_
              refine lv_iand hx hb dL_law_2069 ?_
              obtain ⟨q9, h9, h⟩ := obind h
              have hk_q9 : ∀ (H : Heap) (locs : List Loc) (ls : Array Slot), cG D cy ad P Dr I L H → va_S (fun q : Nat => s.heap.size ≤ q) s.heap H locs → lv_has ls 43 [(0, .ref tI.2.1), (1, .ref (ad 0)), (2, .ref (ad 62)), (3, .ref (ad 63)), (4, .int x4), (5, .int x5), (6, .int x6), (7, .long x7), (9, .int x9), (10, .int x10), (11, .int x11), (12, .int x12), (13, .int x13), (14, .int x14), (15, .int x15), (29, .int x29), (30, .int x30), (38, .int v8)] → W p l e room_1 s m args below meth c H locs 600000 7302250 Q (F0 m 2078 ls [.int q9]) := by
                intro H locs ls hG hS hl
                refine lv_istore (lv' := [(39, .int q9), (0, .ref tI.2.1), (1, .ref (ad 0)), (2, .ref (ad 62)), (3, .ref (ad 63)), (4, .int x4), (5, .int x5), (6, .int x6), (7, .long x7), (9, .int x9), (10, .int x10), (11, .int x11), (12, .int x12), (13, .int x13), (14, .int x14), (15, .int x15), (29, .int x29), (30, .int x30), (38, .int v8)]) hx hb dL_law_2078 hl (by decide) rfl (fun ls hl => ?_)
                exact kc_2080 C0 hX hB67 _ _ _ _ _ _ _ _ _ _ _ _ _ _ _ _ _ _ _ _ h hG hS (lv_sub hl [1, 2, 3, 4, 5, 6, 7, 8, 9, 10, 11, 12, 13, 14, 15, 16, 17, 18, 0] rfl)
              clear h
              have h := h9
              clear h9
              refine lv_icmp_ne (tgt := 2077) hx hb dL_law_2070 (by decide) (fun c10 => ?_) (fun c10 => ?_)
              · have h := ite_f h c10
                refine lv_iconst (v := (0 : Int32)) hx hb dL_law_2077 (by decide) ?_
                have h := Option.some.inj h
                subst h
                exact hk_q9 _ _ _ hG hS (lv_sub hl [1, 2, 3, 4, 5, 6, 7, 8, 9, 10, 11, 12, 13, 14, 15, 16, 17, 0] rfl)
              · have h := ite_t h c10
                refine lv_iconst (v := (1 : Int32)) hx hb dL_law_2073 (by decide) ?_
                refine lv_goto (tgt := 2078) hx hb dL_law_2074 (by decide) ?_
                have h := Option.some.inj h
                subst h
                exact hk_q9 _ _ _ hG hS (lv_sub hl [1, 2, 3, 4, 5, 6, 7, 8, 9, 10, 11, 12, 13, 14, 15, 16, 17, 0] rfl)
            · have h := ite_f h c7
              refine lv_iconst (v := (0 : Int32)) hx hb dL_law_2042 (by decide) ?_
              have h := Option.some.inj h
              exact absurd h (by decide)
def XC_1921 (tI : xTab) (P Dr : Nat) (B67 : Int32 → Int32 → Int32 → Int64 → Int32 → xMem → xLon → Option Int32) (x4 : Int32) (x5 : Int32) (x6 : Int32) (x7 : Int64) (x9 : Int32) (x10 : Int32) (x11 : Int32) (x12 : Int32) (x13 : Int32) (x14 : Int32) (x15 : Int32) (x29 : Int32) (x30 : Int32) (x33 : Int32) (x34 : Int32) (x35 : Int32) (I : xMem) (L : xLon) : Option Int32 := if (63 : Int32) < x33 then (some (0 : Int32)) else (if x34 < (0 : Int32) then (some (0 : Int32)) else (if x4 ≤ x34 then (some (0 : Int32)) else (if x34 = x29 then (some (0 : Int32)) else (if x35 < (1 : Int32) then (some (0 : Int32)) else ((L_bits x33).bind fun v6 => if x35 ≤ v6 then ((X4_send P I (1 : Int32)).bind fun q8 => (X4_send P q8.2 (2 : Int32)).bind fun q9 => (X4_send P q9.2 (0 : Int32)).bind fun q10 => (L_bits x13).bind fun v11 => if q10.1 = v11 then (if q8.1 < (0 : Int32) then (some (0 : Int32)) else (XC_1997 tI P Dr B67 x4 x5 x6 x7 x9 x10 x11 x12 x13 x14 x15 x29 x30 q8.1 q9.1 q10.2 L)) else (some (0 : Int32))) else (some (0 : Int32)))))))
set_option maxHeartbeats 4000000 in
set_option maxRecDepth 100000 in
theorem kc_1921 (C0 : LC p l e s m args below meth c Q D cy ad tI) {P Dr : Nat} (hX : cOk ad P Dr) {B67 : Int32 → Int32 → Int32 → Int64 → Int32 → xMem → xLon → Option Int32} (hB67 : ∀ (y4 : Int32) (y5 : Int32) (y6 : Int32) (y7 : Int64) (y9 : Int32) (I : xMem) (L : xLon) (H : Heap) (locs : List Loc) (ls : Array Slot), B67 y4 y5 y6 y7 y9 I L = some 1 → cG D cy ad P Dr I L H → va_S (fun q : Nat => s.heap.size ≤ q) s.heap H locs → lv_has ls 43 [(0, .ref tI.2.1), (1, .ref (ad 0)), (2, .ref (ad 62)), (3, .ref (ad 63)), (4, .int y4), (5, .int y5), (6, .int y6), (7, .long y7), (9, .int y9)] → W p l e room_1 s m args below meth c H locs 600000 7302250 Q (F0 m 67 ls [])) (x4 : Int32) (x5 : Int32) (x6 : Int32) (x7 : Int64) (x9 : Int32) (x10 : Int32) (x11 : Int32) (x12 : Int32) (x13 : Int32) (x14 : Int32) (x15 : Int32) (x29 : Int32) (x30 : Int32) (x33 : Int32) (x34 : Int32) (x35 : Int32) (I : xMem) (L : xLon) (H : Heap) (locs : List Loc) (ls : Array Slot) (h : XC_1921 tI P Dr B67 x4 x5 x6 x7 x9 x10 x11 x12 x13 x14 x15 x29 x30 x33 x34 x35 I L = some 1) : cG D cy ad P Dr I L H → va_S (fun q : Nat => s.heap.size ≤ q) s.heap H locs → lv_has ls 43 [(0, .ref tI.2.1), (1, .ref (ad 0)), (2, .ref (ad 62)), (3, .ref (ad 63)), (4, .int x4), (5, .int x5), (6, .int x6), (7, .long x7), (9, .int x9), (10, .int x10), (11, .int x11), (12, .int x12), (13, .int x13), (14, .int x14), (15, .int x15), (29, .int x29), (30, .int x30), (33, .int x33), (34, .int x34), (35, .int x35)] → W p l e room_1 s m args below meth c H locs 600000 7302250 Q (F0 m 1921 ls []) := by
  obtain ⟨⟨hx, hb, hml, hown, hts⟩, ⟨hK, hZ⟩, hi, hA, kr⟩ := id C0
  intro hG hS hl
  unfold XC_1921 at h
  refine lv_iload hx hb dL_law_1921 (lv_at hl 17 rfl) ?_
  refine lv_bipush (v := (63 : Int32)) hx hb dL_law_1923 (by decide) ?_
  refine lv_icmp_gt (tgt := 1963) hx hb dL_law_1925 (by decide) (fun c1 => ?_) (fun c1 => ?_)
  · have h := ite_t h c1
    refine lv_iconst (v := (0 : Int32)) hx hb dL_law_1963 (by decide) ?_
    have h := Option.some.inj h
    exact absurd h (by decide)
  · have h := ite_f h c1
    refine lv_iload hx hb dL_law_1928 (lv_at hl 18 rfl) ?_
    refine lv_if_lt (tgt := 1963) hx hb dL_law_1930 (by decide) (fun c2 => ?_) (fun c2 => ?_)
    · have h := ite_t h c2
      refine lv_iconst (v := (0 : Int32)) hx hb dL_law_1963 (by decide) ?_
      have h := Option.some.inj h
      exact absurd h (by decide)
    · have h := ite_f h c2
      refine lv_iload hx hb dL_law_1933 (lv_at hl 18 rfl) ?_
      refine lv_iload hx hb dL_law_1935 (lv_at hl 4 rfl) ?_
      refine lv_icmp_ge (tgt := 1963) hx hb dL_law_1937 (by decide) (fun c3 => ?_) (fun c3 => ?_)
      · have h := ite_t h c3
        refine lv_iconst (v := (0 : Int32)) hx hb dL_law_1963 (by decide) ?_
        have h := Option.some.inj h
        exact absurd h (by decide)
      · have h := ite_f h c3
        refine lv_iload hx hb dL_law_1940 (lv_at hl 18 rfl) ?_
        refine lv_iload hx hb dL_law_1942 (lv_at hl 15 rfl) ?_
        refine lv_icmp_eq (tgt := 1963) hx hb dL_law_1944 (by decide) (fun c4 => ?_) (fun c4 => ?_)
        · have h := ite_t h c4
          refine lv_iconst (v := (0 : Int32)) hx hb dL_law_1963 (by decide) ?_
          have h := Option.some.inj h
          exact absurd h (by decide)
        · have h := ite_f h c4
          refine lv_iload hx hb dL_law_1947 (lv_at hl 19 rfl) ?_
          refine lv_iconst (v := (1 : Int32)) hx hb dL_law_1949 (by decide) ?_
          refine lv_icmp_lt (tgt := 1963) hx hb dL_law_1950 (by decide) (fun c5 => ?_) (fun c5 => ?_)
          · have h := ite_t h c5
            refine lv_iconst (v := (0 : Int32)) hx hb dL_law_1963 (by decide) ?_
            have h := Option.some.inj h
            exact absurd h (by decide)
          · have h := ite_f h c5
            refine lv_iload hx hb dL_law_1953 (lv_at hl 19 rfl) ?_
            refine lv_iload hx hb dL_law_1955 (lv_at hl 17 rfl) ?_
            obtain ⟨v6, ev6, h⟩ := obind h
            refine lw_ci (va_runS (As := [.int x33]) (rest := [.int x35]) ⟨hx, hb, hml, hown, hts⟩ (k_L_bits l D cy ad P Dr tI hX I L x33 v6 ev6) (va_cwS 1 hts (goodIn_up gL_law_L_bits) rfl rfl rfl cd_L_bits.2 ⟨Nat.le_of_ble_eq_true rfl, Nat.le_of_ble_eq_true rfl⟩) ⟨g_blind cZm, g_pre cZm hK hG hZ (law_S0 hS)⟩ rfl rfl hl.1 rfl (lv_room (Nat.le_of_ble_eq_true rfl)) dL_law_1957 ⟨Nat.le_of_ble_eq_true rfl, Nat.le_of_ble_eq_true rfl⟩) hS hA (fun H locs hG hS => ?_)
            refine lv_icmp_le (tgt := 1965) hx hb dL_law_1960 (by decide) (fun c7 => ?_) (fun c7 => ?_)
            · have h := ite_t h c7
              refine lv_aload_n hx hb dL_law_1965 rfl (lv_at hl 1 rfl) ?_
              refine lv_iconst (v := (1 : Int32)) hx hb dL_law_1966 (by decide) ?_
              obtain ⟨q8, eq8, h⟩ := obind h
              refine lw_ci (va_runV (As := [.int (1 : Int32)]) (rest := []) ⟨hx, hb, hml, hown, hts⟩ (k_X4_send l D cy ad P Dr tI hX I L (1 : Int32) q8 eq8) (cwV 1 hts (goodIn_up gL_law_X4_send) rfl rfl rfl cd_X4_send ⟨Nat.le_of_ble_eq_true rfl, Nat.le_of_ble_eq_true rfl⟩) ⟨g_blind cZm, g_recv hK hG (k := 0) (by decide) (cE_4 _ _) vwCl_4, g_pre cZm hK hG hZ (law_S0 hS)⟩ rfl rfl hl.1 rfl (lv_room (Nat.le_of_ble_eq_true rfl)) dL_law_1967 ⟨Nat.le_of_ble_eq_true rfl, Nat.le_of_ble_eq_true rfl⟩) hS hA (fun H locs hG hS => ?_)
              refine lv_istore (lv' := [(36, .int q8.1), (0, .ref tI.2.1), (1, .ref (ad 0)), (2, .ref (ad 62)), (3, .ref (ad 63)), (4, .int x4), (5, .int x5), (6, .int x6), (7, .long x7), (9, .int x9), (10, .int x10), (11, .int x11), (12, .int x12), (13, .int x13), (14, .int x14), (15, .int x15), (29, .int x29), (30, .int x30), (33, .int x33), (34, .int x34), (35, .int x35)]) hx hb dL_law_1970 hl (by decide) rfl (fun ls hl => ?_)
              refine lv_aload_n hx hb dL_law_1972 rfl (lv_at hl 2 rfl) ?_
              refine lv_iconst (v := (2 : Int32)) hx hb dL_law_1973 (by decide) ?_
              obtain ⟨q9, eq9, h⟩ := obind h
              refine lw_ci (va_runV (As := [.int (2 : Int32)]) (rest := []) ⟨hx, hb, hml, hown, hts⟩ (k_X4_send l D cy ad P Dr tI hX q8.2 L (2 : Int32) q9 eq9) (cwV 1 hts (goodIn_up gL_law_X4_send) rfl rfl rfl cd_X4_send ⟨Nat.le_of_ble_eq_true rfl, Nat.le_of_ble_eq_true rfl⟩) ⟨g_blind cZm, g_recv hK hG (k := 0) (by decide) (cE_4 _ _) vwCl_4, g_pre cZm hK hG hZ (law_S0 hS)⟩ rfl rfl hl.1 rfl (lv_room (Nat.le_of_ble_eq_true rfl)) dL_law_1974 ⟨Nat.le_of_ble_eq_true rfl, Nat.le_of_ble_eq_true rfl⟩) hS hA (fun H locs hG hS => ?_)
              refine lv_istore (lv' := [(37, .int q9.1), (36, .int q8.1), (0, .ref tI.2.1), (1, .ref (ad 0)), (2, .ref (ad 62)), (3, .ref (ad 63)), (4, .int x4), (5, .int x5), (6, .int x6), (7, .long x7), (9, .int x9), (10, .int x10), (11, .int x11), (12, .int x12), (13, .int x13), (14, .int x14), (15, .int x15), (29, .int x29), (30, .int x30), (33, .int x33), (34, .int x34), (35, .int x35)]) hx hb dL_law_1977 hl (by decide) rfl (fun ls hl => ?_)
              refine lv_aload_n hx hb dL_law_1979 rfl (lv_at hl 3 rfl) ?_
              refine lv_iconst (v := (0 : Int32)) hx hb dL_law_1980 (by decide) ?_
              obtain ⟨q10, eq10, h⟩ := obind h
              refine lw_ci (va_runV (As := [.int (0 : Int32)]) (rest := []) ⟨hx, hb, hml, hown, hts⟩ (k_X4_send l D cy ad P Dr tI hX q9.2 L (0 : Int32) q10 eq10) (cwV 1 hts (goodIn_up gL_law_X4_send) rfl rfl rfl cd_X4_send ⟨Nat.le_of_ble_eq_true rfl, Nat.le_of_ble_eq_true rfl⟩) ⟨g_blind cZm, g_recv hK hG (k := 0) (by decide) (cE_4 _ _) vwCl_4, g_pre cZm hK hG hZ (law_S0 hS)⟩ rfl rfl hl.1 rfl (lv_room (Nat.le_of_ble_eq_true rfl)) dL_law_1981 ⟨Nat.le_of_ble_eq_true rfl, Nat.le_of_ble_eq_true rfl⟩) hS hA (fun H locs hG hS => ?_)
              refine lv_iload hx hb dL_law_1984 (lv_at hl 14 rfl) ?_
              obtain ⟨v11, ev11, h⟩ := obind h
              refine lw_ci (va_runS (As := [.int x13]) (rest := [.int q10.1]) ⟨hx, hb, hml, hown, hts⟩ (k_L_bits l D cy ad P Dr tI hX q10.2 L x13 v11 ev11) (va_cwS 1 hts (goodIn_up gL_law_L_bits) rfl rfl rfl cd_L_bits.2 ⟨Nat.le_of_ble_eq_true rfl, Nat.le_of_ble_eq_true rfl⟩) ⟨g_blind cZm, g_pre cZm hK hG hZ (law_S0 hS)⟩ rfl rfl hl.1 rfl (lv_room (Nat.le_of_ble_eq_true rfl)) dL_law_1986 ⟨Nat.le_of_ble_eq_true rfl, Nat.le_of_ble_eq_true rfl⟩) hS hA (fun H locs hG hS => ?_)
              refine lv_icmp_ne (tgt := 2042) hx hb dL_law_1989 (by decide) (fun c12 => ?_) (fun c12 => ?_)
              · have h := ite_f h c12
                refine lv_iconst (v := (0 : Int32)) hx hb dL_law_2042 (by decide) ?_
                have h := Option.some.inj h
                exact absurd h (by decide)
              · have h := ite_t h c12
                refine lv_iload hx hb dL_law_1992 (lv_at hl 1 rfl) ?_
                refine lv_if_lt (tgt := 2042) hx hb dL_law_1994 (by decide) (fun c13 => ?_) (fun c13 => ?_)
                · have h := ite_t h c13
                  refine lv_iconst (v := (0 : Int32)) hx hb dL_law_2042 (by decide) ?_
                  have h := Option.some.inj h
                  exact absurd h (by decide)
                · have h := ite_f h c13
                  exact kc_1997 C0 hX hB67 _ _ _ _ _ _ _ _ _ _ _ _ _ _ _ _ _ _ _ _ h hG hS (lv_sub hl [2, 3, 4, 5, 6, 7, 8, 9, 10, 11, 12, 13, 14, 15, 16, 17, 18, 1, 0] rfl)
            · have h := ite_f h c7
              refine lv_iconst (v := (0 : Int32)) hx hb dL_law_1963 (by decide) ?_
              have h := Option.some.inj h
              exact absurd h (by decide)
def XC_1835 (tI : xTab) (P Dr : Nat) (B67 : Int32 → Int32 → Int32 → Int64 → Int32 → xMem → xLon → Option Int32) (x4 : Int32) (x5 : Int32) (x6 : Int32) (x7 : Int64) (x9 : Int32) (x10 : Int32) (x11 : Int32) (x12 : Int32) (x13 : Int32) (x14 : Int32) (x15 : Int32) (x29 : Int32) (x30 : Int32) (I : xMem) (L : xLon) : Option Int32 := (X4_pounds P I x29 (3 : Int32)).bind fun q1 => (X4_kinds P q1.2 x29 (3 : Int32)).bind fun q2 => (X4_next P q2.2 x29 (3 : Int32)).bind fun q3 => if q1.1 < (1 : Int32) then (some (0 : Int32)) else (if (99 : Int32) < q1.1 then (some (0 : Int32)) else (if (X4_asked q1.2) < (1 : Int32) then (some (0 : Int32)) else ((L_told P q3.2 x29 (1 : Int32)).bind fun q7 => if q7.1 < (X4_asked q1.2) then (some (0 : Int32)) else ((L_told P q7.2 x29 (0 : Int32)).bind fun q9 => if ((q2.1 >>> (q9.1 &&& 31)) &&& (1 : Int32)) = (1 : Int32) then (XC_1921 tI P Dr B67 x4 x5 x6 x7 x9 x10 x11 x12 x13 x14 x15 x29 x30 q2.1 q3.1 (X4_asked q3.2) q9.2 L) else (some (0 : Int32))))))
set_option maxHeartbeats 4000000 in
set_option maxRecDepth 100000 in
theorem kc_1835 (C0 : LC p l e s m args below meth c Q D cy ad tI) {P Dr : Nat} (hX : cOk ad P Dr) {B67 : Int32 → Int32 → Int32 → Int64 → Int32 → xMem → xLon → Option Int32} (hB67 : ∀ (y4 : Int32) (y5 : Int32) (y6 : Int32) (y7 : Int64) (y9 : Int32) (I : xMem) (L : xLon) (H : Heap) (locs : List Loc) (ls : Array Slot), B67 y4 y5 y6 y7 y9 I L = some 1 → cG D cy ad P Dr I L H → va_S (fun q : Nat => s.heap.size ≤ q) s.heap H locs → lv_has ls 43 [(0, .ref tI.2.1), (1, .ref (ad 0)), (2, .ref (ad 62)), (3, .ref (ad 63)), (4, .int y4), (5, .int y5), (6, .int y6), (7, .long y7), (9, .int y9)] → W p l e room_1 s m args below meth c H locs 600000 7302250 Q (F0 m 67 ls [])) (x4 : Int32) (x5 : Int32) (x6 : Int32) (x7 : Int64) (x9 : Int32) (x10 : Int32) (x11 : Int32) (x12 : Int32) (x13 : Int32) (x14 : Int32) (x15 : Int32) (x29 : Int32) (x30 : Int32) (I : xMem) (L : xLon) (H : Heap) (locs : List Loc) (ls : Array Slot) (h : XC_1835 tI P Dr B67 x4 x5 x6 x7 x9 x10 x11 x12 x13 x14 x15 x29 x30 I L = some 1) : cG D cy ad P Dr I L H → va_S (fun q : Nat => s.heap.size ≤ q) s.heap H locs → lv_has ls 43 [(0, .ref tI.2.1), (1, .ref (ad 0)), (2, .ref (ad 62)), (3, .ref (ad 63)), (4, .int x4), (5, .int x5), (6, .int x6), (7, .long x7), (9, .int x9), (10, .int x10), (11, .int x11), (12, .int x12), (13, .int x13), (14, .int x14), (15, .int x15), (29, .int x29), (30, .int x30)] → W p l e room_1 s m args below meth c H locs 600000 7302250 Q (F0 m 1835 ls []) := by
  obtain ⟨⟨hx, hb, hml, hown, hts⟩, ⟨hK, hZ⟩, hi, hA, kr⟩ := id C0
  intro hG hS hl
  unfold XC_1835 at h
  refine lv_aload_n hx hb dL_law_1835 rfl (lv_at hl 1 rfl) ?_
  refine lv_iload hx hb dL_law_1836 (lv_at hl 15 rfl) ?_
  refine lv_iconst (v := (3 : Int32)) hx hb dL_law_1838 (by decide) ?_
  obtain ⟨q1, eq1, h⟩ := obind h
  refine lw_ci (va_runV (As := [.int x29, .int (3 : Int32)]) (rest := []) ⟨hx, hb, hml, hown, hts⟩ (k_X4_pounds l D cy ad P Dr tI hX I L x29 (3 : Int32) q1 eq1) (cwV 2 hts (goodIn_up gL_law_X4_pounds) rfl rfl rfl cd_X4_pounds ⟨Nat.le_of_ble_eq_true rfl, Nat.le_of_ble_eq_true rfl⟩) ⟨g_blind cZm, g_recv hK hG (k := 0) (by decide) (cE_4 _ _) vwCl_4, g_pre cZm hK hG hZ (law_S0 hS)⟩ rfl rfl hl.1 rfl (lv_room (Nat.le_of_ble_eq_true rfl)) dL_law_1839 ⟨Nat.le_of_ble_eq_true rfl, Nat.le_of_ble_eq_true rfl⟩) hS hA (fun H locs hG hS => ?_)
  refine lv_istore (lv' := [(31, .int q1.1), (0, .ref tI.2.1), (1, .ref (ad 0)), (2, .ref (ad 62)), (3, .ref (ad 63)), (4, .int x4), (5, .int x5), (6, .int x6), (7, .long x7), (9, .int x9), (10, .int x10), (11, .int x11), (12, .int x12), (13, .int x13), (14, .int x14), (15, .int x15), (29, .int x29), (30, .int x30)]) hx hb dL_law_1842 hl (by decide) rfl (fun ls hl => ?_)
  refine lv_aload_n hx hb dL_law_1844 rfl (lv_at hl 2 rfl) ?_
  refine lw_ci (va_runV (As := []) (rest := []) ⟨hx, hb, hml, hown, hts⟩ (k_X4_asked l D cy ad P Dr tI hX q1.2 L _ rfl) (cwV 0 hts (goodIn_up gL_law_X4_asked) rfl rfl rfl cd_X4_asked ⟨Nat.le_of_ble_eq_true rfl, Nat.le_of_ble_eq_true rfl⟩) ⟨g_blind cZm, g_recv hK hG (k := 0) (by decide) (cE_4 _ _) vwCl_4, g_pre cZm hK hG hZ (law_S0 hS)⟩ rfl rfl hl.1 rfl (lv_room (Nat.le_of_ble_eq_true rfl)) dL_law_1845 ⟨Nat.le_of_ble_eq_true rfl, Nat.le_of_ble_eq_true rfl⟩) hS hA (fun H locs hG hS => ?_)
  refine lv_istore (lv' := [(32, .int (X4_asked q1.2)), (31, .int q1.1), (0, .ref tI.2.1), (1, .ref (ad 0)), (2, .ref (ad 62)), (3, .ref (ad 63)), (4, .int x4), (5, .int x5), (6, .int x6), (7, .long x7), (9, .int x9), (10, .int x10), (11, .int x11), (12, .int x12), (13, .int x13), (14, .int x14), (15, .int x15), (29, .int x29), (30, .int x30)]) hx hb dL_law_1848 hl (by decide) rfl (fun ls hl => ?_)
  refine lv_aload_n hx hb dL_law_1850 rfl (lv_at hl 3 rfl) ?_
  refine lv_iload hx hb dL_law_1851 (lv_at hl 17 rfl) ?_
  refine lv_iconst (v := (3 : Int32)) hx hb dL_law_1853 (by decide) ?_
  obtain ⟨q2, eq2, h⟩ := obind h
  refine lw_ci (va_runV (As := [.int x29, .int (3 : Int32)]) (rest := []) ⟨hx, hb, hml, hown, hts⟩ (k_X4_kinds l D cy ad P Dr tI hX q1.2 L x29 (3 : Int32) q2 eq2) (cwV 2 hts (goodIn_up gL_law_X4_kinds) rfl rfl rfl cd_X4_kinds ⟨Nat.le_of_ble_eq_true rfl, Nat.le_of_ble_eq_true rfl⟩) ⟨g_blind cZm, g_recv hK hG (k := 0) (by decide) (cE_4 _ _) vwCl_4, g_pre cZm hK hG hZ (law_S0 hS)⟩ rfl rfl hl.1 rfl (lv_room (Nat.le_of_ble_eq_true rfl)) dL_law_1854 ⟨Nat.le_of_ble_eq_true rfl, Nat.le_of_ble_eq_true rfl⟩) hS hA (fun H locs hG hS => ?_)
  refine lv_istore (lv' := [(33, .int q2.1), (32, .int (X4_asked q1.2)), (31, .int q1.1), (0, .ref tI.2.1), (1, .ref (ad 0)), (2, .ref (ad 62)), (3, .ref (ad 63)), (4, .int x4), (5, .int x5), (6, .int x6), (7, .long x7), (9, .int x9), (10, .int x10), (11, .int x11), (12, .int x12), (13, .int x13), (14, .int x14), (15, .int x15), (29, .int x29), (30, .int x30)]) hx hb dL_law_1857 hl (by decide) rfl (fun ls hl => ?_)
  refine lv_aload_n hx hb dL_law_1859 rfl (lv_at hl 4 rfl) ?_
  refine lv_iload hx hb dL_law_1860 (lv_at hl 18 rfl) ?_
  refine lv_iconst (v := (3 : Int32)) hx hb dL_law_1862 (by decide) ?_
  obtain ⟨q3, eq3, h⟩ := obind h
  refine lw_ci (va_runV (As := [.int x29, .int (3 : Int32)]) (rest := []) ⟨hx, hb, hml, hown, hts⟩ (k_X4_next l D cy ad P Dr tI hX q2.2 L x29 (3 : Int32) q3 eq3) (cwV 2 hts (goodIn_up gL_law_X4_next) rfl rfl rfl cd_X4_next ⟨Nat.le_of_ble_eq_true rfl, Nat.le_of_ble_eq_true rfl⟩) ⟨g_blind cZm, g_recv hK hG (k := 0) (by decide) (cE_4 _ _) vwCl_4, g_pre cZm hK hG hZ (law_S0 hS)⟩ rfl rfl hl.1 rfl (lv_room (Nat.le_of_ble_eq_true rfl)) dL_law_1863 ⟨Nat.le_of_ble_eq_true rfl, Nat.le_of_ble_eq_true rfl⟩) hS hA (fun H locs hG hS => ?_)
  refine lv_istore (lv' := [(34, .int q3.1), (33, .int q2.1), (32, .int (X4_asked q1.2)), (31, .int q1.1), (0, .ref tI.2.1), (1, .ref (ad 0)), (2, .ref (ad 62)), (3, .ref (ad 63)), (4, .int x4), (5, .int x5), (6, .int x6), (7, .long x7), (9, .int x9), (10, .int x10), (11, .int x11), (12, .int x12), (13, .int x13), (14, .int x14), (15, .int x15), (29, .int x29), (30, .int x30)]) hx hb dL_law_1866 hl (by decide) rfl (fun ls hl => ?_)
  refine lv_aload_n hx hb dL_law_1868 rfl (lv_at hl 5 rfl) ?_
  refine lw_ci (va_runV (As := []) (rest := []) ⟨hx, hb, hml, hown, hts⟩ (k_X4_asked l D cy ad P Dr tI hX q3.2 L _ rfl) (cwV 0 hts (goodIn_up gL_law_X4_asked) rfl rfl rfl cd_X4_asked ⟨Nat.le_of_ble_eq_true rfl, Nat.le_of_ble_eq_true rfl⟩) ⟨g_blind cZm, g_recv hK hG (k := 0) (by decide) (cE_4 _ _) vwCl_4, g_pre cZm hK hG hZ (law_S0 hS)⟩ rfl rfl hl.1 rfl (lv_room (Nat.le_of_ble_eq_true rfl)) dL_law_1869 ⟨Nat.le_of_ble_eq_true rfl, Nat.le_of_ble_eq_true rfl⟩) hS hA (fun H locs hG hS => ?_)
  refine lv_istore (lv' := [(35, .int (X4_asked q3.2)), (34, .int q3.1), (33, .int q2.1), (32, .int (X4_asked q1.2)), (31, .int q1.1), (0, .ref tI.2.1), (1, .ref (ad 0)), (2, .ref (ad 62)), (3, .ref (ad 63)), (4, .int x4), (5, .int x5), (6, .int x6), (7, .long x7), (9, .int x9), (10, .int x10), (11, .int x11), (12, .int x12), (13, .int x13), (14, .int x14), (15, .int x15), (29, .int x29), (30, .int x30)]) hx hb dL_law_1872 hl (by decide) rfl (fun ls hl => ?_)
  refine lv_iload hx hb dL_law_1874 (lv_at hl 4 rfl) ?_
  refine lv_iconst (v := (1 : Int32)) hx hb dL_law_1876 (by decide) ?_
  refine lv_icmp_lt (tgt := 1963) hx hb dL_law_1877 (by decide) (fun c4 => ?_) (fun c4 => ?_)
  · have h := ite_t h c4
    refine lv_iconst (v := (0 : Int32)) hx hb dL_law_1963 (by decide) ?_
    have h := Option.some.inj h
    exact absurd h (by decide)
  · have h := ite_f h c4
    refine lv_iload hx hb dL_law_1880 (lv_at hl 4 rfl) ?_
    refine lv_bipush (v := (99 : Int32)) hx hb dL_law_1882 (by decide) ?_
    refine lv_icmp_gt (tgt := 1963) hx hb dL_law_1884 (by decide) (fun c5 => ?_) (fun c5 => ?_)
    · have h := ite_t h c5
      refine lv_iconst (v := (0 : Int32)) hx hb dL_law_1963 (by decide) ?_
      have h := Option.some.inj h
      exact absurd h (by decide)
    · have h := ite_f h c5
      refine lv_iload hx hb dL_law_1887 (lv_at hl 3 rfl) ?_
      refine lv_iconst (v := (1 : Int32)) hx hb dL_law_1889 (by decide) ?_
      refine lv_icmp_lt (tgt := 1963) hx hb dL_law_1890 (by decide) (fun c6 => ?_) (fun c6 => ?_)
      · have h := ite_t h c6
        refine lv_iconst (v := (0 : Int32)) hx hb dL_law_1963 (by decide) ?_
        have h := Option.some.inj h
        exact absurd h (by decide)
      · have h := ite_f h c6
        refine lv_iload hx hb dL_law_1893 (lv_at hl 3 rfl) ?_
        refine lv_aload_n hx hb dL_law_1895 rfl (lv_at hl 6 rfl) ?_
        refine lv_iload hx hb dL_law_1896 (lv_at hl 20 rfl) ?_
        refine lv_iconst (v := (1 : Int32)) hx hb dL_law_1898 (by decide) ?_
        obtain ⟨q7, eq7, h⟩ := obind h
        refine lw_ci (va_runS (As := [.ref (ad 0), .int x29, .int (1 : Int32)]) (rest := [.int (X4_asked q1.2)]) ⟨hx, hb, hml, hown, hts⟩ (k_L_told l D cy ad P Dr tI hX q3.2 L x29 (1 : Int32) q7 eq7) (va_cwS 3 hts (goodIn_up gL_law_L_told) rfl rfl rfl cd_L_told.2 ⟨Nat.le_of_ble_eq_true rfl, Nat.le_of_ble_eq_true rfl⟩) ⟨g_blind cZm, g_pre cZm hK hG hZ (law_S0 hS)⟩ rfl rfl hl.1 rfl (lv_room (Nat.le_of_ble_eq_true rfl)) dL_law_1899 ⟨Nat.le_of_ble_eq_true rfl, Nat.le_of_ble_eq_true rfl⟩) hS hA (fun H locs hG hS => ?_)
        refine lv_icmp_gt (tgt := 1963) hx hb dL_law_1902 (by decide) (fun c8 => ?_) (fun c8 => ?_)
        · have h := ite_t h c8
          refine lv_iconst (v := (0 : Int32)) hx hb dL_law_1963 (by decide) ?_
          have h := Option.some.inj h
          exact absurd h (by decide)
        · have h := ite_f h c8
          refine lv_iload hx hb dL_law_1905 (lv_at hl 2 rfl) ?_
          refine lv_aload_n hx hb dL_law_1907 rfl (lv_at hl 6 rfl) ?_
          refine lv_iload hx hb dL_law_1908 (lv_at hl 20 rfl) ?_
          refine lv_iconst (v := (0 : Int32)) hx hb dL_law_1910 (by decide) ?_
          obtain ⟨q9, eq9, h⟩ := obind h
          refine lw_ci (va_runS (As := [.ref (ad 0), .int x29, .int (0 : Int32)]) (rest := [.int q2.1]) ⟨hx, hb, hml, hown, hts⟩ (k_L_told l D cy ad P Dr tI hX q7.2 L x29 (0 : Int32) q9 eq9) (va_cwS 3 hts (goodIn_up gL_law_L_told) rfl rfl rfl cd_L_told.2 ⟨Nat.le_of_ble_eq_true rfl, Nat.le_of_ble_eq_true rfl⟩) ⟨g_blind cZm, g_pre cZm hK hG hZ (law_S0 hS)⟩ rfl rfl hl.1 rfl (lv_room (Nat.le_of_ble_eq_true rfl)) dL_law_1911 ⟨Nat.le_of_ble_eq_true rfl, Nat.le_of_ble_eq_true rfl⟩) hS hA (fun H locs hG hS => ?_)
          refine lv_ishr hx hb dL_law_1914 ?_
          refine lv_iconst (v := (1 : Int32)) hx hb dL_law_1915 (by decide) ?_
          refine lv_iand hx hb dL_law_1916 ?_
          refine lv_iconst (v := (1 : Int32)) hx hb dL_law_1917 (by decide) ?_
          refine lv_icmp_ne (tgt := 1963) hx hb dL_law_1918 (by decide) (fun c10 => ?_) (fun c10 => ?_)
          · have h := ite_f h c10
            refine lv_iconst (v := (0 : Int32)) hx hb dL_law_1963 (by decide) ?_
            have h := Option.some.inj h
            exact absurd h (by decide)
          · have h := ite_t h c10
            exact kc_1921 C0 hX hB67 _ _ _ _ _ _ _ _ _ _ _ _ _ _ _ _ _ _ _ _ _ h hG hS (lv_sub hl [5, 6, 7, 8, 9, 10, 11, 12, 13, 14, 15, 16, 17, 18, 19, 20, 21, 2, 1, 0] rfl)
def XC_1757 (tI : xTab) (P Dr : Nat) (B67 : Int32 → Int32 → Int32 → Int64 → Int32 → xMem → xLon → Option Int32) (x4 : Int32) (x5 : Int32) (x6 : Int32) (x7 : Int64) (x9 : Int32) (x10 : Int32) (x11 : Int32) (x12 : Int32) (x13 : Int32) (x14 : Int32) (x15 : Int32) (I : xMem) (L : xLon) : Option Int32 := (L_low (x10 >>> ((11 : Int32) &&& 31)) x4).bind fun v1 => (L_low (x10 >>> ((14 : Int32) &&& 31)) (x4 - (1 : Int32))).bind fun v2 => (rmI ((v1 + (1 : Int32)) + v2) x4).bind fun v3 => (X4_row I (3 : Int32) (2 : Int32)).bind fun q4 => if q4.1 = (2 : Int32) then ((X4_lay q4.2 (3 : Int32) (0 : Int32) v3).bind fun q6 => if q6.1 = (1 : Int32) then ((X4_sink P q6.2 v1 v3 (0 : Int32) (0 : Int32)).bind fun v8 => (X4_lay q6.2 (3 : Int32) (1 : Int32) v8).bind fun q9 => if q9.1 = (1 : Int32) then (XC_1835 tI P Dr B67 x4 x5 x6 x7 x9 x10 x11 x12 x13 x14 x15 v1 v3 q9.2 L) else (some (0 : Int32))) else (some (0 : Int32))) else (some (0 : Int32))
set_option maxHeartbeats 4000000 in
set_option maxRecDepth 100000 in
theorem kc_1757 (C0 : LC p l e s m args below meth c Q D cy ad tI) {P Dr : Nat} (hX : cOk ad P Dr) {B67 : Int32 → Int32 → Int32 → Int64 → Int32 → xMem → xLon → Option Int32} (hB67 : ∀ (y4 : Int32) (y5 : Int32) (y6 : Int32) (y7 : Int64) (y9 : Int32) (I : xMem) (L : xLon) (H : Heap) (locs : List Loc) (ls : Array Slot), B67 y4 y5 y6 y7 y9 I L = some 1 → cG D cy ad P Dr I L H → va_S (fun q : Nat => s.heap.size ≤ q) s.heap H locs → lv_has ls 43 [(0, .ref tI.2.1), (1, .ref (ad 0)), (2, .ref (ad 62)), (3, .ref (ad 63)), (4, .int y4), (5, .int y5), (6, .int y6), (7, .long y7), (9, .int y9)] → W p l e room_1 s m args below meth c H locs 600000 7302250 Q (F0 m 67 ls [])) (x4 : Int32) (x5 : Int32) (x6 : Int32) (x7 : Int64) (x9 : Int32) (x10 : Int32) (x11 : Int32) (x12 : Int32) (x13 : Int32) (x14 : Int32) (x15 : Int32) (I : xMem) (L : xLon) (H : Heap) (locs : List Loc) (ls : Array Slot) (h : XC_1757 tI P Dr B67 x4 x5 x6 x7 x9 x10 x11 x12 x13 x14 x15 I L = some 1) : cG D cy ad P Dr I L H → va_S (fun q : Nat => s.heap.size ≤ q) s.heap H locs → lv_has ls 43 [(0, .ref tI.2.1), (1, .ref (ad 0)), (2, .ref (ad 62)), (3, .ref (ad 63)), (4, .int x4), (5, .int x5), (6, .int x6), (7, .long x7), (9, .int x9), (10, .int x10), (11, .int x11), (12, .int x12), (13, .int x13), (14, .int x14), (15, .int x15)] → W p l e room_1 s m args below meth c H locs 600000 7302250 Q (F0 m 1757 ls []) := by
  obtain ⟨⟨hx, hb, hml, hown, hts⟩, ⟨hK, hZ⟩, hi, hA, kr⟩ := id C0
  intro hG hS hl
  unfold XC_1757 at h
  refine lv_iload hx hb dL_law_1757 (lv_at hl 9 rfl) ?_
  refine lv_bipush (v := (11 : Int32)) hx hb dL_law_1759 (by decide) ?_
  refine lv_ishr hx hb dL_law_1761 ?_
  refine lv_iload hx hb dL_law_1762 (lv_at hl 4 rfl) ?_
  obtain ⟨v1, ev1, h⟩ := obind h
  refine lw_ci (va_runS (As := [.int (x10 >>> ((11 : Int32) &&& 31)), .int x4]) (rest := []) ⟨hx, hb, hml, hown, hts⟩ (k_L_low l D cy ad P Dr tI hX I L (x10 >>> ((11 : Int32) &&& 31)) x4 v1 ev1) (va_cwS 2 hts (goodIn_up gL_law_L_low) rfl rfl rfl cd_L_low.2 ⟨Nat.le_of_ble_eq_true rfl, Nat.le_of_ble_eq_true rfl⟩) ⟨g_blind cZm, g_pre cZm hK hG hZ (law_S0 hS)⟩ rfl rfl hl.1 rfl (lv_room (Nat.le_of_ble_eq_true rfl)) dL_law_1764 ⟨Nat.le_of_ble_eq_true rfl, Nat.le_of_ble_eq_true rfl⟩) hS hA (fun H locs hG hS => ?_)
  refine lv_istore (lv' := [(29, .int v1), (0, .ref tI.2.1), (1, .ref (ad 0)), (2, .ref (ad 62)), (3, .ref (ad 63)), (4, .int x4), (5, .int x5), (6, .int x6), (7, .long x7), (9, .int x9), (10, .int x10), (11, .int x11), (12, .int x12), (13, .int x13), (14, .int x14), (15, .int x15)]) hx hb dL_law_1767 hl (by decide) rfl (fun ls hl => ?_)
  refine lv_iload hx hb dL_law_1769 (lv_at hl 0 rfl) ?_
  refine lv_iconst (v := (1 : Int32)) hx hb dL_law_1771 (by decide) ?_
  refine lv_iadd hx hb dL_law_1772 ?_
  refine lv_iload hx hb dL_law_1773 (lv_at hl 10 rfl) ?_
  refine lv_bipush (v := (14 : Int32)) hx hb dL_law_1775 (by decide) ?_
  refine lv_ishr hx hb dL_law_1777 ?_
  refine lv_iload hx hb dL_law_1778 (lv_at hl 5 rfl) ?_
  refine lv_iconst (v := (1 : Int32)) hx hb dL_law_1780 (by decide) ?_
  refine lv_isub hx hb dL_law_1781 ?_
  obtain ⟨v2, ev2, h⟩ := obind h
  refine lw_ci (va_runS (As := [.int (x10 >>> ((14 : Int32) &&& 31)), .int (x4 - (1 : Int32))]) (rest := [.int (v1 + (1 : Int32))]) ⟨hx, hb, hml, hown, hts⟩ (k_L_low l D cy ad P Dr tI hX I L (x10 >>> ((14 : Int32) &&& 31)) (x4 - (1 : Int32)) v2 ev2) (va_cwS 2 hts (goodIn_up gL_law_L_low) rfl rfl rfl cd_L_low.2 ⟨Nat.le_of_ble_eq_true rfl, Nat.le_of_ble_eq_true rfl⟩) ⟨g_blind cZm, g_pre cZm hK hG hZ (law_S0 hS)⟩ rfl rfl hl.1 rfl (lv_room (Nat.le_of_ble_eq_true rfl)) dL_law_1782 ⟨Nat.le_of_ble_eq_true rfl, Nat.le_of_ble_eq_true rfl⟩) hS hA (fun H locs hG hS => ?_)
  refine lv_iadd hx hb dL_law_1785 ?_
  refine lv_iload hx hb dL_law_1786 (lv_at hl 5 rfl) ?_
  refine g_irem hx hb h dL_law_1788 (fun v3 h => ?_)
  refine lv_istore (lv' := [(30, .int v3), (29, .int v1), (0, .ref tI.2.1), (1, .ref (ad 0)), (2, .ref (ad 62)), (3, .ref (ad 63)), (4, .int x4), (5, .int x5), (6, .int x6), (7, .long x7), (9, .int x9), (10, .int x10), (11, .int x11), (12, .int x12), (13, .int x13), (14, .int x14), (15, .int x15)]) hx hb dL_law_1789 hl (by decide) rfl (fun ls hl => ?_)
  refine lv_aload_n hx hb dL_law_1791 rfl (lv_at hl 3 rfl) ?_
  refine lv_iconst (v := (3 : Int32)) hx hb dL_law_1792 (by decide) ?_
  refine lv_iconst (v := (2 : Int32)) hx hb dL_law_1793 (by decide) ?_
  obtain ⟨q4, eq4, h⟩ := obind h
  refine lw_ci (va_runV (As := [.int (3 : Int32), .int (2 : Int32)]) (rest := []) ⟨hx, hb, hml, hown, hts⟩ (k_X4_row l D cy ad P Dr tI hX I L (3 : Int32) (2 : Int32) q4 eq4) (cwV 2 hts (goodIn_up gL_law_X4_row) rfl rfl rfl cd_X4_row ⟨Nat.le_of_ble_eq_true rfl, Nat.le_of_ble_eq_true rfl⟩) ⟨g_blind cZm, g_recv hK hG (k := 0) (by decide) (cE_4 _ _) vwCl_4, g_pre cZm hK hG hZ (law_S0 hS)⟩ rfl rfl hl.1 rfl (lv_room (Nat.le_of_ble_eq_true rfl)) dL_law_1794 ⟨Nat.le_of_ble_eq_true rfl, Nat.le_of_ble_eq_true rfl⟩) hS hA (fun H locs hG hS => ?_)
  refine lv_iconst (v := (2 : Int32)) hx hb dL_law_1797 (by decide) ?_
  refine lv_icmp_ne (tgt := 1833) hx hb dL_law_1798 (by decide) (fun c5 => ?_) (fun c5 => ?_)
  · have h := ite_f h c5
    refine lv_iconst (v := (0 : Int32)) hx hb dL_law_1833 (by decide) ?_
    have h := Option.some.inj h
    exact absurd h (by decide)
  · have h := ite_t h c5
    refine lv_aload_n hx hb dL_law_1801 rfl (lv_at hl 3 rfl) ?_
    refine lv_iconst (v := (3 : Int32)) hx hb dL_law_1802 (by decide) ?_
    refine lv_iconst (v := (0 : Int32)) hx hb dL_law_1803 (by decide) ?_
    refine lv_iload hx hb dL_law_1804 (lv_at hl 0 rfl) ?_
    obtain ⟨q6, eq6, h⟩ := obind h
    refine lw_ci (va_runV (As := [.int (3 : Int32), .int (0 : Int32), .int v3]) (rest := []) ⟨hx, hb, hml, hown, hts⟩ (k_X4_lay l D cy ad P Dr tI hX q4.2 L (3 : Int32) (0 : Int32) v3 q6 eq6) (cwV 3 hts (goodIn_up gL_law_X4_lay) rfl rfl rfl cd_X4_lay ⟨Nat.le_of_ble_eq_true rfl, Nat.le_of_ble_eq_true rfl⟩) ⟨g_blind cZm, g_recv hK hG (k := 0) (by decide) (cE_4 _ _) vwCl_4, g_pre cZm hK hG hZ (law_S0 hS)⟩ rfl rfl hl.1 rfl (lv_room (Nat.le_of_ble_eq_true rfl)) dL_law_1806 ⟨Nat.le_of_ble_eq_true rfl, Nat.le_of_ble_eq_true rfl⟩) hS hA (fun H locs hG hS => ?_)
    refine lv_iconst (v := (1 : Int32)) hx hb dL_law_1809 (by decide) ?_
    refine lv_icmp_ne (tgt := 1833) hx hb dL_law_1810 (by decide) (fun c7 => ?_) (fun c7 => ?_)
    · have h := ite_f h c7
      refine lv_iconst (v := (0 : Int32)) hx hb dL_law_1833 (by decide) ?_
      have h := Option.some.inj h
      exact absurd h (by decide)
    · have h := ite_t h c7
      refine lv_aload_n hx hb dL_law_1813 rfl (lv_at hl 3 rfl) ?_
      refine lv_iconst (v := (3 : Int32)) hx hb dL_law_1814 (by decide) ?_
      refine lv_iconst (v := (1 : Int32)) hx hb dL_law_1815 (by decide) ?_
      refine lv_aload_n hx hb dL_law_1816 rfl (lv_at hl 3 rfl) ?_
      refine lv_iload hx hb dL_law_1817 (lv_at hl 1 rfl) ?_
      refine lv_iload hx hb dL_law_1819 (lv_at hl 0 rfl) ?_
      refine lv_iconst (v := (0 : Int32)) hx hb dL_law_1821 (by decide) ?_
      refine lv_iconst (v := (0 : Int32)) hx hb dL_law_1822 (by decide) ?_
      obtain ⟨v8, ev8, h⟩ := obind h
      refine lw_ci (va_runV (As := [.int v1, .int v3, .int (0 : Int32), .int (0 : Int32)]) (rest := [.int (1 : Int32), .int (3 : Int32), .ref (ad 0)]) ⟨hx, hb, hml, hown, hts⟩ (k_X4_sink l D cy ad P Dr tI hX q6.2 L v1 v3 (0 : Int32) (0 : Int32) v8 ev8) (cwV 4 hts (goodIn_up gL_law_X4_sink) rfl rfl rfl cd_X4_sink ⟨Nat.le_of_ble_eq_true rfl, Nat.le_of_ble_eq_true rfl⟩) ⟨g_blind cZm, g_recv hK hG (k := 0) (by decide) (cE_4 _ _) vwCl_4, g_pre cZm hK hG hZ (law_S0 hS)⟩ rfl rfl hl.1 rfl (lv_room (Nat.le_of_ble_eq_true rfl)) dL_law_1823 ⟨Nat.le_of_ble_eq_true rfl, Nat.le_of_ble_eq_true rfl⟩) hS hA (fun H locs hG hS => ?_)
      obtain ⟨q9, eq9, h⟩ := obind h
      refine lw_ci (va_runV (As := [.int (3 : Int32), .int (1 : Int32), .int v8]) (rest := []) ⟨hx, hb, hml, hown, hts⟩ (k_X4_lay l D cy ad P Dr tI hX q6.2 L (3 : Int32) (1 : Int32) v8 q9 eq9) (cwV 3 hts (goodIn_up gL_law_X4_lay) rfl rfl rfl cd_X4_lay ⟨Nat.le_of_ble_eq_true rfl, Nat.le_of_ble_eq_true rfl⟩) ⟨g_blind cZm, g_recv hK hG (k := 0) (by decide) (cE_4 _ _) vwCl_4, g_pre cZm hK hG hZ (law_S0 hS)⟩ rfl rfl hl.1 rfl (lv_room (Nat.le_of_ble_eq_true rfl)) dL_law_1826 ⟨Nat.le_of_ble_eq_true rfl, Nat.le_of_ble_eq_true rfl⟩) hS hA (fun H locs hG hS => ?_)
      refine lv_iconst (v := (1 : Int32)) hx hb dL_law_1829 (by decide) ?_
      refine lv_icmp_eq (tgt := 1835) hx hb dL_law_1830 (by decide) (fun c10 => ?_) (fun c10 => ?_)
      · have h := ite_t h c10
        exact kc_1835 C0 hX hB67 _ _ _ _ _ _ _ _ _ _ _ _ _ _ _ _ _ _ h hG hS (lv_sub hl [2, 3, 4, 5, 6, 7, 8, 9, 10, 11, 12, 13, 14, 15, 16, 1, 0] rfl)
      · have h := ite_f h c10
        refine lv_iconst (v := (0 : Int32)) hx hb dL_law_1833 (by decide) ?_
        have h := Option.some.inj h
        exact absurd h (by decide)
def XC_1751 (tI : xTab) (P Dr : Nat) (B67 : Int32 → Int32 → Int32 → Int64 → Int32 → xMem → xLon → Option Int32) (B1721 : Int32 → Int32 → Int32 → Int64 → Int32 → Int32 → Int32 → Int32 → Int32 → Int32 → Int32 → Int32 → Int32 → xMem → xLon → Option Int32) (x4 : Int32) (x5 : Int32) (x6 : Int32) (x7 : Int64) (x9 : Int32) (x10 : Int32) (x11 : Int32) (x12 : Int32) (x13 : Int32) (x14 : Int32) (x15 : Int32) (x28 : Int32) (x29 : Int32) (I : xMem) (L : xLon) : Option Int32 := B1721 x4 x5 x6 x7 x9 x10 x11 x12 x13 x14 x15 x28 (x29 + (1 : Int32)) I L
set_option maxHeartbeats 4000000 in
set_option maxRecDepth 100000 in
theorem kc_1751 (C0 : LC p l e s m args below meth c Q D cy ad tI) {P Dr : Nat} (hX : cOk ad P Dr) {B67 : Int32 → Int32 → Int32 → Int64 → Int32 → xMem → xLon → Option Int32} {B1721 : Int32 → Int32 → Int32 → Int64 → Int32 → Int32 → Int32 → Int32 → Int32 → Int32 → Int32 → Int32 → Int32 → xMem → xLon → Option Int32} (hB67 : ∀ (y4 : Int32) (y5 : Int32) (y6 : Int32) (y7 : Int64) (y9 : Int32) (I : xMem) (L : xLon) (H : Heap) (locs : List Loc) (ls : Array Slot), B67 y4 y5 y6 y7 y9 I L = some 1 → cG D cy ad P Dr I L H → va_S (fun q : Nat => s.heap.size ≤ q) s.heap H locs → lv_has ls 43 [(0, .ref tI.2.1), (1, .ref (ad 0)), (2, .ref (ad 62)), (3, .ref (ad 63)), (4, .int y4), (5, .int y5), (6, .int y6), (7, .long y7), (9, .int y9)] → W p l e room_1 s m args below meth c H locs 600000 7302250 Q (F0 m 67 ls [])) (hB1721 : ∀ (y4 : Int32) (y5 : Int32) (y6 : Int32) (y7 : Int64) (y9 : Int32) (y10 : Int32) (y11 : Int32) (y12 : Int32) (y13 : Int32) (y14 : Int32) (y15 : Int32) (y28 : Int32) (y29 : Int32) (I : xMem) (L : xLon) (H : Heap) (locs : List Loc) (ls : Array Slot), B1721 y4 y5 y6 y7 y9 y10 y11 y12 y13 y14 y15 y28 y29 I L = some 1 → cG D cy ad P Dr I L H → va_S (fun q : Nat => s.heap.size ≤ q) s.heap H locs → lv_has ls 43 [(0, .ref tI.2.1), (1, .ref (ad 0)), (2, .ref (ad 62)), (3, .ref (ad 63)), (4, .int y4), (5, .int y5), (6, .int y6), (7, .long y7), (9, .int y9), (10, .int y10), (11, .int y11), (12, .int y12), (13, .int y13), (14, .int y14), (15, .int y15), (28, .int y28), (29, .int y29)] → W p l e room_1 s m args below meth c H locs 600000 7302250 Q (F0 m 1721 ls [])) (x4 : Int32) (x5 : Int32) (x6 : Int32) (x7 : Int64) (x9 : Int32) (x10 : Int32) (x11 : Int32) (x12 : Int32) (x13 : Int32) (x14 : Int32) (x15 : Int32) (x28 : Int32) (x29 : Int32) (I : xMem) (L : xLon) (H : Heap) (locs : List Loc) (ls : Array Slot) (h : XC_1751 tI P Dr B67 B1721 x4 x5 x6 x7 x9 x10 x11 x12 x13 x14 x15 x28 x29 I L = some 1) : cG D cy ad P Dr I L H → va_S (fun q : Nat => s.heap.size ≤ q) s.heap H locs → lv_has ls 43 [(0, .ref tI.2.1), (1, .ref (ad 0)), (2, .ref (ad 62)), (3, .ref (ad 63)), (4, .int x4), (5, .int x5), (6, .int x6), (7, .long x7), (9, .int x9), (10, .int x10), (11, .int x11), (12, .int x12), (13, .int x13), (14, .int x14), (15, .int x15), (28, .int x28), (29, .int x29)] → W p l e room_1 s m args below meth c H locs 600000 7302250 Q (F0 m 1751 ls []) := by
  obtain ⟨⟨hx, hb, hml, hown, hts⟩, ⟨hK, hZ⟩, hi, hA, kr⟩ := id C0
  intro hG hS hl
  unfold XC_1751 at h
  refine lv_iinc (v := (x29 + (1 : Int32))) (lv' := [(29, .int (x29 + (1 : Int32))), (0, .ref tI.2.1), (1, .ref (ad 0)), (2, .ref (ad 62)), (3, .ref (ad 63)), (4, .int x4), (5, .int x5), (6, .int x6), (7, .long x7), (9, .int x9), (10, .int x10), (11, .int x11), (12, .int x12), (13, .int x13), (14, .int x14), (15, .int x15), (28, .int x28)]) hx hb dL_law_1751 hl (k := 16) rfl rfl (by decide) rfl (fun ls hl => ?_)
  refine lv_goto (tgt := 1721) hx hb dL_law_1754 (by decide) ?_
  exact hB1721 _ _ _ _ _ _ _ _ _ _ _ _ _ _ _ _ _ _ h hG hS (lv_sub hl [1, 2, 3, 4, 5, 6, 7, 8, 9, 10, 11, 12, 13, 14, 15, 16, 0] rfl)
def XC_1721 (tI : xTab) (P Dr : Nat) (B67 : Int32 → Int32 → Int32 → Int64 → Int32 → xMem → xLon → Option Int32) : Nat → Int32 → Int32 → Int32 → Int64 → Int32 → Int32 → Int32 → Int32 → Int32 → Int32 → Int32 → Int32 → Int32 → xMem → xLon → Option Int32
  | 0, _, _, _, _, _, _, _, _, _, _, _, _, _, _, _ => none
  | n + 1, x4, x5, x6, x7, x9, x10, x11, x12, x13, x14, x15, x28, x29, I, L => if x4 ≤ x29 then (XC_1757 tI P Dr B67 x4 x5 x6 x7 x9 x10 x11 x12 x13 x14 x15 I L) else ((L_told P I x29 (4 : Int32)).bind fun q2 => if q2.1 = (0 : Int32) then (XC_1751 tI P Dr B67 (XC_1721 tI P Dr B67 n) x4 x5 x6 x7 x9 x10 x11 x12 x13 x14 x15 x28 x29 q2.2 L) else (if ((x28 >>> (x29 &&& 31)) &&& (1 : Int32)) = (1 : Int32) then (XC_1751 tI P Dr B67 (XC_1721 tI P Dr B67 n) x4 x5 x6 x7 x9 x10 x11 x12 x13 x14 x15 x28 x29 q2.2 L) else (some (0 : Int32))))
set_option maxHeartbeats 4000000 in
set_option maxRecDepth 100000 in
theorem kc_1721 (C0 : LC p l e s m args below meth c Q D cy ad tI) {P Dr : Nat} (hX : cOk ad P Dr) {B67 : Int32 → Int32 → Int32 → Int64 → Int32 → xMem → xLon → Option Int32} (hB67 : ∀ (y4 : Int32) (y5 : Int32) (y6 : Int32) (y7 : Int64) (y9 : Int32) (I : xMem) (L : xLon) (H : Heap) (locs : List Loc) (ls : Array Slot), B67 y4 y5 y6 y7 y9 I L = some 1 → cG D cy ad P Dr I L H → va_S (fun q : Nat => s.heap.size ≤ q) s.heap H locs → lv_has ls 43 [(0, .ref tI.2.1), (1, .ref (ad 0)), (2, .ref (ad 62)), (3, .ref (ad 63)), (4, .int y4), (5, .int y5), (6, .int y6), (7, .long y7), (9, .int y9)] → W p l e room_1 s m args below meth c H locs 600000 7302250 Q (F0 m 67 ls [])) : ∀ (n : Nat) (x4 : Int32) (x5 : Int32) (x6 : Int32) (x7 : Int64) (x9 : Int32) (x10 : Int32) (x11 : Int32) (x12 : Int32) (x13 : Int32) (x14 : Int32) (x15 : Int32) (x28 : Int32) (x29 : Int32) (I : xMem) (L : xLon) (H : Heap) (locs : List Loc) (ls : Array Slot), XC_1721 tI P Dr B67 n x4 x5 x6 x7 x9 x10 x11 x12 x13 x14 x15 x28 x29 I L = some 1 → cG D cy ad P Dr I L H → va_S (fun q : Nat => s.heap.size ≤ q) s.heap H locs → lv_has ls 43 [(0, .ref tI.2.1), (1, .ref (ad 0)), (2, .ref (ad 62)), (3, .ref (ad 63)), (4, .int x4), (5, .int x5), (6, .int x6), (7, .long x7), (9, .int x9), (10, .int x10), (11, .int x11), (12, .int x12), (13, .int x13), (14, .int x14), (15, .int x15), (28, .int x28), (29, .int x29)] → W p l e room_1 s m args below meth c H locs 600000 7302250 Q (F0 m 1721 ls []) := by
  obtain ⟨⟨hx, hb, hml, hown, hts⟩, ⟨hK, hZ⟩, hi, hA, kr⟩ := id C0
  intro n
  induction n with
  | zero =>
    intro x4 x5 x6 x7 x9 x10 x11 x12 x13 x14 x15 x28 x29 I L H locs ls h
    exact ono h
  | succ n ih =>
    intro x4 x5 x6 x7 x9 x10 x11 x12 x13 x14 x15 x28 x29 I L H locs ls h hG hS hl
    rw [XC_1721] at h
    refine lv_iload hx hb dL_law_1721 (lv_at hl 16 rfl) ?_
    refine lv_iload hx hb dL_law_1723 (lv_at hl 4 rfl) ?_
    refine lv_icmp_ge (tgt := 1757) hx hb dL_law_1725 (by decide) (fun c1 => ?_) (fun c1 => ?_)
    · have h := ite_t h c1
      exact kc_1757 C0 hX hB67 _ _ _ _ _ _ _ _ _ _ _ _ _ _ _ _ h hG hS (lv_sub hl [0, 1, 2, 3, 4, 5, 6, 7, 8, 9, 10, 11, 12, 13, 14] rfl)
    · have h := ite_f h c1
      refine lv_aload_n hx hb dL_law_1728 rfl (lv_at hl 1 rfl) ?_
      refine lv_iload hx hb dL_law_1729 (lv_at hl 16 rfl) ?_
      refine lv_iconst (v := (4 : Int32)) hx hb dL_law_1731 (by decide) ?_
      obtain ⟨q2, eq2, h⟩ := obind h
      refine lw_ci (va_runS (As := [.ref (ad 0), .int x29, .int (4 : Int32)]) (rest := []) ⟨hx, hb, hml, hown, hts⟩ (k_L_told l D cy ad P Dr tI hX I L x29 (4 : Int32) q2 eq2) (va_cwS 3 hts (goodIn_up gL_law_L_told) rfl rfl rfl cd_L_told.2 ⟨Nat.le_of_ble_eq_true rfl, Nat.le_of_ble_eq_true rfl⟩) ⟨g_blind cZm, g_pre cZm hK hG hZ (law_S0 hS)⟩ rfl rfl hl.1 rfl (lv_room (Nat.le_of_ble_eq_true rfl)) dL_law_1732 ⟨Nat.le_of_ble_eq_true rfl, Nat.le_of_ble_eq_true rfl⟩) hS hA (fun H locs hG hS => ?_)
      refine lv_if_eq (tgt := 1751) hx hb dL_law_1735 (by decide) (fun c3 => ?_) (fun c3 => ?_)
      · have h := ite_t h c3
        exact kc_1751 C0 hX hB67 ih _ _ _ _ _ _ _ _ _ _ _ _ _ _ _ _ _ _ h hG hS (lv_sub hl [0, 1, 2, 3, 4, 5, 6, 7, 8, 9, 10, 11, 12, 13, 14, 15, 16] rfl)
      · have h := ite_f h c3
        refine lv_iload hx hb dL_law_1738 (lv_at hl 15 rfl) ?_
        refine lv_iload hx hb dL_law_1740 (lv_at hl 16 rfl) ?_
        refine lv_ishr hx hb dL_law_1742 ?_
        refine lv_iconst (v := (1 : Int32)) hx hb dL_law_1743 (by decide) ?_
        refine lv_iand hx hb dL_law_1744 ?_
        refine lv_iconst (v := (1 : Int32)) hx hb dL_law_1745 (by decide) ?_
        refine lv_icmp_eq (tgt := 1751) hx hb dL_law_1746 (by decide) (fun c4 => ?_) (fun c4 => ?_)
        · have h := ite_t h c4
          exact kc_1751 C0 hX hB67 ih _ _ _ _ _ _ _ _ _ _ _ _ _ _ _ _ _ _ h hG hS (lv_sub hl [0, 1, 2, 3, 4, 5, 6, 7, 8, 9, 10, 11, 12, 13, 14, 15, 16] rfl)
        · have h := ite_f h c4
          refine lv_iconst (v := (0 : Int32)) hx hb dL_law_1749 (by decide) ?_
          have h := Option.some.inj h
          exact absurd h (by decide)
def XC_1718 (tI : xTab) (P Dr : Nat) (B67 : Int32 → Int32 → Int32 → Int64 → Int32 → xMem → xLon → Option Int32) (x4 : Int32) (x5 : Int32) (x6 : Int32) (x7 : Int64) (x9 : Int32) (x10 : Int32) (x11 : Int32) (x12 : Int32) (x13 : Int32) (x14 : Int32) (x15 : Int32) (x28 : Int32) (I : xMem) (L : xLon) : Option Int32 := XC_1721 tI P Dr B67 bigF x4 x5 x6 x7 x9 x10 x11 x12 x13 x14 x15 x28 (0 : Int32) I L
set_option maxHeartbeats 4000000 in
set_option maxRecDepth 100000 in
theorem kc_1718 (C0 : LC p l e s m args below meth c Q D cy ad tI) {P Dr : Nat} (hX : cOk ad P Dr) {B67 : Int32 → Int32 → Int32 → Int64 → Int32 → xMem → xLon → Option Int32} (hB67 : ∀ (y4 : Int32) (y5 : Int32) (y6 : Int32) (y7 : Int64) (y9 : Int32) (I : xMem) (L : xLon) (H : Heap) (locs : List Loc) (ls : Array Slot), B67 y4 y5 y6 y7 y9 I L = some 1 → cG D cy ad P Dr I L H → va_S (fun q : Nat => s.heap.size ≤ q) s.heap H locs → lv_has ls 43 [(0, .ref tI.2.1), (1, .ref (ad 0)), (2, .ref (ad 62)), (3, .ref (ad 63)), (4, .int y4), (5, .int y5), (6, .int y6), (7, .long y7), (9, .int y9)] → W p l e room_1 s m args below meth c H locs 600000 7302250 Q (F0 m 67 ls [])) (x4 : Int32) (x5 : Int32) (x6 : Int32) (x7 : Int64) (x9 : Int32) (x10 : Int32) (x11 : Int32) (x12 : Int32) (x13 : Int32) (x14 : Int32) (x15 : Int32) (x28 : Int32) (I : xMem) (L : xLon) (H : Heap) (locs : List Loc) (ls : Array Slot) (h : XC_1718 tI P Dr B67 x4 x5 x6 x7 x9 x10 x11 x12 x13 x14 x15 x28 I L = some 1) : cG D cy ad P Dr I L H → va_S (fun q : Nat => s.heap.size ≤ q) s.heap H locs → lv_has ls 43 [(0, .ref tI.2.1), (1, .ref (ad 0)), (2, .ref (ad 62)), (3, .ref (ad 63)), (4, .int x4), (5, .int x5), (6, .int x6), (7, .long x7), (9, .int x9), (10, .int x10), (11, .int x11), (12, .int x12), (13, .int x13), (14, .int x14), (15, .int x15), (28, .int x28)] → W p l e room_1 s m args below meth c H locs 600000 7302250 Q (F0 m 1718 ls []) := by
  obtain ⟨⟨hx, hb, hml, hown, hts⟩, ⟨hK, hZ⟩, hi, hA, kr⟩ := id C0
  intro hG hS hl
  unfold XC_1718 at h
  refine lv_iconst (v := (0 : Int32)) hx hb dL_law_1718 (by decide) ?_
  refine lv_istore (lv' := [(29, .int (0 : Int32)), (0, .ref tI.2.1), (1, .ref (ad 0)), (2, .ref (ad 62)), (3, .ref (ad 63)), (4, .int x4), (5, .int x5), (6, .int x6), (7, .long x7), (9, .int x9), (10, .int x10), (11, .int x11), (12, .int x12), (13, .int x13), (14, .int x14), (15, .int x15), (28, .int x28)]) hx hb dL_law_1719 hl (by decide) rfl (fun ls hl => ?_)
  exact kc_1721 C0 hX hB67 bigF _ _ _ _ _ _ _ _ _ _ _ _ _ _ _ _ _ _ h hG hS (lv_sub hl [1, 2, 3, 4, 5, 6, 7, 8, 9, 10, 11, 12, 13, 14, 15, 16, 0] rfl)
def XC_1707 (tI : xTab) (P Dr : Nat) (B67 : Int32 → Int32 → Int32 → Int64 → Int32 → xMem → xLon → Option Int32) (x4 : Int32) (x5 : Int32) (x6 : Int32) (x7 : Int64) (x9 : Int32) (x10 : Int32) (x11 : Int32) (x12 : Int32) (x13 : Int32) (x14 : Int32) (x15 : Int32) (x24 : Int32) (x28 : Int32) (x31 : Int32) (I : xMem) (L : xLon) : Option Int32 := if x31 = (x24 - (1 : Int32)) then (XC_1718 tI P Dr B67 x4 x5 x6 x7 x9 x10 x11 x12 x13 x14 x15 x28 I L) else (some (0 : Int32))
set_option maxHeartbeats 4000000 in
set_option maxRecDepth 100000 in
theorem kc_1707 (C0 : LC p l e s m args below meth c Q D cy ad tI) {P Dr : Nat} (hX : cOk ad P Dr) {B67 : Int32 → Int32 → Int32 → Int64 → Int32 → xMem → xLon → Option Int32} (hB67 : ∀ (y4 : Int32) (y5 : Int32) (y6 : Int32) (y7 : Int64) (y9 : Int32) (I : xMem) (L : xLon) (H : Heap) (locs : List Loc) (ls : Array Slot), B67 y4 y5 y6 y7 y9 I L = some 1 → cG D cy ad P Dr I L H → va_S (fun q : Nat => s.heap.size ≤ q) s.heap H locs → lv_has ls 43 [(0, .ref tI.2.1), (1, .ref (ad 0)), (2, .ref (ad 62)), (3, .ref (ad 63)), (4, .int y4), (5, .int y5), (6, .int y6), (7, .long y7), (9, .int y9)] → W p l e room_1 s m args below meth c H locs 600000 7302250 Q (F0 m 67 ls [])) (x4 : Int32) (x5 : Int32) (x6 : Int32) (x7 : Int64) (x9 : Int32) (x10 : Int32) (x11 : Int32) (x12 : Int32) (x13 : Int32) (x14 : Int32) (x15 : Int32) (x24 : Int32) (x28 : Int32) (x31 : Int32) (I : xMem) (L : xLon) (H : Heap) (locs : List Loc) (ls : Array Slot) (h : XC_1707 tI P Dr B67 x4 x5 x6 x7 x9 x10 x11 x12 x13 x14 x15 x24 x28 x31 I L = some 1) : cG D cy ad P Dr I L H → va_S (fun q : Nat => s.heap.size ≤ q) s.heap H locs → lv_has ls 43 [(0, .ref tI.2.1), (1, .ref (ad 0)), (2, .ref (ad 62)), (3, .ref (ad 63)), (4, .int x4), (5, .int x5), (6, .int x6), (7, .long x7), (9, .int x9), (10, .int x10), (11, .int x11), (12, .int x12), (13, .int x13), (14, .int x14), (15, .int x15), (24, .int x24), (28, .int x28), (31, .int x31)] → W p l e room_1 s m args below meth c H locs 600000 7302250 Q (F0 m 1707 ls []) := by
  obtain ⟨⟨hx, hb, hml, hown, hts⟩, ⟨hK, hZ⟩, hi, hA, kr⟩ := id C0
  intro hG hS hl
  unfold XC_1707 at h
  refine lv_iload hx hb dL_law_1707 (lv_at hl 17 rfl) ?_
  refine lv_iload hx hb dL_law_1709 (lv_at hl 15 rfl) ?_
  refine lv_iconst (v := (1 : Int32)) hx hb dL_law_1711 (by decide) ?_
  refine lv_isub hx hb dL_law_1712 ?_
  refine lv_icmp_eq (tgt := 1718) hx hb dL_law_1713 (by decide) (fun c1 => ?_) (fun c1 => ?_)
  · have h := ite_t h c1
    exact kc_1718 C0 hX hB67 _ _ _ _ _ _ _ _ _ _ _ _ _ _ _ _ _ h hG hS (lv_sub hl [0, 1, 2, 3, 4, 5, 6, 7, 8, 9, 10, 11, 12, 13, 14, 16] rfl)
  · have h := ite_f h c1
    refine lv_iconst (v := (0 : Int32)) hx hb dL_law_1716 (by decide) ?_
    have h := Option.some.inj h
    exact absurd h (by decide)
end LAWC0
